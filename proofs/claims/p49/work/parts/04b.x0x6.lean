theorem dX0_init_0 : decode cX0_init 0 = .ok (.aload_n 0, 1) := by decide +kernel
theorem dX0_init_1 : decode cX0_init 1 = .ok (.invokespecial 3, 3) := by decide +kernel
theorem dX0_init_4 : decode cX0_init 4 = .ok (.return_, 1) := by decide +kernel
set_option maxRecDepth 20000 in
theorem ggX0_look_X1_reckon : GoodIn wsX0_look wsX1_reckon := goodIn_r _ [11, 12, 13, 14, 15, 16, 17, 18, 19, 20, 10, 21, 22, 23, 24, 25, 26, 27, 28, 29, 30, 31, 32, 33, 34, 35, 36, 37, 38, 39, 40, 41, 42, 43, 44, 45, 46, 47, 48, 49, 50, 51, 52, 53, 54, 55, 81, 82, 83, 84, 85, 86, 87, 88, 89, 90, 91, 92, 71, 72, 73, 74, 75, 76, 77, 78, 79, 80] (by exact rfl) (by decide +kernel)
set_option maxRecDepth 20000 in
theorem gX0_look_X1_reckon : GoodIn wsX0_look (wsV RX0 35 RX1 yX1_reckon wsX1_reckon) := goodIn_app (goodIn_of _ (by decide +kernel)) ggX0_look_X1_reckon
set_option maxRecDepth 20000 in
theorem ggX0_look_X0_explains : GoodIn wsX0_look wsX0_explains := goodIn_r _ [59, 4, 60, 61, 62, 71, 72, 73, 74, 75, 76, 77, 78, 79, 80, 93, 94, 95, 81, 82, 83, 84, 85, 86, 87, 88, 89, 90, 91, 92] (by exact rfl) (by decide +kernel)
set_option maxRecDepth 20000 in
theorem gX0_look_X0_explains : GoodIn wsX0_look (va_wsS RX0 41 yX0_explains wsX0_explains) := goodIn_app (goodIn_of _ (by decide +kernel)) ggX0_look_X0_explains
set_option maxRecDepth 20000 in
theorem ggX0_look_X0_note : GoodIn wsX0_look wsX0_note := goodIn_r _ [66, 1, 2, 5, 3, 67, 68, 69, 70] (by exact rfl) (by decide +kernel)
set_option maxRecDepth 20000 in
theorem gX0_look_X0_note : GoodIn wsX0_look (wsV RX0 45 RX0 yX0_note wsX0_note) := goodIn_app (goodIn_of _ (by decide +kernel)) ggX0_look_X0_note
theorem dX0_look_0 : decode cX0_look 0 = .ok (.aload_n 0, 1) := by decide +kernel
theorem dX0_look_1 : decode cX0_look 1 = .ok (.iconst 0, 1) := by decide +kernel
theorem dX0_look_2 : decode cX0_look 2 = .ok (.putfield 9, 3) := by decide +kernel
theorem dX0_look_5 : decode cX0_look 5 = .ok (.aload_n 0, 1) := by decide +kernel
theorem dX0_look_6 : decode cX0_look 6 = .ok (.iconst (-1), 1) := by decide +kernel
theorem dX0_look_7 : decode cX0_look 7 = .ok (.putfield 15, 3) := by decide +kernel
theorem dX0_look_10 : decode cX0_look 10 = .ok (.aload_n 0, 1) := by decide +kernel
theorem dX0_look_11 : decode cX0_look 11 = .ok (.iconst 0, 1) := by decide +kernel
theorem dX0_look_12 : decode cX0_look 12 = .ok (.putfield 18, 3) := by decide +kernel
theorem dX0_look_15 : decode cX0_look 15 = .ok (.aload_n 0, 1) := by decide +kernel
theorem dX0_look_16 : decode cX0_look 16 = .ok (.iconst 1, 1) := by decide +kernel
theorem dX0_look_17 : decode cX0_look 17 = .ok (.aload_n 1, 1) := by decide +kernel
theorem dX0_look_18 : decode cX0_look 18 = .ok (.getfield 21, 3) := by decide +kernel
theorem dX0_look_21 : decode cX0_look 21 = .ok (.ishl, 1) := by decide +kernel
theorem dX0_look_22 : decode cX0_look 22 = .ok (.iconst 1, 1) := by decide +kernel
theorem dX0_look_23 : decode cX0_look 23 = .ok (.isub, 1) := by decide +kernel
theorem dX0_look_24 : decode cX0_look 24 = .ok (.putfield 26, 3) := by decide +kernel
theorem dX0_look_27 : decode cX0_look 27 = .ok (.iconst 0, 1) := by decide +kernel
theorem dX0_look_28 : decode cX0_look 28 = .ok (.istore 4, 2) := by decide +kernel
theorem dX0_look_30 : decode cX0_look 30 = .ok (.iload 4, 2) := by decide +kernel
theorem dX0_look_32 : decode cX0_look 32 = .ok (.iconst 1, 1) := by decide +kernel
theorem dX0_look_33 : decode cX0_look 33 = .ok (.aload_n 1, 1) := by decide +kernel
theorem dX0_look_34 : decode cX0_look 34 = .ok (.getfield 21, 3) := by decide +kernel
theorem dX0_look_37 : decode cX0_look 37 = .ok (.ishl, 1) := by decide +kernel
theorem dX0_look_38 : decode cX0_look 38 = .ok (.if_icmp .ge 70, 3) := by decide +kernel
theorem dX0_look_41 : decode cX0_look 41 = .ok (.iconst 0, 1) := by decide +kernel
theorem dX0_look_42 : decode cX0_look 42 = .ok (.istore 5, 2) := by decide +kernel
theorem dX0_look_44 : decode cX0_look 44 = .ok (.iload 5, 2) := by decide +kernel
theorem dX0_look_46 : decode cX0_look 46 = .ok (.aload_n 1, 1) := by decide +kernel
theorem dX0_look_47 : decode cX0_look 47 = .ok (.getfield 21, 3) := by decide +kernel
theorem dX0_look_50 : decode cX0_look 50 = .ok (.if_icmp .ge 32, 3) := by decide +kernel
theorem dX0_look_53 : decode cX0_look 53 = .ok (.aload_n 1, 1) := by decide +kernel
theorem dX0_look_54 : decode cX0_look 54 = .ok (.getfield 29, 3) := by decide +kernel
theorem dX0_look_57 : decode cX0_look 57 = .ok (.iload 5, 2) := by decide +kernel
theorem dX0_look_59 : decode cX0_look 59 = .ok (.iload 4, 2) := by decide +kernel
theorem dX0_look_61 : decode cX0_look 61 = .ok (.iload 5, 2) := by decide +kernel
theorem dX0_look_63 : decode cX0_look 63 = .ok (.ishr, 1) := by decide +kernel
theorem dX0_look_64 : decode cX0_look 64 = .ok (.iconst 1, 1) := by decide +kernel
theorem dX0_look_65 : decode cX0_look 65 = .ok (.iand, 1) := by decide +kernel
theorem dX0_look_66 : decode cX0_look 66 = .ok (.iconst 1, 1) := by decide +kernel
theorem dX0_look_67 : decode cX0_look 67 = .ok (.if_icmp .ne 7, 3) := by decide +kernel
theorem dX0_look_70 : decode cX0_look 70 = .ok (.iconst 1, 1) := by decide +kernel
theorem dX0_look_71 : decode cX0_look 71 = .ok (.goto 4, 3) := by decide +kernel
theorem dX0_look_74 : decode cX0_look 74 = .ok (.iconst 0, 1) := by decide +kernel
theorem dX0_look_75 : decode cX0_look 75 = .ok (.iastore, 1) := by decide +kernel
theorem dX0_look_76 : decode cX0_look 76 = .ok (.iinc 5 1, 3) := by decide +kernel
theorem dX0_look_79 : decode cX0_look 79 = .ok (.goto (-35), 3) := by decide +kernel
theorem dX0_look_82 : decode cX0_look 82 = .ok (.aload_n 2, 1) := by decide +kernel
theorem dX0_look_83 : decode cX0_look 83 = .ok (.aload_n 1, 1) := by decide +kernel
theorem dX0_look_84 : decode cX0_look 84 = .ok (.invokevirtual 35, 3) := by decide +kernel
theorem dX0_look_87 : decode cX0_look 87 = .ok (.aload_n 1, 1) := by decide +kernel
theorem dX0_look_88 : decode cX0_look 88 = .ok (.aload_n 2, 1) := by decide +kernel
theorem dX0_look_89 : decode cX0_look 89 = .ok (.aload_n 3, 1) := by decide +kernel
theorem dX0_look_90 : decode cX0_look 90 = .ok (.invokestatic 41, 3) := by decide +kernel
theorem dX0_look_93 : decode cX0_look 93 = .ok (.ifCond .eq 9, 3) := by decide +kernel
theorem dX0_look_96 : decode cX0_look 96 = .ok (.aload_n 0, 1) := by decide +kernel
theorem dX0_look_97 : decode cX0_look 97 = .ok (.iload 4, 2) := by decide +kernel
theorem dX0_look_99 : decode cX0_look 99 = .ok (.invokevirtual 45, 3) := by decide +kernel
theorem dX0_look_102 : decode cX0_look 102 = .ok (.iinc 4 1, 3) := by decide +kernel
theorem dX0_look_105 : decode cX0_look 105 = .ok (.goto (-75), 3) := by decide +kernel
theorem dX0_look_108 : decode cX0_look 108 = .ok (.return_, 1) := by decide +kernel
theorem dX0_explains_0 : decode cX0_explains 0 = .ok (.iconst 0, 1) := by decide +kernel
theorem dX0_explains_1 : decode cX0_explains 1 = .ok (.istore_n 3, 1) := by decide +kernel
theorem dX0_explains_2 : decode cX0_explains 2 = .ok (.iload_n 3, 1) := by decide +kernel
theorem dX0_explains_3 : decode cX0_explains 3 = .ok (.aload_n 0, 1) := by decide +kernel
theorem dX0_explains_4 : decode cX0_explains 4 = .ok (.getfield 21, 3) := by decide +kernel
theorem dX0_explains_7 : decode cX0_explains 7 = .ok (.if_icmp .ge 34, 3) := by decide +kernel
theorem dX0_explains_10 : decode cX0_explains 10 = .ok (.iload_n 3, 1) := by decide +kernel
theorem dX0_explains_11 : decode cX0_explains 11 = .ok (.aload_n 2, 1) := by decide +kernel
theorem dX0_explains_12 : decode cX0_explains 12 = .ok (.getfield 49, 3) := by decide +kernel
theorem dX0_explains_15 : decode cX0_explains 15 = .ok (.if_icmp .ge 26, 3) := by decide +kernel
theorem dX0_explains_18 : decode cX0_explains 18 = .ok (.aload_n 1, 1) := by decide +kernel
theorem dX0_explains_19 : decode cX0_explains 19 = .ok (.getfield 54, 3) := by decide +kernel
theorem dX0_explains_22 : decode cX0_explains 22 = .ok (.iload_n 3, 1) := by decide +kernel
theorem dX0_explains_23 : decode cX0_explains 23 = .ok (.iaload, 1) := by decide +kernel
theorem dX0_explains_24 : decode cX0_explains 24 = .ok (.aload_n 2, 1) := by decide +kernel
theorem dX0_explains_25 : decode cX0_explains 25 = .ok (.getfield 57, 3) := by decide +kernel
theorem dX0_explains_28 : decode cX0_explains 28 = .ok (.iload_n 3, 1) := by decide +kernel
theorem dX0_explains_29 : decode cX0_explains 29 = .ok (.iaload, 1) := by decide +kernel
theorem dX0_explains_30 : decode cX0_explains 30 = .ok (.if_icmp .eq 5, 3) := by decide +kernel
theorem dX0_explains_33 : decode cX0_explains 33 = .ok (.iconst 0, 1) := by decide +kernel
theorem dX0_explains_34 : decode cX0_explains 34 = .ok (.ireturn, 1) := by decide +kernel
theorem dX0_explains_35 : decode cX0_explains 35 = .ok (.iinc 3 1, 3) := by decide +kernel
theorem dX0_explains_38 : decode cX0_explains 38 = .ok (.goto (-36), 3) := by decide +kernel
theorem dX0_explains_41 : decode cX0_explains 41 = .ok (.iconst 1, 1) := by decide +kernel
theorem dX0_explains_42 : decode cX0_explains 42 = .ok (.ireturn, 1) := by decide +kernel
theorem dX0_note_0 : decode cX0_note 0 = .ok (.aload_n 0, 1) := by decide +kernel
theorem dX0_note_1 : decode cX0_note 1 = .ok (.getfield 9, 3) := by decide +kernel
theorem dX0_note_4 : decode cX0_note 4 = .ok (.ifCond .ne 8, 3) := by decide +kernel
theorem dX0_note_7 : decode cX0_note 7 = .ok (.aload_n 0, 1) := by decide +kernel
theorem dX0_note_8 : decode cX0_note 8 = .ok (.iload_n 1, 1) := by decide +kernel
theorem dX0_note_9 : decode cX0_note 9 = .ok (.putfield 15, 3) := by decide +kernel
theorem dX0_note_12 : decode cX0_note 12 = .ok (.aload_n 0, 1) := by decide +kernel
theorem dX0_note_13 : decode cX0_note 13 = .ok (.dup, 1) := by decide +kernel
theorem dX0_note_14 : decode cX0_note 14 = .ok (.getfield 9, 3) := by decide +kernel
theorem dX0_note_17 : decode cX0_note 17 = .ok (.iconst 1, 1) := by decide +kernel
theorem dX0_note_18 : decode cX0_note 18 = .ok (.iadd, 1) := by decide +kernel
theorem dX0_note_19 : decode cX0_note 19 = .ok (.putfield 9, 3) := by decide +kernel
theorem dX0_note_22 : decode cX0_note 22 = .ok (.aload_n 0, 1) := by decide +kernel
theorem dX0_note_23 : decode cX0_note 23 = .ok (.dup, 1) := by decide +kernel
theorem dX0_note_24 : decode cX0_note 24 = .ok (.getfield 26, 3) := by decide +kernel
theorem dX0_note_27 : decode cX0_note 27 = .ok (.iload_n 1, 1) := by decide +kernel
theorem dX0_note_28 : decode cX0_note 28 = .ok (.iand, 1) := by decide +kernel
theorem dX0_note_29 : decode cX0_note 29 = .ok (.putfield 26, 3) := by decide +kernel
theorem dX0_note_32 : decode cX0_note 32 = .ok (.aload_n 0, 1) := by decide +kernel
theorem dX0_note_33 : decode cX0_note 33 = .ok (.dup, 1) := by decide +kernel
theorem dX0_note_34 : decode cX0_note 34 = .ok (.getfield 18, 3) := by decide +kernel
theorem dX0_note_37 : decode cX0_note 37 = .ok (.iload_n 1, 1) := by decide +kernel
theorem dX0_note_38 : decode cX0_note 38 = .ok (.ior, 1) := by decide +kernel
theorem dX0_note_39 : decode cX0_note 39 = .ok (.putfield 18, 3) := by decide +kernel
theorem dX0_note_42 : decode cX0_note 42 = .ok (.return_, 1) := by decide +kernel
theorem dX1_init_0 : decode cX1_init 0 = .ok (.aload_n 0, 1) := by decide +kernel
theorem dX1_init_1 : decode cX1_init 1 = .ok (.invokespecial 3, 3) := by decide +kernel
theorem dX1_init_4 : decode cX1_init 4 = .ok (.aload_n 0, 1) := by decide +kernel
theorem dX1_init_5 : decode cX1_init 5 = .ok (.bipush 10, 2) := by decide +kernel
theorem dX1_init_7 : decode cX1_init 7 = .ok (.newarray .int, 2) := by decide +kernel
theorem dX1_init_9 : decode cX1_init 9 = .ok (.putfield 9, 3) := by decide +kernel
theorem dX1_init_12 : decode cX1_init 12 = .ok (.aload_n 0, 1) := by decide +kernel
theorem dX1_init_13 : decode cX1_init 13 = .ok (.bipush 10, 2) := by decide +kernel
theorem dX1_init_15 : decode cX1_init 15 = .ok (.newarray .int, 2) := by decide +kernel
theorem dX1_init_17 : decode cX1_init 17 = .ok (.putfield 15, 3) := by decide +kernel
theorem dX1_init_20 : decode cX1_init 20 = .ok (.aload_n 0, 1) := by decide +kernel
theorem dX1_init_21 : decode cX1_init 21 = .ok (.bipush 10, 2) := by decide +kernel
theorem dX1_init_23 : decode cX1_init 23 = .ok (.newarray .int, 2) := by decide +kernel
theorem dX1_init_25 : decode cX1_init 25 = .ok (.putfield 18, 3) := by decide +kernel
theorem dX1_init_28 : decode cX1_init 28 = .ok (.aload_n 0, 1) := by decide +kernel
theorem dX1_init_29 : decode cX1_init 29 = .ok (.bipush 10, 2) := by decide +kernel
theorem dX1_init_31 : decode cX1_init 31 = .ok (.newarray .int, 2) := by decide +kernel
theorem dX1_init_33 : decode cX1_init 33 = .ok (.putfield 21, 3) := by decide +kernel
theorem dX1_init_36 : decode cX1_init 36 = .ok (.aload_n 0, 1) := by decide +kernel
theorem dX1_init_37 : decode cX1_init 37 = .ok (.bipush 10, 2) := by decide +kernel
theorem dX1_init_39 : decode cX1_init 39 = .ok (.newarray .int, 2) := by decide +kernel
theorem dX1_init_41 : decode cX1_init 41 = .ok (.putfield 24, 3) := by decide +kernel
theorem dX1_init_44 : decode cX1_init 44 = .ok (.return_, 1) := by decide +kernel
set_option maxRecDepth 20000 in
theorem ggX1_pass_X1_reckon : GoodIn wsX1_pass wsX1_reckon := goodIn_r _ [11, 4, 5, 6, 12, 13, 14, 15, 16, 17, 10, 18, 19, 20, 21, 22, 23, 24, 25, 26, 27, 28, 29, 30, 31, 32, 33, 34, 35, 36, 37, 38, 39, 40, 41, 42, 43, 44, 45, 46, 47, 48, 49, 50, 51, 52, 64, 65, 66, 67, 68, 69, 70, 71, 72, 73, 74, 75, 76, 77, 78, 79, 80, 81, 82, 83, 84, 85] (by exact rfl) (by decide +kernel)
set_option maxRecDepth 20000 in
theorem gX1_pass_X1_reckon : GoodIn wsX1_pass (wsV RX1 37 RX1 yX1_reckon wsX1_reckon) := goodIn_app (goodIn_of _ (by decide +kernel)) ggX1_pass_X1_reckon
set_option maxRecDepth 20000 in
theorem ggX1_pass_X2_take : GoodIn wsX1_pass wsX2_take := goodIn_r _ [57, 58, 59, 60, 61, 62, 63, 76, 77, 78, 79, 80, 81, 82, 83, 84, 85, 64, 65, 66, 67, 68, 69, 70, 71, 72, 73, 74, 75] (by exact rfl) (by decide +kernel)
set_option maxRecDepth 20000 in
theorem gX1_pass_X2_take : GoodIn wsX1_pass (wsV RX1 41 RX2 yX2_take wsX2_take) := goodIn_app (goodIn_of _ (by decide +kernel)) ggX1_pass_X2_take
theorem dX1_pass_0 : decode cX1_pass 0 = .ok (.aload_n 0, 1) := by decide +kernel
theorem dX1_pass_1 : decode cX1_pass 1 = .ok (.iconst 0, 1) := by decide +kernel
theorem dX1_pass_2 : decode cX1_pass 2 = .ok (.putfield 27, 3) := by decide +kernel
theorem dX1_pass_5 : decode cX1_pass 5 = .ok (.aload_n 0, 1) := by decide +kernel
theorem dX1_pass_6 : decode cX1_pass 6 = .ok (.iconst 0, 1) := by decide +kernel
theorem dX1_pass_7 : decode cX1_pass 7 = .ok (.putfield 31, 3) := by decide +kernel
theorem dX1_pass_10 : decode cX1_pass 10 = .ok (.aload_n 0, 1) := by decide +kernel
theorem dX1_pass_11 : decode cX1_pass 11 = .ok (.iconst 0, 1) := by decide +kernel
theorem dX1_pass_12 : decode cX1_pass 12 = .ok (.putfield 34, 3) := by decide +kernel
theorem dX1_pass_15 : decode cX1_pass 15 = .ok (.iconst 0, 1) := by decide +kernel
theorem dX1_pass_16 : decode cX1_pass 16 = .ok (.istore_n 3, 1) := by decide +kernel
theorem dX1_pass_17 : decode cX1_pass 17 = .ok (.iload_n 3, 1) := by decide +kernel
theorem dX1_pass_18 : decode cX1_pass 18 = .ok (.iload_n 2, 1) := by decide +kernel
theorem dX1_pass_19 : decode cX1_pass 19 = .ok (.if_icmp .ge 58, 3) := by decide +kernel
theorem dX1_pass_22 : decode cX1_pass 22 = .ok (.aload_n 0, 1) := by decide +kernel
theorem dX1_pass_23 : decode cX1_pass 23 = .ok (.aload_n 1, 1) := by decide +kernel
theorem dX1_pass_24 : decode cX1_pass 24 = .ok (.invokevirtual 37, 3) := by decide +kernel
theorem dX1_pass_27 : decode cX1_pass 27 = .ok (.aload_n 1, 1) := by decide +kernel
theorem dX1_pass_28 : decode cX1_pass 28 = .ok (.aload_n 0, 1) := by decide +kernel
theorem dX1_pass_29 : decode cX1_pass 29 = .ok (.invokevirtual 41, 3) := by decide +kernel
theorem dX1_pass_32 : decode cX1_pass 32 = .ok (.aload_n 0, 1) := by decide +kernel
theorem dX1_pass_33 : decode cX1_pass 33 = .ok (.dup, 1) := by decide +kernel
theorem dX1_pass_34 : decode cX1_pass 34 = .ok (.getfield 27, 3) := by decide +kernel
theorem dX1_pass_37 : decode cX1_pass 37 = .ok (.aload_n 0, 1) := by decide +kernel
theorem dX1_pass_38 : decode cX1_pass 38 = .ok (.getfield 47, 3) := by decide +kernel
theorem dX1_pass_41 : decode cX1_pass 41 = .ok (.iadd, 1) := by decide +kernel
theorem dX1_pass_42 : decode cX1_pass 42 = .ok (.putfield 27, 3) := by decide +kernel
theorem dX1_pass_45 : decode cX1_pass 45 = .ok (.aload_n 0, 1) := by decide +kernel
theorem dX1_pass_46 : decode cX1_pass 46 = .ok (.dup, 1) := by decide +kernel
theorem dX1_pass_47 : decode cX1_pass 47 = .ok (.getfield 31, 3) := by decide +kernel
theorem dX1_pass_50 : decode cX1_pass 50 = .ok (.aload_n 0, 1) := by decide +kernel
theorem dX1_pass_51 : decode cX1_pass 51 = .ok (.getfield 50, 3) := by decide +kernel
theorem dX1_pass_54 : decode cX1_pass 54 = .ok (.iadd, 1) := by decide +kernel
theorem dX1_pass_55 : decode cX1_pass 55 = .ok (.putfield 31, 3) := by decide +kernel
theorem dX1_pass_58 : decode cX1_pass 58 = .ok (.aload_n 0, 1) := by decide +kernel
theorem dX1_pass_59 : decode cX1_pass 59 = .ok (.dup, 1) := by decide +kernel
theorem dX1_pass_60 : decode cX1_pass 60 = .ok (.getfield 34, 3) := by decide +kernel
theorem dX1_pass_63 : decode cX1_pass 63 = .ok (.aload_n 0, 1) := by decide +kernel
theorem dX1_pass_64 : decode cX1_pass 64 = .ok (.getfield 53, 3) := by decide +kernel
theorem dX1_pass_67 : decode cX1_pass 67 = .ok (.iadd, 1) := by decide +kernel
theorem dX1_pass_68 : decode cX1_pass 68 = .ok (.putfield 34, 3) := by decide +kernel
theorem dX1_pass_71 : decode cX1_pass 71 = .ok (.iinc 3 1, 3) := by decide +kernel
theorem dX1_pass_74 : decode cX1_pass 74 = .ok (.goto (-57), 3) := by decide +kernel
theorem dX1_pass_77 : decode cX1_pass 77 = .ok (.return_, 1) := by decide +kernel
set_option maxRecDepth 20000 in
theorem ggX1_reckon_X1_measure : GoodIn wsX1_reckon wsX1_measure := goodIn_r _ [11, 5, 12, 13, 14, 58, 59, 60, 61, 62, 63, 64, 65, 66, 67, 46, 47, 48, 49, 50, 51, 52, 53, 54, 55, 56, 57] (by exact rfl) (by decide +kernel)
set_option maxRecDepth 20000 in
theorem gX1_reckon_X1_measure : GoodIn wsX1_reckon (wsV RX1 59 RX1 yX1_measure wsX1_measure) := goodIn_app (goodIn_of _ (by decide +kernel)) ggX1_reckon_X1_measure
set_option maxRecDepth 20000 in
theorem ggX1_reckon_X1_comingTo : GoodIn wsX1_reckon wsX1_comingTo := goodIn_r _ [18, 13, 19, 12, 20, 14, 3, 4, 58, 59, 60, 61, 62, 63, 64, 65, 66, 67, 46, 47, 48, 49, 50, 51, 52, 53, 54, 55, 56, 57] (by exact rfl) (by decide +kernel)
set_option maxRecDepth 20000 in
theorem gX1_reckon_X1_comingTo : GoodIn wsX1_reckon (wsV RX1 65 RX1 yX1_comingTo wsX1_comingTo) := goodIn_app (goodIn_of _ (by decide +kernel)) ggX1_reckon_X1_comingTo
set_option maxRecDepth 20000 in
theorem ggX1_reckon_X1_divide : GoodIn wsX1_reckon wsX1_divide := goodIn_r _ [24, 25, 6, 26, 27, 28, 20, 2, 1, 3, 12, 4, 29, 30, 31, 32, 33, 34, 35, 36, 37, 38, 39, 40, 41, 42, 43, 44, 45, 58, 59, 60, 61, 62, 63, 64, 65, 66, 67, 46, 47, 48, 49, 50, 51, 52, 53, 54, 55, 56, 57] (by exact rfl) (by decide +kernel)
set_option maxRecDepth 20000 in
theorem gX1_reckon_X1_divide : GoodIn wsX1_reckon (wsV RX1 69 RX1 yX1_divide wsX1_divide) := goodIn_app (goodIn_of _ (by decide +kernel)) ggX1_reckon_X1_divide
theorem dX1_reckon_0 : decode cX1_reckon 0 = .ok (.aload_n 0, 1) := by decide +kernel
theorem dX1_reckon_1 : decode cX1_reckon 1 = .ok (.iconst 0, 1) := by decide +kernel
theorem dX1_reckon_2 : decode cX1_reckon 2 = .ok (.putfield 47, 3) := by decide +kernel
theorem dX1_reckon_5 : decode cX1_reckon 5 = .ok (.aload_n 0, 1) := by decide +kernel
theorem dX1_reckon_6 : decode cX1_reckon 6 = .ok (.iconst 0, 1) := by decide +kernel
theorem dX1_reckon_7 : decode cX1_reckon 7 = .ok (.putfield 50, 3) := by decide +kernel
theorem dX1_reckon_10 : decode cX1_reckon 10 = .ok (.aload_n 0, 1) := by decide +kernel
theorem dX1_reckon_11 : decode cX1_reckon 11 = .ok (.iconst 0, 1) := by decide +kernel
theorem dX1_reckon_12 : decode cX1_reckon 12 = .ok (.putfield 53, 3) := by decide +kernel
theorem dX1_reckon_15 : decode cX1_reckon 15 = .ok (.aload_n 0, 1) := by decide +kernel
theorem dX1_reckon_16 : decode cX1_reckon 16 = .ok (.iconst 0, 1) := by decide +kernel
theorem dX1_reckon_17 : decode cX1_reckon 17 = .ok (.putfield 56, 3) := by decide +kernel
theorem dX1_reckon_20 : decode cX1_reckon 20 = .ok (.aload_n 0, 1) := by decide +kernel
theorem dX1_reckon_21 : decode cX1_reckon 21 = .ok (.aload_n 1, 1) := by decide +kernel
theorem dX1_reckon_22 : decode cX1_reckon 22 = .ok (.invokevirtual 59, 3) := by decide +kernel
theorem dX1_reckon_25 : decode cX1_reckon 25 = .ok (.iconst 0, 1) := by decide +kernel
theorem dX1_reckon_26 : decode cX1_reckon 26 = .ok (.istore_n 2, 1) := by decide +kernel
theorem dX1_reckon_27 : decode cX1_reckon 27 = .ok (.iload_n 2, 1) := by decide +kernel
theorem dX1_reckon_28 : decode cX1_reckon 28 = .ok (.aload_n 1, 1) := by decide +kernel
theorem dX1_reckon_29 : decode cX1_reckon 29 = .ok (.getfield 62, 3) := by decide +kernel
theorem dX1_reckon_32 : decode cX1_reckon 32 = .ok (.if_icmp .ge 27, 3) := by decide +kernel
theorem dX1_reckon_35 : decode cX1_reckon 35 = .ok (.aload_n 0, 1) := by decide +kernel
theorem dX1_reckon_36 : decode cX1_reckon 36 = .ok (.getfield 9, 3) := by decide +kernel
theorem dX1_reckon_39 : decode cX1_reckon 39 = .ok (.iload_n 2, 1) := by decide +kernel
theorem dX1_reckon_40 : decode cX1_reckon 40 = .ok (.aload_n 0, 1) := by decide +kernel
theorem dX1_reckon_41 : decode cX1_reckon 41 = .ok (.aload_n 1, 1) := by decide +kernel
theorem dX1_reckon_42 : decode cX1_reckon 42 = .ok (.iload_n 2, 1) := by decide +kernel
theorem dX1_reckon_43 : decode cX1_reckon 43 = .ok (.invokevirtual 65, 3) := by decide +kernel
theorem dX1_reckon_46 : decode cX1_reckon 46 = .ok (.iastore, 1) := by decide +kernel
theorem dX1_reckon_47 : decode cX1_reckon 47 = .ok (.aload_n 0, 1) := by decide +kernel
theorem dX1_reckon_48 : decode cX1_reckon 48 = .ok (.aload_n 1, 1) := by decide +kernel
theorem dX1_reckon_49 : decode cX1_reckon 49 = .ok (.iload_n 2, 1) := by decide +kernel
theorem dX1_reckon_50 : decode cX1_reckon 50 = .ok (.invokevirtual 69, 3) := by decide +kernel
theorem dX1_reckon_53 : decode cX1_reckon 53 = .ok (.iinc 2 1, 3) := by decide +kernel
theorem dX1_reckon_56 : decode cX1_reckon 56 = .ok (.goto (-29), 3) := by decide +kernel
theorem dX1_reckon_59 : decode cX1_reckon 59 = .ok (.return_, 1) := by decide +kernel
theorem dX1_measure_0 : decode cX1_measure 0 = .ok (.iconst 0, 1) := by decide +kernel
theorem dX1_measure_1 : decode cX1_measure 1 = .ok (.istore_n 2, 1) := by decide +kernel
theorem dX1_measure_2 : decode cX1_measure 2 = .ok (.iload_n 2, 1) := by decide +kernel
theorem dX1_measure_3 : decode cX1_measure 3 = .ok (.aload_n 1, 1) := by decide +kernel
theorem dX1_measure_4 : decode cX1_measure 4 = .ok (.getfield 62, 3) := by decide +kernel
theorem dX1_measure_7 : decode cX1_measure 7 = .ok (.if_icmp .ge 47, 3) := by decide +kernel
theorem dX1_measure_10 : decode cX1_measure 10 = .ok (.aload_n 0, 1) := by decide +kernel
theorem dX1_measure_11 : decode cX1_measure 11 = .ok (.getfield 24, 3) := by decide +kernel
theorem dX1_measure_14 : decode cX1_measure 14 = .ok (.iload_n 2, 1) := by decide +kernel
theorem dX1_measure_15 : decode cX1_measure 15 = .ok (.iconst 0, 1) := by decide +kernel
theorem dX1_measure_16 : decode cX1_measure 16 = .ok (.iastore, 1) := by decide +kernel
theorem dX1_measure_17 : decode cX1_measure 17 = .ok (.aload_n 1, 1) := by decide +kernel
theorem dX1_measure_18 : decode cX1_measure 18 = .ok (.getfield 73, 3) := by decide +kernel
theorem dX1_measure_21 : decode cX1_measure 21 = .ok (.iload_n 2, 1) := by decide +kernel
theorem dX1_measure_22 : decode cX1_measure 22 = .ok (.iaload, 1) := by decide +kernel
theorem dX1_measure_23 : decode cX1_measure 23 = .ok (.istore_n 3, 1) := by decide +kernel
theorem dX1_measure_24 : decode cX1_measure 24 = .ok (.iload_n 3, 1) := by decide +kernel
theorem dX1_measure_25 : decode cX1_measure 25 = .ok (.ifCond .lt 23, 3) := by decide +kernel
theorem dX1_measure_28 : decode cX1_measure 28 = .ok (.iload_n 3, 1) := by decide +kernel
theorem dX1_measure_29 : decode cX1_measure 29 = .ok (.iload_n 2, 1) := by decide +kernel
theorem dX1_measure_30 : decode cX1_measure 30 = .ok (.if_icmp .ge 18, 3) := by decide +kernel
theorem dX1_measure_33 : decode cX1_measure 33 = .ok (.aload_n 0, 1) := by decide +kernel
theorem dX1_measure_34 : decode cX1_measure 34 = .ok (.getfield 24, 3) := by decide +kernel
theorem dX1_measure_37 : decode cX1_measure 37 = .ok (.iload_n 3, 1) := by decide +kernel
theorem dX1_measure_38 : decode cX1_measure 38 = .ok (.dup2, 1) := by decide +kernel
theorem dX1_measure_39 : decode cX1_measure 39 = .ok (.iaload, 1) := by decide +kernel
theorem dX1_measure_40 : decode cX1_measure 40 = .ok (.aload_n 1, 1) := by decide +kernel
theorem dX1_measure_41 : decode cX1_measure 41 = .ok (.getfield 76, 3) := by decide +kernel
theorem dX1_measure_44 : decode cX1_measure 44 = .ok (.iload_n 2, 1) := by decide +kernel
theorem dX1_measure_45 : decode cX1_measure 45 = .ok (.iaload, 1) := by decide +kernel
theorem dX1_measure_46 : decode cX1_measure 46 = .ok (.iadd, 1) := by decide +kernel
theorem dX1_measure_47 : decode cX1_measure 47 = .ok (.iastore, 1) := by decide +kernel
theorem dX1_measure_48 : decode cX1_measure 48 = .ok (.iinc 2 1, 3) := by decide +kernel
theorem dX1_measure_51 : decode cX1_measure 51 = .ok (.goto (-49), 3) := by decide +kernel
theorem dX1_measure_54 : decode cX1_measure 54 = .ok (.return_, 1) := by decide +kernel
theorem dX1_comingTo_0 : decode cX1_comingTo 0 = .ok (.aload_n 1, 1) := by decide +kernel
theorem dX1_comingTo_1 : decode cX1_comingTo 1 = .ok (.getfield 73, 3) := by decide +kernel
theorem dX1_comingTo_4 : decode cX1_comingTo 4 = .ok (.iload_n 2, 1) := by decide +kernel
theorem dX1_comingTo_5 : decode cX1_comingTo 5 = .ok (.iaload, 1) := by decide +kernel
theorem dX1_comingTo_6 : decode cX1_comingTo 6 = .ok (.istore_n 3, 1) := by decide +kernel
theorem dX1_comingTo_7 : decode cX1_comingTo 7 = .ok (.iload_n 3, 1) := by decide +kernel
theorem dX1_comingTo_8 : decode cX1_comingTo 8 = .ok (.ifCond .lt 8, 3) := by decide +kernel
theorem dX1_comingTo_11 : decode cX1_comingTo 11 = .ok (.iload_n 3, 1) := by decide +kernel
theorem dX1_comingTo_12 : decode cX1_comingTo 12 = .ok (.iload_n 2, 1) := by decide +kernel
theorem dX1_comingTo_13 : decode cX1_comingTo 13 = .ok (.if_icmp .lt 8, 3) := by decide +kernel
theorem dX1_comingTo_16 : decode cX1_comingTo 16 = .ok (.aload_n 1, 1) := by decide +kernel
theorem dX1_comingTo_17 : decode cX1_comingTo 17 = .ok (.getfield 79, 3) := by decide +kernel
theorem dX1_comingTo_20 : decode cX1_comingTo 20 = .ok (.ireturn, 1) := by decide +kernel
theorem dX1_comingTo_21 : decode cX1_comingTo 21 = .ok (.aload_n 0, 1) := by decide +kernel
theorem dX1_comingTo_22 : decode cX1_comingTo 22 = .ok (.getfield 24, 3) := by decide +kernel
theorem dX1_comingTo_25 : decode cX1_comingTo 25 = .ok (.iload_n 3, 1) := by decide +kernel
theorem dX1_comingTo_26 : decode cX1_comingTo 26 = .ok (.iaload, 1) := by decide +kernel
theorem dX1_comingTo_27 : decode cX1_comingTo 27 = .ok (.istore 4, 2) := by decide +kernel
theorem dX1_comingTo_29 : decode cX1_comingTo 29 = .ok (.iload 4, 2) := by decide +kernel
theorem dX1_comingTo_31 : decode cX1_comingTo 31 = .ok (.ifCond .gt 5, 3) := by decide +kernel
theorem dX1_comingTo_34 : decode cX1_comingTo 34 = .ok (.iconst 0, 1) := by decide +kernel
theorem dX1_comingTo_35 : decode cX1_comingTo 35 = .ok (.ireturn, 1) := by decide +kernel
theorem dX1_comingTo_36 : decode cX1_comingTo 36 = .ok (.aload_n 0, 1) := by decide +kernel
theorem dX1_comingTo_37 : decode cX1_comingTo 37 = .ok (.getfield 21, 3) := by decide +kernel
theorem dX1_comingTo_40 : decode cX1_comingTo 40 = .ok (.iload_n 3, 1) := by decide +kernel
theorem dX1_comingTo_41 : decode cX1_comingTo 41 = .ok (.iaload, 1) := by decide +kernel
theorem dX1_comingTo_42 : decode cX1_comingTo 42 = .ok (.aload_n 1, 1) := by decide +kernel
theorem dX1_comingTo_43 : decode cX1_comingTo 43 = .ok (.getfield 76, 3) := by decide +kernel
theorem dX1_comingTo_46 : decode cX1_comingTo 46 = .ok (.iload_n 2, 1) := by decide +kernel
theorem dX1_comingTo_47 : decode cX1_comingTo 47 = .ok (.iaload, 1) := by decide +kernel
theorem dX1_comingTo_48 : decode cX1_comingTo 48 = .ok (.imul, 1) := by decide +kernel
theorem dX1_comingTo_49 : decode cX1_comingTo 49 = .ok (.iload 4, 2) := by decide +kernel
theorem dX1_comingTo_51 : decode cX1_comingTo 51 = .ok (.idiv, 1) := by decide +kernel
theorem dX1_comingTo_52 : decode cX1_comingTo 52 = .ok (.istore 5, 2) := by decide +kernel
theorem dX1_comingTo_54 : decode cX1_comingTo 54 = .ok (.aload_n 0, 1) := by decide +kernel
theorem dX1_comingTo_55 : decode cX1_comingTo 55 = .ok (.dup, 1) := by decide +kernel
theorem dX1_comingTo_56 : decode cX1_comingTo 56 = .ok (.getfield 53, 3) := by decide +kernel
theorem dX1_comingTo_59 : decode cX1_comingTo 59 = .ok (.iload 5, 2) := by decide +kernel
theorem dX1_comingTo_61 : decode cX1_comingTo 61 = .ok (.isub, 1) := by decide +kernel
theorem dX1_comingTo_62 : decode cX1_comingTo 62 = .ok (.putfield 53, 3) := by decide +kernel
theorem dX1_comingTo_65 : decode cX1_comingTo 65 = .ok (.aload_n 0, 1) := by decide +kernel
theorem dX1_comingTo_66 : decode cX1_comingTo 66 = .ok (.dup, 1) := by decide +kernel
theorem dX1_comingTo_67 : decode cX1_comingTo 67 = .ok (.getfield 56, 3) := by decide +kernel
theorem dX1_comingTo_70 : decode cX1_comingTo 70 = .ok (.iload 5, 2) := by decide +kernel
theorem dX1_comingTo_72 : decode cX1_comingTo 72 = .ok (.isub, 1) := by decide +kernel
theorem dX1_comingTo_73 : decode cX1_comingTo 73 = .ok (.putfield 56, 3) := by decide +kernel
theorem dX1_comingTo_76 : decode cX1_comingTo 76 = .ok (.iload 5, 2) := by decide +kernel
theorem dX1_comingTo_78 : decode cX1_comingTo 78 = .ok (.ireturn, 1) := by decide +kernel
set_option maxRecDepth 20000 in
theorem ggX1_divide_X3_leaks : GoodIn wsX1_divide wsX3_leaks := goodIn_r _ [15, 16, 17, 14, 18] (by exact rfl) (by decide +kernel)
set_option maxRecDepth 20000 in
theorem gX1_divide_X3_leaks : GoodIn wsX1_divide (va_wsS RX1 85 yX3_leaks wsX3_leaks) := goodIn_app (goodIn_of _ (by decide +kernel)) ggX1_divide_X3_leaks
set_option maxRecDepth 20000 in
theorem ggX1_divide_X3_keeps : GoodIn wsX1_divide wsX3_keeps := goodIn_r _ [21] (by exact rfl) (by decide +kernel)
set_option maxRecDepth 20000 in
theorem gX1_divide_X3_keeps : GoodIn wsX1_divide (va_wsS RX1 91 yX3_keeps wsX3_keeps) := goodIn_app (goodIn_of _ (by decide +kernel)) ggX1_divide_X3_keeps
set_option maxRecDepth 20000 in
theorem ggX1_divide_X3_holds : GoodIn wsX1_divide wsX3_holds := goodIn_r _ [24, 25, 26, 27, 28] (by exact rfl) (by decide +kernel)
set_option maxRecDepth 20000 in
theorem gX1_divide_X3_holds : GoodIn wsX1_divide (va_wsS RX1 96 yX3_holds wsX3_holds) := goodIn_app (goodIn_of _ (by decide +kernel)) ggX1_divide_X3_holds
theorem dX1_divide_0 : decode cX1_divide 0 = .ok (.aload_n 1, 1) := by decide +kernel
theorem dX1_divide_1 : decode cX1_divide 1 = .ok (.getfield 82, 3) := by decide +kernel
theorem dX1_divide_4 : decode cX1_divide 4 = .ok (.iload_n 2, 1) := by decide +kernel
theorem dX1_divide_5 : decode cX1_divide 5 = .ok (.iaload, 1) := by decide +kernel
theorem dX1_divide_6 : decode cX1_divide 6 = .ok (.istore_n 3, 1) := by decide +kernel
theorem dX1_divide_7 : decode cX1_divide 7 = .ok (.iload_n 3, 1) := by decide +kernel
theorem dX1_divide_8 : decode cX1_divide 8 = .ok (.aload_n 0, 1) := by decide +kernel
theorem dX1_divide_9 : decode cX1_divide 9 = .ok (.getfield 9, 3) := by decide +kernel
theorem dX1_divide_12 : decode cX1_divide 12 = .ok (.iload_n 2, 1) := by decide +kernel
theorem dX1_divide_13 : decode cX1_divide 13 = .ok (.iaload, 1) := by decide +kernel
theorem dX1_divide_14 : decode cX1_divide 14 = .ok (.invokestatic 85, 3) := by decide +kernel
theorem dX1_divide_17 : decode cX1_divide 17 = .ok (.istore 4, 2) := by decide +kernel
theorem dX1_divide_19 : decode cX1_divide 19 = .ok (.aload_n 0, 1) := by decide +kernel
theorem dX1_divide_20 : decode cX1_divide 20 = .ok (.getfield 9, 3) := by decide +kernel
theorem dX1_divide_23 : decode cX1_divide 23 = .ok (.iload_n 2, 1) := by decide +kernel
theorem dX1_divide_24 : decode cX1_divide 24 = .ok (.iaload, 1) := by decide +kernel
theorem dX1_divide_25 : decode cX1_divide 25 = .ok (.iload 4, 2) := by decide +kernel
theorem dX1_divide_27 : decode cX1_divide 27 = .ok (.isub, 1) := by decide +kernel
theorem dX1_divide_28 : decode cX1_divide 28 = .ok (.istore 5, 2) := by decide +kernel
theorem dX1_divide_30 : decode cX1_divide 30 = .ok (.aload_n 0, 1) := by decide +kernel
theorem dX1_divide_31 : decode cX1_divide 31 = .ok (.getfield 15, 3) := by decide +kernel
theorem dX1_divide_34 : decode cX1_divide 34 = .ok (.iload_n 2, 1) := by decide +kernel
theorem dX1_divide_35 : decode cX1_divide 35 = .ok (.iload_n 3, 1) := by decide +kernel
theorem dX1_divide_36 : decode cX1_divide 36 = .ok (.iload 5, 2) := by decide +kernel
theorem dX1_divide_38 : decode cX1_divide 38 = .ok (.invokestatic 91, 3) := by decide +kernel
theorem dX1_divide_41 : decode cX1_divide 41 = .ok (.iastore, 1) := by decide +kernel
theorem dX1_divide_42 : decode cX1_divide 42 = .ok (.iload 5, 2) := by decide +kernel
theorem dX1_divide_44 : decode cX1_divide 44 = .ok (.aload_n 0, 1) := by decide +kernel
theorem dX1_divide_45 : decode cX1_divide 45 = .ok (.getfield 15, 3) := by decide +kernel
theorem dX1_divide_48 : decode cX1_divide 48 = .ok (.iload_n 2, 1) := by decide +kernel
theorem dX1_divide_49 : decode cX1_divide 49 = .ok (.iaload, 1) := by decide +kernel
theorem dX1_divide_50 : decode cX1_divide 50 = .ok (.isub, 1) := by decide +kernel
theorem dX1_divide_51 : decode cX1_divide 51 = .ok (.istore 5, 2) := by decide +kernel
theorem dX1_divide_53 : decode cX1_divide 53 = .ok (.aload_n 0, 1) := by decide +kernel
theorem dX1_divide_54 : decode cX1_divide 54 = .ok (.getfield 18, 3) := by decide +kernel
theorem dX1_divide_57 : decode cX1_divide 57 = .ok (.iload_n 2, 1) := by decide +kernel
theorem dX1_divide_58 : decode cX1_divide 58 = .ok (.iload_n 3, 1) := by decide +kernel
theorem dX1_divide_59 : decode cX1_divide 59 = .ok (.iload 5, 2) := by decide +kernel
theorem dX1_divide_61 : decode cX1_divide 61 = .ok (.aload_n 1, 1) := by decide +kernel
theorem dX1_divide_62 : decode cX1_divide 62 = .ok (.getfield 93, 3) := by decide +kernel
theorem dX1_divide_65 : decode cX1_divide 65 = .ok (.iload_n 2, 1) := by decide +kernel
theorem dX1_divide_66 : decode cX1_divide 66 = .ok (.iaload, 1) := by decide +kernel
theorem dX1_divide_67 : decode cX1_divide 67 = .ok (.invokestatic 96, 3) := by decide +kernel
theorem dX1_divide_70 : decode cX1_divide 70 = .ok (.iastore, 1) := by decide +kernel
theorem dX1_divide_71 : decode cX1_divide 71 = .ok (.iload 5, 2) := by decide +kernel
theorem dX1_divide_73 : decode cX1_divide 73 = .ok (.aload_n 0, 1) := by decide +kernel
theorem dX1_divide_74 : decode cX1_divide 74 = .ok (.getfield 18, 3) := by decide +kernel
theorem dX1_divide_77 : decode cX1_divide 77 = .ok (.iload_n 2, 1) := by decide +kernel
theorem dX1_divide_78 : decode cX1_divide 78 = .ok (.iaload, 1) := by decide +kernel
theorem dX1_divide_79 : decode cX1_divide 79 = .ok (.isub, 1) := by decide +kernel
theorem dX1_divide_80 : decode cX1_divide 80 = .ok (.istore 5, 2) := by decide +kernel
theorem dX1_divide_82 : decode cX1_divide 82 = .ok (.aload_n 0, 1) := by decide +kernel
theorem dX1_divide_83 : decode cX1_divide 83 = .ok (.getfield 21, 3) := by decide +kernel
theorem dX1_divide_86 : decode cX1_divide 86 = .ok (.iload_n 2, 1) := by decide +kernel
theorem dX1_divide_87 : decode cX1_divide 87 = .ok (.iload 5, 2) := by decide +kernel
theorem dX1_divide_89 : decode cX1_divide 89 = .ok (.iastore, 1) := by decide +kernel
theorem dX1_divide_90 : decode cX1_divide 90 = .ok (.aload_n 0, 1) := by decide +kernel
theorem dX1_divide_91 : decode cX1_divide 91 = .ok (.dup, 1) := by decide +kernel
theorem dX1_divide_92 : decode cX1_divide 92 = .ok (.getfield 50, 3) := by decide +kernel
theorem dX1_divide_95 : decode cX1_divide 95 = .ok (.iload 4, 2) := by decide +kernel
theorem dX1_divide_97 : decode cX1_divide 97 = .ok (.iadd, 1) := by decide +kernel
theorem dX1_divide_98 : decode cX1_divide 98 = .ok (.putfield 50, 3) := by decide +kernel
theorem dX1_divide_101 : decode cX1_divide 101 = .ok (.aload_n 0, 1) := by decide +kernel
theorem dX1_divide_102 : decode cX1_divide 102 = .ok (.dup, 1) := by decide +kernel
theorem dX1_divide_103 : decode cX1_divide 103 = .ok (.getfield 47, 3) := by decide +kernel
theorem dX1_divide_106 : decode cX1_divide 106 = .ok (.aload_n 0, 1) := by decide +kernel
theorem dX1_divide_107 : decode cX1_divide 107 = .ok (.getfield 15, 3) := by decide +kernel
theorem dX1_divide_110 : decode cX1_divide 110 = .ok (.iload_n 2, 1) := by decide +kernel
theorem dX1_divide_111 : decode cX1_divide 111 = .ok (.iaload, 1) := by decide +kernel
theorem dX1_divide_112 : decode cX1_divide 112 = .ok (.iadd, 1) := by decide +kernel
theorem dX1_divide_113 : decode cX1_divide 113 = .ok (.putfield 47, 3) := by decide +kernel
theorem dX1_divide_116 : decode cX1_divide 116 = .ok (.aload_n 0, 1) := by decide +kernel
theorem dX1_divide_117 : decode cX1_divide 117 = .ok (.dup, 1) := by decide +kernel
theorem dX1_divide_118 : decode cX1_divide 118 = .ok (.getfield 53, 3) := by decide +kernel
theorem dX1_divide_121 : decode cX1_divide 121 = .ok (.iload 5, 2) := by decide +kernel
theorem dX1_divide_123 : decode cX1_divide 123 = .ok (.iadd, 1) := by decide +kernel
theorem dX1_divide_124 : decode cX1_divide 124 = .ok (.putfield 53, 3) := by decide +kernel
theorem dX1_divide_127 : decode cX1_divide 127 = .ok (.aload_n 0, 1) := by decide +kernel
theorem dX1_divide_128 : decode cX1_divide 128 = .ok (.getfield 24, 3) := by decide +kernel
theorem dX1_divide_131 : decode cX1_divide 131 = .ok (.iload_n 2, 1) := by decide +kernel
theorem dX1_divide_132 : decode cX1_divide 132 = .ok (.iaload, 1) := by decide +kernel
theorem dX1_divide_133 : decode cX1_divide 133 = .ok (.ifCond .le 14, 3) := by decide +kernel
theorem dX1_divide_136 : decode cX1_divide 136 = .ok (.aload_n 0, 1) := by decide +kernel
theorem dX1_divide_137 : decode cX1_divide 137 = .ok (.dup, 1) := by decide +kernel
theorem dX1_divide_138 : decode cX1_divide 138 = .ok (.getfield 56, 3) := by decide +kernel
theorem dX1_divide_141 : decode cX1_divide 141 = .ok (.iload 5, 2) := by decide +kernel
theorem dX1_divide_143 : decode cX1_divide 143 = .ok (.iadd, 1) := by decide +kernel
theorem dX1_divide_144 : decode cX1_divide 144 = .ok (.putfield 56, 3) := by decide +kernel
theorem dX1_divide_147 : decode cX1_divide 147 = .ok (.return_, 1) := by decide +kernel
theorem dX2_init_0 : decode cX2_init 0 = .ok (.aload_n 0, 1) := by decide +kernel
theorem dX2_init_1 : decode cX2_init 1 = .ok (.invokespecial 3, 3) := by decide +kernel
theorem dX2_init_4 : decode cX2_init 4 = .ok (.aload_n 0, 1) := by decide +kernel
theorem dX2_init_5 : decode cX2_init 5 = .ok (.bipush 10, 2) := by decide +kernel
theorem dX2_init_7 : decode cX2_init 7 = .ok (.newarray .int, 2) := by decide +kernel
theorem dX2_init_9 : decode cX2_init 9 = .ok (.putfield 9, 3) := by decide +kernel
theorem dX2_init_12 : decode cX2_init 12 = .ok (.aload_n 0, 1) := by decide +kernel
theorem dX2_init_13 : decode cX2_init 13 = .ok (.bipush 10, 2) := by decide +kernel
theorem dX2_init_15 : decode cX2_init 15 = .ok (.newarray .int, 2) := by decide +kernel
theorem dX2_init_17 : decode cX2_init 17 = .ok (.putfield 15, 3) := by decide +kernel
theorem dX2_init_20 : decode cX2_init 20 = .ok (.aload_n 0, 1) := by decide +kernel
theorem dX2_init_21 : decode cX2_init 21 = .ok (.bipush 10, 2) := by decide +kernel
theorem dX2_init_23 : decode cX2_init 23 = .ok (.newarray .int, 2) := by decide +kernel
theorem dX2_init_25 : decode cX2_init 25 = .ok (.putfield 18, 3) := by decide +kernel
theorem dX2_init_28 : decode cX2_init 28 = .ok (.aload_n 0, 1) := by decide +kernel
theorem dX2_init_29 : decode cX2_init 29 = .ok (.bipush 10, 2) := by decide +kernel
theorem dX2_init_31 : decode cX2_init 31 = .ok (.newarray .int, 2) := by decide +kernel
theorem dX2_init_33 : decode cX2_init 33 = .ok (.putfield 21, 3) := by decide +kernel
theorem dX2_init_36 : decode cX2_init 36 = .ok (.aload_n 0, 1) := by decide +kernel
theorem dX2_init_37 : decode cX2_init 37 = .ok (.bipush 10, 2) := by decide +kernel
theorem dX2_init_39 : decode cX2_init 39 = .ok (.newarray .int, 2) := by decide +kernel
theorem dX2_init_41 : decode cX2_init 41 = .ok (.putfield 24, 3) := by decide +kernel
theorem dX2_init_44 : decode cX2_init 44 = .ok (.aload_n 0, 1) := by decide +kernel
theorem dX2_init_45 : decode cX2_init 45 = .ok (.bipush 10, 2) := by decide +kernel
theorem dX2_init_47 : decode cX2_init 47 = .ok (.newarray .int, 2) := by decide +kernel
theorem dX2_init_49 : decode cX2_init 49 = .ok (.putfield 27, 3) := by decide +kernel
theorem dX2_init_52 : decode cX2_init 52 = .ok (.iconst 0, 1) := by decide +kernel
theorem dX2_init_53 : decode cX2_init 53 = .ok (.istore_n 1, 1) := by decide +kernel
theorem dX2_init_54 : decode cX2_init 54 = .ok (.iload_n 1, 1) := by decide +kernel
theorem dX2_init_55 : decode cX2_init 55 = .ok (.bipush 10, 2) := by decide +kernel
theorem dX2_init_57 : decode cX2_init 57 = .ok (.if_icmp .ge 16, 3) := by decide +kernel
theorem dX2_init_60 : decode cX2_init 60 = .ok (.aload_n 0, 1) := by decide +kernel
theorem dX2_init_61 : decode cX2_init 61 = .ok (.getfield 27, 3) := by decide +kernel
theorem dX2_init_64 : decode cX2_init 64 = .ok (.iload_n 1, 1) := by decide +kernel
theorem dX2_init_65 : decode cX2_init 65 = .ok (.iconst (-1), 1) := by decide +kernel
theorem dX2_init_66 : decode cX2_init 66 = .ok (.iastore, 1) := by decide +kernel
theorem dX2_init_67 : decode cX2_init 67 = .ok (.iinc 1 1, 3) := by decide +kernel
theorem dX2_init_70 : decode cX2_init 70 = .ok (.goto (-16), 3) := by decide +kernel
theorem dX2_init_73 : decode cX2_init 73 = .ok (.aload_n 0, 1) := by decide +kernel
theorem dX2_init_74 : decode cX2_init 74 = .ok (.bipush 81, 2) := by decide +kernel
theorem dX2_init_76 : decode cX2_init 76 = .ok (.putfield 30, 3) := by decide +kernel
theorem dX2_init_79 : decode cX2_init 79 = .ok (.aload_n 0, 1) := by decide +kernel
theorem dX2_init_80 : decode cX2_init 80 = .ok (.iconst 1, 1) := by decide +kernel
theorem dX2_init_81 : decode cX2_init 81 = .ok (.putfield 34, 3) := by decide +kernel
theorem dX2_init_84 : decode cX2_init 84 = .ok (.return_, 1) := by decide +kernel
theorem dX2_become_0 : decode cX2_become 0 = .ok (.aload_n 1, 1) := by decide +kernel
theorem dX2_become_1 : decode cX2_become 1 = .ok (.getfield 9, 3) := by decide +kernel
theorem dX2_become_4 : decode cX2_become 4 = .ok (.iconst 0, 1) := by decide +kernel
theorem dX2_become_5 : decode cX2_become 5 = .ok (.aload_n 0, 1) := by decide +kernel
theorem dX2_become_6 : decode cX2_become 6 = .ok (.getfield 9, 3) := by decide +kernel
theorem dX2_become_9 : decode cX2_become 9 = .ok (.iconst 0, 1) := by decide +kernel
theorem dX2_become_10 : decode cX2_become 10 = .ok (.bipush 10, 2) := by decide +kernel
theorem dX2_become_12 : decode cX2_become 12 = .ok (.invokestatic 37, 3) := by decide +kernel
theorem dX2_become_15 : decode cX2_become 15 = .ok (.aload_n 1, 1) := by decide +kernel
theorem dX2_become_16 : decode cX2_become 16 = .ok (.getfield 15, 3) := by decide +kernel
theorem dX2_become_19 : decode cX2_become 19 = .ok (.iconst 0, 1) := by decide +kernel
theorem dX2_become_20 : decode cX2_become 20 = .ok (.aload_n 0, 1) := by decide +kernel
theorem dX2_become_21 : decode cX2_become 21 = .ok (.getfield 15, 3) := by decide +kernel
theorem dX2_become_24 : decode cX2_become 24 = .ok (.iconst 0, 1) := by decide +kernel
theorem dX2_become_25 : decode cX2_become 25 = .ok (.bipush 10, 2) := by decide +kernel
theorem dX2_become_27 : decode cX2_become 27 = .ok (.invokestatic 37, 3) := by decide +kernel
theorem dX2_become_30 : decode cX2_become 30 = .ok (.aload_n 1, 1) := by decide +kernel
theorem dX2_become_31 : decode cX2_become 31 = .ok (.getfield 18, 3) := by decide +kernel
theorem dX2_become_34 : decode cX2_become 34 = .ok (.iconst 0, 1) := by decide +kernel
theorem dX2_become_35 : decode cX2_become 35 = .ok (.aload_n 0, 1) := by decide +kernel
theorem dX2_become_36 : decode cX2_become 36 = .ok (.getfield 18, 3) := by decide +kernel
theorem dX2_become_39 : decode cX2_become 39 = .ok (.iconst 0, 1) := by decide +kernel
theorem dX2_become_40 : decode cX2_become 40 = .ok (.bipush 10, 2) := by decide +kernel
theorem dX2_become_42 : decode cX2_become 42 = .ok (.invokestatic 37, 3) := by decide +kernel
theorem dX2_become_45 : decode cX2_become 45 = .ok (.aload_n 1, 1) := by decide +kernel
theorem dX2_become_46 : decode cX2_become 46 = .ok (.getfield 21, 3) := by decide +kernel
theorem dX2_become_49 : decode cX2_become 49 = .ok (.iconst 0, 1) := by decide +kernel
theorem dX2_become_50 : decode cX2_become 50 = .ok (.aload_n 0, 1) := by decide +kernel
theorem dX2_become_51 : decode cX2_become 51 = .ok (.getfield 21, 3) := by decide +kernel
theorem dX2_become_54 : decode cX2_become 54 = .ok (.iconst 0, 1) := by decide +kernel
theorem dX2_become_55 : decode cX2_become 55 = .ok (.bipush 10, 2) := by decide +kernel
theorem dX2_become_57 : decode cX2_become 57 = .ok (.invokestatic 37, 3) := by decide +kernel
theorem dX2_become_60 : decode cX2_become 60 = .ok (.aload_n 1, 1) := by decide +kernel
theorem dX2_become_61 : decode cX2_become 61 = .ok (.getfield 24, 3) := by decide +kernel
theorem dX2_become_64 : decode cX2_become 64 = .ok (.iconst 0, 1) := by decide +kernel
theorem dX2_become_65 : decode cX2_become 65 = .ok (.aload_n 0, 1) := by decide +kernel
theorem dX2_become_66 : decode cX2_become 66 = .ok (.getfield 24, 3) := by decide +kernel
theorem dX2_become_69 : decode cX2_become 69 = .ok (.iconst 0, 1) := by decide +kernel
theorem dX2_become_70 : decode cX2_become 70 = .ok (.bipush 10, 2) := by decide +kernel
theorem dX2_become_72 : decode cX2_become 72 = .ok (.invokestatic 37, 3) := by decide +kernel
theorem dX2_become_75 : decode cX2_become 75 = .ok (.aload_n 1, 1) := by decide +kernel
theorem dX2_become_76 : decode cX2_become 76 = .ok (.getfield 27, 3) := by decide +kernel
theorem dX2_become_79 : decode cX2_become 79 = .ok (.iconst 0, 1) := by decide +kernel
theorem dX2_become_80 : decode cX2_become 80 = .ok (.aload_n 0, 1) := by decide +kernel
theorem dX2_become_81 : decode cX2_become 81 = .ok (.getfield 27, 3) := by decide +kernel
theorem dX2_become_84 : decode cX2_become 84 = .ok (.iconst 0, 1) := by decide +kernel
theorem dX2_become_85 : decode cX2_become 85 = .ok (.bipush 10, 2) := by decide +kernel
theorem dX2_become_87 : decode cX2_become 87 = .ok (.invokestatic 37, 3) := by decide +kernel
theorem dX2_become_90 : decode cX2_become 90 = .ok (.aload_n 0, 1) := by decide +kernel
theorem dX2_become_91 : decode cX2_become 91 = .ok (.aload_n 1, 1) := by decide +kernel
theorem dX2_become_92 : decode cX2_become 92 = .ok (.getfield 43, 3) := by decide +kernel
theorem dX2_become_95 : decode cX2_become 95 = .ok (.putfield 43, 3) := by decide +kernel
theorem dX2_become_98 : decode cX2_become 98 = .ok (.aload_n 0, 1) := by decide +kernel
theorem dX2_become_99 : decode cX2_become 99 = .ok (.aload_n 1, 1) := by decide +kernel
theorem dX2_become_100 : decode cX2_become 100 = .ok (.getfield 30, 3) := by decide +kernel
theorem dX2_become_103 : decode cX2_become 103 = .ok (.putfield 30, 3) := by decide +kernel
theorem dX2_become_106 : decode cX2_become 106 = .ok (.aload_n 0, 1) := by decide +kernel
theorem dX2_become_107 : decode cX2_become 107 = .ok (.aload_n 1, 1) := by decide +kernel
theorem dX2_become_108 : decode cX2_become 108 = .ok (.getfield 46, 3) := by decide +kernel
theorem dX2_become_111 : decode cX2_become 111 = .ok (.putfield 46, 3) := by decide +kernel
theorem dX2_become_114 : decode cX2_become 114 = .ok (.aload_n 0, 1) := by decide +kernel
theorem dX2_become_115 : decode cX2_become 115 = .ok (.aload_n 1, 1) := by decide +kernel
theorem dX2_become_116 : decode cX2_become 116 = .ok (.getfield 34, 3) := by decide +kernel
theorem dX2_become_119 : decode cX2_become 119 = .ok (.putfield 34, 3) := by decide +kernel
theorem dX2_become_122 : decode cX2_become 122 = .ok (.return_, 1) := by decide +kernel
theorem dX2_add_0 : decode cX2_add 0 = .ok (.aload_n 0, 1) := by decide +kernel
theorem dX2_add_1 : decode cX2_add 1 = .ok (.getfield 43, 3) := by decide +kernel
theorem dX2_add_4 : decode cX2_add 4 = .ok (.istore 4, 2) := by decide +kernel
theorem dX2_add_6 : decode cX2_add 6 = .ok (.iload 4, 2) := by decide +kernel
theorem dX2_add_8 : decode cX2_add 8 = .ok (.ifCond .lt 10, 3) := by decide +kernel
theorem dX2_add_11 : decode cX2_add 11 = .ok (.iload 4, 2) := by decide +kernel
theorem dX2_add_13 : decode cX2_add 13 = .ok (.bipush 10, 2) := by decide +kernel
theorem dX2_add_15 : decode cX2_add 15 = .ok (.if_icmp .lt 5, 3) := by decide +kernel
theorem dX2_add_18 : decode cX2_add 18 = .ok (.iconst (-1), 1) := by decide +kernel
theorem dX2_add_19 : decode cX2_add 19 = .ok (.ireturn, 1) := by decide +kernel
theorem dX2_add_20 : decode cX2_add 20 = .ok (.aload_n 0, 1) := by decide +kernel
theorem dX2_add_21 : decode cX2_add 21 = .ok (.getfield 9, 3) := by decide +kernel
theorem dX2_add_24 : decode cX2_add 24 = .ok (.iload 4, 2) := by decide +kernel
theorem dX2_add_26 : decode cX2_add 26 = .ok (.iload_n 1, 1) := by decide +kernel
theorem dX2_add_27 : decode cX2_add 27 = .ok (.iastore, 1) := by decide +kernel
theorem dX2_add_28 : decode cX2_add 28 = .ok (.aload_n 0, 1) := by decide +kernel
theorem dX2_add_29 : decode cX2_add 29 = .ok (.getfield 15, 3) := by decide +kernel
theorem dX2_add_32 : decode cX2_add 32 = .ok (.iload 4, 2) := by decide +kernel
theorem dX2_add_34 : decode cX2_add 34 = .ok (.iload_n 2, 1) := by decide +kernel
theorem dX2_add_35 : decode cX2_add 35 = .ok (.iastore, 1) := by decide +kernel
theorem dX2_add_36 : decode cX2_add 36 = .ok (.aload_n 0, 1) := by decide +kernel
theorem dX2_add_37 : decode cX2_add 37 = .ok (.getfield 18, 3) := by decide +kernel
theorem dX2_add_40 : decode cX2_add 40 = .ok (.iload 4, 2) := by decide +kernel
theorem dX2_add_42 : decode cX2_add 42 = .ok (.iload_n 3, 1) := by decide +kernel
theorem dX2_add_43 : decode cX2_add 43 = .ok (.iastore, 1) := by decide +kernel
theorem dX2_add_44 : decode cX2_add 44 = .ok (.aload_n 0, 1) := by decide +kernel
theorem dX2_add_45 : decode cX2_add 45 = .ok (.getfield 21, 3) := by decide +kernel
theorem dX2_add_48 : decode cX2_add 48 = .ok (.iload 4, 2) := by decide +kernel
theorem dX2_add_50 : decode cX2_add 50 = .ok (.iconst 0, 1) := by decide +kernel
theorem dX2_add_51 : decode cX2_add 51 = .ok (.iastore, 1) := by decide +kernel
theorem dX2_add_52 : decode cX2_add 52 = .ok (.aload_n 0, 1) := by decide +kernel
theorem dX2_add_53 : decode cX2_add 53 = .ok (.getfield 24, 3) := by decide +kernel
theorem dX2_add_56 : decode cX2_add 56 = .ok (.iload 4, 2) := by decide +kernel
theorem dX2_add_58 : decode cX2_add 58 = .ok (.iconst 0, 1) := by decide +kernel
theorem dX2_add_59 : decode cX2_add 59 = .ok (.iastore, 1) := by decide +kernel
theorem dX2_add_60 : decode cX2_add 60 = .ok (.aload_n 0, 1) := by decide +kernel
theorem dX2_add_61 : decode cX2_add 61 = .ok (.dup, 1) := by decide +kernel
theorem dX2_add_62 : decode cX2_add 62 = .ok (.getfield 43, 3) := by decide +kernel
theorem dX2_add_65 : decode cX2_add 65 = .ok (.iconst 1, 1) := by decide +kernel
theorem dX2_add_66 : decode cX2_add 66 = .ok (.iadd, 1) := by decide +kernel
theorem dX2_add_67 : decode cX2_add 67 = .ok (.putfield 43, 3) := by decide +kernel
theorem dX2_add_70 : decode cX2_add 70 = .ok (.iload 4, 2) := by decide +kernel
theorem dX2_add_72 : decode cX2_add 72 = .ok (.ireturn, 1) := by decide +kernel
theorem dX2_widthUnder_0 : decode cX2_widthUnder 0 = .ok (.iconst 0, 1) := by decide +kernel
theorem dX2_widthUnder_1 : decode cX2_widthUnder 1 = .ok (.istore_n 2, 1) := by decide +kernel
theorem dX2_widthUnder_2 : decode cX2_widthUnder 2 = .ok (.iconst 0, 1) := by decide +kernel
theorem dX2_widthUnder_3 : decode cX2_widthUnder 3 = .ok (.istore_n 3, 1) := by decide +kernel
theorem dX2_widthUnder_4 : decode cX2_widthUnder 4 = .ok (.iload_n 3, 1) := by decide +kernel
theorem dX2_widthUnder_5 : decode cX2_widthUnder 5 = .ok (.aload_n 0, 1) := by decide +kernel
theorem dX2_widthUnder_6 : decode cX2_widthUnder 6 = .ok (.getfield 43, 3) := by decide +kernel
theorem dX2_widthUnder_9 : decode cX2_widthUnder 9 = .ok (.if_icmp .ge 28, 3) := by decide +kernel
theorem dX2_widthUnder_12 : decode cX2_widthUnder 12 = .ok (.aload_n 0, 1) := by decide +kernel
theorem dX2_widthUnder_13 : decode cX2_widthUnder 13 = .ok (.getfield 15, 3) := by decide +kernel
theorem dX2_widthUnder_16 : decode cX2_widthUnder 16 = .ok (.iload_n 3, 1) := by decide +kernel
theorem dX2_widthUnder_17 : decode cX2_widthUnder 17 = .ok (.iaload, 1) := by decide +kernel
theorem dX2_widthUnder_18 : decode cX2_widthUnder 18 = .ok (.iload_n 1, 1) := by decide +kernel
theorem dX2_widthUnder_19 : decode cX2_widthUnder 19 = .ok (.if_icmp .ne 12, 3) := by decide +kernel
theorem dX2_widthUnder_22 : decode cX2_widthUnder 22 = .ok (.iload_n 2, 1) := by decide +kernel
theorem dX2_widthUnder_23 : decode cX2_widthUnder 23 = .ok (.aload_n 0, 1) := by decide +kernel
theorem dX2_widthUnder_24 : decode cX2_widthUnder 24 = .ok (.getfield 18, 3) := by decide +kernel
theorem dX2_widthUnder_27 : decode cX2_widthUnder 27 = .ok (.iload_n 3, 1) := by decide +kernel
theorem dX2_widthUnder_28 : decode cX2_widthUnder 28 = .ok (.iaload, 1) := by decide +kernel
theorem dX2_widthUnder_29 : decode cX2_widthUnder 29 = .ok (.iadd, 1) := by decide +kernel
theorem dX2_widthUnder_30 : decode cX2_widthUnder 30 = .ok (.istore_n 2, 1) := by decide +kernel
theorem dX2_widthUnder_31 : decode cX2_widthUnder 31 = .ok (.iinc 3 1, 3) := by decide +kernel
theorem dX2_widthUnder_34 : decode cX2_widthUnder 34 = .ok (.goto (-30), 3) := by decide +kernel
theorem dX2_widthUnder_37 : decode cX2_widthUnder 37 = .ok (.iload_n 2, 1) := by decide +kernel
theorem dX2_widthUnder_38 : decode cX2_widthUnder 38 = .ok (.ireturn, 1) := by decide +kernel
theorem dX2_sum_0 : decode cX2_sum 0 = .ok (.iconst 0, 1) := by decide +kernel
theorem dX2_sum_1 : decode cX2_sum 1 = .ok (.istore_n 2, 1) := by decide +kernel
theorem dX2_sum_2 : decode cX2_sum 2 = .ok (.iconst 0, 1) := by decide +kernel
theorem dX2_sum_3 : decode cX2_sum 3 = .ok (.istore_n 3, 1) := by decide +kernel
theorem dX2_sum_4 : decode cX2_sum 4 = .ok (.iload_n 3, 1) := by decide +kernel
theorem dX2_sum_5 : decode cX2_sum 5 = .ok (.aload_n 0, 1) := by decide +kernel
theorem dX2_sum_6 : decode cX2_sum 6 = .ok (.getfield 43, 3) := by decide +kernel
theorem dX2_sum_9 : decode cX2_sum 9 = .ok (.if_icmp .ge 15, 3) := by decide +kernel
theorem dX2_sum_12 : decode cX2_sum 12 = .ok (.iload_n 2, 1) := by decide +kernel
theorem dX2_sum_13 : decode cX2_sum 13 = .ok (.aload_n 1, 1) := by decide +kernel
theorem dX2_sum_14 : decode cX2_sum 14 = .ok (.iload_n 3, 1) := by decide +kernel
theorem dX2_sum_15 : decode cX2_sum 15 = .ok (.iaload, 1) := by decide +kernel
theorem dX2_sum_16 : decode cX2_sum 16 = .ok (.iadd, 1) := by decide +kernel
theorem dX2_sum_17 : decode cX2_sum 17 = .ok (.istore_n 2, 1) := by decide +kernel
theorem dX2_sum_18 : decode cX2_sum 18 = .ok (.iinc 3 1, 3) := by decide +kernel
theorem dX2_sum_21 : decode cX2_sum 21 = .ok (.goto (-17), 3) := by decide +kernel
theorem dX2_sum_24 : decode cX2_sum 24 = .ok (.iload_n 2, 1) := by decide +kernel
theorem dX2_sum_25 : decode cX2_sum 25 = .ok (.ireturn, 1) := by decide +kernel
theorem dX2_spotsInUse_0 : decode cX2_spotsInUse 0 = .ok (.iconst 0, 1) := by decide +kernel
theorem dX2_spotsInUse_1 : decode cX2_spotsInUse 1 = .ok (.istore_n 1, 1) := by decide +kernel
theorem dX2_spotsInUse_2 : decode cX2_spotsInUse 2 = .ok (.iconst 0, 1) := by decide +kernel
theorem dX2_spotsInUse_3 : decode cX2_spotsInUse 3 = .ok (.istore_n 2, 1) := by decide +kernel
theorem dX2_spotsInUse_4 : decode cX2_spotsInUse 4 = .ok (.iload_n 2, 1) := by decide +kernel
theorem dX2_spotsInUse_5 : decode cX2_spotsInUse 5 = .ok (.bipush 10, 2) := by decide +kernel
theorem dX2_spotsInUse_7 : decode cX2_spotsInUse 7 = .ok (.if_icmp .ge 22, 3) := by decide +kernel
theorem dX2_spotsInUse_10 : decode cX2_spotsInUse 10 = .ok (.aload_n 0, 1) := by decide +kernel
theorem dX2_spotsInUse_11 : decode cX2_spotsInUse 11 = .ok (.getfield 27, 3) := by decide +kernel
theorem dX2_spotsInUse_14 : decode cX2_spotsInUse 14 = .ok (.iload_n 2, 1) := by decide +kernel
theorem dX2_spotsInUse_15 : decode cX2_spotsInUse 15 = .ok (.iaload, 1) := by decide +kernel
theorem dX2_spotsInUse_16 : decode cX2_spotsInUse 16 = .ok (.iconst (-1), 1) := by decide +kernel
theorem dX2_spotsInUse_17 : decode cX2_spotsInUse 17 = .ok (.if_icmp .eq 6, 3) := by decide +kernel
theorem dX2_spotsInUse_20 : decode cX2_spotsInUse 20 = .ok (.iinc 1 1, 3) := by decide +kernel
theorem dX2_spotsInUse_23 : decode cX2_spotsInUse 23 = .ok (.iinc 2 1, 3) := by decide +kernel
theorem dX2_spotsInUse_26 : decode cX2_spotsInUse 26 = .ok (.goto (-22), 3) := by decide +kernel
theorem dX2_spotsInUse_29 : decode cX2_spotsInUse 29 = .ok (.iload_n 1, 1) := by decide +kernel
theorem dX2_spotsInUse_30 : decode cX2_spotsInUse 30 = .ok (.ireturn, 1) := by decide +kernel
theorem dX2_draw_0 : decode cX2_draw 0 = .ok (.aload_n 0, 1) := by decide +kernel
theorem dX2_draw_1 : decode cX2_draw 1 = .ok (.aload_n 0, 1) := by decide +kernel
theorem dX2_draw_2 : decode cX2_draw 2 = .ok (.getfield 34, 3) := by decide +kernel
theorem dX2_draw_5 : decode cX2_draw 5 = .ok (.ldc 49, 2) := by decide +kernel
theorem dX2_draw_7 : decode cX2_draw 7 = .ok (.imul, 1) := by decide +kernel
theorem dX2_draw_8 : decode cX2_draw 8 = .ok (.sipush 12345, 3) := by decide +kernel
theorem dX2_draw_11 : decode cX2_draw 11 = .ok (.iadd, 1) := by decide +kernel
theorem dX2_draw_12 : decode cX2_draw 12 = .ok (.putfield 34, 3) := by decide +kernel
theorem dX2_draw_15 : decode cX2_draw 15 = .ok (.aload_n 0, 1) := by decide +kernel
theorem dX2_draw_16 : decode cX2_draw 16 = .ok (.getfield 34, 3) := by decide +kernel
theorem dX2_draw_19 : decode cX2_draw 19 = .ok (.bipush 8, 2) := by decide +kernel
theorem dX2_draw_21 : decode cX2_draw 21 = .ok (.iushr, 1) := by decide +kernel
theorem dX2_draw_22 : decode cX2_draw 22 = .ok (.ireturn, 1) := by decide +kernel
theorem dX2_take_0 : decode cX2_take 0 = .ok (.iconst 0, 1) := by decide +kernel
theorem dX2_take_1 : decode cX2_take 1 = .ok (.istore_n 2, 1) := by decide +kernel
theorem dX2_take_2 : decode cX2_take 2 = .ok (.iload_n 2, 1) := by decide +kernel
theorem dX2_take_3 : decode cX2_take 3 = .ok (.aload_n 0, 1) := by decide +kernel
theorem dX2_take_4 : decode cX2_take 4 = .ok (.getfield 43, 3) := by decide +kernel
theorem dX2_take_7 : decode cX2_take 7 = .ok (.if_icmp .ge 39, 3) := by decide +kernel
theorem dX2_take_10 : decode cX2_take 10 = .ok (.aload_n 0, 1) := by decide +kernel
theorem dX2_take_11 : decode cX2_take 11 = .ok (.getfield 24, 3) := by decide +kernel
theorem dX2_take_14 : decode cX2_take 14 = .ok (.iload_n 2, 1) := by decide +kernel
theorem dX2_take_15 : decode cX2_take 15 = .ok (.dup2, 1) := by decide +kernel
theorem dX2_take_16 : decode cX2_take 16 = .ok (.iaload, 1) := by decide +kernel
theorem dX2_take_17 : decode cX2_take 17 = .ok (.aload_n 1, 1) := by decide +kernel
theorem dX2_take_18 : decode cX2_take 18 = .ok (.getfield 50, 3) := by decide +kernel
theorem dX2_take_21 : decode cX2_take 21 = .ok (.iload_n 2, 1) := by decide +kernel
theorem dX2_take_22 : decode cX2_take 22 = .ok (.iaload, 1) := by decide +kernel
theorem dX2_take_23 : decode cX2_take 23 = .ok (.iadd, 1) := by decide +kernel
theorem dX2_take_24 : decode cX2_take 24 = .ok (.iastore, 1) := by decide +kernel
theorem dX2_take_25 : decode cX2_take 25 = .ok (.aload_n 0, 1) := by decide +kernel
theorem dX2_take_26 : decode cX2_take 26 = .ok (.getfield 21, 3) := by decide +kernel
theorem dX2_take_29 : decode cX2_take 29 = .ok (.iload_n 2, 1) := by decide +kernel
theorem dX2_take_30 : decode cX2_take 30 = .ok (.dup2, 1) := by decide +kernel
theorem dX2_take_31 : decode cX2_take 31 = .ok (.iaload, 1) := by decide +kernel
theorem dX2_take_32 : decode cX2_take 32 = .ok (.aload_n 1, 1) := by decide +kernel
theorem dX2_take_33 : decode cX2_take 33 = .ok (.getfield 55, 3) := by decide +kernel
theorem dX2_take_36 : decode cX2_take 36 = .ok (.iload_n 2, 1) := by decide +kernel
theorem dX2_take_37 : decode cX2_take 37 = .ok (.iaload, 1) := by decide +kernel
theorem dX2_take_38 : decode cX2_take 38 = .ok (.iadd, 1) := by decide +kernel
theorem dX2_take_39 : decode cX2_take 39 = .ok (.iastore, 1) := by decide +kernel
theorem dX2_take_40 : decode cX2_take 40 = .ok (.iinc 2 1, 3) := by decide +kernel
theorem dX2_take_43 : decode cX2_take 43 = .ok (.goto (-41), 3) := by decide +kernel
theorem dX2_take_46 : decode cX2_take 46 = .ok (.aload_n 0, 1) := by decide +kernel
theorem dX2_take_47 : decode cX2_take 47 = .ok (.dup, 1) := by decide +kernel
theorem dX2_take_48 : decode cX2_take 48 = .ok (.getfield 46, 3) := by decide +kernel
theorem dX2_take_51 : decode cX2_take 51 = .ok (.iconst 1, 1) := by decide +kernel
theorem dX2_take_52 : decode cX2_take 52 = .ok (.iadd, 1) := by decide +kernel
theorem dX2_take_53 : decode cX2_take 53 = .ok (.putfield 46, 3) := by decide +kernel
theorem dX2_take_56 : decode cX2_take 56 = .ok (.return_, 1) := by decide +kernel
theorem dX3_isKind_0 : decode cX3_isKind 0 = .ok (.iload_n 0, 1) := by decide +kernel
theorem dX3_isKind_1 : decode cX3_isKind 1 = .ok (.ifCond .lt 13, 3) := by decide +kernel
theorem dX3_isKind_4 : decode cX3_isKind 4 = .ok (.iload_n 0, 1) := by decide +kernel
theorem dX3_isKind_5 : decode cX3_isKind 5 = .ok (.bipush 6, 2) := by decide +kernel
theorem dX3_isKind_7 : decode cX3_isKind 7 = .ok (.if_icmp .gt 7, 3) := by decide +kernel
theorem dX3_isKind_10 : decode cX3_isKind 10 = .ok (.iconst 1, 1) := by decide +kernel
theorem dX3_isKind_11 : decode cX3_isKind 11 = .ok (.goto 4, 3) := by decide +kernel
theorem dX3_isKind_14 : decode cX3_isKind 14 = .ok (.iconst 0, 1) := by decide +kernel
theorem dX3_isKind_15 : decode cX3_isKind 15 = .ok (.ireturn, 1) := by decide +kernel
set_option maxRecDepth 20000 in
theorem ggX3_leaks_X3_tenthsLeaked : GoodIn wsX3_leaks wsX3_tenthsLeaked := goodIn_r _ [4] (by exact rfl) (by decide +kernel)
set_option maxRecDepth 20000 in
theorem gX3_leaks_X3_tenthsLeaked : GoodIn wsX3_leaks (va_wsS RX3 15 yX3_tenthsLeaked wsX3_tenthsLeaked) := goodIn_app (goodIn_of _ (by decide +kernel)) ggX3_leaks_X3_tenthsLeaked
theorem dX3_leaks_0 : decode cX3_leaks 0 = .ok (.iload_n 0, 1) := by decide +kernel
theorem dX3_leaks_1 : decode cX3_leaks 1 = .ok (.invokestatic 15, 3) := by decide +kernel
theorem dX3_leaks_4 : decode cX3_leaks 4 = .ok (.iload_n 1, 1) := by decide +kernel
theorem dX3_leaks_5 : decode cX3_leaks 5 = .ok (.bipush 10, 2) := by decide +kernel
theorem dX3_leaks_7 : decode cX3_leaks 7 = .ok (.idiv, 1) := by decide +kernel
theorem dX3_leaks_8 : decode cX3_leaks 8 = .ok (.imul, 1) := by decide +kernel
theorem dX3_leaks_9 : decode cX3_leaks 9 = .ok (.ireturn, 1) := by decide +kernel
theorem dX3_tenthsLeaked_0 : decode cX3_tenthsLeaked 0 = .ok (.iload_n 0, 1) := by decide +kernel
theorem dX3_tenthsLeaked_1 : decode cX3_tenthsLeaked 1 = .ok (.lookupswitch 31 #[(2, 27), (4, 29)], 27) := by decide +kernel
theorem dX3_tenthsLeaked_28 : decode cX3_tenthsLeaked 28 = .ok (.iconst 1, 1) := by decide +kernel
theorem dX3_tenthsLeaked_29 : decode cX3_tenthsLeaked 29 = .ok (.ireturn, 1) := by decide +kernel
theorem dX3_tenthsLeaked_30 : decode cX3_tenthsLeaked 30 = .ok (.iconst 2, 1) := by decide +kernel
theorem dX3_tenthsLeaked_31 : decode cX3_tenthsLeaked 31 = .ok (.ireturn, 1) := by decide +kernel
theorem dX3_tenthsLeaked_32 : decode cX3_tenthsLeaked 32 = .ok (.iconst 0, 1) := by decide +kernel
theorem dX3_tenthsLeaked_33 : decode cX3_tenthsLeaked 33 = .ok (.ireturn, 1) := by decide +kernel
theorem dX3_keeps_0 : decode cX3_keeps 0 = .ok (.iload_n 0, 1) := by decide +kernel
theorem dX3_keeps_1 : decode cX3_keeps 1 = .ok (.lookupswitch 35 #[(1, 27), (3, 33)], 27) := by decide +kernel
theorem dX3_keeps_28 : decode cX3_keeps 28 = .ok (.iconst 2, 1) := by decide +kernel
theorem dX3_keeps_29 : decode cX3_keeps 29 = .ok (.iload_n 1, 1) := by decide +kernel
theorem dX3_keeps_30 : decode cX3_keeps 30 = .ok (.imul, 1) := by decide +kernel
theorem dX3_keeps_31 : decode cX3_keeps 31 = .ok (.iconst 5, 1) := by decide +kernel
theorem dX3_keeps_32 : decode cX3_keeps 32 = .ok (.idiv, 1) := by decide +kernel
theorem dX3_keeps_33 : decode cX3_keeps 33 = .ok (.ireturn, 1) := by decide +kernel
theorem dX3_keeps_34 : decode cX3_keeps 34 = .ok (.iconst 0, 1) := by decide +kernel
theorem dX3_keeps_35 : decode cX3_keeps 35 = .ok (.ireturn, 1) := by decide +kernel
theorem dX3_keeps_36 : decode cX3_keeps 36 = .ok (.iload_n 1, 1) := by decide +kernel
theorem dX3_keeps_37 : decode cX3_keeps 37 = .ok (.iconst 3, 1) := by decide +kernel
theorem dX3_keeps_38 : decode cX3_keeps 38 = .ok (.idiv, 1) := by decide +kernel
theorem dX3_keeps_39 : decode cX3_keeps 39 = .ok (.ireturn, 1) := by decide +kernel
theorem dX3_holds_0 : decode cX3_holds 0 = .ok (.iload_n 0, 1) := by decide +kernel
theorem dX3_holds_1 : decode cX3_holds 1 = .ok (.lookupswitch 55 #[(5, 46), (6, 27)], 27) := by decide +kernel
theorem dX3_holds_28 : decode cX3_holds 28 = .ok (.iload_n 1, 1) := by decide +kernel
theorem dX3_holds_29 : decode cX3_holds 29 = .ok (.bipush 100, 2) := by decide +kernel
theorem dX3_holds_31 : decode cX3_holds 31 = .ok (.if_icmp .le 7, 3) := by decide +kernel
theorem dX3_holds_34 : decode cX3_holds 34 = .ok (.iconst 0, 1) := by decide +kernel
theorem dX3_holds_35 : decode cX3_holds 35 = .ok (.goto 11, 3) := by decide +kernel
theorem dX3_holds_38 : decode cX3_holds 38 = .ok (.bipush 30, 2) := by decide +kernel
theorem dX3_holds_40 : decode cX3_holds 40 = .ok (.iload_n 2, 1) := by decide +kernel
theorem dX3_holds_41 : decode cX3_holds 41 = .ok (.isub, 1) := by decide +kernel
theorem dX3_holds_42 : decode cX3_holds 42 = .ok (.iload_n 1, 1) := by decide +kernel
theorem dX3_holds_43 : decode cX3_holds 43 = .ok (.invokestatic 18, 3) := by decide +kernel
theorem dX3_holds_46 : decode cX3_holds 46 = .ok (.ireturn, 1) := by decide +kernel
theorem dX3_holds_47 : decode cX3_holds 47 = .ok (.bipush 30, 2) := by decide +kernel
theorem dX3_holds_49 : decode cX3_holds 49 = .ok (.iload_n 2, 1) := by decide +kernel
theorem dX3_holds_50 : decode cX3_holds 50 = .ok (.isub, 1) := by decide +kernel
theorem dX3_holds_51 : decode cX3_holds 51 = .ok (.iload_n 1, 1) := by decide +kernel
theorem dX3_holds_52 : decode cX3_holds 52 = .ok (.invokestatic 18, 3) := by decide +kernel
theorem dX3_holds_55 : decode cX3_holds 55 = .ok (.ireturn, 1) := by decide +kernel
theorem dX3_holds_56 : decode cX3_holds 56 = .ok (.iconst 0, 1) := by decide +kernel
theorem dX3_holds_57 : decode cX3_holds 57 = .ok (.ireturn, 1) := by decide +kernel
theorem dX4_init_0 : decode cX4_init 0 = .ok (.aload_n 0, 1) := by decide +kernel
theorem dX4_init_1 : decode cX4_init 1 = .ok (.invokespecial 3, 3) := by decide +kernel
theorem dX4_init_4 : decode cX4_init 4 = .ok (.aload_n 0, 1) := by decide +kernel
theorem dX4_init_5 : decode cX4_init 5 = .ok (.bipush 10, 2) := by decide +kernel
theorem dX4_init_7 : decode cX4_init 7 = .ok (.newarray .long, 2) := by decide +kernel
theorem dX4_init_9 : decode cX4_init 9 = .ok (.putfield 9, 3) := by decide +kernel
theorem dX4_init_12 : decode cX4_init 12 = .ok (.aload_n 0, 1) := by decide +kernel
theorem dX4_init_13 : decode cX4_init 13 = .ok (.bipush 10, 2) := by decide +kernel
theorem dX4_init_15 : decode cX4_init 15 = .ok (.newarray .long, 2) := by decide +kernel
theorem dX4_init_17 : decode cX4_init 17 = .ok (.putfield 15, 3) := by decide +kernel
theorem dX4_init_20 : decode cX4_init 20 = .ok (.aload_n 0, 1) := by decide +kernel
theorem dX4_init_21 : decode cX4_init 21 = .ok (.bipush 10, 2) := by decide +kernel
theorem dX4_init_23 : decode cX4_init 23 = .ok (.newarray .boolean, 2) := by decide +kernel
theorem dX4_init_25 : decode cX4_init 25 = .ok (.putfield 18, 3) := by decide +kernel
theorem dX4_init_28 : decode cX4_init 28 = .ok (.aload_n 0, 1) := by decide +kernel
theorem dX4_init_29 : decode cX4_init 29 = .ok (.bipush 10, 2) := by decide +kernel
theorem dX4_init_31 : decode cX4_init 31 = .ok (.newarray .long, 2) := by decide +kernel
theorem dX4_init_33 : decode cX4_init 33 = .ok (.putfield 22, 3) := by decide +kernel
theorem dX4_init_36 : decode cX4_init 36 = .ok (.aload_n 0, 1) := by decide +kernel
theorem dX4_init_37 : decode cX4_init 37 = .ok (.bipush 10, 2) := by decide +kernel
theorem dX4_init_39 : decode cX4_init 39 = .ok (.newarray .long, 2) := by decide +kernel
theorem dX4_init_41 : decode cX4_init 41 = .ok (.putfield 25, 3) := by decide +kernel
theorem dX4_init_44 : decode cX4_init 44 = .ok (.aload_n 0, 1) := by decide +kernel
theorem dX4_init_45 : decode cX4_init 45 = .ok (.bipush 10, 2) := by decide +kernel
theorem dX4_init_47 : decode cX4_init 47 = .ok (.newarray .boolean, 2) := by decide +kernel
theorem dX4_init_49 : decode cX4_init 49 = .ok (.putfield 28, 3) := by decide +kernel
theorem dX4_init_52 : decode cX4_init 52 = .ok (.aload_n 0, 1) := by decide +kernel
theorem dX4_init_53 : decode cX4_init 53 = .ok (.lconst 1, 1) := by decide +kernel
theorem dX4_init_54 : decode cX4_init 54 = .ok (.putfield 31, 3) := by decide +kernel
theorem dX4_init_57 : decode cX4_init 57 = .ok (.aload_n 0, 1) := by decide +kernel
theorem dX4_init_58 : decode cX4_init 58 = .ok (.lconst 1, 1) := by decide +kernel
theorem dX4_init_59 : decode cX4_init 59 = .ok (.putfield 35, 3) := by decide +kernel
theorem dX4_init_62 : decode cX4_init 62 = .ok (.return_, 1) := by decide +kernel
set_option maxRecDepth 20000 in
theorem ggX4_reckon_X4_comingTo : GoodIn wsX4_reckon wsX4_comingTo := goodIn_r _ [15, 16, 3, 4, 8, 9, 10, 17, 18, 19, 20, 21, 22, 23, 24, 25, 26, 27, 28, 14, 29, 30, 31, 32, 33, 46, 47, 48, 49, 50, 51, 52, 53, 54, 55, 56, 57, 58, 59, 60, 61, 62, 63] (by exact rfl) (by decide +kernel)
set_option maxRecDepth 20000 in
theorem gX4_reckon_X4_comingTo : GoodIn wsX4_reckon (wsV RX4 44 RX4 yX4_comingTo wsX4_comingTo) := goodIn_app (goodIn_of _ (by decide +kernel)) ggX4_reckon_X4_comingTo
set_option maxRecDepth 20000 in
theorem ggX4_reckon_X3_tenthsLeaked : GoodIn wsX4_reckon wsX3_tenthsLeaked := goodIn_r _ [37] (by exact rfl) (by decide +kernel)
set_option maxRecDepth 20000 in
theorem gX4_reckon_X3_tenthsLeaked : GoodIn wsX4_reckon (va_wsS RX4 52 yX3_tenthsLeaked wsX3_tenthsLeaked) := goodIn_app (goodIn_of _ (by decide +kernel)) ggX4_reckon_X3_tenthsLeaked
set_option maxRecDepth 20000 in
theorem ggX4_reckon_X4_multiply : GoodIn wsX4_reckon wsX4_multiply := goodIn_r _ [29, 3, 4, 30, 31, 32, 14, 33, 56, 57, 58, 59, 60, 61, 62, 63] (by exact rfl) (by decide +kernel)
set_option maxRecDepth 20000 in
theorem gX4_reckon_X4_multiply : GoodIn wsX4_reckon (wsV RX4 58 RX4 yX4_multiply wsX4_multiply) := goodIn_app (goodIn_of _ (by decide +kernel)) ggX4_reckon_X4_multiply
set_option maxRecDepth 20000 in
theorem ggX4_reckon_X4_keep : GoodIn wsX4_reckon wsX4_keep := goodIn_r _ [41, 26, 27, 28, 14, 29, 3, 4, 30, 31, 32, 33, 56, 57, 58, 59, 60, 61, 62, 63] (by exact rfl) (by decide +kernel)
set_option maxRecDepth 20000 in
theorem gX4_reckon_X4_keep : GoodIn wsX4_reckon (wsV RX4 62 RX4 yX4_keep wsX4_keep) := goodIn_app (goodIn_of _ (by decide +kernel)) ggX4_reckon_X4_keep
set_option maxRecDepth 20000 in
theorem ggX4_reckon_X4_goOn : GoodIn wsX4_reckon wsX4_goOn := goodIn_r _ [45, 26, 27, 28, 14, 29, 3, 4, 30, 31, 32, 33, 56, 57, 58, 59, 60, 61, 62, 63] (by exact rfl) (by decide +kernel)
set_option maxRecDepth 20000 in
theorem gX4_reckon_X4_goOn : GoodIn wsX4_reckon (wsV RX4 66 RX4 yX4_goOn wsX4_goOn) := goodIn_app (goodIn_of _ (by decide +kernel)) ggX4_reckon_X4_goOn
theorem dX4_reckon_0 : decode cX4_reckon 0 = .ok (.iconst 0, 1) := by decide +kernel
theorem dX4_reckon_1 : decode cX4_reckon 1 = .ok (.istore_n 2, 1) := by decide +kernel
theorem dX4_reckon_2 : decode cX4_reckon 2 = .ok (.iload_n 2, 1) := by decide +kernel
theorem dX4_reckon_3 : decode cX4_reckon 3 = .ok (.aload_n 1, 1) := by decide +kernel
theorem dX4_reckon_4 : decode cX4_reckon 4 = .ok (.getfield 38, 3) := by decide +kernel
theorem dX4_reckon_7 : decode cX4_reckon 7 = .ok (.if_icmp .ge 169, 3) := by decide +kernel
theorem dX4_reckon_10 : decode cX4_reckon 10 = .ok (.aload_n 0, 1) := by decide +kernel
theorem dX4_reckon_11 : decode cX4_reckon 11 = .ok (.aload_n 1, 1) := by decide +kernel
theorem dX4_reckon_12 : decode cX4_reckon 12 = .ok (.iload_n 2, 1) := by decide +kernel
theorem dX4_reckon_13 : decode cX4_reckon 13 = .ok (.invokevirtual 44, 3) := by decide +kernel
theorem dX4_reckon_16 : decode cX4_reckon 16 = .ok (.ifCond .eq 28, 3) := by decide +kernel
theorem dX4_reckon_19 : decode cX4_reckon 19 = .ok (.aload_n 0, 1) := by decide +kernel
theorem dX4_reckon_20 : decode cX4_reckon 20 = .ok (.bipush 10, 2) := by decide +kernel
theorem dX4_reckon_22 : decode cX4_reckon 22 = .ok (.aload_n 1, 1) := by decide +kernel
theorem dX4_reckon_23 : decode cX4_reckon 23 = .ok (.getfield 48, 3) := by decide +kernel
theorem dX4_reckon_26 : decode cX4_reckon 26 = .ok (.iload_n 2, 1) := by decide +kernel
theorem dX4_reckon_27 : decode cX4_reckon 27 = .ok (.iaload, 1) := by decide +kernel
theorem dX4_reckon_28 : decode cX4_reckon 28 = .ok (.invokestatic 52, 3) := by decide +kernel
theorem dX4_reckon_31 : decode cX4_reckon 31 = .ok (.isub, 1) := by decide +kernel
theorem dX4_reckon_32 : decode cX4_reckon 32 = .ok (.bipush 10, 2) := by decide +kernel
theorem dX4_reckon_34 : decode cX4_reckon 34 = .ok (.invokevirtual 58, 3) := by decide +kernel
theorem dX4_reckon_37 : decode cX4_reckon 37 = .ok (.ifCond .eq 7, 3) := by decide +kernel
theorem dX4_reckon_40 : decode cX4_reckon 40 = .ok (.iconst 1, 1) := by decide +kernel
theorem dX4_reckon_41 : decode cX4_reckon 41 = .ok (.goto 4, 3) := by decide +kernel
theorem dX4_reckon_44 : decode cX4_reckon 44 = .ok (.iconst 0, 1) := by decide +kernel
theorem dX4_reckon_45 : decode cX4_reckon 45 = .ok (.istore_n 3, 1) := by decide +kernel
theorem dX4_reckon_46 : decode cX4_reckon 46 = .ok (.aload_n 0, 1) := by decide +kernel
theorem dX4_reckon_47 : decode cX4_reckon 47 = .ok (.getfield 31, 3) := by decide +kernel
theorem dX4_reckon_50 : decode cX4_reckon 50 = .ok (.lstore 4, 2) := by decide +kernel
theorem dX4_reckon_52 : decode cX4_reckon 52 = .ok (.aload_n 0, 1) := by decide +kernel
theorem dX4_reckon_53 : decode cX4_reckon 53 = .ok (.getfield 35, 3) := by decide +kernel
theorem dX4_reckon_56 : decode cX4_reckon 56 = .ok (.lstore 6, 2) := by decide +kernel
theorem dX4_reckon_58 : decode cX4_reckon 58 = .ok (.iload_n 3, 1) := by decide +kernel
theorem dX4_reckon_59 : decode cX4_reckon 59 = .ok (.ifCond .eq 20, 3) := by decide +kernel
theorem dX4_reckon_62 : decode cX4_reckon 62 = .ok (.aload_n 0, 1) := by decide +kernel
theorem dX4_reckon_63 : decode cX4_reckon 63 = .ok (.aload_n 1, 1) := by decide +kernel
theorem dX4_reckon_64 : decode cX4_reckon 64 = .ok (.getfield 48, 3) := by decide +kernel
theorem dX4_reckon_67 : decode cX4_reckon 67 = .ok (.iload_n 2, 1) := by decide +kernel
theorem dX4_reckon_68 : decode cX4_reckon 68 = .ok (.iaload, 1) := by decide +kernel
theorem dX4_reckon_69 : decode cX4_reckon 69 = .ok (.invokevirtual 62, 3) := by decide +kernel
theorem dX4_reckon_72 : decode cX4_reckon 72 = .ok (.ifCond .eq 7, 3) := by decide +kernel
theorem dX4_reckon_75 : decode cX4_reckon 75 = .ok (.iconst 1, 1) := by decide +kernel
theorem dX4_reckon_76 : decode cX4_reckon 76 = .ok (.goto 4, 3) := by decide +kernel
theorem dX4_reckon_79 : decode cX4_reckon 79 = .ok (.iconst 0, 1) := by decide +kernel
theorem dX4_reckon_80 : decode cX4_reckon 80 = .ok (.istore_n 3, 1) := by decide +kernel
theorem dX4_reckon_81 : decode cX4_reckon 81 = .ok (.aload_n 0, 1) := by decide +kernel
theorem dX4_reckon_82 : decode cX4_reckon 82 = .ok (.getfield 9, 3) := by decide +kernel
theorem dX4_reckon_85 : decode cX4_reckon 85 = .ok (.iload_n 2, 1) := by decide +kernel
theorem dX4_reckon_86 : decode cX4_reckon 86 = .ok (.aload_n 0, 1) := by decide +kernel
theorem dX4_reckon_87 : decode cX4_reckon 87 = .ok (.getfield 31, 3) := by decide +kernel
theorem dX4_reckon_90 : decode cX4_reckon 90 = .ok (.lastore, 1) := by decide +kernel
theorem dX4_reckon_91 : decode cX4_reckon 91 = .ok (.aload_n 0, 1) := by decide +kernel
theorem dX4_reckon_92 : decode cX4_reckon 92 = .ok (.getfield 15, 3) := by decide +kernel
theorem dX4_reckon_95 : decode cX4_reckon 95 = .ok (.iload_n 2, 1) := by decide +kernel
theorem dX4_reckon_96 : decode cX4_reckon 96 = .ok (.aload_n 0, 1) := by decide +kernel
theorem dX4_reckon_97 : decode cX4_reckon 97 = .ok (.getfield 35, 3) := by decide +kernel
theorem dX4_reckon_100 : decode cX4_reckon 100 = .ok (.lastore, 1) := by decide +kernel
theorem dX4_reckon_101 : decode cX4_reckon 101 = .ok (.aload_n 0, 1) := by decide +kernel
theorem dX4_reckon_102 : decode cX4_reckon 102 = .ok (.getfield 18, 3) := by decide +kernel
theorem dX4_reckon_105 : decode cX4_reckon 105 = .ok (.iload_n 2, 1) := by decide +kernel
theorem dX4_reckon_106 : decode cX4_reckon 106 = .ok (.iload_n 3, 1) := by decide +kernel
theorem dX4_reckon_107 : decode cX4_reckon 107 = .ok (.bastore, 1) := by decide +kernel
theorem dX4_reckon_108 : decode cX4_reckon 108 = .ok (.aload_n 0, 1) := by decide +kernel
theorem dX4_reckon_109 : decode cX4_reckon 109 = .ok (.lload 4, 2) := by decide +kernel
theorem dX4_reckon_111 : decode cX4_reckon 111 = .ok (.putfield 31, 3) := by decide +kernel
theorem dX4_reckon_114 : decode cX4_reckon 114 = .ok (.aload_n 0, 1) := by decide +kernel
theorem dX4_reckon_115 : decode cX4_reckon 115 = .ok (.lload 6, 2) := by decide +kernel
theorem dX4_reckon_117 : decode cX4_reckon 117 = .ok (.putfield 35, 3) := by decide +kernel
theorem dX4_reckon_120 : decode cX4_reckon 120 = .ok (.iload_n 3, 1) := by decide +kernel
theorem dX4_reckon_121 : decode cX4_reckon 121 = .ok (.ifCond .eq 20, 3) := by decide +kernel
theorem dX4_reckon_124 : decode cX4_reckon 124 = .ok (.aload_n 0, 1) := by decide +kernel
theorem dX4_reckon_125 : decode cX4_reckon 125 = .ok (.aload_n 1, 1) := by decide +kernel
theorem dX4_reckon_126 : decode cX4_reckon 126 = .ok (.getfield 48, 3) := by decide +kernel
theorem dX4_reckon_129 : decode cX4_reckon 129 = .ok (.iload_n 2, 1) := by decide +kernel
theorem dX4_reckon_130 : decode cX4_reckon 130 = .ok (.iaload, 1) := by decide +kernel
theorem dX4_reckon_131 : decode cX4_reckon 131 = .ok (.invokevirtual 66, 3) := by decide +kernel
theorem dX4_reckon_134 : decode cX4_reckon 134 = .ok (.ifCond .eq 7, 3) := by decide +kernel
theorem dX4_reckon_137 : decode cX4_reckon 137 = .ok (.iconst 1, 1) := by decide +kernel
theorem dX4_reckon_138 : decode cX4_reckon 138 = .ok (.goto 4, 3) := by decide +kernel
theorem dX4_reckon_141 : decode cX4_reckon 141 = .ok (.iconst 0, 1) := by decide +kernel
theorem dX4_reckon_142 : decode cX4_reckon 142 = .ok (.istore_n 3, 1) := by decide +kernel
theorem dX4_reckon_143 : decode cX4_reckon 143 = .ok (.aload_n 0, 1) := by decide +kernel
theorem dX4_reckon_144 : decode cX4_reckon 144 = .ok (.getfield 22, 3) := by decide +kernel
theorem dX4_reckon_147 : decode cX4_reckon 147 = .ok (.iload_n 2, 1) := by decide +kernel
theorem dX4_reckon_148 : decode cX4_reckon 148 = .ok (.aload_n 0, 1) := by decide +kernel
theorem dX4_reckon_149 : decode cX4_reckon 149 = .ok (.getfield 31, 3) := by decide +kernel
theorem dX4_reckon_152 : decode cX4_reckon 152 = .ok (.lastore, 1) := by decide +kernel
theorem dX4_reckon_153 : decode cX4_reckon 153 = .ok (.aload_n 0, 1) := by decide +kernel
theorem dX4_reckon_154 : decode cX4_reckon 154 = .ok (.getfield 25, 3) := by decide +kernel
theorem dX4_reckon_157 : decode cX4_reckon 157 = .ok (.iload_n 2, 1) := by decide +kernel
theorem dX4_reckon_158 : decode cX4_reckon 158 = .ok (.aload_n 0, 1) := by decide +kernel
theorem dX4_reckon_159 : decode cX4_reckon 159 = .ok (.getfield 35, 3) := by decide +kernel
theorem dX4_reckon_162 : decode cX4_reckon 162 = .ok (.lastore, 1) := by decide +kernel
theorem dX4_reckon_163 : decode cX4_reckon 163 = .ok (.aload_n 0, 1) := by decide +kernel
theorem dX4_reckon_164 : decode cX4_reckon 164 = .ok (.getfield 28, 3) := by decide +kernel
theorem dX4_reckon_167 : decode cX4_reckon 167 = .ok (.iload_n 2, 1) := by decide +kernel
theorem dX4_reckon_168 : decode cX4_reckon 168 = .ok (.iload_n 3, 1) := by decide +kernel
theorem dX4_reckon_169 : decode cX4_reckon 169 = .ok (.bastore, 1) := by decide +kernel
theorem dX4_reckon_170 : decode cX4_reckon 170 = .ok (.iinc 2 1, 3) := by decide +kernel
theorem dX4_reckon_173 : decode cX4_reckon 173 = .ok (.goto (-171), 3) := by decide +kernel
theorem dX4_reckon_176 : decode cX4_reckon 176 = .ok (.return_, 1) := by decide +kernel
set_option maxRecDepth 20000 in
theorem ggX4_comingTo_X2_widthUnder : GoodIn wsX4_comingTo wsX2_widthUnder := goodIn_r _ [12, 13, 14, 15, 25, 26, 27, 28, 29, 30, 31, 32, 33, 34] (by exact rfl) (by decide +kernel)
set_option maxRecDepth 20000 in
theorem gX4_comingTo_X2_widthUnder : GoodIn wsX4_comingTo (wsV RX4 75 RX2 yX2_widthUnder wsX2_widthUnder) := goodIn_app (goodIn_of _ (by decide +kernel)) ggX4_comingTo_X2_widthUnder
set_option maxRecDepth 20000 in
theorem ggX4_comingTo_X4_multiply : GoodIn wsX4_comingTo wsX4_multiply := goodIn_r _ [20, 2, 3, 21, 22, 23, 19, 24, 35, 36, 37, 38, 39, 40, 41, 42] (by exact rfl) (by decide +kernel)
set_option maxRecDepth 20000 in
theorem gX4_comingTo_X4_multiply : GoodIn wsX4_comingTo (wsV RX4 58 RX4 yX4_multiply wsX4_multiply) := goodIn_app (goodIn_of _ (by decide +kernel)) ggX4_comingTo_X4_multiply
theorem dX4_comingTo_0 : decode cX4_comingTo 0 = .ok (.aload_n 1, 1) := by decide +kernel
theorem dX4_comingTo_1 : decode cX4_comingTo 1 = .ok (.getfield 69, 3) := by decide +kernel
theorem dX4_comingTo_4 : decode cX4_comingTo 4 = .ok (.iload_n 2, 1) := by decide +kernel
theorem dX4_comingTo_5 : decode cX4_comingTo 5 = .ok (.iaload, 1) := by decide +kernel
theorem dX4_comingTo_6 : decode cX4_comingTo 6 = .ok (.istore_n 3, 1) := by decide +kernel
theorem dX4_comingTo_7 : decode cX4_comingTo 7 = .ok (.iload_n 3, 1) := by decide +kernel
theorem dX4_comingTo_8 : decode cX4_comingTo 8 = .ok (.ifCond .lt 8, 3) := by decide +kernel
theorem dX4_comingTo_11 : decode cX4_comingTo 11 = .ok (.iload_n 3, 1) := by decide +kernel
theorem dX4_comingTo_12 : decode cX4_comingTo 12 = .ok (.iload_n 2, 1) := by decide +kernel
theorem dX4_comingTo_13 : decode cX4_comingTo 13 = .ok (.if_icmp .lt 15, 3) := by decide +kernel
theorem dX4_comingTo_16 : decode cX4_comingTo 16 = .ok (.aload_n 0, 1) := by decide +kernel
theorem dX4_comingTo_17 : decode cX4_comingTo 17 = .ok (.lconst 1, 1) := by decide +kernel
theorem dX4_comingTo_18 : decode cX4_comingTo 18 = .ok (.putfield 31, 3) := by decide +kernel
theorem dX4_comingTo_21 : decode cX4_comingTo 21 = .ok (.aload_n 0, 1) := by decide +kernel
theorem dX4_comingTo_22 : decode cX4_comingTo 22 = .ok (.lconst 1, 1) := by decide +kernel
theorem dX4_comingTo_23 : decode cX4_comingTo 23 = .ok (.putfield 35, 3) := by decide +kernel
theorem dX4_comingTo_26 : decode cX4_comingTo 26 = .ok (.iconst 1, 1) := by decide +kernel
theorem dX4_comingTo_27 : decode cX4_comingTo 27 = .ok (.ireturn, 1) := by decide +kernel
theorem dX4_comingTo_28 : decode cX4_comingTo 28 = .ok (.aload_n 0, 1) := by decide +kernel
theorem dX4_comingTo_29 : decode cX4_comingTo 29 = .ok (.aload_n 0, 1) := by decide +kernel
theorem dX4_comingTo_30 : decode cX4_comingTo 30 = .ok (.getfield 22, 3) := by decide +kernel
theorem dX4_comingTo_33 : decode cX4_comingTo 33 = .ok (.iload_n 3, 1) := by decide +kernel
theorem dX4_comingTo_34 : decode cX4_comingTo 34 = .ok (.laload, 1) := by decide +kernel
theorem dX4_comingTo_35 : decode cX4_comingTo 35 = .ok (.putfield 31, 3) := by decide +kernel
theorem dX4_comingTo_38 : decode cX4_comingTo 38 = .ok (.aload_n 0, 1) := by decide +kernel
theorem dX4_comingTo_39 : decode cX4_comingTo 39 = .ok (.aload_n 0, 1) := by decide +kernel
theorem dX4_comingTo_40 : decode cX4_comingTo 40 = .ok (.getfield 25, 3) := by decide +kernel
theorem dX4_comingTo_43 : decode cX4_comingTo 43 = .ok (.iload_n 3, 1) := by decide +kernel
theorem dX4_comingTo_44 : decode cX4_comingTo 44 = .ok (.laload, 1) := by decide +kernel
theorem dX4_comingTo_45 : decode cX4_comingTo 45 = .ok (.putfield 35, 3) := by decide +kernel
theorem dX4_comingTo_48 : decode cX4_comingTo 48 = .ok (.aload_n 0, 1) := by decide +kernel
theorem dX4_comingTo_49 : decode cX4_comingTo 49 = .ok (.getfield 28, 3) := by decide +kernel
theorem dX4_comingTo_52 : decode cX4_comingTo 52 = .ok (.iload_n 3, 1) := by decide +kernel
theorem dX4_comingTo_53 : decode cX4_comingTo 53 = .ok (.baload, 1) := by decide +kernel
theorem dX4_comingTo_54 : decode cX4_comingTo 54 = .ok (.ifCond .eq 25, 3) := by decide +kernel
theorem dX4_comingTo_57 : decode cX4_comingTo 57 = .ok (.aload_n 0, 1) := by decide +kernel
theorem dX4_comingTo_58 : decode cX4_comingTo 58 = .ok (.aload_n 1, 1) := by decide +kernel
theorem dX4_comingTo_59 : decode cX4_comingTo 59 = .ok (.getfield 72, 3) := by decide +kernel
theorem dX4_comingTo_62 : decode cX4_comingTo 62 = .ok (.iload_n 2, 1) := by decide +kernel
theorem dX4_comingTo_63 : decode cX4_comingTo 63 = .ok (.iaload, 1) := by decide +kernel
theorem dX4_comingTo_64 : decode cX4_comingTo 64 = .ok (.aload_n 1, 1) := by decide +kernel
theorem dX4_comingTo_65 : decode cX4_comingTo 65 = .ok (.iload_n 3, 1) := by decide +kernel
theorem dX4_comingTo_66 : decode cX4_comingTo 66 = .ok (.invokevirtual 75, 3) := by decide +kernel
theorem dX4_comingTo_69 : decode cX4_comingTo 69 = .ok (.invokevirtual 58, 3) := by decide +kernel
theorem dX4_comingTo_72 : decode cX4_comingTo 72 = .ok (.ifCond .eq 7, 3) := by decide +kernel
theorem dX4_comingTo_75 : decode cX4_comingTo 75 = .ok (.iconst 1, 1) := by decide +kernel
theorem dX4_comingTo_76 : decode cX4_comingTo 76 = .ok (.goto 4, 3) := by decide +kernel
theorem dX4_comingTo_79 : decode cX4_comingTo 79 = .ok (.iconst 0, 1) := by decide +kernel
theorem dX4_comingTo_80 : decode cX4_comingTo 80 = .ok (.ireturn, 1) := by decide +kernel
set_option maxRecDepth 20000 in
theorem ggX4_keep_X4_multiply : GoodIn wsX4_keep wsX4_multiply := goodIn_r _ [5, 6, 7, 8, 9, 10, 4, 11, 12, 13, 14, 15, 16, 17, 18, 19] (by exact rfl) (by decide +kernel)
set_option maxRecDepth 20000 in
theorem gX4_keep_X4_multiply : GoodIn wsX4_keep (wsV RX4 58 RX4 yX4_multiply wsX4_multiply) := goodIn_app (goodIn_of _ (by decide +kernel)) ggX4_keep_X4_multiply
theorem dX4_keep_0 : decode cX4_keep 0 = .ok (.iload_n 1, 1) := by decide +kernel
theorem dX4_keep_1 : decode cX4_keep 1 = .ok (.lookupswitch 41 #[(1, 27), (3, 34)], 27) := by decide +kernel
theorem dX4_keep_28 : decode cX4_keep 28 = .ok (.aload_n 0, 1) := by decide +kernel
theorem dX4_keep_29 : decode cX4_keep 29 = .ok (.iconst 2, 1) := by decide +kernel
theorem dX4_keep_30 : decode cX4_keep 30 = .ok (.iconst 5, 1) := by decide +kernel
theorem dX4_keep_31 : decode cX4_keep 31 = .ok (.invokevirtual 58, 3) := by decide +kernel
theorem dX4_keep_34 : decode cX4_keep 34 = .ok (.ireturn, 1) := by decide +kernel
theorem dX4_keep_35 : decode cX4_keep 35 = .ok (.aload_n 0, 1) := by decide +kernel
theorem dX4_keep_36 : decode cX4_keep 36 = .ok (.iconst 0, 1) := by decide +kernel
theorem dX4_keep_37 : decode cX4_keep 37 = .ok (.iconst 1, 1) := by decide +kernel
theorem dX4_keep_38 : decode cX4_keep 38 = .ok (.invokevirtual 58, 3) := by decide +kernel
theorem dX4_keep_41 : decode cX4_keep 41 = .ok (.ireturn, 1) := by decide +kernel
theorem dX4_keep_42 : decode cX4_keep 42 = .ok (.aload_n 0, 1) := by decide +kernel
theorem dX4_keep_43 : decode cX4_keep 43 = .ok (.iconst 1, 1) := by decide +kernel
theorem dX4_keep_44 : decode cX4_keep 44 = .ok (.iconst 3, 1) := by decide +kernel
theorem dX4_keep_45 : decode cX4_keep 45 = .ok (.invokevirtual 58, 3) := by decide +kernel
theorem dX4_keep_48 : decode cX4_keep 48 = .ok (.ireturn, 1) := by decide +kernel
set_option maxRecDepth 20000 in
theorem ggX4_goOn_X4_multiply : GoodIn wsX4_goOn wsX4_multiply := goodIn_r _ [5, 6, 7, 8, 9, 10, 4, 11, 12, 13, 14, 15, 16, 17, 18, 19] (by exact rfl) (by decide +kernel)
set_option maxRecDepth 20000 in
theorem gX4_goOn_X4_multiply : GoodIn wsX4_goOn (wsV RX4 58 RX4 yX4_multiply wsX4_multiply) := goodIn_app (goodIn_of _ (by decide +kernel)) ggX4_goOn_X4_multiply
theorem dX4_goOn_0 : decode cX4_goOn 0 = .ok (.iload_n 1, 1) := by decide +kernel
theorem dX4_goOn_1 : decode cX4_goOn 1 = .ok (.lookupswitch 36 #[(1, 27), (3, 34)], 27) := by decide +kernel
theorem dX4_goOn_28 : decode cX4_goOn 28 = .ok (.aload_n 0, 1) := by decide +kernel
theorem dX4_goOn_29 : decode cX4_goOn 29 = .ok (.iconst 3, 1) := by decide +kernel
theorem dX4_goOn_30 : decode cX4_goOn 30 = .ok (.iconst 5, 1) := by decide +kernel
theorem dX4_goOn_31 : decode cX4_goOn 31 = .ok (.invokevirtual 58, 3) := by decide +kernel
theorem dX4_goOn_34 : decode cX4_goOn 34 = .ok (.ireturn, 1) := by decide +kernel
theorem dX4_goOn_35 : decode cX4_goOn 35 = .ok (.iconst 1, 1) := by decide +kernel
theorem dX4_goOn_36 : decode cX4_goOn 36 = .ok (.ireturn, 1) := by decide +kernel
theorem dX4_goOn_37 : decode cX4_goOn 37 = .ok (.aload_n 0, 1) := by decide +kernel
theorem dX4_goOn_38 : decode cX4_goOn 38 = .ok (.iconst 2, 1) := by decide +kernel
theorem dX4_goOn_39 : decode cX4_goOn 39 = .ok (.iconst 3, 1) := by decide +kernel
theorem dX4_goOn_40 : decode cX4_goOn 40 = .ok (.invokevirtual 58, 3) := by decide +kernel
theorem dX4_goOn_43 : decode cX4_goOn 43 = .ok (.ireturn, 1) := by decide +kernel
set_option maxRecDepth 20000 in
theorem ggX4_multiply_X4_commonDivisor : GoodIn wsX4_multiply wsX4_commonDivisor := goodIn_r _ [7] (by exact rfl) (by decide +kernel)
set_option maxRecDepth 20000 in
theorem gX4_multiply_X4_commonDivisor : GoodIn wsX4_multiply (va_wsS RX4 78 yX4_commonDivisor wsX4_commonDivisor) := goodIn_app (goodIn_of _ (by decide +kernel)) ggX4_multiply_X4_commonDivisor
theorem dX4_multiply_0 : decode cX4_multiply 0 = .ok (.aload_n 0, 1) := by decide +kernel
theorem dX4_multiply_1 : decode cX4_multiply 1 = .ok (.dup, 1) := by decide +kernel
theorem dX4_multiply_2 : decode cX4_multiply 2 = .ok (.getfield 31, 3) := by decide +kernel
theorem dX4_multiply_5 : decode cX4_multiply 5 = .ok (.iload_n 1, 1) := by decide +kernel
theorem dX4_multiply_6 : decode cX4_multiply 6 = .ok (.i2l, 1) := by decide +kernel
theorem dX4_multiply_7 : decode cX4_multiply 7 = .ok (.lmul, 1) := by decide +kernel
theorem dX4_multiply_8 : decode cX4_multiply 8 = .ok (.putfield 31, 3) := by decide +kernel
theorem dX4_multiply_11 : decode cX4_multiply 11 = .ok (.aload_n 0, 1) := by decide +kernel
theorem dX4_multiply_12 : decode cX4_multiply 12 = .ok (.dup, 1) := by decide +kernel
theorem dX4_multiply_13 : decode cX4_multiply 13 = .ok (.getfield 35, 3) := by decide +kernel
theorem dX4_multiply_16 : decode cX4_multiply 16 = .ok (.iload_n 2, 1) := by decide +kernel
theorem dX4_multiply_17 : decode cX4_multiply 17 = .ok (.i2l, 1) := by decide +kernel
theorem dX4_multiply_18 : decode cX4_multiply 18 = .ok (.lmul, 1) := by decide +kernel
theorem dX4_multiply_19 : decode cX4_multiply 19 = .ok (.putfield 35, 3) := by decide +kernel
theorem dX4_multiply_22 : decode cX4_multiply 22 = .ok (.aload_n 0, 1) := by decide +kernel
theorem dX4_multiply_23 : decode cX4_multiply 23 = .ok (.getfield 31, 3) := by decide +kernel
theorem dX4_multiply_26 : decode cX4_multiply 26 = .ok (.aload_n 0, 1) := by decide +kernel
theorem dX4_multiply_27 : decode cX4_multiply 27 = .ok (.getfield 35, 3) := by decide +kernel
theorem dX4_multiply_30 : decode cX4_multiply 30 = .ok (.invokestatic 78, 3) := by decide +kernel
theorem dX4_multiply_33 : decode cX4_multiply 33 = .ok (.lstore_n 3, 1) := by decide +kernel
theorem dX4_multiply_34 : decode cX4_multiply 34 = .ok (.lload_n 3, 1) := by decide +kernel
theorem dX4_multiply_35 : decode cX4_multiply 35 = .ok (.lconst 0, 1) := by decide +kernel
theorem dX4_multiply_36 : decode cX4_multiply 36 = .ok (.lcmp, 1) := by decide +kernel
theorem dX4_multiply_37 : decode cX4_multiply 37 = .ok (.ifCond .le 23, 3) := by decide +kernel
theorem dX4_multiply_40 : decode cX4_multiply 40 = .ok (.aload_n 0, 1) := by decide +kernel
theorem dX4_multiply_41 : decode cX4_multiply 41 = .ok (.dup, 1) := by decide +kernel
theorem dX4_multiply_42 : decode cX4_multiply 42 = .ok (.getfield 31, 3) := by decide +kernel
theorem dX4_multiply_45 : decode cX4_multiply 45 = .ok (.lload_n 3, 1) := by decide +kernel
theorem dX4_multiply_46 : decode cX4_multiply 46 = .ok (.ldiv, 1) := by decide +kernel
theorem dX4_multiply_47 : decode cX4_multiply 47 = .ok (.putfield 31, 3) := by decide +kernel
theorem dX4_multiply_50 : decode cX4_multiply 50 = .ok (.aload_n 0, 1) := by decide +kernel
theorem dX4_multiply_51 : decode cX4_multiply 51 = .ok (.dup, 1) := by decide +kernel
theorem dX4_multiply_52 : decode cX4_multiply 52 = .ok (.getfield 35, 3) := by decide +kernel
theorem dX4_multiply_55 : decode cX4_multiply 55 = .ok (.lload_n 3, 1) := by decide +kernel
theorem dX4_multiply_56 : decode cX4_multiply 56 = .ok (.ldiv, 1) := by decide +kernel
theorem dX4_multiply_57 : decode cX4_multiply 57 = .ok (.putfield 35, 3) := by decide +kernel
theorem dX4_multiply_60 : decode cX4_multiply 60 = .ok (.aload_n 0, 1) := by decide +kernel
theorem dX4_multiply_61 : decode cX4_multiply 61 = .ok (.getfield 31, 3) := by decide +kernel
theorem dX4_multiply_64 : decode cX4_multiply 64 = .ok (.ldc2_w 82, 3) := by decide +kernel
theorem dX4_multiply_67 : decode cX4_multiply 67 = .ok (.lcmp, 1) := by decide +kernel
theorem dX4_multiply_68 : decode cX4_multiply 68 = .ok (.ifCond .gt 18, 3) := by decide +kernel
theorem dX4_multiply_71 : decode cX4_multiply 71 = .ok (.aload_n 0, 1) := by decide +kernel
theorem dX4_multiply_72 : decode cX4_multiply 72 = .ok (.getfield 35, 3) := by decide +kernel
theorem dX4_multiply_75 : decode cX4_multiply 75 = .ok (.ldc2_w 82, 3) := by decide +kernel
theorem dX4_multiply_78 : decode cX4_multiply 78 = .ok (.lcmp, 1) := by decide +kernel
theorem dX4_multiply_79 : decode cX4_multiply 79 = .ok (.ifCond .gt 7, 3) := by decide +kernel
theorem dX4_multiply_82 : decode cX4_multiply 82 = .ok (.iconst 1, 1) := by decide +kernel
theorem dX4_multiply_83 : decode cX4_multiply 83 = .ok (.goto 4, 3) := by decide +kernel
theorem dX4_multiply_86 : decode cX4_multiply 86 = .ok (.iconst 0, 1) := by decide +kernel
theorem dX4_multiply_87 : decode cX4_multiply 87 = .ok (.ireturn, 1) := by decide +kernel
theorem dX4_commonDivisor_0 : decode cX4_commonDivisor 0 = .ok (.lload_n 0, 1) := by decide +kernel
theorem dX4_commonDivisor_1 : decode cX4_commonDivisor 1 = .ok (.lstore 4, 2) := by decide +kernel
theorem dX4_commonDivisor_3 : decode cX4_commonDivisor 3 = .ok (.lload_n 2, 1) := by decide +kernel
theorem dX4_commonDivisor_4 : decode cX4_commonDivisor 4 = .ok (.lstore 6, 2) := by decide +kernel
theorem dX4_commonDivisor_6 : decode cX4_commonDivisor 6 = .ok (.iconst 0, 1) := by decide +kernel
theorem dX4_commonDivisor_7 : decode cX4_commonDivisor 7 = .ok (.istore 8, 2) := by decide +kernel
theorem dX4_commonDivisor_9 : decode cX4_commonDivisor 9 = .ok (.iload 8, 2) := by decide +kernel
theorem dX4_commonDivisor_11 : decode cX4_commonDivisor 11 = .ok (.sipush 200, 3) := by decide +kernel
theorem dX4_commonDivisor_14 : decode cX4_commonDivisor 14 = .ok (.if_icmp .ge 31, 3) := by decide +kernel
theorem dX4_commonDivisor_17 : decode cX4_commonDivisor 17 = .ok (.lload 6, 2) := by decide +kernel
theorem dX4_commonDivisor_19 : decode cX4_commonDivisor 19 = .ok (.lconst 0, 1) := by decide +kernel
theorem dX4_commonDivisor_20 : decode cX4_commonDivisor 20 = .ok (.lcmp, 1) := by decide +kernel
theorem dX4_commonDivisor_21 : decode cX4_commonDivisor 21 = .ok (.ifCond .eq 24, 3) := by decide +kernel
theorem dX4_commonDivisor_24 : decode cX4_commonDivisor 24 = .ok (.lload 4, 2) := by decide +kernel
theorem dX4_commonDivisor_26 : decode cX4_commonDivisor 26 = .ok (.lload 6, 2) := by decide +kernel
theorem dX4_commonDivisor_28 : decode cX4_commonDivisor 28 = .ok (.lrem, 1) := by decide +kernel
theorem dX4_commonDivisor_29 : decode cX4_commonDivisor 29 = .ok (.lstore 9, 2) := by decide +kernel
theorem dX4_commonDivisor_31 : decode cX4_commonDivisor 31 = .ok (.lload 6, 2) := by decide +kernel
theorem dX4_commonDivisor_33 : decode cX4_commonDivisor 33 = .ok (.lstore 4, 2) := by decide +kernel
theorem dX4_commonDivisor_35 : decode cX4_commonDivisor 35 = .ok (.lload 9, 2) := by decide +kernel
theorem dX4_commonDivisor_37 : decode cX4_commonDivisor 37 = .ok (.lstore 6, 2) := by decide +kernel
theorem dX4_commonDivisor_39 : decode cX4_commonDivisor 39 = .ok (.iinc 8 1, 3) := by decide +kernel
theorem dX4_commonDivisor_42 : decode cX4_commonDivisor 42 = .ok (.goto (-33), 3) := by decide +kernel
theorem dX4_commonDivisor_45 : decode cX4_commonDivisor 45 = .ok (.lload 4, 2) := by decide +kernel
theorem dX4_commonDivisor_47 : decode cX4_commonDivisor 47 = .ok (.lreturn, 1) := by decide +kernel
theorem dX5_init_0 : decode cX5_init 0 = .ok (.aload_n 0, 1) := by decide +kernel
theorem dX5_init_1 : decode cX5_init 1 = .ok (.invokespecial 3, 3) := by decide +kernel
theorem dX5_init_4 : decode cX5_init 4 = .ok (.aload_n 0, 1) := by decide +kernel
theorem dX5_init_5 : decode cX5_init 5 = .ok (.bipush 40, 2) := by decide +kernel
theorem dX5_init_7 : decode cX5_init 7 = .ok (.newarray .int, 2) := by decide +kernel
theorem dX5_init_9 : decode cX5_init 9 = .ok (.putfield 9, 3) := by decide +kernel
theorem dX5_init_12 : decode cX5_init 12 = .ok (.return_, 1) := by decide +kernel
theorem dX5_isMissing_0 : decode cX5_isMissing 0 = .ok (.aload_n 0, 1) := by decide +kernel
theorem dX5_isMissing_1 : decode cX5_isMissing 1 = .ok (.getfield 15, 3) := by decide +kernel
theorem dX5_isMissing_4 : decode cX5_isMissing 4 = .ok (.ifCond .ne 7, 3) := by decide +kernel
theorem dX5_isMissing_7 : decode cX5_isMissing 7 = .ok (.iconst 1, 1) := by decide +kernel
theorem dX5_isMissing_8 : decode cX5_isMissing 8 = .ok (.goto 4, 3) := by decide +kernel
theorem dX5_isMissing_11 : decode cX5_isMissing 11 = .ok (.iconst 0, 1) := by decide +kernel
theorem dX5_isMissing_12 : decode cX5_isMissing 12 = .ok (.ireturn, 1) := by decide +kernel
theorem dX5_begin_0 : decode cX5_begin 0 = .ok (.aload_n 0, 1) := by decide +kernel
theorem dX5_begin_1 : decode cX5_begin 1 = .ok (.iload_n 1, 1) := by decide +kernel
theorem dX5_begin_2 : decode cX5_begin 2 = .ok (.putfield 15, 3) := by decide +kernel
theorem dX5_begin_5 : decode cX5_begin 5 = .ok (.aload_n 0, 1) := by decide +kernel
theorem dX5_begin_6 : decode cX5_begin 6 = .ok (.iload_n 2, 1) := by decide +kernel
theorem dX5_begin_7 : decode cX5_begin 7 = .ok (.putfield 19, 3) := by decide +kernel
theorem dX5_begin_10 : decode cX5_begin 10 = .ok (.iconst 0, 1) := by decide +kernel
theorem dX5_begin_11 : decode cX5_begin 11 = .ok (.istore_n 3, 1) := by decide +kernel
theorem dX5_begin_12 : decode cX5_begin 12 = .ok (.iload_n 3, 1) := by decide +kernel
theorem dX5_begin_13 : decode cX5_begin 13 = .ok (.bipush 40, 2) := by decide +kernel
theorem dX5_begin_15 : decode cX5_begin 15 = .ok (.if_icmp .ge 16, 3) := by decide +kernel
theorem dX5_begin_18 : decode cX5_begin 18 = .ok (.aload_n 0, 1) := by decide +kernel
theorem dX5_begin_19 : decode cX5_begin 19 = .ok (.getfield 9, 3) := by decide +kernel
theorem dX5_begin_22 : decode cX5_begin 22 = .ok (.iload_n 3, 1) := by decide +kernel
theorem dX5_begin_23 : decode cX5_begin 23 = .ok (.iconst 0, 1) := by decide +kernel
theorem dX5_begin_24 : decode cX5_begin 24 = .ok (.iastore, 1) := by decide +kernel
theorem dX5_begin_25 : decode cX5_begin 25 = .ok (.iinc 3 1, 3) := by decide +kernel
theorem dX5_begin_28 : decode cX5_begin 28 = .ok (.goto (-16), 3) := by decide +kernel
theorem dX5_begin_31 : decode cX5_begin 31 = .ok (.return_, 1) := by decide +kernel
theorem dX5_lowestBits_0 : decode cX5_lowestBits 0 = .ok (.aload_n 0, 1) := by decide +kernel
theorem dX5_lowestBits_1 : decode cX5_lowestBits 1 = .ok (.getfield 15, 3) := by decide +kernel
theorem dX5_lowestBits_4 : decode cX5_lowestBits 4 = .ok (.lookupswitch 34 #[(8, 28), (16, 31)], 28) := by decide +kernel
theorem dX5_lowestBits_32 : decode cX5_lowestBits 32 = .ok (.iload_n 1, 1) := by decide +kernel
theorem dX5_lowestBits_33 : decode cX5_lowestBits 33 = .ok (.i2b, 1) := by decide +kernel
theorem dX5_lowestBits_34 : decode cX5_lowestBits 34 = .ok (.ireturn, 1) := by decide +kernel
theorem dX5_lowestBits_35 : decode cX5_lowestBits 35 = .ok (.iload_n 1, 1) := by decide +kernel
theorem dX5_lowestBits_36 : decode cX5_lowestBits 36 = .ok (.i2s, 1) := by decide +kernel
theorem dX5_lowestBits_37 : decode cX5_lowestBits 37 = .ok (.ireturn, 1) := by decide +kernel
theorem dX5_lowestBits_38 : decode cX5_lowestBits 38 = .ok (.iload_n 1, 1) := by decide +kernel
theorem dX5_lowestBits_39 : decode cX5_lowestBits 39 = .ok (.ireturn, 1) := by decide +kernel
theorem dX6_init_0 : decode cX6_init 0 = .ok (.aload_n 0, 1) := by decide +kernel
theorem dX6_init_1 : decode cX6_init 1 = .ok (.invokespecial 3, 3) := by decide +kernel
theorem dX6_init_4 : decode cX6_init 4 = .ok (.aload_n 0, 1) := by decide +kernel
theorem dX6_init_5 : decode cX6_init 5 = .ok (.bipush 120, 2) := by decide +kernel
theorem dX6_init_7 : decode cX6_init 7 = .ok (.newarray .int, 2) := by decide +kernel
theorem dX6_init_9 : decode cX6_init 9 = .ok (.putfield 9, 3) := by decide +kernel
theorem dX6_init_12 : decode cX6_init 12 = .ok (.return_, 1) := by decide +kernel
