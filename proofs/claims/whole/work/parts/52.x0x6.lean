theorem dX0_init_0 : decode cX0_init 0 = .ok (.aload_n 0, 1) := by decide +kernel
theorem dX0_init_1 : decode cX0_init 1 = .ok (.invokespecial 3, 3) := by decide +kernel
theorem dX0_init_4 : decode cX0_init 4 = .ok (.return_, 1) := by decide +kernel
set_option maxRecDepth 20000 in
theorem ggX0_look_X1_reckon : GoodIn wsX0_look wsX1_reckon := goodIn_r _ [11, 12, 13, 14, 15, 16, 17, 18, 19, 20, 10, 21, 22, 23, 24, 25, 26, 27, 28, 29, 30, 31, 32, 33, 34, 35, 36, 37, 38, 39, 40, 41, 42, 43, 44, 45, 46, 47, 48, 49, 50, 51, 52, 53, 54, 55, 81, 82, 83, 84, 85, 86, 87, 88, 89, 90, 91, 92, 71, 72, 73, 74, 75, 76, 77, 78, 79, 80] (by exact rfl) (by decide +kernel)
set_option maxRecDepth 20000 in
theorem gX0_look_X1_reckon : GoodIn wsX0_look (wsV RX0 35 RX1 yX1_reckon wsX1_reckon) := goodIn_app (goodIn_of _ (by decide +kernel)) ggX0_look_X1_reckon
set_option maxRecDepth 20000 in
theorem ggX0_look_X0_explains : GoodIn wsX0_look wsX0_explains := goodIn_r _ [59, 4, 60, 61, 62, 71, 72, 73, 74, 75, 76, 77, 78, 79, 80, 93, 94, 95, 81, 82, 83, 84, 85, 86, 87, 88, 89, 90, 91, 92] (by exact rfl) (by decide +kernel)
set_option maxRecDepth 20000 in
theorem gX0_look_X0_explains : GoodIn wsX0_look (va_wsS RX0 41 yX0_explains wsX0_explains) := goodIn_app (goodIn_of _ (by decide +kernel)) ggX0_look_X0_explains
set_option maxRecDepth 20000 in
theorem ggX0_look_X0_note : GoodIn wsX0_look wsX0_note := goodIn_r _ [66, 1, 2, 5, 3, 67, 68, 69, 70] (by exact rfl) (by decide +kernel)
set_option maxRecDepth 20000 in
theorem gX0_look_X0_note : GoodIn wsX0_look (wsV RX0 45 RX0 yX0_note wsX0_note) := goodIn_app (goodIn_of _ (by decide +kernel)) ggX0_look_X0_note
theorem dX0_look_0 : decode cX0_look 0 = .ok (.aload_n 0, 1) := by decide +kernel
theorem dX0_look_1 : decode cX0_look 1 = .ok (.iconst 0, 1) := by decide +kernel
theorem dX0_look_2 : decode cX0_look 2 = .ok (.putfield 9, 3) := by decide +kernel
theorem dX0_look_5 : decode cX0_look 5 = .ok (.aload_n 0, 1) := by decide +kernel
theorem dX0_look_6 : decode cX0_look 6 = .ok (.iconst (-1), 1) := by decide +kernel
theorem dX0_look_7 : decode cX0_look 7 = .ok (.putfield 15, 3) := by decide +kernel
theorem dX0_look_10 : decode cX0_look 10 = .ok (.aload_n 0, 1) := by decide +kernel
theorem dX0_look_11 : decode cX0_look 11 = .ok (.iconst 0, 1) := by decide +kernel
theorem dX0_look_12 : decode cX0_look 12 = .ok (.putfield 18, 3) := by decide +kernel
theorem dX0_look_15 : decode cX0_look 15 = .ok (.aload_n 0, 1) := by decide +kernel
theorem dX0_look_16 : decode cX0_look 16 = .ok (.iconst 1, 1) := by decide +kernel
theorem dX0_look_17 : decode cX0_look 17 = .ok (.aload_n 1, 1) := by decide +kernel
theorem dX0_look_18 : decode cX0_look 18 = .ok (.getfield 21, 3) := by decide +kernel
theorem dX0_look_21 : decode cX0_look 21 = .ok (.ishl, 1) := by decide +kernel
theorem dX0_look_22 : decode cX0_look 22 = .ok (.iconst 1, 1) := by decide +kernel
theorem dX0_look_23 : decode cX0_look 23 = .ok (.isub, 1) := by decide +kernel
theorem dX0_look_24 : decode cX0_look 24 = .ok (.putfield 26, 3) := by decide +kernel
theorem dX0_look_27 : decode cX0_look 27 = .ok (.iconst 0, 1) := by decide +kernel
theorem dX0_look_28 : decode cX0_look 28 = .ok (.istore 4, 2) := by decide +kernel
theorem dX0_look_30 : decode cX0_look 30 = .ok (.iload 4, 2) := by decide +kernel
theorem dX0_look_32 : decode cX0_look 32 = .ok (.iconst 1, 1) := by decide +kernel
theorem dX0_look_33 : decode cX0_look 33 = .ok (.aload_n 1, 1) := by decide +kernel
theorem dX0_look_34 : decode cX0_look 34 = .ok (.getfield 21, 3) := by decide +kernel
theorem dX0_look_37 : decode cX0_look 37 = .ok (.ishl, 1) := by decide +kernel
theorem dX0_look_38 : decode cX0_look 38 = .ok (.if_icmp .ge 70, 3) := by decide +kernel
theorem dX0_look_41 : decode cX0_look 41 = .ok (.iconst 0, 1) := by decide +kernel
theorem dX0_look_42 : decode cX0_look 42 = .ok (.istore 5, 2) := by decide +kernel
theorem dX0_look_44 : decode cX0_look 44 = .ok (.iload 5, 2) := by decide +kernel
theorem dX0_look_46 : decode cX0_look 46 = .ok (.aload_n 1, 1) := by decide +kernel
theorem dX0_look_47 : decode cX0_look 47 = .ok (.getfield 21, 3) := by decide +kernel
theorem dX0_look_50 : decode cX0_look 50 = .ok (.if_icmp .ge 32, 3) := by decide +kernel
theorem dX0_look_53 : decode cX0_look 53 = .ok (.aload_n 1, 1) := by decide +kernel
theorem dX0_look_54 : decode cX0_look 54 = .ok (.getfield 29, 3) := by decide +kernel
theorem dX0_look_57 : decode cX0_look 57 = .ok (.iload 5, 2) := by decide +kernel
theorem dX0_look_59 : decode cX0_look 59 = .ok (.iload 4, 2) := by decide +kernel
theorem dX0_look_61 : decode cX0_look 61 = .ok (.iload 5, 2) := by decide +kernel
theorem dX0_look_63 : decode cX0_look 63 = .ok (.ishr, 1) := by decide +kernel
theorem dX0_look_64 : decode cX0_look 64 = .ok (.iconst 1, 1) := by decide +kernel
theorem dX0_look_65 : decode cX0_look 65 = .ok (.iand, 1) := by decide +kernel
theorem dX0_look_66 : decode cX0_look 66 = .ok (.iconst 1, 1) := by decide +kernel
theorem dX0_look_67 : decode cX0_look 67 = .ok (.if_icmp .ne 7, 3) := by decide +kernel
theorem dX0_look_70 : decode cX0_look 70 = .ok (.iconst 1, 1) := by decide +kernel
theorem dX0_look_71 : decode cX0_look 71 = .ok (.goto 4, 3) := by decide +kernel
theorem dX0_look_74 : decode cX0_look 74 = .ok (.iconst 0, 1) := by decide +kernel
theorem dX0_look_75 : decode cX0_look 75 = .ok (.iastore, 1) := by decide +kernel
theorem dX0_look_76 : decode cX0_look 76 = .ok (.iinc 5 1, 3) := by decide +kernel
theorem dX0_look_79 : decode cX0_look 79 = .ok (.goto (-35), 3) := by decide +kernel
theorem dX0_look_82 : decode cX0_look 82 = .ok (.aload_n 2, 1) := by decide +kernel
theorem dX0_look_83 : decode cX0_look 83 = .ok (.aload_n 1, 1) := by decide +kernel
theorem dX0_look_84 : decode cX0_look 84 = .ok (.invokevirtual 35, 3) := by decide +kernel
theorem dX0_look_87 : decode cX0_look 87 = .ok (.aload_n 1, 1) := by decide +kernel
theorem dX0_look_88 : decode cX0_look 88 = .ok (.aload_n 2, 1) := by decide +kernel
theorem dX0_look_89 : decode cX0_look 89 = .ok (.aload_n 3, 1) := by decide +kernel
theorem dX0_look_90 : decode cX0_look 90 = .ok (.invokestatic 41, 3) := by decide +kernel
theorem dX0_look_93 : decode cX0_look 93 = .ok (.ifCond .eq 9, 3) := by decide +kernel
theorem dX0_look_96 : decode cX0_look 96 = .ok (.aload_n 0, 1) := by decide +kernel
theorem dX0_look_97 : decode cX0_look 97 = .ok (.iload 4, 2) := by decide +kernel
theorem dX0_look_99 : decode cX0_look 99 = .ok (.invokevirtual 45, 3) := by decide +kernel
theorem dX0_look_102 : decode cX0_look 102 = .ok (.iinc 4 1, 3) := by decide +kernel
theorem dX0_look_105 : decode cX0_look 105 = .ok (.goto (-75), 3) := by decide +kernel
theorem dX0_look_108 : decode cX0_look 108 = .ok (.return_, 1) := by decide +kernel
theorem dX0_explains_0 : decode cX0_explains 0 = .ok (.iconst 0, 1) := by decide +kernel
theorem dX0_explains_1 : decode cX0_explains 1 = .ok (.istore_n 3, 1) := by decide +kernel
theorem dX0_explains_2 : decode cX0_explains 2 = .ok (.iload_n 3, 1) := by decide +kernel
theorem dX0_explains_3 : decode cX0_explains 3 = .ok (.aload_n 0, 1) := by decide +kernel
theorem dX0_explains_4 : decode cX0_explains 4 = .ok (.getfield 21, 3) := by decide +kernel
theorem dX0_explains_7 : decode cX0_explains 7 = .ok (.if_icmp .ge 34, 3) := by decide +kernel
theorem dX0_explains_10 : decode cX0_explains 10 = .ok (.iload_n 3, 1) := by decide +kernel
theorem dX0_explains_11 : decode cX0_explains 11 = .ok (.aload_n 2, 1) := by decide +kernel
theorem dX0_explains_12 : decode cX0_explains 12 = .ok (.getfield 49, 3) := by decide +kernel
theorem dX0_explains_15 : decode cX0_explains 15 = .ok (.if_icmp .ge 26, 3) := by decide +kernel
theorem dX0_explains_18 : decode cX0_explains 18 = .ok (.aload_n 1, 1) := by decide +kernel
theorem dX0_explains_19 : decode cX0_explains 19 = .ok (.getfield 54, 3) := by decide +kernel
theorem dX0_explains_22 : decode cX0_explains 22 = .ok (.iload_n 3, 1) := by decide +kernel
theorem dX0_explains_23 : decode cX0_explains 23 = .ok (.iaload, 1) := by decide +kernel
theorem dX0_explains_24 : decode cX0_explains 24 = .ok (.aload_n 2, 1) := by decide +kernel
theorem dX0_explains_25 : decode cX0_explains 25 = .ok (.getfield 57, 3) := by decide +kernel
theorem dX0_explains_28 : decode cX0_explains 28 = .ok (.iload_n 3, 1) := by decide +kernel
theorem dX0_explains_29 : decode cX0_explains 29 = .ok (.iaload, 1) := by decide +kernel
theorem dX0_explains_30 : decode cX0_explains 30 = .ok (.if_icmp .eq 5, 3) := by decide +kernel
theorem dX0_explains_33 : decode cX0_explains 33 = .ok (.iconst 0, 1) := by decide +kernel
theorem dX0_explains_34 : decode cX0_explains 34 = .ok (.ireturn, 1) := by decide +kernel
theorem dX0_explains_35 : decode cX0_explains 35 = .ok (.iinc 3 1, 3) := by decide +kernel
theorem dX0_explains_38 : decode cX0_explains 38 = .ok (.goto (-36), 3) := by decide +kernel
theorem dX0_explains_41 : decode cX0_explains 41 = .ok (.iconst 1, 1) := by decide +kernel
theorem dX0_explains_42 : decode cX0_explains 42 = .ok (.ireturn, 1) := by decide +kernel
theorem dX0_note_0 : decode cX0_note 0 = .ok (.aload_n 0, 1) := by decide +kernel
theorem dX0_note_1 : decode cX0_note 1 = .ok (.getfield 9, 3) := by decide +kernel
theorem dX0_note_4 : decode cX0_note 4 = .ok (.ifCond .ne 8, 3) := by decide +kernel
theorem dX0_note_7 : decode cX0_note 7 = .ok (.aload_n 0, 1) := by decide +kernel
theorem dX0_note_8 : decode cX0_note 8 = .ok (.iload_n 1, 1) := by decide +kernel
theorem dX0_note_9 : decode cX0_note 9 = .ok (.putfield 15, 3) := by decide +kernel
theorem dX0_note_12 : decode cX0_note 12 = .ok (.aload_n 0, 1) := by decide +kernel
theorem dX0_note_13 : decode cX0_note 13 = .ok (.dup, 1) := by decide +kernel
theorem dX0_note_14 : decode cX0_note 14 = .ok (.getfield 9, 3) := by decide +kernel
theorem dX0_note_17 : decode cX0_note 17 = .ok (.iconst 1, 1) := by decide +kernel
theorem dX0_note_18 : decode cX0_note 18 = .ok (.iadd, 1) := by decide +kernel
theorem dX0_note_19 : decode cX0_note 19 = .ok (.putfield 9, 3) := by decide +kernel
theorem dX0_note_22 : decode cX0_note 22 = .ok (.aload_n 0, 1) := by decide +kernel
theorem dX0_note_23 : decode cX0_note 23 = .ok (.dup, 1) := by decide +kernel
theorem dX0_note_24 : decode cX0_note 24 = .ok (.getfield 26, 3) := by decide +kernel
theorem dX0_note_27 : decode cX0_note 27 = .ok (.iload_n 1, 1) := by decide +kernel
theorem dX0_note_28 : decode cX0_note 28 = .ok (.iand, 1) := by decide +kernel
theorem dX0_note_29 : decode cX0_note 29 = .ok (.putfield 26, 3) := by decide +kernel
theorem dX0_note_32 : decode cX0_note 32 = .ok (.aload_n 0, 1) := by decide +kernel
theorem dX0_note_33 : decode cX0_note 33 = .ok (.dup, 1) := by decide +kernel
theorem dX0_note_34 : decode cX0_note 34 = .ok (.getfield 18, 3) := by decide +kernel
theorem dX0_note_37 : decode cX0_note 37 = .ok (.iload_n 1, 1) := by decide +kernel
theorem dX0_note_38 : decode cX0_note 38 = .ok (.ior, 1) := by decide +kernel
theorem dX0_note_39 : decode cX0_note 39 = .ok (.putfield 18, 3) := by decide +kernel
theorem dX0_note_42 : decode cX0_note 42 = .ok (.return_, 1) := by decide +kernel
theorem dX1_init_0 : decode cX1_init 0 = .ok (.aload_n 0, 1) := by decide +kernel
theorem dX1_init_1 : decode cX1_init 1 = .ok (.invokespecial 3, 3) := by decide +kernel
theorem dX1_init_4 : decode cX1_init 4 = .ok (.aload_n 0, 1) := by decide +kernel
theorem dX1_init_5 : decode cX1_init 5 = .ok (.bipush 10, 2) := by decide +kernel
theorem dX1_init_7 : decode cX1_init 7 = .ok (.newarray .int, 2) := by decide +kernel
theorem dX1_init_9 : decode cX1_init 9 = .ok (.putfield 9, 3) := by decide +kernel
theorem dX1_init_12 : decode cX1_init 12 = .ok (.aload_n 0, 1) := by decide +kernel
theorem dX1_init_13 : decode cX1_init 13 = .ok (.bipush 10, 2) := by decide +kernel
theorem dX1_init_15 : decode cX1_init 15 = .ok (.newarray .int, 2) := by decide +kernel
theorem dX1_init_17 : decode cX1_init 17 = .ok (.putfield 15, 3) := by decide +kernel
theorem dX1_init_20 : decode cX1_init 20 = .ok (.aload_n 0, 1) := by decide +kernel
theorem dX1_init_21 : decode cX1_init 21 = .ok (.bipush 10, 2) := by decide +kernel
theorem dX1_init_23 : decode cX1_init 23 = .ok (.newarray .int, 2) := by decide +kernel
theorem dX1_init_25 : decode cX1_init 25 = .ok (.putfield 18, 3) := by decide +kernel
theorem dX1_init_28 : decode cX1_init 28 = .ok (.aload_n 0, 1) := by decide +kernel
theorem dX1_init_29 : decode cX1_init 29 = .ok (.bipush 10, 2) := by decide +kernel
theorem dX1_init_31 : decode cX1_init 31 = .ok (.newarray .int, 2) := by decide +kernel
theorem dX1_init_33 : decode cX1_init 33 = .ok (.putfield 21, 3) := by decide +kernel
theorem dX1_init_36 : decode cX1_init 36 = .ok (.aload_n 0, 1) := by decide +kernel
theorem dX1_init_37 : decode cX1_init 37 = .ok (.bipush 10, 2) := by decide +kernel
theorem dX1_init_39 : decode cX1_init 39 = .ok (.newarray .int, 2) := by decide +kernel
theorem dX1_init_41 : decode cX1_init 41 = .ok (.putfield 24, 3) := by decide +kernel
theorem dX1_init_44 : decode cX1_init 44 = .ok (.return_, 1) := by decide +kernel
set_option maxRecDepth 20000 in
theorem ggX1_pass_X1_reckon : GoodIn wsX1_pass wsX1_reckon := goodIn_r _ [11, 4, 5, 6, 12, 13, 14, 15, 16, 17, 10, 18, 19, 20, 21, 22, 23, 24, 25, 26, 27, 28, 29, 30, 31, 32, 33, 34, 35, 36, 37, 38, 39, 40, 41, 42, 43, 44, 45, 46, 47, 48, 49, 50, 51, 52, 64, 65, 66, 67, 68, 69, 70, 71, 72, 73, 74, 75, 76, 77, 78, 79, 80, 81, 82, 83, 84, 85] (by exact rfl) (by decide +kernel)
set_option maxRecDepth 20000 in
theorem gX1_pass_X1_reckon : GoodIn wsX1_pass (wsV RX1 37 RX1 yX1_reckon wsX1_reckon) := goodIn_app (goodIn_of _ (by decide +kernel)) ggX1_pass_X1_reckon
set_option maxRecDepth 20000 in
theorem ggX1_pass_X2_take : GoodIn wsX1_pass wsX2_take := goodIn_r _ [57, 58, 59, 60, 61, 62, 63, 76, 77, 78, 79, 80, 81, 82, 83, 84, 85, 64, 65, 66, 67, 68, 69, 70, 71, 72, 73, 74, 75] (by exact rfl) (by decide +kernel)
set_option maxRecDepth 20000 in
theorem gX1_pass_X2_take : GoodIn wsX1_pass (wsV RX1 41 RX2 yX2_take wsX2_take) := goodIn_app (goodIn_of _ (by decide +kernel)) ggX1_pass_X2_take
theorem dX1_pass_0 : decode cX1_pass 0 = .ok (.aload_n 0, 1) := by decide +kernel
theorem dX1_pass_1 : decode cX1_pass 1 = .ok (.iconst 0, 1) := by decide +kernel
theorem dX1_pass_2 : decode cX1_pass 2 = .ok (.putfield 27, 3) := by decide +kernel
theorem dX1_pass_5 : decode cX1_pass 5 = .ok (.aload_n 0, 1) := by decide +kernel
theorem dX1_pass_6 : decode cX1_pass 6 = .ok (.iconst 0, 1) := by decide +kernel
theorem dX1_pass_7 : decode cX1_pass 7 = .ok (.putfield 31, 3) := by decide +kernel
theorem dX1_pass_10 : decode cX1_pass 10 = .ok (.aload_n 0, 1) := by decide +kernel
theorem dX1_pass_11 : decode cX1_pass 11 = .ok (.iconst 0, 1) := by decide +kernel
theorem dX1_pass_12 : decode cX1_pass 12 = .ok (.putfield 34, 3) := by decide +kernel
theorem dX1_pass_15 : decode cX1_pass 15 = .ok (.iconst 0, 1) := by decide +kernel
theorem dX1_pass_16 : decode cX1_pass 16 = .ok (.istore_n 3, 1) := by decide +kernel
theorem dX1_pass_17 : decode cX1_pass 17 = .ok (.iload_n 3, 1) := by decide +kernel
theorem dX1_pass_18 : decode cX1_pass 18 = .ok (.iload_n 2, 1) := by decide +kernel
theorem dX1_pass_19 : decode cX1_pass 19 = .ok (.if_icmp .ge 58, 3) := by decide +kernel
theorem dX1_pass_22 : decode cX1_pass 22 = .ok (.aload_n 0, 1) := by decide +kernel
theorem dX1_pass_23 : decode cX1_pass 23 = .ok (.aload_n 1, 1) := by decide +kernel
theorem dX1_pass_24 : decode cX1_pass 24 = .ok (.invokevirtual 37, 3) := by decide +kernel
theorem dX1_pass_27 : decode cX1_pass 27 = .ok (.aload_n 1, 1) := by decide +kernel
theorem dX1_pass_28 : decode cX1_pass 28 = .ok (.aload_n 0, 1) := by decide +kernel
theorem dX1_pass_29 : decode cX1_pass 29 = .ok (.invokevirtual 41, 3) := by decide +kernel
theorem dX1_pass_32 : decode cX1_pass 32 = .ok (.aload_n 0, 1) := by decide +kernel
theorem dX1_pass_33 : decode cX1_pass 33 = .ok (.dup, 1) := by decide +kernel
theorem dX1_pass_34 : decode cX1_pass 34 = .ok (.getfield 27, 3) := by decide +kernel
theorem dX1_pass_37 : decode cX1_pass 37 = .ok (.aload_n 0, 1) := by decide +kernel
theorem dX1_pass_38 : decode cX1_pass 38 = .ok (.getfield 47, 3) := by decide +kernel
theorem dX1_pass_41 : decode cX1_pass 41 = .ok (.iadd, 1) := by decide +kernel
theorem dX1_pass_42 : decode cX1_pass 42 = .ok (.putfield 27, 3) := by decide +kernel
theorem dX1_pass_45 : decode cX1_pass 45 = .ok (.aload_n 0, 1) := by decide +kernel
theorem dX1_pass_46 : decode cX1_pass 46 = .ok (.dup, 1) := by decide +kernel
theorem dX1_pass_47 : decode cX1_pass 47 = .ok (.getfield 31, 3) := by decide +kernel
theorem dX1_pass_50 : decode cX1_pass 50 = .ok (.aload_n 0, 1) := by decide +kernel
theorem dX1_pass_51 : decode cX1_pass 51 = .ok (.getfield 50, 3) := by decide +kernel
theorem dX1_pass_54 : decode cX1_pass 54 = .ok (.iadd, 1) := by decide +kernel
theorem dX1_pass_55 : decode cX1_pass 55 = .ok (.putfield 31, 3) := by decide +kernel
theorem dX1_pass_58 : decode cX1_pass 58 = .ok (.aload_n 0, 1) := by decide +kernel
theorem dX1_pass_59 : decode cX1_pass 59 = .ok (.dup, 1) := by decide +kernel
theorem dX1_pass_60 : decode cX1_pass 60 = .ok (.getfield 34, 3) := by decide +kernel
theorem dX1_pass_63 : decode cX1_pass 63 = .ok (.aload_n 0, 1) := by decide +kernel
theorem dX1_pass_64 : decode cX1_pass 64 = .ok (.getfield 53, 3) := by decide +kernel
theorem dX1_pass_67 : decode cX1_pass 67 = .ok (.iadd, 1) := by decide +kernel
theorem dX1_pass_68 : decode cX1_pass 68 = .ok (.putfield 34, 3) := by decide +kernel
theorem dX1_pass_71 : decode cX1_pass 71 = .ok (.iinc 3 1, 3) := by decide +kernel
theorem dX1_pass_74 : decode cX1_pass 74 = .ok (.goto (-57), 3) := by decide +kernel
theorem dX1_pass_77 : decode cX1_pass 77 = .ok (.return_, 1) := by decide +kernel
set_option maxRecDepth 20000 in
theorem ggX1_reckon_X1_measure : GoodIn wsX1_reckon wsX1_measure := goodIn_r _ [11, 5, 12, 13, 14, 58, 59, 60, 61, 62, 63, 64, 65, 66, 67, 46, 47, 48, 49, 50, 51, 52, 53, 54, 55, 56, 57] (by exact rfl) (by decide +kernel)
set_option maxRecDepth 20000 in
theorem gX1_reckon_X1_measure : GoodIn wsX1_reckon (wsV RX1 59 RX1 yX1_measure wsX1_measure) := goodIn_app (goodIn_of _ (by decide +kernel)) ggX1_reckon_X1_measure
set_option maxRecDepth 20000 in
theorem ggX1_reckon_X1_comingTo : GoodIn wsX1_reckon wsX1_comingTo := goodIn_r _ [18, 13, 19, 12, 20, 14, 3, 4, 58, 59, 60, 61, 62, 63, 64, 65, 66, 67, 46, 47, 48, 49, 50, 51, 52, 53, 54, 55, 56, 57] (by exact rfl) (by decide +kernel)
set_option maxRecDepth 20000 in
theorem gX1_reckon_X1_comingTo : GoodIn wsX1_reckon (wsV RX1 65 RX1 yX1_comingTo wsX1_comingTo) := goodIn_app (goodIn_of _ (by decide +kernel)) ggX1_reckon_X1_comingTo
set_option maxRecDepth 20000 in
theorem ggX1_reckon_X1_divide : GoodIn wsX1_reckon wsX1_divide := goodIn_r _ [24, 25, 6, 26, 27, 28, 20, 2, 1, 3, 12, 4, 29, 30, 31, 32, 33, 34, 35, 36, 37, 38, 39, 40, 41, 42, 43, 44, 45, 58, 59, 60, 61, 62, 63, 64, 65, 66, 67, 46, 47, 48, 49, 50, 51, 52, 53, 54, 55, 56, 57] (by exact rfl) (by decide +kernel)
set_option maxRecDepth 20000 in
theorem gX1_reckon_X1_divide : GoodIn wsX1_reckon (wsV RX1 69 RX1 yX1_divide wsX1_divide) := goodIn_app (goodIn_of _ (by decide +kernel)) ggX1_reckon_X1_divide
theorem dX1_reckon_0 : decode cX1_reckon 0 = .ok (.aload_n 0, 1) := by decide +kernel
theorem dX1_reckon_1 : decode cX1_reckon 1 = .ok (.iconst 0, 1) := by decide +kernel
theorem dX1_reckon_2 : decode cX1_reckon 2 = .ok (.putfield 47, 3) := by decide +kernel
theorem dX1_reckon_5 : decode cX1_reckon 5 = .ok (.aload_n 0, 1) := by decide +kernel
theorem dX1_reckon_6 : decode cX1_reckon 6 = .ok (.iconst 0, 1) := by decide +kernel
theorem dX1_reckon_7 : decode cX1_reckon 7 = .ok (.putfield 50, 3) := by decide +kernel
theorem dX1_reckon_10 : decode cX1_reckon 10 = .ok (.aload_n 0, 1) := by decide +kernel
theorem dX1_reckon_11 : decode cX1_reckon 11 = .ok (.iconst 0, 1) := by decide +kernel
theorem dX1_reckon_12 : decode cX1_reckon 12 = .ok (.putfield 53, 3) := by decide +kernel
theorem dX1_reckon_15 : decode cX1_reckon 15 = .ok (.aload_n 0, 1) := by decide +kernel
theorem dX1_reckon_16 : decode cX1_reckon 16 = .ok (.iconst 0, 1) := by decide +kernel
theorem dX1_reckon_17 : decode cX1_reckon 17 = .ok (.putfield 56, 3) := by decide +kernel
theorem dX1_reckon_20 : decode cX1_reckon 20 = .ok (.aload_n 0, 1) := by decide +kernel
theorem dX1_reckon_21 : decode cX1_reckon 21 = .ok (.aload_n 1, 1) := by decide +kernel
theorem dX1_reckon_22 : decode cX1_reckon 22 = .ok (.invokevirtual 59, 3) := by decide +kernel
theorem dX1_reckon_25 : decode cX1_reckon 25 = .ok (.iconst 0, 1) := by decide +kernel
theorem dX1_reckon_26 : decode cX1_reckon 26 = .ok (.istore_n 2, 1) := by decide +kernel
theorem dX1_reckon_27 : decode cX1_reckon 27 = .ok (.iload_n 2, 1) := by decide +kernel
theorem dX1_reckon_28 : decode cX1_reckon 28 = .ok (.aload_n 1, 1) := by decide +kernel
theorem dX1_reckon_29 : decode cX1_reckon 29 = .ok (.getfield 62, 3) := by decide +kernel
theorem dX1_reckon_32 : decode cX1_reckon 32 = .ok (.if_icmp .ge 27, 3) := by decide +kernel
theorem dX1_reckon_35 : decode cX1_reckon 35 = .ok (.aload_n 0, 1) := by decide +kernel
theorem dX1_reckon_36 : decode cX1_reckon 36 = .ok (.getfield 9, 3) := by decide +kernel
theorem dX1_reckon_39 : decode cX1_reckon 39 = .ok (.iload_n 2, 1) := by decide +kernel
theorem dX1_reckon_40 : decode cX1_reckon 40 = .ok (.aload_n 0, 1) := by decide +kernel
theorem dX1_reckon_41 : decode cX1_reckon 41 = .ok (.aload_n 1, 1) := by decide +kernel
theorem dX1_reckon_42 : decode cX1_reckon 42 = .ok (.iload_n 2, 1) := by decide +kernel
theorem dX1_reckon_43 : decode cX1_reckon 43 = .ok (.invokevirtual 65, 3) := by decide +kernel
theorem dX1_reckon_46 : decode cX1_reckon 46 = .ok (.iastore, 1) := by decide +kernel
theorem dX1_reckon_47 : decode cX1_reckon 47 = .ok (.aload_n 0, 1) := by decide +kernel
theorem dX1_reckon_48 : decode cX1_reckon 48 = .ok (.aload_n 1, 1) := by decide +kernel
theorem dX1_reckon_49 : decode cX1_reckon 49 = .ok (.iload_n 2, 1) := by decide +kernel
theorem dX1_reckon_50 : decode cX1_reckon 50 = .ok (.invokevirtual 69, 3) := by decide +kernel
theorem dX1_reckon_53 : decode cX1_reckon 53 = .ok (.iinc 2 1, 3) := by decide +kernel
theorem dX1_reckon_56 : decode cX1_reckon 56 = .ok (.goto (-29), 3) := by decide +kernel
theorem dX1_reckon_59 : decode cX1_reckon 59 = .ok (.return_, 1) := by decide +kernel
theorem dX1_measure_0 : decode cX1_measure 0 = .ok (.iconst 0, 1) := by decide +kernel
theorem dX1_measure_1 : decode cX1_measure 1 = .ok (.istore_n 2, 1) := by decide +kernel
theorem dX1_measure_2 : decode cX1_measure 2 = .ok (.iload_n 2, 1) := by decide +kernel
theorem dX1_measure_3 : decode cX1_measure 3 = .ok (.aload_n 1, 1) := by decide +kernel
theorem dX1_measure_4 : decode cX1_measure 4 = .ok (.getfield 62, 3) := by decide +kernel
theorem dX1_measure_7 : decode cX1_measure 7 = .ok (.if_icmp .ge 47, 3) := by decide +kernel
theorem dX1_measure_10 : decode cX1_measure 10 = .ok (.aload_n 0, 1) := by decide +kernel
theorem dX1_measure_11 : decode cX1_measure 11 = .ok (.getfield 24, 3) := by decide +kernel
theorem dX1_measure_14 : decode cX1_measure 14 = .ok (.iload_n 2, 1) := by decide +kernel
theorem dX1_measure_15 : decode cX1_measure 15 = .ok (.iconst 0, 1) := by decide +kernel
theorem dX1_measure_16 : decode cX1_measure 16 = .ok (.iastore, 1) := by decide +kernel
theorem dX1_measure_17 : decode cX1_measure 17 = .ok (.aload_n 1, 1) := by decide +kernel
theorem dX1_measure_18 : decode cX1_measure 18 = .ok (.getfield 73, 3) := by decide +kernel
theorem dX1_measure_21 : decode cX1_measure 21 = .ok (.iload_n 2, 1) := by decide +kernel
theorem dX1_measure_22 : decode cX1_measure 22 = .ok (.iaload, 1) := by decide +kernel
theorem dX1_measure_23 : decode cX1_measure 23 = .ok (.istore_n 3, 1) := by decide +kernel
theorem dX1_measure_24 : decode cX1_measure 24 = .ok (.iload_n 3, 1) := by decide +kernel
theorem dX1_measure_25 : decode cX1_measure 25 = .ok (.ifCond .lt 23, 3) := by decide +kernel
theorem dX1_measure_28 : decode cX1_measure 28 = .ok (.iload_n 3, 1) := by decide +kernel
theorem dX1_measure_29 : decode cX1_measure 29 = .ok (.iload_n 2, 1) := by decide +kernel
theorem dX1_measure_30 : decode cX1_measure 30 = .ok (.if_icmp .ge 18, 3) := by decide +kernel
theorem dX1_measure_33 : decode cX1_measure 33 = .ok (.aload_n 0, 1) := by decide +kernel
theorem dX1_measure_34 : decode cX1_measure 34 = .ok (.getfield 24, 3) := by decide +kernel
theorem dX1_measure_37 : decode cX1_measure 37 = .ok (.iload_n 3, 1) := by decide +kernel
theorem dX1_measure_38 : decode cX1_measure 38 = .ok (.dup2, 1) := by decide +kernel
theorem dX1_measure_39 : decode cX1_measure 39 = .ok (.iaload, 1) := by decide +kernel
theorem dX1_measure_40 : decode cX1_measure 40 = .ok (.aload_n 1, 1) := by decide +kernel
theorem dX1_measure_41 : decode cX1_measure 41 = .ok (.getfield 76, 3) := by decide +kernel
theorem dX1_measure_44 : decode cX1_measure 44 = .ok (.iload_n 2, 1) := by decide +kernel
theorem dX1_measure_45 : decode cX1_measure 45 = .ok (.iaload, 1) := by decide +kernel
theorem dX1_measure_46 : decode cX1_measure 46 = .ok (.iadd, 1) := by decide +kernel
theorem dX1_measure_47 : decode cX1_measure 47 = .ok (.iastore, 1) := by decide +kernel
theorem dX1_measure_48 : decode cX1_measure 48 = .ok (.iinc 2 1, 3) := by decide +kernel
theorem dX1_measure_51 : decode cX1_measure 51 = .ok (.goto (-49), 3) := by decide +kernel
theorem dX1_measure_54 : decode cX1_measure 54 = .ok (.return_, 1) := by decide +kernel
theorem dX1_comingTo_0 : decode cX1_comingTo 0 = .ok (.aload_n 1, 1) := by decide +kernel
theorem dX1_comingTo_1 : decode cX1_comingTo 1 = .ok (.getfield 73, 3) := by decide +kernel
theorem dX1_comingTo_4 : decode cX1_comingTo 4 = .ok (.iload_n 2, 1) := by decide +kernel
theorem dX1_comingTo_5 : decode cX1_comingTo 5 = .ok (.iaload, 1) := by decide +kernel
theorem dX1_comingTo_6 : decode cX1_comingTo 6 = .ok (.istore_n 3, 1) := by decide +kernel
theorem dX1_comingTo_7 : decode cX1_comingTo 7 = .ok (.iload_n 3, 1) := by decide +kernel
theorem dX1_comingTo_8 : decode cX1_comingTo 8 = .ok (.ifCond .lt 8, 3) := by decide +kernel
theorem dX1_comingTo_11 : decode cX1_comingTo 11 = .ok (.iload_n 3, 1) := by decide +kernel
theorem dX1_comingTo_12 : decode cX1_comingTo 12 = .ok (.iload_n 2, 1) := by decide +kernel
theorem dX1_comingTo_13 : decode cX1_comingTo 13 = .ok (.if_icmp .lt 8, 3) := by decide +kernel
theorem dX1_comingTo_16 : decode cX1_comingTo 16 = .ok (.aload_n 1, 1) := by decide +kernel
theorem dX1_comingTo_17 : decode cX1_comingTo 17 = .ok (.getfield 79, 3) := by decide +kernel
theorem dX1_comingTo_20 : decode cX1_comingTo 20 = .ok (.ireturn, 1) := by decide +kernel
theorem dX1_comingTo_21 : decode cX1_comingTo 21 = .ok (.aload_n 0, 1) := by decide +kernel
theorem dX1_comingTo_22 : decode cX1_comingTo 22 = .ok (.getfield 24, 3) := by decide +kernel
theorem dX1_comingTo_25 : decode cX1_comingTo 25 = .ok (.iload_n 3, 1) := by decide +kernel
theorem dX1_comingTo_26 : decode cX1_comingTo 26 = .ok (.iaload, 1) := by decide +kernel
theorem dX1_comingTo_27 : decode cX1_comingTo 27 = .ok (.istore 4, 2) := by decide +kernel
theorem dX1_comingTo_29 : decode cX1_comingTo 29 = .ok (.iload 4, 2) := by decide +kernel
theorem dX1_comingTo_31 : decode cX1_comingTo 31 = .ok (.ifCond .gt 5, 3) := by decide +kernel
theorem dX1_comingTo_34 : decode cX1_comingTo 34 = .ok (.iconst 0, 1) := by decide +kernel
theorem dX1_comingTo_35 : decode cX1_comingTo 35 = .ok (.ireturn, 1) := by decide +kernel
theorem dX1_comingTo_36 : decode cX1_comingTo 36 = .ok (.aload_n 0, 1) := by decide +kernel
theorem dX1_comingTo_37 : decode cX1_comingTo 37 = .ok (.getfield 21, 3) := by decide +kernel
theorem dX1_comingTo_40 : decode cX1_comingTo 40 = .ok (.iload_n 3, 1) := by decide +kernel
theorem dX1_comingTo_41 : decode cX1_comingTo 41 = .ok (.iaload, 1) := by decide +kernel
theorem dX1_comingTo_42 : decode cX1_comingTo 42 = .ok (.aload_n 1, 1) := by decide +kernel
theorem dX1_comingTo_43 : decode cX1_comingTo 43 = .ok (.getfield 76, 3) := by decide +kernel
theorem dX1_comingTo_46 : decode cX1_comingTo 46 = .ok (.iload_n 2, 1) := by decide +kernel
theorem dX1_comingTo_47 : decode cX1_comingTo 47 = .ok (.iaload, 1) := by decide +kernel
theorem dX1_comingTo_48 : decode cX1_comingTo 48 = .ok (.imul, 1) := by decide +kernel
theorem dX1_comingTo_49 : decode cX1_comingTo 49 = .ok (.iload 4, 2) := by decide +kernel
theorem dX1_comingTo_51 : decode cX1_comingTo 51 = .ok (.idiv, 1) := by decide +kernel
theorem dX1_comingTo_52 : decode cX1_comingTo 52 = .ok (.istore 5, 2) := by decide +kernel
theorem dX1_comingTo_54 : decode cX1_comingTo 54 = .ok (.aload_n 0, 1) := by decide +kernel
theorem dX1_comingTo_55 : decode cX1_comingTo 55 = .ok (.dup, 1) := by decide +kernel
theorem dX1_comingTo_56 : decode cX1_comingTo 56 = .ok (.getfield 53, 3) := by decide +kernel
theorem dX1_comingTo_59 : decode cX1_comingTo 59 = .ok (.iload 5, 2) := by decide +kernel
theorem dX1_comingTo_61 : decode cX1_comingTo 61 = .ok (.isub, 1) := by decide +kernel
theorem dX1_comingTo_62 : decode cX1_comingTo 62 = .ok (.putfield 53, 3) := by decide +kernel
theorem dX1_comingTo_65 : decode cX1_comingTo 65 = .ok (.aload_n 0, 1) := by decide +kernel
theorem dX1_comingTo_66 : decode cX1_comingTo 66 = .ok (.dup, 1) := by decide +kernel
theorem dX1_comingTo_67 : decode cX1_comingTo 67 = .ok (.getfield 56, 3) := by decide +kernel
theorem dX1_comingTo_70 : decode cX1_comingTo 70 = .ok (.iload 5, 2) := by decide +kernel
theorem dX1_comingTo_72 : decode cX1_comingTo 72 = .ok (.isub, 1) := by decide +kernel
theorem dX1_comingTo_73 : decode cX1_comingTo 73 = .ok (.putfield 56, 3) := by decide +kernel
theorem dX1_comingTo_76 : decode cX1_comingTo 76 = .ok (.iload 5, 2) := by decide +kernel
theorem dX1_comingTo_78 : decode cX1_comingTo 78 = .ok (.ireturn, 1) := by decide +kernel
set_option maxRecDepth 20000 in
theorem ggX1_divide_X3_leaks : GoodIn wsX1_divide wsX3_leaks := goodIn_r _ [15, 16, 17, 14, 18] (by exact rfl) (by decide +kernel)
set_option maxRecDepth 20000 in
theorem gX1_divide_X3_leaks : GoodIn wsX1_divide (va_wsS RX1 85 yX3_leaks wsX3_leaks) := goodIn_app (goodIn_of _ (by decide +kernel)) ggX1_divide_X3_leaks
set_option maxRecDepth 20000 in
theorem ggX1_divide_X3_keeps : GoodIn wsX1_divide wsX3_keeps := goodIn_r _ [21] (by exact rfl) (by decide +kernel)
set_option maxRecDepth 20000 in
theorem gX1_divide_X3_keeps : GoodIn wsX1_divide (va_wsS RX1 91 yX3_keeps wsX3_keeps) := goodIn_app (goodIn_of _ (by decide +kernel)) ggX1_divide_X3_keeps
set_option maxRecDepth 20000 in
theorem ggX1_divide_X3_holds : GoodIn wsX1_divide wsX3_holds := goodIn_r _ [24, 25, 26, 27, 28] (by exact rfl) (by decide +kernel)
set_option maxRecDepth 20000 in
theorem gX1_divide_X3_holds : GoodIn wsX1_divide (va_wsS RX1 96 yX3_holds wsX3_holds) := goodIn_app (goodIn_of _ (by decide +kernel)) ggX1_divide_X3_holds
theorem dX1_divide_0 : decode cX1_divide 0 = .ok (.aload_n 1, 1) := by decide +kernel
theorem dX1_divide_1 : decode cX1_divide 1 = .ok (.getfield 82, 3) := by decide +kernel
theorem dX1_divide_4 : decode cX1_divide 4 = .ok (.iload_n 2, 1) := by decide +kernel
theorem dX1_divide_5 : decode cX1_divide 5 = .ok (.iaload, 1) := by decide +kernel
theorem dX1_divide_6 : decode cX1_divide 6 = .ok (.istore_n 3, 1) := by decide +kernel
theorem dX1_divide_7 : decode cX1_divide 7 = .ok (.iload_n 3, 1) := by decide +kernel
theorem dX1_divide_8 : decode cX1_divide 8 = .ok (.aload_n 0, 1) := by decide +kernel
theorem dX1_divide_9 : decode cX1_divide 9 = .ok (.getfield 9, 3) := by decide +kernel
theorem dX1_divide_12 : decode cX1_divide 12 = .ok (.iload_n 2, 1) := by decide +kernel
theorem dX1_divide_13 : decode cX1_divide 13 = .ok (.iaload, 1) := by decide +kernel
theorem dX1_divide_14 : decode cX1_divide 14 = .ok (.invokestatic 85, 3) := by decide +kernel
theorem dX1_divide_17 : decode cX1_divide 17 = .ok (.istore 4, 2) := by decide +kernel
theorem dX1_divide_19 : decode cX1_divide 19 = .ok (.aload_n 0, 1) := by decide +kernel
theorem dX1_divide_20 : decode cX1_divide 20 = .ok (.getfield 9, 3) := by decide +kernel
theorem dX1_divide_23 : decode cX1_divide 23 = .ok (.iload_n 2, 1) := by decide +kernel
theorem dX1_divide_24 : decode cX1_divide 24 = .ok (.iaload, 1) := by decide +kernel
theorem dX1_divide_25 : decode cX1_divide 25 = .ok (.iload 4, 2) := by decide +kernel
theorem dX1_divide_27 : decode cX1_divide 27 = .ok (.isub, 1) := by decide +kernel
theorem dX1_divide_28 : decode cX1_divide 28 = .ok (.istore 5, 2) := by decide +kernel
theorem dX1_divide_30 : decode cX1_divide 30 = .ok (.aload_n 0, 1) := by decide +kernel
theorem dX1_divide_31 : decode cX1_divide 31 = .ok (.getfield 15, 3) := by decide +kernel
theorem dX1_divide_34 : decode cX1_divide 34 = .ok (.iload_n 2, 1) := by decide +kernel
theorem dX1_divide_35 : decode cX1_divide 35 = .ok (.iload_n 3, 1) := by decide +kernel
theorem dX1_divide_36 : decode cX1_divide 36 = .ok (.iload 5, 2) := by decide +kernel
theorem dX1_divide_38 : decode cX1_divide 38 = .ok (.invokestatic 91, 3) := by decide +kernel
theorem dX1_divide_41 : decode cX1_divide 41 = .ok (.iastore, 1) := by decide +kernel
theorem dX1_divide_42 : decode cX1_divide 42 = .ok (.iload 5, 2) := by decide +kernel
theorem dX1_divide_44 : decode cX1_divide 44 = .ok (.aload_n 0, 1) := by decide +kernel
theorem dX1_divide_45 : decode cX1_divide 45 = .ok (.getfield 15, 3) := by decide +kernel
theorem dX1_divide_48 : decode cX1_divide 48 = .ok (.iload_n 2, 1) := by decide +kernel
theorem dX1_divide_49 : decode cX1_divide 49 = .ok (.iaload, 1) := by decide +kernel
theorem dX1_divide_50 : decode cX1_divide 50 = .ok (.isub, 1) := by decide +kernel
theorem dX1_divide_51 : decode cX1_divide 51 = .ok (.istore 5, 2) := by decide +kernel
theorem dX1_divide_53 : decode cX1_divide 53 = .ok (.aload_n 0, 1) := by decide +kernel
theorem dX1_divide_54 : decode cX1_divide 54 = .ok (.getfield 18, 3) := by decide +kernel
theorem dX1_divide_57 : decode cX1_divide 57 = .ok (.iload_n 2, 1) := by decide +kernel
theorem dX1_divide_58 : decode cX1_divide 58 = .ok (.iload_n 3, 1) := by decide +kernel
theorem dX1_divide_59 : decode cX1_divide 59 = .ok (.iload 5, 2) := by decide +kernel
theorem dX1_divide_61 : decode cX1_divide 61 = .ok (.aload_n 1, 1) := by decide +kernel
theorem dX1_divide_62 : decode cX1_divide 62 = .ok (.getfield 93, 3) := by decide +kernel
theorem dX1_divide_65 : decode cX1_divide 65 = .ok (.iload_n 2, 1) := by decide +kernel
theorem dX1_divide_66 : decode cX1_divide 66 = .ok (.iaload, 1) := by decide +kernel
theorem dX1_divide_67 : decode cX1_divide 67 = .ok (.invokestatic 96, 3) := by decide +kernel
theorem dX1_divide_70 : decode cX1_divide 70 = .ok (.iastore, 1) := by decide +kernel
theorem dX1_divide_71 : decode cX1_divide 71 = .ok (.iload 5, 2) := by decide +kernel
theorem dX1_divide_73 : decode cX1_divide 73 = .ok (.aload_n 0, 1) := by decide +kernel
theorem dX1_divide_74 : decode cX1_divide 74 = .ok (.getfield 18, 3) := by decide +kernel
theorem dX1_divide_77 : decode cX1_divide 77 = .ok (.iload_n 2, 1) := by decide +kernel
theorem dX1_divide_78 : decode cX1_divide 78 = .ok (.iaload, 1) := by decide +kernel
theorem dX1_divide_79 : decode cX1_divide 79 = .ok (.isub, 1) := by decide +kernel
theorem dX1_divide_80 : decode cX1_divide 80 = .ok (.istore 5, 2) := by decide +kernel
theorem dX1_divide_82 : decode cX1_divide 82 = .ok (.aload_n 0, 1) := by decide +kernel
theorem dX1_divide_83 : decode cX1_divide 83 = .ok (.getfield 21, 3) := by decide +kernel
theorem dX1_divide_86 : decode cX1_divide 86 = .ok (.iload_n 2, 1) := by decide +kernel
theorem dX1_divide_87 : decode cX1_divide 87 = .ok (.iload 5, 2) := by decide +kernel
theorem dX1_divide_89 : decode cX1_divide 89 = .ok (.iastore, 1) := by decide +kernel
theorem dX1_divide_90 : decode cX1_divide 90 = .ok (.aload_n 0, 1) := by decide +kernel
theorem dX1_divide_91 : decode cX1_divide 91 = .ok (.dup, 1) := by decide +kernel
theorem dX1_divide_92 : decode cX1_divide 92 = .ok (.getfield 50, 3) := by decide +kernel
theorem dX1_divide_95 : decode cX1_divide 95 = .ok (.iload 4, 2) := by decide +kernel
theorem dX1_divide_97 : decode cX1_divide 97 = .ok (.iadd, 1) := by decide +kernel
theorem dX1_divide_98 : decode cX1_divide 98 = .ok (.putfield 50, 3) := by decide +kernel
theorem dX1_divide_101 : decode cX1_divide 101 = .ok (.aload_n 0, 1) := by decide +kernel
theorem dX1_divide_102 : decode cX1_divide 102 = .ok (.dup, 1) := by decide +kernel
theorem dX1_divide_103 : decode cX1_divide 103 = .ok (.getfield 47, 3) := by decide +kernel
theorem dX1_divide_106 : decode cX1_divide 106 = .ok (.aload_n 0, 1) := by decide +kernel
theorem dX1_divide_107 : decode cX1_divide 107 = .ok (.getfield 15, 3) := by decide +kernel
theorem dX1_divide_110 : decode cX1_divide 110 = .ok (.iload_n 2, 1) := by decide +kernel
theorem dX1_divide_111 : decode cX1_divide 111 = .ok (.iaload, 1) := by decide +kernel
theorem dX1_divide_112 : decode cX1_divide 112 = .ok (.iadd, 1) := by decide +kernel
theorem dX1_divide_113 : decode cX1_divide 113 = .ok (.putfield 47, 3) := by decide +kernel
theorem dX1_divide_116 : decode cX1_divide 116 = .ok (.aload_n 0, 1) := by decide +kernel
theorem dX1_divide_117 : decode cX1_divide 117 = .ok (.dup, 1) := by decide +kernel
theorem dX1_divide_118 : decode cX1_divide 118 = .ok (.getfield 53, 3) := by decide +kernel
theorem dX1_divide_121 : decode cX1_divide 121 = .ok (.iload 5, 2) := by decide +kernel
theorem dX1_divide_123 : decode cX1_divide 123 = .ok (.iadd, 1) := by decide +kernel
theorem dX1_divide_124 : decode cX1_divide 124 = .ok (.putfield 53, 3) := by decide +kernel
theorem dX1_divide_127 : decode cX1_divide 127 = .ok (.aload_n 0, 1) := by decide +kernel
theorem dX1_divide_128 : decode cX1_divide 128 = .ok (.getfield 24, 3) := by decide +kernel
theorem dX1_divide_131 : decode cX1_divide 131 = .ok (.iload_n 2, 1) := by decide +kernel
theorem dX1_divide_132 : decode cX1_divide 132 = .ok (.iaload, 1) := by decide +kernel
theorem dX1_divide_133 : decode cX1_divide 133 = .ok (.ifCond .le 14, 3) := by decide +kernel
theorem dX1_divide_136 : decode cX1_divide 136 = .ok (.aload_n 0, 1) := by decide +kernel
theorem dX1_divide_137 : decode cX1_divide 137 = .ok (.dup, 1) := by decide +kernel
theorem dX1_divide_138 : decode cX1_divide 138 = .ok (.getfield 56, 3) := by decide +kernel
theorem dX1_divide_141 : decode cX1_divide 141 = .ok (.iload 5, 2) := by decide +kernel
theorem dX1_divide_143 : decode cX1_divide 143 = .ok (.iadd, 1) := by decide +kernel
theorem dX1_divide_144 : decode cX1_divide 144 = .ok (.putfield 56, 3) := by decide +kernel
theorem dX1_divide_147 : decode cX1_divide 147 = .ok (.return_, 1) := by decide +kernel
theorem dX2_init_0 : decode cX2_init 0 = .ok (.aload_n 0, 1) := by decide +kernel
theorem dX2_init_1 : decode cX2_init 1 = .ok (.invokespecial 3, 3) := by decide +kernel
theorem dX2_init_4 : decode cX2_init 4 = .ok (.aload_n 0, 1) := by decide +kernel
theorem dX2_init_5 : decode cX2_init 5 = .ok (.bipush 10, 2) := by decide +kernel
theorem dX2_init_7 : decode cX2_init 7 = .ok (.newarray .int, 2) := by decide +kernel
theorem dX2_init_9 : decode cX2_init 9 = .ok (.putfield 9, 3) := by decide +kernel
theorem dX2_init_12 : decode cX2_init 12 = .ok (.aload_n 0, 1) := by decide +kernel
theorem dX2_init_13 : decode cX2_init 13 = .ok (.bipush 10, 2) := by decide +kernel
theorem dX2_init_15 : decode cX2_init 15 = .ok (.newarray .int, 2) := by decide +kernel
theorem dX2_init_17 : decode cX2_init 17 = .ok (.putfield 15, 3) := by decide +kernel
theorem dX2_init_20 : decode cX2_init 20 = .ok (.aload_n 0, 1) := by decide +kernel
theorem dX2_init_21 : decode cX2_init 21 = .ok (.bipush 10, 2) := by decide +kernel
theorem dX2_init_23 : decode cX2_init 23 = .ok (.newarray .int, 2) := by decide +kernel
theorem dX2_init_25 : decode cX2_init 25 = .ok (.putfield 18, 3) := by decide +kernel
theorem dX2_init_28 : decode cX2_init 28 = .ok (.aload_n 0, 1) := by decide +kernel
theorem dX2_init_29 : decode cX2_init 29 = .ok (.bipush 10, 2) := by decide +kernel
theorem dX2_init_31 : decode cX2_init 31 = .ok (.newarray .int, 2) := by decide +kernel
theorem dX2_init_33 : decode cX2_init 33 = .ok (.putfield 21, 3) := by decide +kernel
theorem dX2_init_36 : decode cX2_init 36 = .ok (.aload_n 0, 1) := by decide +kernel
theorem dX2_init_37 : decode cX2_init 37 = .ok (.bipush 10, 2) := by decide +kernel
theorem dX2_init_39 : decode cX2_init 39 = .ok (.newarray .int, 2) := by decide +kernel
theorem dX2_init_41 : decode cX2_init 41 = .ok (.putfield 24, 3) := by decide +kernel
theorem dX2_init_44 : decode cX2_init 44 = .ok (.aload_n 0, 1) := by decide +kernel
theorem dX2_init_45 : decode cX2_init 45 = .ok (.bipush 10, 2) := by decide +kernel
theorem dX2_init_47 : decode cX2_init 47 = .ok (.newarray .int, 2) := by decide +kernel
theorem dX2_init_49 : decode cX2_init 49 = .ok (.putfield 27, 3) := by decide +kernel
theorem dX2_init_52 : decode cX2_init 52 = .ok (.iconst 0, 1) := by decide +kernel
theorem dX2_init_53 : decode cX2_init 53 = .ok (.istore_n 1, 1) := by decide +kernel
theorem dX2_init_54 : decode cX2_init 54 = .ok (.iload_n 1, 1) := by decide +kernel
theorem dX2_init_55 : decode cX2_init 55 = .ok (.bipush 10, 2) := by decide +kernel
theorem dX2_init_57 : decode cX2_init 57 = .ok (.if_icmp .ge 16, 3) := by decide +kernel
theorem dX2_init_60 : decode cX2_init 60 = .ok (.aload_n 0, 1) := by decide +kernel
theorem dX2_init_61 : decode cX2_init 61 = .ok (.getfield 27, 3) := by decide +kernel
theorem dX2_init_64 : decode cX2_init 64 = .ok (.iload_n 1, 1) := by decide +kernel
theorem dX2_init_65 : decode cX2_init 65 = .ok (.iconst (-1), 1) := by decide +kernel
theorem dX2_init_66 : decode cX2_init 66 = .ok (.iastore, 1) := by decide +kernel
theorem dX2_init_67 : decode cX2_init 67 = .ok (.iinc 1 1, 3) := by decide +kernel
theorem dX2_init_70 : decode cX2_init 70 = .ok (.goto (-16), 3) := by decide +kernel
theorem dX2_init_73 : decode cX2_init 73 = .ok (.aload_n 0, 1) := by decide +kernel
theorem dX2_init_74 : decode cX2_init 74 = .ok (.bipush 81, 2) := by decide +kernel
theorem dX2_init_76 : decode cX2_init 76 = .ok (.putfield 30, 3) := by decide +kernel
theorem dX2_init_79 : decode cX2_init 79 = .ok (.aload_n 0, 1) := by decide +kernel
theorem dX2_init_80 : decode cX2_init 80 = .ok (.iconst 1, 1) := by decide +kernel
theorem dX2_init_81 : decode cX2_init 81 = .ok (.putfield 34, 3) := by decide +kernel
theorem dX2_init_84 : decode cX2_init 84 = .ok (.return_, 1) := by decide +kernel
theorem dX2_become_0 : decode cX2_become 0 = .ok (.aload_n 1, 1) := by decide +kernel
theorem dX2_become_1 : decode cX2_become 1 = .ok (.getfield 9, 3) := by decide +kernel
theorem dX2_become_4 : decode cX2_become 4 = .ok (.iconst 0, 1) := by decide +kernel
theorem dX2_become_5 : decode cX2_become 5 = .ok (.aload_n 0, 1) := by decide +kernel
theorem dX2_become_6 : decode cX2_become 6 = .ok (.getfield 9, 3) := by decide +kernel
theorem dX2_become_9 : decode cX2_become 9 = .ok (.iconst 0, 1) := by decide +kernel
theorem dX2_become_10 : decode cX2_become 10 = .ok (.bipush 10, 2) := by decide +kernel
theorem dX2_become_12 : decode cX2_become 12 = .ok (.invokestatic 37, 3) := by decide +kernel
theorem dX2_become_15 : decode cX2_become 15 = .ok (.aload_n 1, 1) := by decide +kernel
theorem dX2_become_16 : decode cX2_become 16 = .ok (.getfield 15, 3) := by decide +kernel
theorem dX2_become_19 : decode cX2_become 19 = .ok (.iconst 0, 1) := by decide +kernel
theorem dX2_become_20 : decode cX2_become 20 = .ok (.aload_n 0, 1) := by decide +kernel
theorem dX2_become_21 : decode cX2_become 21 = .ok (.getfield 15, 3) := by decide +kernel
theorem dX2_become_24 : decode cX2_become 24 = .ok (.iconst 0, 1) := by decide +kernel
theorem dX2_become_25 : decode cX2_become 25 = .ok (.bipush 10, 2) := by decide +kernel
theorem dX2_become_27 : decode cX2_become 27 = .ok (.invokestatic 37, 3) := by decide +kernel
theorem dX2_become_30 : decode cX2_become 30 = .ok (.aload_n 1, 1) := by decide +kernel
theorem dX2_become_31 : decode cX2_become 31 = .ok (.getfield 18, 3) := by decide +kernel
theorem dX2_become_34 : decode cX2_become 34 = .ok (.iconst 0, 1) := by decide +kernel
theorem dX2_become_35 : decode cX2_become 35 = .ok (.aload_n 0, 1) := by decide +kernel
theorem dX2_become_36 : decode cX2_become 36 = .ok (.getfield 18, 3) := by decide +kernel
theorem dX2_become_39 : decode cX2_become 39 = .ok (.iconst 0, 1) := by decide +kernel
theorem dX2_become_40 : decode cX2_become 40 = .ok (.bipush 10, 2) := by decide +kernel
theorem dX2_become_42 : decode cX2_become 42 = .ok (.invokestatic 37, 3) := by decide +kernel
theorem dX2_become_45 : decode cX2_become 45 = .ok (.aload_n 1, 1) := by decide +kernel
theorem dX2_become_46 : decode cX2_become 46 = .ok (.getfield 21, 3) := by decide +kernel
theorem dX2_become_49 : decode cX2_become 49 = .ok (.iconst 0, 1) := by decide +kernel
theorem dX2_become_50 : decode cX2_become 50 = .ok (.aload_n 0, 1) := by decide +kernel
theorem dX2_become_51 : decode cX2_become 51 = .ok (.getfield 21, 3) := by decide +kernel
theorem dX2_become_54 : decode cX2_become 54 = .ok (.iconst 0, 1) := by decide +kernel
theorem dX2_become_55 : decode cX2_become 55 = .ok (.bipush 10, 2) := by decide +kernel
theorem dX2_become_57 : decode cX2_become 57 = .ok (.invokestatic 37, 3) := by decide +kernel
theorem dX2_become_60 : decode cX2_become 60 = .ok (.aload_n 1, 1) := by decide +kernel
theorem dX2_become_61 : decode cX2_become 61 = .ok (.getfield 24, 3) := by decide +kernel
theorem dX2_become_64 : decode cX2_become 64 = .ok (.iconst 0, 1) := by decide +kernel
theorem dX2_become_65 : decode cX2_become 65 = .ok (.aload_n 0, 1) := by decide +kernel
theorem dX2_become_66 : decode cX2_become 66 = .ok (.getfield 24, 3) := by decide +kernel
theorem dX2_become_69 : decode cX2_become 69 = .ok (.iconst 0, 1) := by decide +kernel
theorem dX2_become_70 : decode cX2_become 70 = .ok (.bipush 10, 2) := by decide +kernel
theorem dX2_become_72 : decode cX2_become 72 = .ok (.invokestatic 37, 3) := by decide +kernel
theorem dX2_become_75 : decode cX2_become 75 = .ok (.aload_n 1, 1) := by decide +kernel
theorem dX2_become_76 : decode cX2_become 76 = .ok (.getfield 27, 3) := by decide +kernel
theorem dX2_become_79 : decode cX2_become 79 = .ok (.iconst 0, 1) := by decide +kernel
theorem dX2_become_80 : decode cX2_become 80 = .ok (.aload_n 0, 1) := by decide +kernel
theorem dX2_become_81 : decode cX2_become 81 = .ok (.getfield 27, 3) := by decide +kernel
theorem dX2_become_84 : decode cX2_become 84 = .ok (.iconst 0, 1) := by decide +kernel
theorem dX2_become_85 : decode cX2_become 85 = .ok (.bipush 10, 2) := by decide +kernel
theorem dX2_become_87 : decode cX2_become 87 = .ok (.invokestatic 37, 3) := by decide +kernel
theorem dX2_become_90 : decode cX2_become 90 = .ok (.aload_n 0, 1) := by decide +kernel
theorem dX2_become_91 : decode cX2_become 91 = .ok (.aload_n 1, 1) := by decide +kernel
theorem dX2_become_92 : decode cX2_become 92 = .ok (.getfield 43, 3) := by decide +kernel
theorem dX2_become_95 : decode cX2_become 95 = .ok (.putfield 43, 3) := by decide +kernel
theorem dX2_become_98 : decode cX2_become 98 = .ok (.aload_n 0, 1) := by decide +kernel
theorem dX2_become_99 : decode cX2_become 99 = .ok (.aload_n 1, 1) := by decide +kernel
theorem dX2_become_100 : decode cX2_become 100 = .ok (.getfield 30, 3) := by decide +kernel
theorem dX2_become_103 : decode cX2_become 103 = .ok (.putfield 30, 3) := by decide +kernel
theorem dX2_become_106 : decode cX2_become 106 = .ok (.aload_n 0, 1) := by decide +kernel
theorem dX2_become_107 : decode cX2_become 107 = .ok (.aload_n 1, 1) := by decide +kernel
theorem dX2_become_108 : decode cX2_become 108 = .ok (.getfield 46, 3) := by decide +kernel
theorem dX2_become_111 : decode cX2_become 111 = .ok (.putfield 46, 3) := by decide +kernel
theorem dX2_become_114 : decode cX2_become 114 = .ok (.aload_n 0, 1) := by decide +kernel
theorem dX2_become_115 : decode cX2_become 115 = .ok (.aload_n 1, 1) := by decide +kernel
theorem dX2_become_116 : decode cX2_become 116 = .ok (.getfield 34, 3) := by decide +kernel
theorem dX2_become_119 : decode cX2_become 119 = .ok (.putfield 34, 3) := by decide +kernel
theorem dX2_become_122 : decode cX2_become 122 = .ok (.return_, 1) := by decide +kernel
theorem dX2_add_0 : decode cX2_add 0 = .ok (.aload_n 0, 1) := by decide +kernel
theorem dX2_add_1 : decode cX2_add 1 = .ok (.getfield 43, 3) := by decide +kernel
theorem dX2_add_4 : decode cX2_add 4 = .ok (.istore 4, 2) := by decide +kernel
theorem dX2_add_6 : decode cX2_add 6 = .ok (.iload 4, 2) := by decide +kernel
theorem dX2_add_8 : decode cX2_add 8 = .ok (.ifCond .lt 10, 3) := by decide +kernel
theorem dX2_add_11 : decode cX2_add 11 = .ok (.iload 4, 2) := by decide +kernel
theorem dX2_add_13 : decode cX2_add 13 = .ok (.bipush 10, 2) := by decide +kernel
theorem dX2_add_15 : decode cX2_add 15 = .ok (.if_icmp .lt 5, 3) := by decide +kernel
theorem dX2_add_18 : decode cX2_add 18 = .ok (.iconst (-1), 1) := by decide +kernel
theorem dX2_add_19 : decode cX2_add 19 = .ok (.ireturn, 1) := by decide +kernel
theorem dX2_add_20 : decode cX2_add 20 = .ok (.aload_n 0, 1) := by decide +kernel
theorem dX2_add_21 : decode cX2_add 21 = .ok (.getfield 9, 3) := by decide +kernel
theorem dX2_add_24 : decode cX2_add 24 = .ok (.iload 4, 2) := by decide +kernel
theorem dX2_add_26 : decode cX2_add 26 = .ok (.iload_n 1, 1) := by decide +kernel
theorem dX2_add_27 : decode cX2_add 27 = .ok (.iastore, 1) := by decide +kernel
theorem dX2_add_28 : decode cX2_add 28 = .ok (.aload_n 0, 1) := by decide +kernel
theorem dX2_add_29 : decode cX2_add 29 = .ok (.getfield 15, 3) := by decide +kernel
theorem dX2_add_32 : decode cX2_add 32 = .ok (.iload 4, 2) := by decide +kernel
theorem dX2_add_34 : decode cX2_add 34 = .ok (.iload_n 2, 1) := by decide +kernel
theorem dX2_add_35 : decode cX2_add 35 = .ok (.iastore, 1) := by decide +kernel
theorem dX2_add_36 : decode cX2_add 36 = .ok (.aload_n 0, 1) := by decide +kernel
theorem dX2_add_37 : decode cX2_add 37 = .ok (.getfield 18, 3) := by decide +kernel
theorem dX2_add_40 : decode cX2_add 40 = .ok (.iload 4, 2) := by decide +kernel
theorem dX2_add_42 : decode cX2_add 42 = .ok (.iload_n 3, 1) := by decide +kernel
theorem dX2_add_43 : decode cX2_add 43 = .ok (.iastore, 1) := by decide +kernel
theorem dX2_add_44 : decode cX2_add 44 = .ok (.aload_n 0, 1) := by decide +kernel
theorem dX2_add_45 : decode cX2_add 45 = .ok (.getfield 21, 3) := by decide +kernel
theorem dX2_add_48 : decode cX2_add 48 = .ok (.iload 4, 2) := by decide +kernel
theorem dX2_add_50 : decode cX2_add 50 = .ok (.iconst 0, 1) := by decide +kernel
theorem dX2_add_51 : decode cX2_add 51 = .ok (.iastore, 1) := by decide +kernel
theorem dX2_add_52 : decode cX2_add 52 = .ok (.aload_n 0, 1) := by decide +kernel
theorem dX2_add_53 : decode cX2_add 53 = .ok (.getfield 24, 3) := by decide +kernel
theorem dX2_add_56 : decode cX2_add 56 = .ok (.iload 4, 2) := by decide +kernel
theorem dX2_add_58 : decode cX2_add 58 = .ok (.iconst 0, 1) := by decide +kernel
theorem dX2_add_59 : decode cX2_add 59 = .ok (.iastore, 1) := by decide +kernel
theorem dX2_add_60 : decode cX2_add 60 = .ok (.aload_n 0, 1) := by decide +kernel
theorem dX2_add_61 : decode cX2_add 61 = .ok (.dup, 1) := by decide +kernel
theorem dX2_add_62 : decode cX2_add 62 = .ok (.getfield 43, 3) := by decide +kernel
theorem dX2_add_65 : decode cX2_add 65 = .ok (.iconst 1, 1) := by decide +kernel
theorem dX2_add_66 : decode cX2_add 66 = .ok (.iadd, 1) := by decide +kernel
theorem dX2_add_67 : decode cX2_add 67 = .ok (.putfield 43, 3) := by decide +kernel
theorem dX2_add_70 : decode cX2_add 70 = .ok (.iload 4, 2) := by decide +kernel
theorem dX2_add_72 : decode cX2_add 72 = .ok (.ireturn, 1) := by decide +kernel
theorem dX2_aboveOf_0 : decode cX2_aboveOf 0 = .ok (.iload_n 1, 1) := by decide +kernel
theorem dX2_aboveOf_1 : decode cX2_aboveOf 1 = .ok (.ifCond .lt 20, 3) := by decide +kernel
theorem dX2_aboveOf_4 : decode cX2_aboveOf 4 = .ok (.iload_n 1, 1) := by decide +kernel
theorem dX2_aboveOf_5 : decode cX2_aboveOf 5 = .ok (.aload_n 0, 1) := by decide +kernel
theorem dX2_aboveOf_6 : decode cX2_aboveOf 6 = .ok (.getfield 43, 3) := by decide +kernel
theorem dX2_aboveOf_9 : decode cX2_aboveOf 9 = .ok (.if_icmp .ge 12, 3) := by decide +kernel
theorem dX2_aboveOf_12 : decode cX2_aboveOf 12 = .ok (.aload_n 0, 1) := by decide +kernel
theorem dX2_aboveOf_13 : decode cX2_aboveOf 13 = .ok (.getfield 15, 3) := by decide +kernel
theorem dX2_aboveOf_16 : decode cX2_aboveOf 16 = .ok (.iload_n 1, 1) := by decide +kernel
theorem dX2_aboveOf_17 : decode cX2_aboveOf 17 = .ok (.iaload, 1) := by decide +kernel
theorem dX2_aboveOf_18 : decode cX2_aboveOf 18 = .ok (.goto 4, 3) := by decide +kernel
theorem dX2_aboveOf_21 : decode cX2_aboveOf 21 = .ok (.iconst (-1), 1) := by decide +kernel
theorem dX2_aboveOf_22 : decode cX2_aboveOf 22 = .ok (.ireturn, 1) := by decide +kernel
theorem dX2_widthUnder_0 : decode cX2_widthUnder 0 = .ok (.iconst 0, 1) := by decide +kernel
theorem dX2_widthUnder_1 : decode cX2_widthUnder 1 = .ok (.istore_n 2, 1) := by decide +kernel
theorem dX2_widthUnder_2 : decode cX2_widthUnder 2 = .ok (.iconst 0, 1) := by decide +kernel
theorem dX2_widthUnder_3 : decode cX2_widthUnder 3 = .ok (.istore_n 3, 1) := by decide +kernel
theorem dX2_widthUnder_4 : decode cX2_widthUnder 4 = .ok (.iload_n 3, 1) := by decide +kernel
theorem dX2_widthUnder_5 : decode cX2_widthUnder 5 = .ok (.aload_n 0, 1) := by decide +kernel
theorem dX2_widthUnder_6 : decode cX2_widthUnder 6 = .ok (.getfield 43, 3) := by decide +kernel
theorem dX2_widthUnder_9 : decode cX2_widthUnder 9 = .ok (.if_icmp .ge 28, 3) := by decide +kernel
theorem dX2_widthUnder_12 : decode cX2_widthUnder 12 = .ok (.aload_n 0, 1) := by decide +kernel
theorem dX2_widthUnder_13 : decode cX2_widthUnder 13 = .ok (.getfield 15, 3) := by decide +kernel
theorem dX2_widthUnder_16 : decode cX2_widthUnder 16 = .ok (.iload_n 3, 1) := by decide +kernel
theorem dX2_widthUnder_17 : decode cX2_widthUnder 17 = .ok (.iaload, 1) := by decide +kernel
theorem dX2_widthUnder_18 : decode cX2_widthUnder 18 = .ok (.iload_n 1, 1) := by decide +kernel
theorem dX2_widthUnder_19 : decode cX2_widthUnder 19 = .ok (.if_icmp .ne 12, 3) := by decide +kernel
theorem dX2_widthUnder_22 : decode cX2_widthUnder 22 = .ok (.iload_n 2, 1) := by decide +kernel
theorem dX2_widthUnder_23 : decode cX2_widthUnder 23 = .ok (.aload_n 0, 1) := by decide +kernel
theorem dX2_widthUnder_24 : decode cX2_widthUnder 24 = .ok (.getfield 18, 3) := by decide +kernel
theorem dX2_widthUnder_27 : decode cX2_widthUnder 27 = .ok (.iload_n 3, 1) := by decide +kernel
theorem dX2_widthUnder_28 : decode cX2_widthUnder 28 = .ok (.iaload, 1) := by decide +kernel
theorem dX2_widthUnder_29 : decode cX2_widthUnder 29 = .ok (.iadd, 1) := by decide +kernel
theorem dX2_widthUnder_30 : decode cX2_widthUnder 30 = .ok (.istore_n 2, 1) := by decide +kernel
theorem dX2_widthUnder_31 : decode cX2_widthUnder 31 = .ok (.iinc 3 1, 3) := by decide +kernel
theorem dX2_widthUnder_34 : decode cX2_widthUnder 34 = .ok (.goto (-30), 3) := by decide +kernel
theorem dX2_widthUnder_37 : decode cX2_widthUnder 37 = .ok (.iload_n 2, 1) := by decide +kernel
theorem dX2_widthUnder_38 : decode cX2_widthUnder 38 = .ok (.ireturn, 1) := by decide +kernel
theorem dX2_sum_0 : decode cX2_sum 0 = .ok (.iconst 0, 1) := by decide +kernel
theorem dX2_sum_1 : decode cX2_sum 1 = .ok (.istore_n 2, 1) := by decide +kernel
theorem dX2_sum_2 : decode cX2_sum 2 = .ok (.iconst 0, 1) := by decide +kernel
theorem dX2_sum_3 : decode cX2_sum 3 = .ok (.istore_n 3, 1) := by decide +kernel
theorem dX2_sum_4 : decode cX2_sum 4 = .ok (.iload_n 3, 1) := by decide +kernel
theorem dX2_sum_5 : decode cX2_sum 5 = .ok (.aload_n 0, 1) := by decide +kernel
theorem dX2_sum_6 : decode cX2_sum 6 = .ok (.getfield 43, 3) := by decide +kernel
theorem dX2_sum_9 : decode cX2_sum 9 = .ok (.if_icmp .ge 15, 3) := by decide +kernel
theorem dX2_sum_12 : decode cX2_sum 12 = .ok (.iload_n 2, 1) := by decide +kernel
theorem dX2_sum_13 : decode cX2_sum 13 = .ok (.aload_n 1, 1) := by decide +kernel
theorem dX2_sum_14 : decode cX2_sum 14 = .ok (.iload_n 3, 1) := by decide +kernel
theorem dX2_sum_15 : decode cX2_sum 15 = .ok (.iaload, 1) := by decide +kernel
theorem dX2_sum_16 : decode cX2_sum 16 = .ok (.iadd, 1) := by decide +kernel
theorem dX2_sum_17 : decode cX2_sum 17 = .ok (.istore_n 2, 1) := by decide +kernel
theorem dX2_sum_18 : decode cX2_sum 18 = .ok (.iinc 3 1, 3) := by decide +kernel
theorem dX2_sum_21 : decode cX2_sum 21 = .ok (.goto (-17), 3) := by decide +kernel
theorem dX2_sum_24 : decode cX2_sum 24 = .ok (.iload_n 2, 1) := by decide +kernel
theorem dX2_sum_25 : decode cX2_sum 25 = .ok (.ireturn, 1) := by decide +kernel
theorem dX2_spotsInUse_0 : decode cX2_spotsInUse 0 = .ok (.iconst 0, 1) := by decide +kernel
theorem dX2_spotsInUse_1 : decode cX2_spotsInUse 1 = .ok (.istore_n 1, 1) := by decide +kernel
theorem dX2_spotsInUse_2 : decode cX2_spotsInUse 2 = .ok (.iconst 0, 1) := by decide +kernel
theorem dX2_spotsInUse_3 : decode cX2_spotsInUse 3 = .ok (.istore_n 2, 1) := by decide +kernel
theorem dX2_spotsInUse_4 : decode cX2_spotsInUse 4 = .ok (.iload_n 2, 1) := by decide +kernel
theorem dX2_spotsInUse_5 : decode cX2_spotsInUse 5 = .ok (.bipush 10, 2) := by decide +kernel
theorem dX2_spotsInUse_7 : decode cX2_spotsInUse 7 = .ok (.if_icmp .ge 22, 3) := by decide +kernel
theorem dX2_spotsInUse_10 : decode cX2_spotsInUse 10 = .ok (.aload_n 0, 1) := by decide +kernel
theorem dX2_spotsInUse_11 : decode cX2_spotsInUse 11 = .ok (.getfield 27, 3) := by decide +kernel
theorem dX2_spotsInUse_14 : decode cX2_spotsInUse 14 = .ok (.iload_n 2, 1) := by decide +kernel
theorem dX2_spotsInUse_15 : decode cX2_spotsInUse 15 = .ok (.iaload, 1) := by decide +kernel
theorem dX2_spotsInUse_16 : decode cX2_spotsInUse 16 = .ok (.iconst (-1), 1) := by decide +kernel
theorem dX2_spotsInUse_17 : decode cX2_spotsInUse 17 = .ok (.if_icmp .eq 6, 3) := by decide +kernel
theorem dX2_spotsInUse_20 : decode cX2_spotsInUse 20 = .ok (.iinc 1 1, 3) := by decide +kernel
theorem dX2_spotsInUse_23 : decode cX2_spotsInUse 23 = .ok (.iinc 2 1, 3) := by decide +kernel
theorem dX2_spotsInUse_26 : decode cX2_spotsInUse 26 = .ok (.goto (-22), 3) := by decide +kernel
theorem dX2_spotsInUse_29 : decode cX2_spotsInUse 29 = .ok (.iload_n 1, 1) := by decide +kernel
theorem dX2_spotsInUse_30 : decode cX2_spotsInUse 30 = .ok (.ireturn, 1) := by decide +kernel
theorem dX2_draw_0 : decode cX2_draw 0 = .ok (.aload_n 0, 1) := by decide +kernel
theorem dX2_draw_1 : decode cX2_draw 1 = .ok (.aload_n 0, 1) := by decide +kernel
theorem dX2_draw_2 : decode cX2_draw 2 = .ok (.getfield 34, 3) := by decide +kernel
theorem dX2_draw_5 : decode cX2_draw 5 = .ok (.ldc 49, 2) := by decide +kernel
theorem dX2_draw_7 : decode cX2_draw 7 = .ok (.imul, 1) := by decide +kernel
theorem dX2_draw_8 : decode cX2_draw 8 = .ok (.sipush 12345, 3) := by decide +kernel
theorem dX2_draw_11 : decode cX2_draw 11 = .ok (.iadd, 1) := by decide +kernel
theorem dX2_draw_12 : decode cX2_draw 12 = .ok (.putfield 34, 3) := by decide +kernel
theorem dX2_draw_15 : decode cX2_draw 15 = .ok (.aload_n 0, 1) := by decide +kernel
theorem dX2_draw_16 : decode cX2_draw 16 = .ok (.getfield 34, 3) := by decide +kernel
theorem dX2_draw_19 : decode cX2_draw 19 = .ok (.bipush 8, 2) := by decide +kernel
theorem dX2_draw_21 : decode cX2_draw 21 = .ok (.iushr, 1) := by decide +kernel
theorem dX2_draw_22 : decode cX2_draw 22 = .ok (.ireturn, 1) := by decide +kernel
theorem dX2_take_0 : decode cX2_take 0 = .ok (.iconst 0, 1) := by decide +kernel
theorem dX2_take_1 : decode cX2_take 1 = .ok (.istore_n 2, 1) := by decide +kernel
theorem dX2_take_2 : decode cX2_take 2 = .ok (.iload_n 2, 1) := by decide +kernel
theorem dX2_take_3 : decode cX2_take 3 = .ok (.aload_n 0, 1) := by decide +kernel
theorem dX2_take_4 : decode cX2_take 4 = .ok (.getfield 43, 3) := by decide +kernel
theorem dX2_take_7 : decode cX2_take 7 = .ok (.if_icmp .ge 39, 3) := by decide +kernel
theorem dX2_take_10 : decode cX2_take 10 = .ok (.aload_n 0, 1) := by decide +kernel
theorem dX2_take_11 : decode cX2_take 11 = .ok (.getfield 24, 3) := by decide +kernel
theorem dX2_take_14 : decode cX2_take 14 = .ok (.iload_n 2, 1) := by decide +kernel
theorem dX2_take_15 : decode cX2_take 15 = .ok (.dup2, 1) := by decide +kernel
theorem dX2_take_16 : decode cX2_take 16 = .ok (.iaload, 1) := by decide +kernel
theorem dX2_take_17 : decode cX2_take 17 = .ok (.aload_n 1, 1) := by decide +kernel
theorem dX2_take_18 : decode cX2_take 18 = .ok (.getfield 50, 3) := by decide +kernel
theorem dX2_take_21 : decode cX2_take 21 = .ok (.iload_n 2, 1) := by decide +kernel
theorem dX2_take_22 : decode cX2_take 22 = .ok (.iaload, 1) := by decide +kernel
theorem dX2_take_23 : decode cX2_take 23 = .ok (.iadd, 1) := by decide +kernel
theorem dX2_take_24 : decode cX2_take 24 = .ok (.iastore, 1) := by decide +kernel
theorem dX2_take_25 : decode cX2_take 25 = .ok (.aload_n 0, 1) := by decide +kernel
theorem dX2_take_26 : decode cX2_take 26 = .ok (.getfield 21, 3) := by decide +kernel
theorem dX2_take_29 : decode cX2_take 29 = .ok (.iload_n 2, 1) := by decide +kernel
theorem dX2_take_30 : decode cX2_take 30 = .ok (.dup2, 1) := by decide +kernel
theorem dX2_take_31 : decode cX2_take 31 = .ok (.iaload, 1) := by decide +kernel
theorem dX2_take_32 : decode cX2_take 32 = .ok (.aload_n 1, 1) := by decide +kernel
theorem dX2_take_33 : decode cX2_take 33 = .ok (.getfield 55, 3) := by decide +kernel
theorem dX2_take_36 : decode cX2_take 36 = .ok (.iload_n 2, 1) := by decide +kernel
theorem dX2_take_37 : decode cX2_take 37 = .ok (.iaload, 1) := by decide +kernel
theorem dX2_take_38 : decode cX2_take 38 = .ok (.iadd, 1) := by decide +kernel
theorem dX2_take_39 : decode cX2_take 39 = .ok (.iastore, 1) := by decide +kernel
theorem dX2_take_40 : decode cX2_take 40 = .ok (.iinc 2 1, 3) := by decide +kernel
theorem dX2_take_43 : decode cX2_take 43 = .ok (.goto (-41), 3) := by decide +kernel
theorem dX2_take_46 : decode cX2_take 46 = .ok (.aload_n 0, 1) := by decide +kernel
theorem dX2_take_47 : decode cX2_take 47 = .ok (.dup, 1) := by decide +kernel
theorem dX2_take_48 : decode cX2_take 48 = .ok (.getfield 46, 3) := by decide +kernel
theorem dX2_take_51 : decode cX2_take 51 = .ok (.iconst 1, 1) := by decide +kernel
theorem dX2_take_52 : decode cX2_take 52 = .ok (.iadd, 1) := by decide +kernel
theorem dX2_take_53 : decode cX2_take 53 = .ok (.putfield 46, 3) := by decide +kernel
theorem dX2_take_56 : decode cX2_take 56 = .ok (.return_, 1) := by decide +kernel
theorem dX3_isKind_0 : decode cX3_isKind 0 = .ok (.iload_n 0, 1) := by decide +kernel
theorem dX3_isKind_1 : decode cX3_isKind 1 = .ok (.ifCond .lt 13, 3) := by decide +kernel
theorem dX3_isKind_4 : decode cX3_isKind 4 = .ok (.iload_n 0, 1) := by decide +kernel
theorem dX3_isKind_5 : decode cX3_isKind 5 = .ok (.bipush 6, 2) := by decide +kernel
theorem dX3_isKind_7 : decode cX3_isKind 7 = .ok (.if_icmp .gt 7, 3) := by decide +kernel
theorem dX3_isKind_10 : decode cX3_isKind 10 = .ok (.iconst 1, 1) := by decide +kernel
theorem dX3_isKind_11 : decode cX3_isKind 11 = .ok (.goto 4, 3) := by decide +kernel
theorem dX3_isKind_14 : decode cX3_isKind 14 = .ok (.iconst 0, 1) := by decide +kernel
theorem dX3_isKind_15 : decode cX3_isKind 15 = .ok (.ireturn, 1) := by decide +kernel
set_option maxRecDepth 20000 in
theorem ggX3_isOf_X3_kindOver : GoodIn wsX3_isOf wsX3_kindOver := goodIn_r _ [4] (by exact rfl) (by decide +kernel)
set_option maxRecDepth 20000 in
theorem gX3_isOf_X3_kindOver : GoodIn wsX3_isOf (va_wsS RX3 11 yX3_kindOver wsX3_kindOver) := goodIn_app (goodIn_of _ (by decide +kernel)) ggX3_isOf_X3_kindOver
theorem dX3_isOf_0 : decode cX3_isOf 0 = .ok (.iload_n 0, 1) := by decide +kernel
theorem dX3_isOf_1 : decode cX3_isOf 1 = .ok (.istore_n 2, 1) := by decide +kernel
theorem dX3_isOf_2 : decode cX3_isOf 2 = .ok (.iconst 0, 1) := by decide +kernel
theorem dX3_isOf_3 : decode cX3_isOf 3 = .ok (.istore_n 3, 1) := by decide +kernel
theorem dX3_isOf_4 : decode cX3_isOf 4 = .ok (.iload_n 3, 1) := by decide +kernel
theorem dX3_isOf_5 : decode cX3_isOf 5 = .ok (.bipush 6, 2) := by decide +kernel
theorem dX3_isOf_7 : decode cX3_isOf 7 = .ok (.if_icmp .gt 25, 3) := by decide +kernel
theorem dX3_isOf_10 : decode cX3_isOf 10 = .ok (.iload_n 2, 1) := by decide +kernel
theorem dX3_isOf_11 : decode cX3_isOf 11 = .ok (.ifCond .lt 21, 3) := by decide +kernel
theorem dX3_isOf_14 : decode cX3_isOf 14 = .ok (.iload_n 2, 1) := by decide +kernel
theorem dX3_isOf_15 : decode cX3_isOf 15 = .ok (.iload_n 1, 1) := by decide +kernel
theorem dX3_isOf_16 : decode cX3_isOf 16 = .ok (.if_icmp .ne 5, 3) := by decide +kernel
theorem dX3_isOf_19 : decode cX3_isOf 19 = .ok (.iconst 1, 1) := by decide +kernel
theorem dX3_isOf_20 : decode cX3_isOf 20 = .ok (.ireturn, 1) := by decide +kernel
theorem dX3_isOf_21 : decode cX3_isOf 21 = .ok (.iload_n 2, 1) := by decide +kernel
theorem dX3_isOf_22 : decode cX3_isOf 22 = .ok (.invokestatic 11, 3) := by decide +kernel
theorem dX3_isOf_25 : decode cX3_isOf 25 = .ok (.istore_n 2, 1) := by decide +kernel
theorem dX3_isOf_26 : decode cX3_isOf 26 = .ok (.iinc 3 1, 3) := by decide +kernel
theorem dX3_isOf_29 : decode cX3_isOf 29 = .ok (.goto (-25), 3) := by decide +kernel
theorem dX3_isOf_32 : decode cX3_isOf 32 = .ok (.iconst 0, 1) := by decide +kernel
theorem dX3_isOf_33 : decode cX3_isOf 33 = .ok (.ireturn, 1) := by decide +kernel
theorem dX3_kindOver_0 : decode cX3_kindOver 0 = .ok (.iload_n 0, 1) := by decide +kernel
theorem dX3_kindOver_1 : decode cX3_kindOver 1 = .ok (.tableswitch 47 1 6 #[39, 39, 41, 43, 39, 45], 39) := by decide +kernel
theorem dX3_kindOver_40 : decode cX3_kindOver 40 = .ok (.iconst 0, 1) := by decide +kernel
theorem dX3_kindOver_41 : decode cX3_kindOver 41 = .ok (.ireturn, 1) := by decide +kernel
theorem dX3_kindOver_42 : decode cX3_kindOver 42 = .ok (.iconst 1, 1) := by decide +kernel
theorem dX3_kindOver_43 : decode cX3_kindOver 43 = .ok (.ireturn, 1) := by decide +kernel
theorem dX3_kindOver_44 : decode cX3_kindOver 44 = .ok (.iconst 2, 1) := by decide +kernel
theorem dX3_kindOver_45 : decode cX3_kindOver 45 = .ok (.ireturn, 1) := by decide +kernel
theorem dX3_kindOver_46 : decode cX3_kindOver 46 = .ok (.iconst 5, 1) := by decide +kernel
theorem dX3_kindOver_47 : decode cX3_kindOver 47 = .ok (.ireturn, 1) := by decide +kernel
theorem dX3_kindOver_48 : decode cX3_kindOver 48 = .ok (.iconst (-1), 1) := by decide +kernel
theorem dX3_kindOver_49 : decode cX3_kindOver 49 = .ok (.ireturn, 1) := by decide +kernel
set_option maxRecDepth 20000 in
theorem ggX3_leaks_X3_tenthsLeaked : GoodIn wsX3_leaks wsX3_tenthsLeaked := goodIn_r _ [4] (by exact rfl) (by decide +kernel)
set_option maxRecDepth 20000 in
theorem gX3_leaks_X3_tenthsLeaked : GoodIn wsX3_leaks (va_wsS RX3 15 yX3_tenthsLeaked wsX3_tenthsLeaked) := goodIn_app (goodIn_of _ (by decide +kernel)) ggX3_leaks_X3_tenthsLeaked
theorem dX3_leaks_0 : decode cX3_leaks 0 = .ok (.iload_n 0, 1) := by decide +kernel
theorem dX3_leaks_1 : decode cX3_leaks 1 = .ok (.invokestatic 15, 3) := by decide +kernel
theorem dX3_leaks_4 : decode cX3_leaks 4 = .ok (.iload_n 1, 1) := by decide +kernel
theorem dX3_leaks_5 : decode cX3_leaks 5 = .ok (.bipush 10, 2) := by decide +kernel
theorem dX3_leaks_7 : decode cX3_leaks 7 = .ok (.idiv, 1) := by decide +kernel
theorem dX3_leaks_8 : decode cX3_leaks 8 = .ok (.imul, 1) := by decide +kernel
theorem dX3_leaks_9 : decode cX3_leaks 9 = .ok (.ireturn, 1) := by decide +kernel
theorem dX3_tenthsLeaked_0 : decode cX3_tenthsLeaked 0 = .ok (.iload_n 0, 1) := by decide +kernel
theorem dX3_tenthsLeaked_1 : decode cX3_tenthsLeaked 1 = .ok (.lookupswitch 31 #[(2, 27), (4, 29)], 27) := by decide +kernel
theorem dX3_tenthsLeaked_28 : decode cX3_tenthsLeaked 28 = .ok (.iconst 1, 1) := by decide +kernel
theorem dX3_tenthsLeaked_29 : decode cX3_tenthsLeaked 29 = .ok (.ireturn, 1) := by decide +kernel
theorem dX3_tenthsLeaked_30 : decode cX3_tenthsLeaked 30 = .ok (.iconst 2, 1) := by decide +kernel
theorem dX3_tenthsLeaked_31 : decode cX3_tenthsLeaked 31 = .ok (.ireturn, 1) := by decide +kernel
theorem dX3_tenthsLeaked_32 : decode cX3_tenthsLeaked 32 = .ok (.iconst 0, 1) := by decide +kernel
theorem dX3_tenthsLeaked_33 : decode cX3_tenthsLeaked 33 = .ok (.ireturn, 1) := by decide +kernel
theorem dX3_keeps_0 : decode cX3_keeps 0 = .ok (.iload_n 0, 1) := by decide +kernel
theorem dX3_keeps_1 : decode cX3_keeps 1 = .ok (.lookupswitch 35 #[(1, 27), (3, 33)], 27) := by decide +kernel
theorem dX3_keeps_28 : decode cX3_keeps 28 = .ok (.iconst 2, 1) := by decide +kernel
theorem dX3_keeps_29 : decode cX3_keeps 29 = .ok (.iload_n 1, 1) := by decide +kernel
theorem dX3_keeps_30 : decode cX3_keeps 30 = .ok (.imul, 1) := by decide +kernel
theorem dX3_keeps_31 : decode cX3_keeps 31 = .ok (.iconst 5, 1) := by decide +kernel
theorem dX3_keeps_32 : decode cX3_keeps 32 = .ok (.idiv, 1) := by decide +kernel
theorem dX3_keeps_33 : decode cX3_keeps 33 = .ok (.ireturn, 1) := by decide +kernel
theorem dX3_keeps_34 : decode cX3_keeps 34 = .ok (.iconst 0, 1) := by decide +kernel
theorem dX3_keeps_35 : decode cX3_keeps 35 = .ok (.ireturn, 1) := by decide +kernel
theorem dX3_keeps_36 : decode cX3_keeps 36 = .ok (.iload_n 1, 1) := by decide +kernel
theorem dX3_keeps_37 : decode cX3_keeps 37 = .ok (.iconst 3, 1) := by decide +kernel
theorem dX3_keeps_38 : decode cX3_keeps 38 = .ok (.idiv, 1) := by decide +kernel
theorem dX3_keeps_39 : decode cX3_keeps 39 = .ok (.ireturn, 1) := by decide +kernel
theorem dX3_holds_0 : decode cX3_holds 0 = .ok (.iload_n 0, 1) := by decide +kernel
theorem dX3_holds_1 : decode cX3_holds 1 = .ok (.lookupswitch 55 #[(5, 46), (6, 27)], 27) := by decide +kernel
theorem dX3_holds_28 : decode cX3_holds 28 = .ok (.iload_n 1, 1) := by decide +kernel
theorem dX3_holds_29 : decode cX3_holds 29 = .ok (.bipush 100, 2) := by decide +kernel
theorem dX3_holds_31 : decode cX3_holds 31 = .ok (.if_icmp .le 7, 3) := by decide +kernel
theorem dX3_holds_34 : decode cX3_holds 34 = .ok (.iconst 0, 1) := by decide +kernel
theorem dX3_holds_35 : decode cX3_holds 35 = .ok (.goto 11, 3) := by decide +kernel
theorem dX3_holds_38 : decode cX3_holds 38 = .ok (.bipush 30, 2) := by decide +kernel
theorem dX3_holds_40 : decode cX3_holds 40 = .ok (.iload_n 2, 1) := by decide +kernel
theorem dX3_holds_41 : decode cX3_holds 41 = .ok (.isub, 1) := by decide +kernel
theorem dX3_holds_42 : decode cX3_holds 42 = .ok (.iload_n 1, 1) := by decide +kernel
theorem dX3_holds_43 : decode cX3_holds 43 = .ok (.invokestatic 18, 3) := by decide +kernel
theorem dX3_holds_46 : decode cX3_holds 46 = .ok (.ireturn, 1) := by decide +kernel
theorem dX3_holds_47 : decode cX3_holds 47 = .ok (.bipush 30, 2) := by decide +kernel
theorem dX3_holds_49 : decode cX3_holds 49 = .ok (.iload_n 2, 1) := by decide +kernel
theorem dX3_holds_50 : decode cX3_holds 50 = .ok (.isub, 1) := by decide +kernel
theorem dX3_holds_51 : decode cX3_holds 51 = .ok (.iload_n 1, 1) := by decide +kernel
theorem dX3_holds_52 : decode cX3_holds 52 = .ok (.invokestatic 18, 3) := by decide +kernel
theorem dX3_holds_55 : decode cX3_holds 55 = .ok (.ireturn, 1) := by decide +kernel
theorem dX3_holds_56 : decode cX3_holds 56 = .ok (.iconst 0, 1) := by decide +kernel
theorem dX3_holds_57 : decode cX3_holds 57 = .ok (.ireturn, 1) := by decide +kernel
set_option maxRecDepth 20000 in
theorem ggX3_leastComing_X3_leaks : GoodIn wsX3_leastComing wsX3_leaks := goodIn_r _ [9, 10, 11, 8, 12] (by exact rfl) (by decide +kernel)
set_option maxRecDepth 20000 in
theorem gX3_leastComing_X3_leaks : GoodIn wsX3_leastComing (va_wsS RX3 28 yX3_leaks wsX3_leaks) := goodIn_app (goodIn_of _ (by decide +kernel)) ggX3_leastComing_X3_leaks
set_option maxRecDepth 20000 in
theorem ggX3_leastComing_X3_keeps : GoodIn wsX3_leastComing wsX3_keeps := goodIn_r _ [15] (by exact rfl) (by decide +kernel)
set_option maxRecDepth 20000 in
theorem gX3_leastComing_X3_keeps : GoodIn wsX3_leastComing (va_wsS RX3 31 yX3_keeps wsX3_keeps) := goodIn_app (goodIn_of _ (by decide +kernel)) ggX3_leastComing_X3_keeps
theorem dX3_leastComing_0 : decode cX3_leastComing 0 = .ok (.iload_n 1, 1) := by decide +kernel
theorem dX3_leastComing_1 : decode cX3_leastComing 1 = .ok (.iload_n 2, 1) := by decide +kernel
theorem dX3_leastComing_2 : decode cX3_leastComing 2 = .ok (.invokestatic 24, 3) := by decide +kernel
theorem dX3_leastComing_5 : decode cX3_leastComing 5 = .ok (.istore_n 3, 1) := by decide +kernel
theorem dX3_leastComing_6 : decode cX3_leastComing 6 = .ok (.iconst 0, 1) := by decide +kernel
theorem dX3_leastComing_7 : decode cX3_leastComing 7 = .ok (.istore 4, 2) := by decide +kernel
theorem dX3_leastComing_9 : decode cX3_leastComing 9 = .ok (.iload 4, 2) := by decide +kernel
theorem dX3_leastComing_11 : decode cX3_leastComing 11 = .ok (.ldc 27, 2) := by decide +kernel
theorem dX3_leastComing_13 : decode cX3_leastComing 13 = .ok (.if_icmp .gt 61, 3) := by decide +kernel
theorem dX3_leastComing_16 : decode cX3_leastComing 16 = .ok (.iload_n 3, 1) := by decide +kernel
theorem dX3_leastComing_17 : decode cX3_leastComing 17 = .ok (.ldc 27, 2) := by decide +kernel
theorem dX3_leastComing_19 : decode cX3_leastComing 19 = .ok (.if_icmp .gt 55, 3) := by decide +kernel
theorem dX3_leastComing_22 : decode cX3_leastComing 22 = .ok (.iload_n 3, 1) := by decide +kernel
theorem dX3_leastComing_23 : decode cX3_leastComing 23 = .ok (.iload_n 0, 1) := by decide +kernel
theorem dX3_leastComing_24 : decode cX3_leastComing 24 = .ok (.iload_n 3, 1) := by decide +kernel
theorem dX3_leastComing_25 : decode cX3_leastComing 25 = .ok (.invokestatic 28, 3) := by decide +kernel
theorem dX3_leastComing_28 : decode cX3_leastComing 28 = .ok (.isub, 1) := by decide +kernel
theorem dX3_leastComing_29 : decode cX3_leastComing 29 = .ok (.istore 5, 2) := by decide +kernel
theorem dX3_leastComing_31 : decode cX3_leastComing 31 = .ok (.iload_n 0, 1) := by decide +kernel
theorem dX3_leastComing_32 : decode cX3_leastComing 32 = .ok (.iload 5, 2) := by decide +kernel
theorem dX3_leastComing_34 : decode cX3_leastComing 34 = .ok (.invokestatic 31, 3) := by decide +kernel
theorem dX3_leastComing_37 : decode cX3_leastComing 37 = .ok (.istore 6, 2) := by decide +kernel
theorem dX3_leastComing_39 : decode cX3_leastComing 39 = .ok (.iload_n 1, 1) := by decide +kernel
theorem dX3_leastComing_40 : decode cX3_leastComing 40 = .ok (.iload 6, 2) := by decide +kernel
theorem dX3_leastComing_42 : decode cX3_leastComing 42 = .ok (.isub, 1) := by decide +kernel
theorem dX3_leastComing_43 : decode cX3_leastComing 43 = .ok (.iload_n 2, 1) := by decide +kernel
theorem dX3_leastComing_44 : decode cX3_leastComing 44 = .ok (.iload 5, 2) := by decide +kernel
theorem dX3_leastComing_46 : decode cX3_leastComing 46 = .ok (.iload 6, 2) := by decide +kernel
theorem dX3_leastComing_48 : decode cX3_leastComing 48 = .ok (.isub, 1) := by decide +kernel
theorem dX3_leastComing_49 : decode cX3_leastComing 49 = .ok (.isub, 1) := by decide +kernel
theorem dX3_leastComing_50 : decode cX3_leastComing 50 = .ok (.invokestatic 24, 3) := by decide +kernel
theorem dX3_leastComing_53 : decode cX3_leastComing 53 = .ok (.istore 7, 2) := by decide +kernel
theorem dX3_leastComing_55 : decode cX3_leastComing 55 = .ok (.iload 7, 2) := by decide +kernel
theorem dX3_leastComing_57 : decode cX3_leastComing 57 = .ok (.ifCond .gt 6, 3) := by decide +kernel
theorem dX3_leastComing_60 : decode cX3_leastComing 60 = .ok (.goto 14, 3) := by decide +kernel
theorem dX3_leastComing_63 : decode cX3_leastComing 63 = .ok (.iload_n 3, 1) := by decide +kernel
theorem dX3_leastComing_64 : decode cX3_leastComing 64 = .ok (.iload 7, 2) := by decide +kernel
theorem dX3_leastComing_66 : decode cX3_leastComing 66 = .ok (.iadd, 1) := by decide +kernel
theorem dX3_leastComing_67 : decode cX3_leastComing 67 = .ok (.istore_n 3, 1) := by decide +kernel
theorem dX3_leastComing_68 : decode cX3_leastComing 68 = .ok (.iinc 4 1, 3) := by decide +kernel
theorem dX3_leastComing_71 : decode cX3_leastComing 71 = .ok (.goto (-62), 3) := by decide +kernel
theorem dX3_leastComing_74 : decode cX3_leastComing 74 = .ok (.iload_n 3, 1) := by decide +kernel
theorem dX3_leastComing_75 : decode cX3_leastComing 75 = .ok (.ireturn, 1) := by decide +kernel
theorem dX4_init_0 : decode cX4_init 0 = .ok (.aload_n 0, 1) := by decide +kernel
theorem dX4_init_1 : decode cX4_init 1 = .ok (.invokespecial 3, 3) := by decide +kernel
theorem dX4_init_4 : decode cX4_init 4 = .ok (.aload_n 0, 1) := by decide +kernel
theorem dX4_init_5 : decode cX4_init 5 = .ok (.bipush 10, 2) := by decide +kernel
theorem dX4_init_7 : decode cX4_init 7 = .ok (.newarray .long, 2) := by decide +kernel
theorem dX4_init_9 : decode cX4_init 9 = .ok (.putfield 9, 3) := by decide +kernel
theorem dX4_init_12 : decode cX4_init 12 = .ok (.aload_n 0, 1) := by decide +kernel
theorem dX4_init_13 : decode cX4_init 13 = .ok (.bipush 10, 2) := by decide +kernel
theorem dX4_init_15 : decode cX4_init 15 = .ok (.newarray .long, 2) := by decide +kernel
theorem dX4_init_17 : decode cX4_init 17 = .ok (.putfield 15, 3) := by decide +kernel
theorem dX4_init_20 : decode cX4_init 20 = .ok (.aload_n 0, 1) := by decide +kernel
theorem dX4_init_21 : decode cX4_init 21 = .ok (.bipush 10, 2) := by decide +kernel
theorem dX4_init_23 : decode cX4_init 23 = .ok (.newarray .boolean, 2) := by decide +kernel
theorem dX4_init_25 : decode cX4_init 25 = .ok (.putfield 18, 3) := by decide +kernel
theorem dX4_init_28 : decode cX4_init 28 = .ok (.aload_n 0, 1) := by decide +kernel
theorem dX4_init_29 : decode cX4_init 29 = .ok (.bipush 10, 2) := by decide +kernel
theorem dX4_init_31 : decode cX4_init 31 = .ok (.newarray .long, 2) := by decide +kernel
theorem dX4_init_33 : decode cX4_init 33 = .ok (.putfield 22, 3) := by decide +kernel
theorem dX4_init_36 : decode cX4_init 36 = .ok (.aload_n 0, 1) := by decide +kernel
theorem dX4_init_37 : decode cX4_init 37 = .ok (.bipush 10, 2) := by decide +kernel
theorem dX4_init_39 : decode cX4_init 39 = .ok (.newarray .long, 2) := by decide +kernel
theorem dX4_init_41 : decode cX4_init 41 = .ok (.putfield 25, 3) := by decide +kernel
theorem dX4_init_44 : decode cX4_init 44 = .ok (.aload_n 0, 1) := by decide +kernel
theorem dX4_init_45 : decode cX4_init 45 = .ok (.bipush 10, 2) := by decide +kernel
theorem dX4_init_47 : decode cX4_init 47 = .ok (.newarray .boolean, 2) := by decide +kernel
theorem dX4_init_49 : decode cX4_init 49 = .ok (.putfield 28, 3) := by decide +kernel
theorem dX4_init_52 : decode cX4_init 52 = .ok (.aload_n 0, 1) := by decide +kernel
theorem dX4_init_53 : decode cX4_init 53 = .ok (.lconst 1, 1) := by decide +kernel
theorem dX4_init_54 : decode cX4_init 54 = .ok (.putfield 31, 3) := by decide +kernel
theorem dX4_init_57 : decode cX4_init 57 = .ok (.aload_n 0, 1) := by decide +kernel
theorem dX4_init_58 : decode cX4_init 58 = .ok (.lconst 1, 1) := by decide +kernel
theorem dX4_init_59 : decode cX4_init 59 = .ok (.putfield 35, 3) := by decide +kernel
theorem dX4_init_62 : decode cX4_init 62 = .ok (.return_, 1) := by decide +kernel
set_option maxRecDepth 20000 in
theorem ggX4_reckon_X4_comingTo : GoodIn wsX4_reckon wsX4_comingTo := goodIn_r _ [15, 16, 3, 4, 8, 9, 10, 17, 18, 19, 20, 21, 22, 23, 24, 25, 26, 27, 28, 14, 29, 30, 31, 32, 33, 46, 47, 48, 49, 50, 51, 52, 53, 54, 55, 56, 57, 58, 59, 60, 61, 62, 63] (by exact rfl) (by decide +kernel)
set_option maxRecDepth 20000 in
theorem gX4_reckon_X4_comingTo : GoodIn wsX4_reckon (wsV RX4 44 RX4 yX4_comingTo wsX4_comingTo) := goodIn_app (goodIn_of _ (by decide +kernel)) ggX4_reckon_X4_comingTo
set_option maxRecDepth 20000 in
theorem ggX4_reckon_X3_tenthsLeaked : GoodIn wsX4_reckon wsX3_tenthsLeaked := goodIn_r _ [37] (by exact rfl) (by decide +kernel)
set_option maxRecDepth 20000 in
theorem gX4_reckon_X3_tenthsLeaked : GoodIn wsX4_reckon (va_wsS RX4 52 yX3_tenthsLeaked wsX3_tenthsLeaked) := goodIn_app (goodIn_of _ (by decide +kernel)) ggX4_reckon_X3_tenthsLeaked
set_option maxRecDepth 20000 in
theorem ggX4_reckon_X4_multiply : GoodIn wsX4_reckon wsX4_multiply := goodIn_r _ [29, 3, 4, 30, 31, 32, 14, 33, 56, 57, 58, 59, 60, 61, 62, 63] (by exact rfl) (by decide +kernel)
set_option maxRecDepth 20000 in
theorem gX4_reckon_X4_multiply : GoodIn wsX4_reckon (wsV RX4 58 RX4 yX4_multiply wsX4_multiply) := goodIn_app (goodIn_of _ (by decide +kernel)) ggX4_reckon_X4_multiply
set_option maxRecDepth 20000 in
theorem ggX4_reckon_X4_keep : GoodIn wsX4_reckon wsX4_keep := goodIn_r _ [41, 26, 27, 28, 14, 29, 3, 4, 30, 31, 32, 33, 56, 57, 58, 59, 60, 61, 62, 63] (by exact rfl) (by decide +kernel)
set_option maxRecDepth 20000 in
theorem gX4_reckon_X4_keep : GoodIn wsX4_reckon (wsV RX4 62 RX4 yX4_keep wsX4_keep) := goodIn_app (goodIn_of _ (by decide +kernel)) ggX4_reckon_X4_keep
set_option maxRecDepth 20000 in
theorem ggX4_reckon_X4_goOn : GoodIn wsX4_reckon wsX4_goOn := goodIn_r _ [45, 26, 27, 28, 14, 29, 3, 4, 30, 31, 32, 33, 56, 57, 58, 59, 60, 61, 62, 63] (by exact rfl) (by decide +kernel)
set_option maxRecDepth 20000 in
theorem gX4_reckon_X4_goOn : GoodIn wsX4_reckon (wsV RX4 66 RX4 yX4_goOn wsX4_goOn) := goodIn_app (goodIn_of _ (by decide +kernel)) ggX4_reckon_X4_goOn
theorem dX4_reckon_0 : decode cX4_reckon 0 = .ok (.iconst 0, 1) := by decide +kernel
theorem dX4_reckon_1 : decode cX4_reckon 1 = .ok (.istore_n 2, 1) := by decide +kernel
theorem dX4_reckon_2 : decode cX4_reckon 2 = .ok (.iload_n 2, 1) := by decide +kernel
theorem dX4_reckon_3 : decode cX4_reckon 3 = .ok (.aload_n 1, 1) := by decide +kernel
theorem dX4_reckon_4 : decode cX4_reckon 4 = .ok (.getfield 38, 3) := by decide +kernel
theorem dX4_reckon_7 : decode cX4_reckon 7 = .ok (.if_icmp .ge 169, 3) := by decide +kernel
theorem dX4_reckon_10 : decode cX4_reckon 10 = .ok (.aload_n 0, 1) := by decide +kernel
theorem dX4_reckon_11 : decode cX4_reckon 11 = .ok (.aload_n 1, 1) := by decide +kernel
theorem dX4_reckon_12 : decode cX4_reckon 12 = .ok (.iload_n 2, 1) := by decide +kernel
theorem dX4_reckon_13 : decode cX4_reckon 13 = .ok (.invokevirtual 44, 3) := by decide +kernel
theorem dX4_reckon_16 : decode cX4_reckon 16 = .ok (.ifCond .eq 28, 3) := by decide +kernel
theorem dX4_reckon_19 : decode cX4_reckon 19 = .ok (.aload_n 0, 1) := by decide +kernel
theorem dX4_reckon_20 : decode cX4_reckon 20 = .ok (.bipush 10, 2) := by decide +kernel
theorem dX4_reckon_22 : decode cX4_reckon 22 = .ok (.aload_n 1, 1) := by decide +kernel
theorem dX4_reckon_23 : decode cX4_reckon 23 = .ok (.getfield 48, 3) := by decide +kernel
theorem dX4_reckon_26 : decode cX4_reckon 26 = .ok (.iload_n 2, 1) := by decide +kernel
theorem dX4_reckon_27 : decode cX4_reckon 27 = .ok (.iaload, 1) := by decide +kernel
theorem dX4_reckon_28 : decode cX4_reckon 28 = .ok (.invokestatic 52, 3) := by decide +kernel
theorem dX4_reckon_31 : decode cX4_reckon 31 = .ok (.isub, 1) := by decide +kernel
theorem dX4_reckon_32 : decode cX4_reckon 32 = .ok (.bipush 10, 2) := by decide +kernel
theorem dX4_reckon_34 : decode cX4_reckon 34 = .ok (.invokevirtual 58, 3) := by decide +kernel
theorem dX4_reckon_37 : decode cX4_reckon 37 = .ok (.ifCond .eq 7, 3) := by decide +kernel
theorem dX4_reckon_40 : decode cX4_reckon 40 = .ok (.iconst 1, 1) := by decide +kernel
theorem dX4_reckon_41 : decode cX4_reckon 41 = .ok (.goto 4, 3) := by decide +kernel
theorem dX4_reckon_44 : decode cX4_reckon 44 = .ok (.iconst 0, 1) := by decide +kernel
theorem dX4_reckon_45 : decode cX4_reckon 45 = .ok (.istore_n 3, 1) := by decide +kernel
theorem dX4_reckon_46 : decode cX4_reckon 46 = .ok (.aload_n 0, 1) := by decide +kernel
theorem dX4_reckon_47 : decode cX4_reckon 47 = .ok (.getfield 31, 3) := by decide +kernel
theorem dX4_reckon_50 : decode cX4_reckon 50 = .ok (.lstore 4, 2) := by decide +kernel
theorem dX4_reckon_52 : decode cX4_reckon 52 = .ok (.aload_n 0, 1) := by decide +kernel
theorem dX4_reckon_53 : decode cX4_reckon 53 = .ok (.getfield 35, 3) := by decide +kernel
theorem dX4_reckon_56 : decode cX4_reckon 56 = .ok (.lstore 6, 2) := by decide +kernel
theorem dX4_reckon_58 : decode cX4_reckon 58 = .ok (.iload_n 3, 1) := by decide +kernel
theorem dX4_reckon_59 : decode cX4_reckon 59 = .ok (.ifCond .eq 20, 3) := by decide +kernel
theorem dX4_reckon_62 : decode cX4_reckon 62 = .ok (.aload_n 0, 1) := by decide +kernel
theorem dX4_reckon_63 : decode cX4_reckon 63 = .ok (.aload_n 1, 1) := by decide +kernel
theorem dX4_reckon_64 : decode cX4_reckon 64 = .ok (.getfield 48, 3) := by decide +kernel
theorem dX4_reckon_67 : decode cX4_reckon 67 = .ok (.iload_n 2, 1) := by decide +kernel
theorem dX4_reckon_68 : decode cX4_reckon 68 = .ok (.iaload, 1) := by decide +kernel
theorem dX4_reckon_69 : decode cX4_reckon 69 = .ok (.invokevirtual 62, 3) := by decide +kernel
theorem dX4_reckon_72 : decode cX4_reckon 72 = .ok (.ifCond .eq 7, 3) := by decide +kernel
theorem dX4_reckon_75 : decode cX4_reckon 75 = .ok (.iconst 1, 1) := by decide +kernel
theorem dX4_reckon_76 : decode cX4_reckon 76 = .ok (.goto 4, 3) := by decide +kernel
theorem dX4_reckon_79 : decode cX4_reckon 79 = .ok (.iconst 0, 1) := by decide +kernel
theorem dX4_reckon_80 : decode cX4_reckon 80 = .ok (.istore_n 3, 1) := by decide +kernel
theorem dX4_reckon_81 : decode cX4_reckon 81 = .ok (.aload_n 0, 1) := by decide +kernel
theorem dX4_reckon_82 : decode cX4_reckon 82 = .ok (.getfield 9, 3) := by decide +kernel
theorem dX4_reckon_85 : decode cX4_reckon 85 = .ok (.iload_n 2, 1) := by decide +kernel
theorem dX4_reckon_86 : decode cX4_reckon 86 = .ok (.aload_n 0, 1) := by decide +kernel
theorem dX4_reckon_87 : decode cX4_reckon 87 = .ok (.getfield 31, 3) := by decide +kernel
theorem dX4_reckon_90 : decode cX4_reckon 90 = .ok (.lastore, 1) := by decide +kernel
theorem dX4_reckon_91 : decode cX4_reckon 91 = .ok (.aload_n 0, 1) := by decide +kernel
theorem dX4_reckon_92 : decode cX4_reckon 92 = .ok (.getfield 15, 3) := by decide +kernel
theorem dX4_reckon_95 : decode cX4_reckon 95 = .ok (.iload_n 2, 1) := by decide +kernel
theorem dX4_reckon_96 : decode cX4_reckon 96 = .ok (.aload_n 0, 1) := by decide +kernel
theorem dX4_reckon_97 : decode cX4_reckon 97 = .ok (.getfield 35, 3) := by decide +kernel
theorem dX4_reckon_100 : decode cX4_reckon 100 = .ok (.lastore, 1) := by decide +kernel
theorem dX4_reckon_101 : decode cX4_reckon 101 = .ok (.aload_n 0, 1) := by decide +kernel
theorem dX4_reckon_102 : decode cX4_reckon 102 = .ok (.getfield 18, 3) := by decide +kernel
theorem dX4_reckon_105 : decode cX4_reckon 105 = .ok (.iload_n 2, 1) := by decide +kernel
theorem dX4_reckon_106 : decode cX4_reckon 106 = .ok (.iload_n 3, 1) := by decide +kernel
theorem dX4_reckon_107 : decode cX4_reckon 107 = .ok (.bastore, 1) := by decide +kernel
theorem dX4_reckon_108 : decode cX4_reckon 108 = .ok (.aload_n 0, 1) := by decide +kernel
theorem dX4_reckon_109 : decode cX4_reckon 109 = .ok (.lload 4, 2) := by decide +kernel
theorem dX4_reckon_111 : decode cX4_reckon 111 = .ok (.putfield 31, 3) := by decide +kernel
theorem dX4_reckon_114 : decode cX4_reckon 114 = .ok (.aload_n 0, 1) := by decide +kernel
theorem dX4_reckon_115 : decode cX4_reckon 115 = .ok (.lload 6, 2) := by decide +kernel
theorem dX4_reckon_117 : decode cX4_reckon 117 = .ok (.putfield 35, 3) := by decide +kernel
theorem dX4_reckon_120 : decode cX4_reckon 120 = .ok (.iload_n 3, 1) := by decide +kernel
theorem dX4_reckon_121 : decode cX4_reckon 121 = .ok (.ifCond .eq 20, 3) := by decide +kernel
theorem dX4_reckon_124 : decode cX4_reckon 124 = .ok (.aload_n 0, 1) := by decide +kernel
theorem dX4_reckon_125 : decode cX4_reckon 125 = .ok (.aload_n 1, 1) := by decide +kernel
theorem dX4_reckon_126 : decode cX4_reckon 126 = .ok (.getfield 48, 3) := by decide +kernel
theorem dX4_reckon_129 : decode cX4_reckon 129 = .ok (.iload_n 2, 1) := by decide +kernel
theorem dX4_reckon_130 : decode cX4_reckon 130 = .ok (.iaload, 1) := by decide +kernel
theorem dX4_reckon_131 : decode cX4_reckon 131 = .ok (.invokevirtual 66, 3) := by decide +kernel
theorem dX4_reckon_134 : decode cX4_reckon 134 = .ok (.ifCond .eq 7, 3) := by decide +kernel
theorem dX4_reckon_137 : decode cX4_reckon 137 = .ok (.iconst 1, 1) := by decide +kernel
theorem dX4_reckon_138 : decode cX4_reckon 138 = .ok (.goto 4, 3) := by decide +kernel
theorem dX4_reckon_141 : decode cX4_reckon 141 = .ok (.iconst 0, 1) := by decide +kernel
theorem dX4_reckon_142 : decode cX4_reckon 142 = .ok (.istore_n 3, 1) := by decide +kernel
theorem dX4_reckon_143 : decode cX4_reckon 143 = .ok (.aload_n 0, 1) := by decide +kernel
theorem dX4_reckon_144 : decode cX4_reckon 144 = .ok (.getfield 22, 3) := by decide +kernel
theorem dX4_reckon_147 : decode cX4_reckon 147 = .ok (.iload_n 2, 1) := by decide +kernel
theorem dX4_reckon_148 : decode cX4_reckon 148 = .ok (.aload_n 0, 1) := by decide +kernel
theorem dX4_reckon_149 : decode cX4_reckon 149 = .ok (.getfield 31, 3) := by decide +kernel
theorem dX4_reckon_152 : decode cX4_reckon 152 = .ok (.lastore, 1) := by decide +kernel
theorem dX4_reckon_153 : decode cX4_reckon 153 = .ok (.aload_n 0, 1) := by decide +kernel
theorem dX4_reckon_154 : decode cX4_reckon 154 = .ok (.getfield 25, 3) := by decide +kernel
theorem dX4_reckon_157 : decode cX4_reckon 157 = .ok (.iload_n 2, 1) := by decide +kernel
theorem dX4_reckon_158 : decode cX4_reckon 158 = .ok (.aload_n 0, 1) := by decide +kernel
theorem dX4_reckon_159 : decode cX4_reckon 159 = .ok (.getfield 35, 3) := by decide +kernel
theorem dX4_reckon_162 : decode cX4_reckon 162 = .ok (.lastore, 1) := by decide +kernel
theorem dX4_reckon_163 : decode cX4_reckon 163 = .ok (.aload_n 0, 1) := by decide +kernel
theorem dX4_reckon_164 : decode cX4_reckon 164 = .ok (.getfield 28, 3) := by decide +kernel
theorem dX4_reckon_167 : decode cX4_reckon 167 = .ok (.iload_n 2, 1) := by decide +kernel
theorem dX4_reckon_168 : decode cX4_reckon 168 = .ok (.iload_n 3, 1) := by decide +kernel
theorem dX4_reckon_169 : decode cX4_reckon 169 = .ok (.bastore, 1) := by decide +kernel
theorem dX4_reckon_170 : decode cX4_reckon 170 = .ok (.iinc 2 1, 3) := by decide +kernel
theorem dX4_reckon_173 : decode cX4_reckon 173 = .ok (.goto (-171), 3) := by decide +kernel
theorem dX4_reckon_176 : decode cX4_reckon 176 = .ok (.return_, 1) := by decide +kernel
set_option maxRecDepth 20000 in
theorem ggX4_comingTo_X2_widthUnder : GoodIn wsX4_comingTo wsX2_widthUnder := goodIn_r _ [12, 13, 14, 15, 25, 26, 27, 28, 29, 30, 31, 32, 33, 34] (by exact rfl) (by decide +kernel)
set_option maxRecDepth 20000 in
theorem gX4_comingTo_X2_widthUnder : GoodIn wsX4_comingTo (wsV RX4 75 RX2 yX2_widthUnder wsX2_widthUnder) := goodIn_app (goodIn_of _ (by decide +kernel)) ggX4_comingTo_X2_widthUnder
set_option maxRecDepth 20000 in
theorem ggX4_comingTo_X4_multiply : GoodIn wsX4_comingTo wsX4_multiply := goodIn_r _ [20, 2, 3, 21, 22, 23, 19, 24, 35, 36, 37, 38, 39, 40, 41, 42] (by exact rfl) (by decide +kernel)
set_option maxRecDepth 20000 in
theorem gX4_comingTo_X4_multiply : GoodIn wsX4_comingTo (wsV RX4 58 RX4 yX4_multiply wsX4_multiply) := goodIn_app (goodIn_of _ (by decide +kernel)) ggX4_comingTo_X4_multiply
theorem dX4_comingTo_0 : decode cX4_comingTo 0 = .ok (.aload_n 1, 1) := by decide +kernel
theorem dX4_comingTo_1 : decode cX4_comingTo 1 = .ok (.getfield 69, 3) := by decide +kernel
theorem dX4_comingTo_4 : decode cX4_comingTo 4 = .ok (.iload_n 2, 1) := by decide +kernel
theorem dX4_comingTo_5 : decode cX4_comingTo 5 = .ok (.iaload, 1) := by decide +kernel
theorem dX4_comingTo_6 : decode cX4_comingTo 6 = .ok (.istore_n 3, 1) := by decide +kernel
theorem dX4_comingTo_7 : decode cX4_comingTo 7 = .ok (.iload_n 3, 1) := by decide +kernel
theorem dX4_comingTo_8 : decode cX4_comingTo 8 = .ok (.ifCond .lt 8, 3) := by decide +kernel
theorem dX4_comingTo_11 : decode cX4_comingTo 11 = .ok (.iload_n 3, 1) := by decide +kernel
theorem dX4_comingTo_12 : decode cX4_comingTo 12 = .ok (.iload_n 2, 1) := by decide +kernel
theorem dX4_comingTo_13 : decode cX4_comingTo 13 = .ok (.if_icmp .lt 15, 3) := by decide +kernel
theorem dX4_comingTo_16 : decode cX4_comingTo 16 = .ok (.aload_n 0, 1) := by decide +kernel
theorem dX4_comingTo_17 : decode cX4_comingTo 17 = .ok (.lconst 1, 1) := by decide +kernel
theorem dX4_comingTo_18 : decode cX4_comingTo 18 = .ok (.putfield 31, 3) := by decide +kernel
theorem dX4_comingTo_21 : decode cX4_comingTo 21 = .ok (.aload_n 0, 1) := by decide +kernel
theorem dX4_comingTo_22 : decode cX4_comingTo 22 = .ok (.lconst 1, 1) := by decide +kernel
theorem dX4_comingTo_23 : decode cX4_comingTo 23 = .ok (.putfield 35, 3) := by decide +kernel
theorem dX4_comingTo_26 : decode cX4_comingTo 26 = .ok (.iconst 1, 1) := by decide +kernel
theorem dX4_comingTo_27 : decode cX4_comingTo 27 = .ok (.ireturn, 1) := by decide +kernel
theorem dX4_comingTo_28 : decode cX4_comingTo 28 = .ok (.aload_n 0, 1) := by decide +kernel
theorem dX4_comingTo_29 : decode cX4_comingTo 29 = .ok (.aload_n 0, 1) := by decide +kernel
theorem dX4_comingTo_30 : decode cX4_comingTo 30 = .ok (.getfield 22, 3) := by decide +kernel
theorem dX4_comingTo_33 : decode cX4_comingTo 33 = .ok (.iload_n 3, 1) := by decide +kernel
theorem dX4_comingTo_34 : decode cX4_comingTo 34 = .ok (.laload, 1) := by decide +kernel
theorem dX4_comingTo_35 : decode cX4_comingTo 35 = .ok (.putfield 31, 3) := by decide +kernel
theorem dX4_comingTo_38 : decode cX4_comingTo 38 = .ok (.aload_n 0, 1) := by decide +kernel
theorem dX4_comingTo_39 : decode cX4_comingTo 39 = .ok (.aload_n 0, 1) := by decide +kernel
theorem dX4_comingTo_40 : decode cX4_comingTo 40 = .ok (.getfield 25, 3) := by decide +kernel
theorem dX4_comingTo_43 : decode cX4_comingTo 43 = .ok (.iload_n 3, 1) := by decide +kernel
theorem dX4_comingTo_44 : decode cX4_comingTo 44 = .ok (.laload, 1) := by decide +kernel
theorem dX4_comingTo_45 : decode cX4_comingTo 45 = .ok (.putfield 35, 3) := by decide +kernel
theorem dX4_comingTo_48 : decode cX4_comingTo 48 = .ok (.aload_n 0, 1) := by decide +kernel
theorem dX4_comingTo_49 : decode cX4_comingTo 49 = .ok (.getfield 28, 3) := by decide +kernel
theorem dX4_comingTo_52 : decode cX4_comingTo 52 = .ok (.iload_n 3, 1) := by decide +kernel
theorem dX4_comingTo_53 : decode cX4_comingTo 53 = .ok (.baload, 1) := by decide +kernel
theorem dX4_comingTo_54 : decode cX4_comingTo 54 = .ok (.ifCond .eq 25, 3) := by decide +kernel
theorem dX4_comingTo_57 : decode cX4_comingTo 57 = .ok (.aload_n 0, 1) := by decide +kernel
theorem dX4_comingTo_58 : decode cX4_comingTo 58 = .ok (.aload_n 1, 1) := by decide +kernel
theorem dX4_comingTo_59 : decode cX4_comingTo 59 = .ok (.getfield 72, 3) := by decide +kernel
theorem dX4_comingTo_62 : decode cX4_comingTo 62 = .ok (.iload_n 2, 1) := by decide +kernel
theorem dX4_comingTo_63 : decode cX4_comingTo 63 = .ok (.iaload, 1) := by decide +kernel
theorem dX4_comingTo_64 : decode cX4_comingTo 64 = .ok (.aload_n 1, 1) := by decide +kernel
theorem dX4_comingTo_65 : decode cX4_comingTo 65 = .ok (.iload_n 3, 1) := by decide +kernel
theorem dX4_comingTo_66 : decode cX4_comingTo 66 = .ok (.invokevirtual 75, 3) := by decide +kernel
theorem dX4_comingTo_69 : decode cX4_comingTo 69 = .ok (.invokevirtual 58, 3) := by decide +kernel
theorem dX4_comingTo_72 : decode cX4_comingTo 72 = .ok (.ifCond .eq 7, 3) := by decide +kernel
theorem dX4_comingTo_75 : decode cX4_comingTo 75 = .ok (.iconst 1, 1) := by decide +kernel
theorem dX4_comingTo_76 : decode cX4_comingTo 76 = .ok (.goto 4, 3) := by decide +kernel
theorem dX4_comingTo_79 : decode cX4_comingTo 79 = .ok (.iconst 0, 1) := by decide +kernel
theorem dX4_comingTo_80 : decode cX4_comingTo 80 = .ok (.ireturn, 1) := by decide +kernel
set_option maxRecDepth 20000 in
theorem ggX4_keep_X4_multiply : GoodIn wsX4_keep wsX4_multiply := goodIn_r _ [5, 6, 7, 8, 9, 10, 4, 11, 12, 13, 14, 15, 16, 17, 18, 19] (by exact rfl) (by decide +kernel)
set_option maxRecDepth 20000 in
theorem gX4_keep_X4_multiply : GoodIn wsX4_keep (wsV RX4 58 RX4 yX4_multiply wsX4_multiply) := goodIn_app (goodIn_of _ (by decide +kernel)) ggX4_keep_X4_multiply
theorem dX4_keep_0 : decode cX4_keep 0 = .ok (.iload_n 1, 1) := by decide +kernel
theorem dX4_keep_1 : decode cX4_keep 1 = .ok (.lookupswitch 41 #[(1, 27), (3, 34)], 27) := by decide +kernel
theorem dX4_keep_28 : decode cX4_keep 28 = .ok (.aload_n 0, 1) := by decide +kernel
theorem dX4_keep_29 : decode cX4_keep 29 = .ok (.iconst 2, 1) := by decide +kernel
theorem dX4_keep_30 : decode cX4_keep 30 = .ok (.iconst 5, 1) := by decide +kernel
theorem dX4_keep_31 : decode cX4_keep 31 = .ok (.invokevirtual 58, 3) := by decide +kernel
theorem dX4_keep_34 : decode cX4_keep 34 = .ok (.ireturn, 1) := by decide +kernel
theorem dX4_keep_35 : decode cX4_keep 35 = .ok (.aload_n 0, 1) := by decide +kernel
theorem dX4_keep_36 : decode cX4_keep 36 = .ok (.iconst 0, 1) := by decide +kernel
theorem dX4_keep_37 : decode cX4_keep 37 = .ok (.iconst 1, 1) := by decide +kernel
theorem dX4_keep_38 : decode cX4_keep 38 = .ok (.invokevirtual 58, 3) := by decide +kernel
theorem dX4_keep_41 : decode cX4_keep 41 = .ok (.ireturn, 1) := by decide +kernel
theorem dX4_keep_42 : decode cX4_keep 42 = .ok (.aload_n 0, 1) := by decide +kernel
theorem dX4_keep_43 : decode cX4_keep 43 = .ok (.iconst 1, 1) := by decide +kernel
theorem dX4_keep_44 : decode cX4_keep 44 = .ok (.iconst 3, 1) := by decide +kernel
theorem dX4_keep_45 : decode cX4_keep 45 = .ok (.invokevirtual 58, 3) := by decide +kernel
theorem dX4_keep_48 : decode cX4_keep 48 = .ok (.ireturn, 1) := by decide +kernel
set_option maxRecDepth 20000 in
theorem ggX4_goOn_X4_multiply : GoodIn wsX4_goOn wsX4_multiply := goodIn_r _ [5, 6, 7, 8, 9, 10, 4, 11, 12, 13, 14, 15, 16, 17, 18, 19] (by exact rfl) (by decide +kernel)
set_option maxRecDepth 20000 in
theorem gX4_goOn_X4_multiply : GoodIn wsX4_goOn (wsV RX4 58 RX4 yX4_multiply wsX4_multiply) := goodIn_app (goodIn_of _ (by decide +kernel)) ggX4_goOn_X4_multiply
theorem dX4_goOn_0 : decode cX4_goOn 0 = .ok (.iload_n 1, 1) := by decide +kernel
theorem dX4_goOn_1 : decode cX4_goOn 1 = .ok (.lookupswitch 36 #[(1, 27), (3, 34)], 27) := by decide +kernel
theorem dX4_goOn_28 : decode cX4_goOn 28 = .ok (.aload_n 0, 1) := by decide +kernel
theorem dX4_goOn_29 : decode cX4_goOn 29 = .ok (.iconst 3, 1) := by decide +kernel
theorem dX4_goOn_30 : decode cX4_goOn 30 = .ok (.iconst 5, 1) := by decide +kernel
theorem dX4_goOn_31 : decode cX4_goOn 31 = .ok (.invokevirtual 58, 3) := by decide +kernel
theorem dX4_goOn_34 : decode cX4_goOn 34 = .ok (.ireturn, 1) := by decide +kernel
theorem dX4_goOn_35 : decode cX4_goOn 35 = .ok (.iconst 1, 1) := by decide +kernel
theorem dX4_goOn_36 : decode cX4_goOn 36 = .ok (.ireturn, 1) := by decide +kernel
theorem dX4_goOn_37 : decode cX4_goOn 37 = .ok (.aload_n 0, 1) := by decide +kernel
theorem dX4_goOn_38 : decode cX4_goOn 38 = .ok (.iconst 2, 1) := by decide +kernel
theorem dX4_goOn_39 : decode cX4_goOn 39 = .ok (.iconst 3, 1) := by decide +kernel
theorem dX4_goOn_40 : decode cX4_goOn 40 = .ok (.invokevirtual 58, 3) := by decide +kernel
theorem dX4_goOn_43 : decode cX4_goOn 43 = .ok (.ireturn, 1) := by decide +kernel
set_option maxRecDepth 20000 in
theorem ggX4_multiply_X4_commonDivisor : GoodIn wsX4_multiply wsX4_commonDivisor := goodIn_r _ [7] (by exact rfl) (by decide +kernel)
set_option maxRecDepth 20000 in
theorem gX4_multiply_X4_commonDivisor : GoodIn wsX4_multiply (va_wsS RX4 78 yX4_commonDivisor wsX4_commonDivisor) := goodIn_app (goodIn_of _ (by decide +kernel)) ggX4_multiply_X4_commonDivisor
theorem dX4_multiply_0 : decode cX4_multiply 0 = .ok (.aload_n 0, 1) := by decide +kernel
theorem dX4_multiply_1 : decode cX4_multiply 1 = .ok (.dup, 1) := by decide +kernel
theorem dX4_multiply_2 : decode cX4_multiply 2 = .ok (.getfield 31, 3) := by decide +kernel
theorem dX4_multiply_5 : decode cX4_multiply 5 = .ok (.iload_n 1, 1) := by decide +kernel
theorem dX4_multiply_6 : decode cX4_multiply 6 = .ok (.i2l, 1) := by decide +kernel
theorem dX4_multiply_7 : decode cX4_multiply 7 = .ok (.lmul, 1) := by decide +kernel
theorem dX4_multiply_8 : decode cX4_multiply 8 = .ok (.putfield 31, 3) := by decide +kernel
theorem dX4_multiply_11 : decode cX4_multiply 11 = .ok (.aload_n 0, 1) := by decide +kernel
theorem dX4_multiply_12 : decode cX4_multiply 12 = .ok (.dup, 1) := by decide +kernel
theorem dX4_multiply_13 : decode cX4_multiply 13 = .ok (.getfield 35, 3) := by decide +kernel
theorem dX4_multiply_16 : decode cX4_multiply 16 = .ok (.iload_n 2, 1) := by decide +kernel
theorem dX4_multiply_17 : decode cX4_multiply 17 = .ok (.i2l, 1) := by decide +kernel
theorem dX4_multiply_18 : decode cX4_multiply 18 = .ok (.lmul, 1) := by decide +kernel
theorem dX4_multiply_19 : decode cX4_multiply 19 = .ok (.putfield 35, 3) := by decide +kernel
theorem dX4_multiply_22 : decode cX4_multiply 22 = .ok (.aload_n 0, 1) := by decide +kernel
theorem dX4_multiply_23 : decode cX4_multiply 23 = .ok (.getfield 31, 3) := by decide +kernel
theorem dX4_multiply_26 : decode cX4_multiply 26 = .ok (.aload_n 0, 1) := by decide +kernel
theorem dX4_multiply_27 : decode cX4_multiply 27 = .ok (.getfield 35, 3) := by decide +kernel
theorem dX4_multiply_30 : decode cX4_multiply 30 = .ok (.invokestatic 78, 3) := by decide +kernel
theorem dX4_multiply_33 : decode cX4_multiply 33 = .ok (.lstore_n 3, 1) := by decide +kernel
theorem dX4_multiply_34 : decode cX4_multiply 34 = .ok (.lload_n 3, 1) := by decide +kernel
theorem dX4_multiply_35 : decode cX4_multiply 35 = .ok (.lconst 0, 1) := by decide +kernel
theorem dX4_multiply_36 : decode cX4_multiply 36 = .ok (.lcmp, 1) := by decide +kernel
theorem dX4_multiply_37 : decode cX4_multiply 37 = .ok (.ifCond .le 23, 3) := by decide +kernel
theorem dX4_multiply_40 : decode cX4_multiply 40 = .ok (.aload_n 0, 1) := by decide +kernel
theorem dX4_multiply_41 : decode cX4_multiply 41 = .ok (.dup, 1) := by decide +kernel
theorem dX4_multiply_42 : decode cX4_multiply 42 = .ok (.getfield 31, 3) := by decide +kernel
theorem dX4_multiply_45 : decode cX4_multiply 45 = .ok (.lload_n 3, 1) := by decide +kernel
theorem dX4_multiply_46 : decode cX4_multiply 46 = .ok (.ldiv, 1) := by decide +kernel
theorem dX4_multiply_47 : decode cX4_multiply 47 = .ok (.putfield 31, 3) := by decide +kernel
theorem dX4_multiply_50 : decode cX4_multiply 50 = .ok (.aload_n 0, 1) := by decide +kernel
theorem dX4_multiply_51 : decode cX4_multiply 51 = .ok (.dup, 1) := by decide +kernel
theorem dX4_multiply_52 : decode cX4_multiply 52 = .ok (.getfield 35, 3) := by decide +kernel
theorem dX4_multiply_55 : decode cX4_multiply 55 = .ok (.lload_n 3, 1) := by decide +kernel
theorem dX4_multiply_56 : decode cX4_multiply 56 = .ok (.ldiv, 1) := by decide +kernel
theorem dX4_multiply_57 : decode cX4_multiply 57 = .ok (.putfield 35, 3) := by decide +kernel
theorem dX4_multiply_60 : decode cX4_multiply 60 = .ok (.aload_n 0, 1) := by decide +kernel
theorem dX4_multiply_61 : decode cX4_multiply 61 = .ok (.getfield 31, 3) := by decide +kernel
theorem dX4_multiply_64 : decode cX4_multiply 64 = .ok (.ldc2_w 82, 3) := by decide +kernel
theorem dX4_multiply_67 : decode cX4_multiply 67 = .ok (.lcmp, 1) := by decide +kernel
theorem dX4_multiply_68 : decode cX4_multiply 68 = .ok (.ifCond .gt 18, 3) := by decide +kernel
theorem dX4_multiply_71 : decode cX4_multiply 71 = .ok (.aload_n 0, 1) := by decide +kernel
theorem dX4_multiply_72 : decode cX4_multiply 72 = .ok (.getfield 35, 3) := by decide +kernel
theorem dX4_multiply_75 : decode cX4_multiply 75 = .ok (.ldc2_w 82, 3) := by decide +kernel
theorem dX4_multiply_78 : decode cX4_multiply 78 = .ok (.lcmp, 1) := by decide +kernel
theorem dX4_multiply_79 : decode cX4_multiply 79 = .ok (.ifCond .gt 7, 3) := by decide +kernel
theorem dX4_multiply_82 : decode cX4_multiply 82 = .ok (.iconst 1, 1) := by decide +kernel
theorem dX4_multiply_83 : decode cX4_multiply 83 = .ok (.goto 4, 3) := by decide +kernel
theorem dX4_multiply_86 : decode cX4_multiply 86 = .ok (.iconst 0, 1) := by decide +kernel
theorem dX4_multiply_87 : decode cX4_multiply 87 = .ok (.ireturn, 1) := by decide +kernel
theorem dX4_commonDivisor_0 : decode cX4_commonDivisor 0 = .ok (.lload_n 0, 1) := by decide +kernel
theorem dX4_commonDivisor_1 : decode cX4_commonDivisor 1 = .ok (.lstore 4, 2) := by decide +kernel
theorem dX4_commonDivisor_3 : decode cX4_commonDivisor 3 = .ok (.lload_n 2, 1) := by decide +kernel
theorem dX4_commonDivisor_4 : decode cX4_commonDivisor 4 = .ok (.lstore 6, 2) := by decide +kernel
theorem dX4_commonDivisor_6 : decode cX4_commonDivisor 6 = .ok (.iconst 0, 1) := by decide +kernel
theorem dX4_commonDivisor_7 : decode cX4_commonDivisor 7 = .ok (.istore 8, 2) := by decide +kernel
theorem dX4_commonDivisor_9 : decode cX4_commonDivisor 9 = .ok (.iload 8, 2) := by decide +kernel
theorem dX4_commonDivisor_11 : decode cX4_commonDivisor 11 = .ok (.sipush 200, 3) := by decide +kernel
theorem dX4_commonDivisor_14 : decode cX4_commonDivisor 14 = .ok (.if_icmp .ge 31, 3) := by decide +kernel
theorem dX4_commonDivisor_17 : decode cX4_commonDivisor 17 = .ok (.lload 6, 2) := by decide +kernel
theorem dX4_commonDivisor_19 : decode cX4_commonDivisor 19 = .ok (.lconst 0, 1) := by decide +kernel
theorem dX4_commonDivisor_20 : decode cX4_commonDivisor 20 = .ok (.lcmp, 1) := by decide +kernel
theorem dX4_commonDivisor_21 : decode cX4_commonDivisor 21 = .ok (.ifCond .eq 24, 3) := by decide +kernel
theorem dX4_commonDivisor_24 : decode cX4_commonDivisor 24 = .ok (.lload 4, 2) := by decide +kernel
theorem dX4_commonDivisor_26 : decode cX4_commonDivisor 26 = .ok (.lload 6, 2) := by decide +kernel
theorem dX4_commonDivisor_28 : decode cX4_commonDivisor 28 = .ok (.lrem, 1) := by decide +kernel
theorem dX4_commonDivisor_29 : decode cX4_commonDivisor 29 = .ok (.lstore 9, 2) := by decide +kernel
theorem dX4_commonDivisor_31 : decode cX4_commonDivisor 31 = .ok (.lload 6, 2) := by decide +kernel
theorem dX4_commonDivisor_33 : decode cX4_commonDivisor 33 = .ok (.lstore 4, 2) := by decide +kernel
theorem dX4_commonDivisor_35 : decode cX4_commonDivisor 35 = .ok (.lload 9, 2) := by decide +kernel
theorem dX4_commonDivisor_37 : decode cX4_commonDivisor 37 = .ok (.lstore 6, 2) := by decide +kernel
theorem dX4_commonDivisor_39 : decode cX4_commonDivisor 39 = .ok (.iinc 8 1, 3) := by decide +kernel
theorem dX4_commonDivisor_42 : decode cX4_commonDivisor 42 = .ok (.goto (-33), 3) := by decide +kernel
theorem dX4_commonDivisor_45 : decode cX4_commonDivisor 45 = .ok (.lload 4, 2) := by decide +kernel
theorem dX4_commonDivisor_47 : decode cX4_commonDivisor 47 = .ok (.lreturn, 1) := by decide +kernel
theorem dX4_order_0 : decode cX4_order 0 = .ok (.aload_n 0, 1) := by decide +kernel
theorem dX4_order_1 : decode cX4_order 1 = .ok (.getfield 9, 3) := by decide +kernel
theorem dX4_order_4 : decode cX4_order 4 = .ok (.iload_n 1, 1) := by decide +kernel
theorem dX4_order_5 : decode cX4_order 5 = .ok (.laload, 1) := by decide +kernel
theorem dX4_order_6 : decode cX4_order 6 = .ok (.lstore_n 3, 1) := by decide +kernel
theorem dX4_order_7 : decode cX4_order 7 = .ok (.aload_n 0, 1) := by decide +kernel
theorem dX4_order_8 : decode cX4_order 8 = .ok (.getfield 15, 3) := by decide +kernel
theorem dX4_order_11 : decode cX4_order 11 = .ok (.iload_n 1, 1) := by decide +kernel
theorem dX4_order_12 : decode cX4_order 12 = .ok (.laload, 1) := by decide +kernel
theorem dX4_order_13 : decode cX4_order 13 = .ok (.lstore 5, 2) := by decide +kernel
theorem dX4_order_15 : decode cX4_order 15 = .ok (.aload_n 0, 1) := by decide +kernel
theorem dX4_order_16 : decode cX4_order 16 = .ok (.getfield 9, 3) := by decide +kernel
theorem dX4_order_19 : decode cX4_order 19 = .ok (.iload_n 2, 1) := by decide +kernel
theorem dX4_order_20 : decode cX4_order 20 = .ok (.laload, 1) := by decide +kernel
theorem dX4_order_21 : decode cX4_order 21 = .ok (.lstore 7, 2) := by decide +kernel
theorem dX4_order_23 : decode cX4_order 23 = .ok (.aload_n 0, 1) := by decide +kernel
theorem dX4_order_24 : decode cX4_order 24 = .ok (.getfield 15, 3) := by decide +kernel
theorem dX4_order_27 : decode cX4_order 27 = .ok (.iload_n 2, 1) := by decide +kernel
theorem dX4_order_28 : decode cX4_order 28 = .ok (.laload, 1) := by decide +kernel
theorem dX4_order_29 : decode cX4_order 29 = .ok (.lstore 9, 2) := by decide +kernel
theorem dX4_order_31 : decode cX4_order 31 = .ok (.iconst 1, 1) := by decide +kernel
theorem dX4_order_32 : decode cX4_order 32 = .ok (.istore 11, 2) := by decide +kernel
theorem dX4_order_34 : decode cX4_order 34 = .ok (.iconst 0, 1) := by decide +kernel
theorem dX4_order_35 : decode cX4_order 35 = .ok (.istore 12, 2) := by decide +kernel
theorem dX4_order_37 : decode cX4_order 37 = .ok (.iload 12, 2) := by decide +kernel
theorem dX4_order_39 : decode cX4_order 39 = .ok (.sipush 200, 3) := by decide +kernel
theorem dX4_order_42 : decode cX4_order 42 = .ok (.if_icmp .ge 91, 3) := by decide +kernel
theorem dX4_order_45 : decode cX4_order 45 = .ok (.lload 5, 2) := by decide +kernel
theorem dX4_order_47 : decode cX4_order 47 = .ok (.lconst 0, 1) := by decide +kernel
theorem dX4_order_48 : decode cX4_order 48 = .ok (.lcmp, 1) := by decide +kernel
theorem dX4_order_49 : decode cX4_order 49 = .ok (.ifCond .le 84, 3) := by decide +kernel
theorem dX4_order_52 : decode cX4_order 52 = .ok (.lload 9, 2) := by decide +kernel
theorem dX4_order_54 : decode cX4_order 54 = .ok (.lconst 0, 1) := by decide +kernel
theorem dX4_order_55 : decode cX4_order 55 = .ok (.lcmp, 1) := by decide +kernel
theorem dX4_order_56 : decode cX4_order 56 = .ok (.ifCond .le 77, 3) := by decide +kernel
theorem dX4_order_59 : decode cX4_order 59 = .ok (.lload_n 3, 1) := by decide +kernel
theorem dX4_order_60 : decode cX4_order 60 = .ok (.lload 5, 2) := by decide +kernel
theorem dX4_order_62 : decode cX4_order 62 = .ok (.ldiv, 1) := by decide +kernel
theorem dX4_order_63 : decode cX4_order 63 = .ok (.lload 7, 2) := by decide +kernel
theorem dX4_order_65 : decode cX4_order 65 = .ok (.lload 9, 2) := by decide +kernel
theorem dX4_order_67 : decode cX4_order 67 = .ok (.ldiv, 1) := by decide +kernel
theorem dX4_order_68 : decode cX4_order 68 = .ok (.lcmp, 1) := by decide +kernel
theorem dX4_order_69 : decode cX4_order 69 = .ok (.ifCond .eq 25, 3) := by decide +kernel
theorem dX4_order_72 : decode cX4_order 72 = .ok (.lload_n 3, 1) := by decide +kernel
theorem dX4_order_73 : decode cX4_order 73 = .ok (.lload 5, 2) := by decide +kernel
theorem dX4_order_75 : decode cX4_order 75 = .ok (.ldiv, 1) := by decide +kernel
theorem dX4_order_76 : decode cX4_order 76 = .ok (.lload 7, 2) := by decide +kernel
theorem dX4_order_78 : decode cX4_order 78 = .ok (.lload 9, 2) := by decide +kernel
theorem dX4_order_80 : decode cX4_order 80 = .ok (.ldiv, 1) := by decide +kernel
theorem dX4_order_81 : decode cX4_order 81 = .ok (.lcmp, 1) := by decide +kernel
theorem dX4_order_82 : decode cX4_order 82 = .ok (.ifCond .le 8, 3) := by decide +kernel
theorem dX4_order_85 : decode cX4_order 85 = .ok (.iload 11, 2) := by decide +kernel
theorem dX4_order_87 : decode cX4_order 87 = .ok (.goto 6, 3) := by decide +kernel
theorem dX4_order_90 : decode cX4_order 90 = .ok (.iload 11, 2) := by decide +kernel
theorem dX4_order_92 : decode cX4_order 92 = .ok (.ineg, 1) := by decide +kernel
theorem dX4_order_93 : decode cX4_order 93 = .ok (.ireturn, 1) := by decide +kernel
theorem dX4_order_94 : decode cX4_order 94 = .ok (.lload_n 3, 1) := by decide +kernel
theorem dX4_order_95 : decode cX4_order 95 = .ok (.lload 5, 2) := by decide +kernel
theorem dX4_order_97 : decode cX4_order 97 = .ok (.lrem, 1) := by decide +kernel
theorem dX4_order_98 : decode cX4_order 98 = .ok (.lstore 13, 2) := by decide +kernel
theorem dX4_order_100 : decode cX4_order 100 = .ok (.lload 5, 2) := by decide +kernel
theorem dX4_order_102 : decode cX4_order 102 = .ok (.lstore_n 3, 1) := by decide +kernel
theorem dX4_order_103 : decode cX4_order 103 = .ok (.lload 13, 2) := by decide +kernel
theorem dX4_order_105 : decode cX4_order 105 = .ok (.lstore 5, 2) := by decide +kernel
theorem dX4_order_107 : decode cX4_order 107 = .ok (.lload 7, 2) := by decide +kernel
theorem dX4_order_109 : decode cX4_order 109 = .ok (.lload 9, 2) := by decide +kernel
theorem dX4_order_111 : decode cX4_order 111 = .ok (.lrem, 1) := by decide +kernel
theorem dX4_order_112 : decode cX4_order 112 = .ok (.lstore 13, 2) := by decide +kernel
theorem dX4_order_114 : decode cX4_order 114 = .ok (.lload 9, 2) := by decide +kernel
theorem dX4_order_116 : decode cX4_order 116 = .ok (.lstore 7, 2) := by decide +kernel
theorem dX4_order_118 : decode cX4_order 118 = .ok (.lload 13, 2) := by decide +kernel
theorem dX4_order_120 : decode cX4_order 120 = .ok (.lstore 9, 2) := by decide +kernel
theorem dX4_order_122 : decode cX4_order 122 = .ok (.iload 11, 2) := by decide +kernel
theorem dX4_order_124 : decode cX4_order 124 = .ok (.ineg, 1) := by decide +kernel
theorem dX4_order_125 : decode cX4_order 125 = .ok (.istore 11, 2) := by decide +kernel
theorem dX4_order_127 : decode cX4_order 127 = .ok (.iinc 12 1, 3) := by decide +kernel
theorem dX4_order_130 : decode cX4_order 130 = .ok (.goto (-93), 3) := by decide +kernel
theorem dX4_order_133 : decode cX4_order 133 = .ok (.lload 5, 2) := by decide +kernel
theorem dX4_order_135 : decode cX4_order 135 = .ok (.lload 9, 2) := by decide +kernel
theorem dX4_order_137 : decode cX4_order 137 = .ok (.lcmp, 1) := by decide +kernel
theorem dX4_order_138 : decode cX4_order 138 = .ok (.ifCond .ne 5, 3) := by decide +kernel
theorem dX4_order_141 : decode cX4_order 141 = .ok (.iconst 0, 1) := by decide +kernel
theorem dX4_order_142 : decode cX4_order 142 = .ok (.ireturn, 1) := by decide +kernel
theorem dX4_order_143 : decode cX4_order 143 = .ok (.lload 5, 2) := by decide +kernel
theorem dX4_order_145 : decode cX4_order 145 = .ok (.lconst 0, 1) := by decide +kernel
theorem dX4_order_146 : decode cX4_order 146 = .ok (.lcmp, 1) := by decide +kernel
theorem dX4_order_147 : decode cX4_order 147 = .ok (.ifCond .ne 8, 3) := by decide +kernel
theorem dX4_order_150 : decode cX4_order 150 = .ok (.iload 11, 2) := by decide +kernel
theorem dX4_order_152 : decode cX4_order 152 = .ok (.goto 6, 3) := by decide +kernel
theorem dX4_order_155 : decode cX4_order 155 = .ok (.iload 11, 2) := by decide +kernel
theorem dX4_order_157 : decode cX4_order 157 = .ok (.ineg, 1) := by decide +kernel
theorem dX4_order_158 : decode cX4_order 158 = .ok (.ireturn, 1) := by decide +kernel
theorem dX5_init_0 : decode cX5_init 0 = .ok (.aload_n 0, 1) := by decide +kernel
theorem dX5_init_1 : decode cX5_init 1 = .ok (.invokespecial 3, 3) := by decide +kernel
theorem dX5_init_4 : decode cX5_init 4 = .ok (.aload_n 0, 1) := by decide +kernel
theorem dX5_init_5 : decode cX5_init 5 = .ok (.bipush 40, 2) := by decide +kernel
theorem dX5_init_7 : decode cX5_init 7 = .ok (.newarray .int, 2) := by decide +kernel
theorem dX5_init_9 : decode cX5_init 9 = .ok (.putfield 9, 3) := by decide +kernel
theorem dX5_init_12 : decode cX5_init 12 = .ok (.return_, 1) := by decide +kernel
theorem dX5_isMissing_0 : decode cX5_isMissing 0 = .ok (.aload_n 0, 1) := by decide +kernel
theorem dX5_isMissing_1 : decode cX5_isMissing 1 = .ok (.getfield 15, 3) := by decide +kernel
theorem dX5_isMissing_4 : decode cX5_isMissing 4 = .ok (.ifCond .ne 7, 3) := by decide +kernel
theorem dX5_isMissing_7 : decode cX5_isMissing 7 = .ok (.iconst 1, 1) := by decide +kernel
theorem dX5_isMissing_8 : decode cX5_isMissing 8 = .ok (.goto 4, 3) := by decide +kernel
theorem dX5_isMissing_11 : decode cX5_isMissing 11 = .ok (.iconst 0, 1) := by decide +kernel
theorem dX5_isMissing_12 : decode cX5_isMissing 12 = .ok (.ireturn, 1) := by decide +kernel
theorem dX5_begin_0 : decode cX5_begin 0 = .ok (.aload_n 0, 1) := by decide +kernel
theorem dX5_begin_1 : decode cX5_begin 1 = .ok (.iload_n 1, 1) := by decide +kernel
theorem dX5_begin_2 : decode cX5_begin 2 = .ok (.putfield 15, 3) := by decide +kernel
theorem dX5_begin_5 : decode cX5_begin 5 = .ok (.aload_n 0, 1) := by decide +kernel
theorem dX5_begin_6 : decode cX5_begin 6 = .ok (.iload_n 2, 1) := by decide +kernel
theorem dX5_begin_7 : decode cX5_begin 7 = .ok (.putfield 19, 3) := by decide +kernel
theorem dX5_begin_10 : decode cX5_begin 10 = .ok (.iconst 0, 1) := by decide +kernel
theorem dX5_begin_11 : decode cX5_begin 11 = .ok (.istore_n 3, 1) := by decide +kernel
theorem dX5_begin_12 : decode cX5_begin 12 = .ok (.iload_n 3, 1) := by decide +kernel
theorem dX5_begin_13 : decode cX5_begin 13 = .ok (.bipush 40, 2) := by decide +kernel
theorem dX5_begin_15 : decode cX5_begin 15 = .ok (.if_icmp .ge 16, 3) := by decide +kernel
theorem dX5_begin_18 : decode cX5_begin 18 = .ok (.aload_n 0, 1) := by decide +kernel
theorem dX5_begin_19 : decode cX5_begin 19 = .ok (.getfield 9, 3) := by decide +kernel
theorem dX5_begin_22 : decode cX5_begin 22 = .ok (.iload_n 3, 1) := by decide +kernel
theorem dX5_begin_23 : decode cX5_begin 23 = .ok (.iconst 0, 1) := by decide +kernel
theorem dX5_begin_24 : decode cX5_begin 24 = .ok (.iastore, 1) := by decide +kernel
theorem dX5_begin_25 : decode cX5_begin 25 = .ok (.iinc 3 1, 3) := by decide +kernel
theorem dX5_begin_28 : decode cX5_begin 28 = .ok (.goto (-16), 3) := by decide +kernel
theorem dX5_begin_31 : decode cX5_begin 31 = .ok (.return_, 1) := by decide +kernel
theorem dX5_has_0 : decode cX5_has 0 = .ok (.iload_n 1, 1) := by decide +kernel
theorem dX5_has_1 : decode cX5_has 1 = .ok (.ifCond .lt 29, 3) := by decide +kernel
theorem dX5_has_4 : decode cX5_has 4 = .ok (.iload_n 2, 1) := by decide +kernel
theorem dX5_has_5 : decode cX5_has 5 = .ok (.ifCond .lt 25, 3) := by decide +kernel
theorem dX5_has_8 : decode cX5_has 8 = .ok (.iload_n 1, 1) := by decide +kernel
theorem dX5_has_9 : decode cX5_has 9 = .ok (.aload_n 0, 1) := by decide +kernel
theorem dX5_has_10 : decode cX5_has 10 = .ok (.getfield 19, 3) := by decide +kernel
theorem dX5_has_13 : decode cX5_has 13 = .ok (.if_icmp .gt 17, 3) := by decide +kernel
theorem dX5_has_16 : decode cX5_has 16 = .ok (.iload_n 2, 1) := by decide +kernel
theorem dX5_has_17 : decode cX5_has 17 = .ok (.aload_n 0, 1) := by decide +kernel
theorem dX5_has_18 : decode cX5_has 18 = .ok (.getfield 19, 3) := by decide +kernel
theorem dX5_has_21 : decode cX5_has 21 = .ok (.iload_n 1, 1) := by decide +kernel
theorem dX5_has_22 : decode cX5_has 22 = .ok (.isub, 1) := by decide +kernel
theorem dX5_has_23 : decode cX5_has 23 = .ok (.if_icmp .gt 7, 3) := by decide +kernel
theorem dX5_has_26 : decode cX5_has 26 = .ok (.iconst 1, 1) := by decide +kernel
theorem dX5_has_27 : decode cX5_has 27 = .ok (.goto 4, 3) := by decide +kernel
theorem dX5_has_30 : decode cX5_has 30 = .ok (.iconst 0, 1) := by decide +kernel
theorem dX5_has_31 : decode cX5_has 31 = .ok (.ireturn, 1) := by decide +kernel
theorem dX5_lowestBits_0 : decode cX5_lowestBits 0 = .ok (.aload_n 0, 1) := by decide +kernel
theorem dX5_lowestBits_1 : decode cX5_lowestBits 1 = .ok (.getfield 15, 3) := by decide +kernel
theorem dX5_lowestBits_4 : decode cX5_lowestBits 4 = .ok (.lookupswitch 34 #[(8, 28), (16, 31)], 28) := by decide +kernel
theorem dX5_lowestBits_32 : decode cX5_lowestBits 32 = .ok (.iload_n 1, 1) := by decide +kernel
theorem dX5_lowestBits_33 : decode cX5_lowestBits 33 = .ok (.i2b, 1) := by decide +kernel
theorem dX5_lowestBits_34 : decode cX5_lowestBits 34 = .ok (.ireturn, 1) := by decide +kernel
theorem dX5_lowestBits_35 : decode cX5_lowestBits 35 = .ok (.iload_n 1, 1) := by decide +kernel
theorem dX5_lowestBits_36 : decode cX5_lowestBits 36 = .ok (.i2s, 1) := by decide +kernel
theorem dX5_lowestBits_37 : decode cX5_lowestBits 37 = .ok (.ireturn, 1) := by decide +kernel
theorem dX5_lowestBits_38 : decode cX5_lowestBits 38 = .ok (.iload_n 1, 1) := by decide +kernel
theorem dX5_lowestBits_39 : decode cX5_lowestBits 39 = .ok (.ireturn, 1) := by decide +kernel
theorem dX6_init_0 : decode cX6_init 0 = .ok (.aload_n 0, 1) := by decide +kernel
theorem dX6_init_1 : decode cX6_init 1 = .ok (.invokespecial 3, 3) := by decide +kernel
theorem dX6_init_4 : decode cX6_init 4 = .ok (.aload_n 0, 1) := by decide +kernel
theorem dX6_init_5 : decode cX6_init 5 = .ok (.bipush 120, 2) := by decide +kernel
theorem dX6_init_7 : decode cX6_init 7 = .ok (.newarray .int, 2) := by decide +kernel
theorem dX6_init_9 : decode cX6_init 9 = .ok (.putfield 9, 3) := by decide +kernel
theorem dX6_init_12 : decode cX6_init 12 = .ok (.return_, 1) := by decide +kernel
theorem dX6_append_0 : decode cX6_append 0 = .ok (.aload_n 0, 1) := by decide +kernel
theorem dX6_append_1 : decode cX6_append 1 = .ok (.getfield 15, 3) := by decide +kernel
theorem dX6_append_4 : decode cX6_append 4 = .ok (.ifCond .lt 32, 3) := by decide +kernel
theorem dX6_append_7 : decode cX6_append 7 = .ok (.aload_n 0, 1) := by decide +kernel
theorem dX6_append_8 : decode cX6_append 8 = .ok (.getfield 15, 3) := by decide +kernel
theorem dX6_append_11 : decode cX6_append 11 = .ok (.bipush 120, 2) := by decide +kernel
theorem dX6_append_13 : decode cX6_append 13 = .ok (.if_icmp .ge 23, 3) := by decide +kernel
theorem dX6_append_16 : decode cX6_append 16 = .ok (.aload_n 0, 1) := by decide +kernel
theorem dX6_append_17 : decode cX6_append 17 = .ok (.getfield 9, 3) := by decide +kernel
theorem dX6_append_20 : decode cX6_append 20 = .ok (.aload_n 0, 1) := by decide +kernel
theorem dX6_append_21 : decode cX6_append 21 = .ok (.getfield 15, 3) := by decide +kernel
theorem dX6_append_24 : decode cX6_append 24 = .ok (.iload_n 1, 1) := by decide +kernel
theorem dX6_append_25 : decode cX6_append 25 = .ok (.iastore, 1) := by decide +kernel
theorem dX6_append_26 : decode cX6_append 26 = .ok (.aload_n 0, 1) := by decide +kernel
theorem dX6_append_27 : decode cX6_append 27 = .ok (.dup, 1) := by decide +kernel
theorem dX6_append_28 : decode cX6_append 28 = .ok (.getfield 15, 3) := by decide +kernel
theorem dX6_append_31 : decode cX6_append 31 = .ok (.iconst 1, 1) := by decide +kernel
theorem dX6_append_32 : decode cX6_append 32 = .ok (.iadd, 1) := by decide +kernel
theorem dX6_append_33 : decode cX6_append 33 = .ok (.putfield 15, 3) := by decide +kernel
theorem dX6_append_36 : decode cX6_append 36 = .ok (.return_, 1) := by decide +kernel
set_option maxRecDepth 20000 in
theorem ggX6_read_X6_advance : GoodIn wsX6_read wsX6_advance := goodIn_r _ [8, 1, 3, 2, 9, 10, 11, 7, 12, 13, 14, 15, 16, 17, 18, 119, 120, 121, 122, 123, 124] (by exact rfl) (by decide +kernel)
set_option maxRecDepth 20000 in
theorem gX6_read_X6_advance : GoodIn wsX6_read (wsV RX6 22 RX6 yX6_advance wsX6_advance) := goodIn_app (goodIn_of _ (by decide +kernel)) ggX6_read_X6_advance
set_option maxRecDepth 20000 in
theorem ggX6_read_X6_readItem : GoodIn wsX6_read wsX6_readItem := goodIn_r _ [22, 23, 24, 25, 26, 7, 27, 2, 1, 3, 28, 29, 30, 31, 32, 33, 34, 35, 36, 37, 38, 39, 13, 14, 15, 16, 17, 18, 40, 41, 42, 43, 44, 45, 46, 47, 48, 49, 50, 51, 52, 53, 54, 55, 56, 57, 58, 59, 60, 61, 62, 63, 64, 65, 66, 67, 68, 69, 70, 71, 72, 73, 74, 75, 76, 77, 78, 79, 80, 81, 82, 83, 4, 5, 6, 8, 9, 10, 11, 12, 84, 85, 86, 87, 88, 89, 90, 91, 92, 93, 94, 95, 96, 97, 98, 99, 100, 101, 102, 103, 104, 105, 106, 107, 108, 109, 110, 111, 112, 113, 114, 115, 116, 117, 118, 125, 126, 127, 128, 129, 130, 131, 132, 133, 134, 119, 120, 121, 122, 123, 124] (by exact rfl) (by decide +kernel)
set_option maxRecDepth 20000 in
theorem gX6_read_X6_readItem : GoodIn wsX6_read (wsV RX6 25 RX6 yX6_readItem wsX6_readItem) := goodIn_app (goodIn_of _ (by decide +kernel)) ggX6_read_X6_readItem
theorem dX6_read_0 : decode cX6_read 0 = .ok (.aload_n 0, 1) := by decide +kernel
theorem dX6_read_1 : decode cX6_read 1 = .ok (.iconst 0, 1) := by decide +kernel
theorem dX6_read_2 : decode cX6_read 2 = .ok (.putfield 19, 3) := by decide +kernel
theorem dX6_read_5 : decode cX6_read 5 = .ok (.aload_n 0, 1) := by decide +kernel
theorem dX6_read_6 : decode cX6_read 6 = .ok (.invokevirtual 22, 3) := by decide +kernel
theorem dX6_read_9 : decode cX6_read 9 = .ok (.iconst 1, 1) := by decide +kernel
theorem dX6_read_10 : decode cX6_read 10 = .ok (.istore_n 2, 1) := by decide +kernel
theorem dX6_read_11 : decode cX6_read 11 = .ok (.iload_n 2, 1) := by decide +kernel
theorem dX6_read_12 : decode cX6_read 12 = .ok (.bipush 120, 2) := by decide +kernel
theorem dX6_read_14 : decode cX6_read 14 = .ok (.if_icmp .gt 44, 3) := by decide +kernel
theorem dX6_read_17 : decode cX6_read 17 = .ok (.aload_n 0, 1) := by decide +kernel
theorem dX6_read_18 : decode cX6_read 18 = .ok (.aload_n 1, 1) := by decide +kernel
theorem dX6_read_19 : decode cX6_read 19 = .ok (.invokevirtual 25, 3) := by decide +kernel
theorem dX6_read_22 : decode cX6_read 22 = .ok (.ifCond .ne 6, 3) := by decide +kernel
theorem dX6_read_25 : decode cX6_read 25 = .ok (.goto 33, 3) := by decide +kernel
theorem dX6_read_28 : decode cX6_read 28 = .ok (.aload_n 0, 1) := by decide +kernel
theorem dX6_read_29 : decode cX6_read 29 = .ok (.getfield 29, 3) := by decide +kernel
theorem dX6_read_32 : decode cX6_read 32 = .ok (.ifCond .ne 5, 3) := by decide +kernel
theorem dX6_read_35 : decode cX6_read 35 = .ok (.iload_n 2, 1) := by decide +kernel
theorem dX6_read_36 : decode cX6_read 36 = .ok (.ireturn, 1) := by decide +kernel
theorem dX6_read_37 : decode cX6_read 37 = .ok (.aload_n 0, 1) := by decide +kernel
theorem dX6_read_38 : decode cX6_read 38 = .ok (.getfield 29, 3) := by decide +kernel
theorem dX6_read_41 : decode cX6_read 41 = .ok (.iconst 3, 1) := by decide +kernel
theorem dX6_read_42 : decode cX6_read 42 = .ok (.if_icmp .eq 6, 3) := by decide +kernel
theorem dX6_read_45 : decode cX6_read 45 = .ok (.goto 13, 3) := by decide +kernel
theorem dX6_read_48 : decode cX6_read 48 = .ok (.aload_n 0, 1) := by decide +kernel
theorem dX6_read_49 : decode cX6_read 49 = .ok (.invokevirtual 22, 3) := by decide +kernel
theorem dX6_read_52 : decode cX6_read 52 = .ok (.iinc 2 1, 3) := by decide +kernel
theorem dX6_read_55 : decode cX6_read 55 = .ok (.goto (-44), 3) := by decide +kernel
theorem dX6_read_58 : decode cX6_read 58 = .ok (.iconst (-1), 1) := by decide +kernel
theorem dX6_read_59 : decode cX6_read 59 = .ok (.aload_n 0, 1) := by decide +kernel
theorem dX6_read_60 : decode cX6_read 60 = .ok (.getfield 32, 3) := by decide +kernel
theorem dX6_read_63 : decode cX6_read 63 = .ok (.isub, 1) := by decide +kernel
theorem dX6_read_64 : decode cX6_read 64 = .ok (.ireturn, 1) := by decide +kernel
set_option maxRecDepth 20000 in
theorem ggX6_readItem_X6_isWord : GoodIn wsX6_readItem wsX6_isWord := goodIn_r _ [6, 7, 8, 9, 10, 11, 12, 13, 14, 15, 16, 17, 18, 19, 20, 21, 22, 23, 24, 5, 25, 26, 27, 28, 29, 30, 31, 32, 33, 34, 35, 36, 37, 38, 39, 40, 41, 42, 43, 44, 45, 46, 47, 48, 49, 50, 51, 52, 53, 54, 55, 56, 57, 58, 59, 60, 61, 62, 63, 64, 125, 126, 127, 128, 129, 130] (by exact rfl) (by decide +kernel)
set_option maxRecDepth 20000 in
theorem gX6_readItem_X6_isWord : GoodIn wsX6_readItem (wsV RX6 37 RX6 yX6_isWord wsX6_isWord) := goodIn_app (goodIn_of _ (by decide +kernel)) ggX6_readItem_X6_isWord
set_option maxRecDepth 20000 in
theorem ggX6_readItem_X6_readSpring : GoodIn wsX6_readItem wsX6_readSpring := goodIn_r _ [68, 69, 70, 71, 72, 73, 74, 5, 75, 8, 9, 7, 76, 77, 78, 79, 22, 23, 24, 25, 26, 27, 80, 81, 82, 83, 84, 85, 86, 87, 88, 89, 90, 91, 92, 125, 126, 127, 128, 129, 130, 115, 116, 117, 118, 119, 120, 121, 122, 123, 124] (by exact rfl) (by decide +kernel)
set_option maxRecDepth 20000 in
theorem gX6_readItem_X6_readSpring : GoodIn wsX6_readItem (wsV RX6 41 RX6 yX6_readSpring wsX6_readSpring) := goodIn_app (goodIn_of _ (by decide +kernel)) ggX6_readItem_X6_readSpring
set_option maxRecDepth 20000 in
theorem ggX6_readItem_X6_kindTold : GoodIn wsX6_readItem wsX6_kindTold := goodIn_r _ [96, 97, 98, 5, 99, 2, 3, 4, 6, 7, 8, 9, 10, 11, 12, 13, 14, 15, 16, 17, 18, 19, 20, 21, 22, 23, 24, 25, 26, 27, 28, 29, 30, 31, 32, 33, 34, 35, 36, 37, 38, 39, 40, 41, 42, 43, 44, 45, 46, 47, 48, 49, 50, 51, 52, 53, 54, 55, 56, 57, 58, 59, 60, 61, 62, 63, 64, 125, 126, 127, 128, 129, 130] (by exact rfl) (by decide +kernel)
set_option maxRecDepth 20000 in
theorem gX6_readItem_X6_kindTold : GoodIn wsX6_readItem (wsV RX6 44 RX6 yX6_kindTold wsX6_kindTold) := goodIn_app (goodIn_of _ (by decide +kernel)) ggX6_readItem_X6_kindTold
set_option maxRecDepth 20000 in
theorem ggX6_readItem_X6_advance : GoodIn wsX6_readItem wsX6_advance := goodIn_r _ [75, 8, 9, 7, 76, 77, 78, 5, 79, 22, 23, 24, 25, 26, 27, 125, 126, 127, 128, 129, 130] (by exact rfl) (by decide +kernel)
set_option maxRecDepth 20000 in
theorem gX6_readItem_X6_advance : GoodIn wsX6_readItem (wsV RX6 22 RX6 yX6_advance wsX6_advance) := goodIn_app (goodIn_of _ (by decide +kernel)) ggX6_readItem_X6_advance
set_option maxRecDepth 20000 in
theorem ggX6_readItem_X6_readBasin : GoodIn wsX6_readItem wsX6_readBasin := goodIn_r _ [103, 1, 70, 2, 3, 4, 5, 6, 7, 8, 9, 10, 11, 12, 13, 14, 15, 16, 17, 18, 19, 20, 21, 22, 23, 24, 25, 26, 27, 28, 29, 30, 31, 32, 33, 34, 35, 36, 37, 38, 39, 40, 41, 42, 43, 44, 45, 46, 47, 48, 49, 50, 51, 52, 53, 54, 55, 56, 57, 58, 59, 60, 61, 62, 63, 64, 72, 73, 74, 75, 76, 77, 78, 79, 80, 81, 82, 83, 84, 85, 86, 87, 88, 89, 90, 91, 92, 104, 105, 106, 107, 108, 109, 110, 111, 112, 113, 114, 115, 116, 117, 118, 119, 120, 121, 122, 123, 124, 125, 126, 127, 128, 129, 130] (by exact rfl) (by decide +kernel)
set_option maxRecDepth 20000 in
theorem gX6_readItem_X6_readBasin : GoodIn wsX6_readItem (wsV RX6 53 RX6 yX6_readBasin wsX6_readBasin) := goodIn_app (goodIn_of _ (by decide +kernel)) ggX6_readItem_X6_readBasin
theorem dX6_readItem_0 : decode cX6_readItem 0 = .ok (.aload_n 0, 1) := by decide +kernel
theorem dX6_readItem_1 : decode cX6_readItem 1 = .ok (.ldc 35, 2) := by decide +kernel
theorem dX6_readItem_3 : decode cX6_readItem 3 = .ok (.invokevirtual 37, 3) := by decide +kernel
theorem dX6_readItem_6 : decode cX6_readItem 6 = .ok (.ifCond .eq 9, 3) := by decide +kernel
theorem dX6_readItem_9 : decode cX6_readItem 9 = .ok (.aload_n 0, 1) := by decide +kernel
theorem dX6_readItem_10 : decode cX6_readItem 10 = .ok (.aload_n 1, 1) := by decide +kernel
theorem dX6_readItem_11 : decode cX6_readItem 11 = .ok (.invokevirtual 41, 3) := by decide +kernel
theorem dX6_readItem_14 : decode cX6_readItem 14 = .ok (.ireturn, 1) := by decide +kernel
theorem dX6_readItem_15 : decode cX6_readItem 15 = .ok (.aload_n 0, 1) := by decide +kernel
theorem dX6_readItem_16 : decode cX6_readItem 16 = .ok (.invokevirtual 44, 3) := by decide +kernel
theorem dX6_readItem_19 : decode cX6_readItem 19 = .ok (.istore_n 2, 1) := by decide +kernel
theorem dX6_readItem_20 : decode cX6_readItem 20 = .ok (.iload_n 2, 1) := by decide +kernel
theorem dX6_readItem_21 : decode cX6_readItem 21 = .ok (.iconst (-1), 1) := by decide +kernel
theorem dX6_readItem_22 : decode cX6_readItem 22 = .ok (.if_icmp .eq 12, 3) := by decide +kernel
theorem dX6_readItem_25 : decode cX6_readItem 25 = .ok (.aload_n 1, 1) := by decide +kernel
theorem dX6_readItem_26 : decode cX6_readItem 26 = .ok (.getfield 48, 3) := by decide +kernel
theorem dX6_readItem_29 : decode cX6_readItem 29 = .ok (.bipush 10, 2) := by decide +kernel
theorem dX6_readItem_31 : decode cX6_readItem 31 = .ok (.if_icmp .lt 5, 3) := by decide +kernel
theorem dX6_readItem_34 : decode cX6_readItem 34 = .ok (.iconst 0, 1) := by decide +kernel
theorem dX6_readItem_35 : decode cX6_readItem 35 = .ok (.ireturn, 1) := by decide +kernel
theorem dX6_readItem_36 : decode cX6_readItem 36 = .ok (.aload_n 0, 1) := by decide +kernel
theorem dX6_readItem_37 : decode cX6_readItem 37 = .ok (.invokevirtual 22, 3) := by decide +kernel
theorem dX6_readItem_40 : decode cX6_readItem 40 = .ok (.aload_n 0, 1) := by decide +kernel
theorem dX6_readItem_41 : decode cX6_readItem 41 = .ok (.aload_n 1, 1) := by decide +kernel
theorem dX6_readItem_42 : decode cX6_readItem 42 = .ok (.iload_n 2, 1) := by decide +kernel
theorem dX6_readItem_43 : decode cX6_readItem 43 = .ok (.invokevirtual 53, 3) := by decide +kernel
theorem dX6_readItem_46 : decode cX6_readItem 46 = .ok (.ireturn, 1) := by decide +kernel
set_option maxRecDepth 20000 in
theorem ggX6_readSpring_X6_advance : GoodIn wsX6_readSpring wsX6_advance := goodIn_r _ [8, 9, 10, 11, 12, 13, 14, 7, 15, 16, 17, 18, 19, 20, 21, 35, 36, 37, 38, 39, 40] (by exact rfl) (by decide +kernel)
set_option maxRecDepth 20000 in
theorem gX6_readSpring_X6_advance : GoodIn wsX6_readSpring (wsV RX6 22 RX6 yX6_advance wsX6_advance) := goodIn_app (goodIn_of _ (by decide +kernel)) ggX6_readSpring_X6_advance
set_option maxRecDepth 20000 in
theorem ggX6_readSpring_X6_readNumber : GoodIn wsX6_readSpring wsX6_readNumber := goodIn_r _ [25, 11, 2, 26, 27, 28, 7, 29, 10, 9, 30, 31, 32, 33, 34, 16, 17, 18, 19, 20, 21, 4, 5, 6, 8, 12, 13, 14, 15, 35, 36, 37, 38, 39, 40] (by exact rfl) (by decide +kernel)
set_option maxRecDepth 20000 in
theorem gX6_readSpring_X6_readNumber : GoodIn wsX6_readSpring (wsV RX6 58 RX6 yX6_readNumber wsX6_readNumber) := goodIn_app (goodIn_of _ (by decide +kernel)) ggX6_readSpring_X6_readNumber
theorem dX6_readSpring_0 : decode cX6_readSpring 0 = .ok (.aload_n 0, 1) := by decide +kernel
theorem dX6_readSpring_1 : decode cX6_readSpring 1 = .ok (.invokevirtual 22, 3) := by decide +kernel
theorem dX6_readSpring_4 : decode cX6_readSpring 4 = .ok (.aload_n 0, 1) := by decide +kernel
theorem dX6_readSpring_5 : decode cX6_readSpring 5 = .ok (.iconst 0, 1) := by decide +kernel
theorem dX6_readSpring_6 : decode cX6_readSpring 6 = .ok (.ldc 57, 2) := by decide +kernel
theorem dX6_readSpring_8 : decode cX6_readSpring 8 = .ok (.invokevirtual 58, 3) := by decide +kernel
theorem dX6_readSpring_11 : decode cX6_readSpring 11 = .ok (.ifCond .ne 5, 3) := by decide +kernel
theorem dX6_readSpring_14 : decode cX6_readSpring 14 = .ok (.iconst 0, 1) := by decide +kernel
theorem dX6_readSpring_15 : decode cX6_readSpring 15 = .ok (.ireturn, 1) := by decide +kernel
theorem dX6_readSpring_16 : decode cX6_readSpring 16 = .ok (.aload_n 1, 1) := by decide +kernel
theorem dX6_readSpring_17 : decode cX6_readSpring 17 = .ok (.aload_n 0, 1) := by decide +kernel
theorem dX6_readSpring_18 : decode cX6_readSpring 18 = .ok (.getfield 62, 3) := by decide +kernel
theorem dX6_readSpring_21 : decode cX6_readSpring 21 = .ok (.putfield 65, 3) := by decide +kernel
theorem dX6_readSpring_24 : decode cX6_readSpring 24 = .ok (.iconst 1, 1) := by decide +kernel
theorem dX6_readSpring_25 : decode cX6_readSpring 25 = .ok (.ireturn, 1) := by decide +kernel
set_option maxRecDepth 20000 in
theorem ggX6_readBasin_X6_isWord : GoodIn wsX6_readBasin wsX6_isWord := goodIn_r _ [7, 8, 9, 10, 11, 12, 13, 14, 15, 16, 17, 18, 19, 20, 21, 22, 23, 24, 25, 6, 26, 27, 28, 29, 30, 31, 32, 33, 34, 35, 36, 37, 38, 39, 40, 41, 42, 43, 44, 45, 46, 47, 48, 49, 50, 51, 52, 53, 54, 55, 56, 57, 58, 59, 60, 61, 62, 63, 64, 65, 108, 109, 110, 111, 112, 113] (by exact rfl) (by decide +kernel)
set_option maxRecDepth 20000 in
theorem gX6_readBasin_X6_isWord : GoodIn wsX6_readBasin (wsV RX6 37 RX6 yX6_isWord wsX6_isWord) := goodIn_app (goodIn_of _ (by decide +kernel)) ggX6_readBasin_X6_isWord
set_option maxRecDepth 20000 in
theorem ggX6_readBasin_X6_advance : GoodIn wsX6_readBasin wsX6_advance := goodIn_r _ [69, 9, 10, 8, 70, 71, 72, 6, 73, 23, 24, 25, 26, 27, 28, 108, 109, 110, 111, 112, 113] (by exact rfl) (by decide +kernel)
set_option maxRecDepth 20000 in
theorem gX6_readBasin_X6_advance : GoodIn wsX6_readBasin (wsV RX6 22 RX6 yX6_advance wsX6_advance) := goodIn_app (goodIn_of _ (by decide +kernel)) ggX6_readBasin_X6_advance
set_option maxRecDepth 20000 in
theorem ggX6_readBasin_X6_readNumber : GoodIn wsX6_readBasin wsX6_readNumber := goodIn_r _ [77, 8, 2, 78, 79, 80, 6, 81, 10, 9, 82, 83, 84, 85, 86, 23, 24, 25, 26, 27, 28, 66, 67, 68, 69, 70, 71, 72, 73, 108, 109, 110, 111, 112, 113] (by exact rfl) (by decide +kernel)
set_option maxRecDepth 20000 in
theorem gX6_readBasin_X6_readNumber : GoodIn wsX6_readBasin (wsV RX6 58 RX6 yX6_readNumber wsX6_readNumber) := goodIn_app (goodIn_of _ (by decide +kernel)) ggX6_readBasin_X6_readNumber
set_option maxRecDepth 20000 in
theorem ggX6_readBasin_X2_add : GoodIn wsX6_readBasin wsX2_add := goodIn_r _ [91, 92, 93, 94, 95, 96, 97, 98, 99, 100, 101, 102, 103, 104, 105, 106, 107] (by exact rfl) (by decide +kernel)
set_option maxRecDepth 20000 in
theorem gX6_readBasin_X2_add : GoodIn wsX6_readBasin (wsV RX6 71 RX2 yX2_add wsX2_add) := goodIn_app (goodIn_of _ (by decide +kernel)) ggX6_readBasin_X2_add
theorem dX6_readBasin_0 : decode cX6_readBasin 0 = .ok (.iconst (-1), 1) := by decide +kernel
theorem dX6_readBasin_1 : decode cX6_readBasin 1 = .ok (.istore_n 3, 1) := by decide +kernel
theorem dX6_readBasin_2 : decode cX6_readBasin 2 = .ok (.aload_n 1, 1) := by decide +kernel
theorem dX6_readBasin_3 : decode cX6_readBasin 3 = .ok (.getfield 48, 3) := by decide +kernel
theorem dX6_readBasin_6 : decode cX6_readBasin 6 = .ok (.ifCond .le 39, 3) := by decide +kernel
theorem dX6_readBasin_9 : decode cX6_readBasin 9 = .ok (.aload_n 0, 1) := by decide +kernel
theorem dX6_readBasin_10 : decode cX6_readBasin 10 = .ok (.ldc 67, 2) := by decide +kernel
theorem dX6_readBasin_12 : decode cX6_readBasin 12 = .ok (.invokevirtual 37, 3) := by decide +kernel
theorem dX6_readBasin_15 : decode cX6_readBasin 15 = .ok (.ifCond .ne 5, 3) := by decide +kernel
theorem dX6_readBasin_18 : decode cX6_readBasin 18 = .ok (.iconst 0, 1) := by decide +kernel
theorem dX6_readBasin_19 : decode cX6_readBasin 19 = .ok (.ireturn, 1) := by decide +kernel
theorem dX6_readBasin_20 : decode cX6_readBasin 20 = .ok (.aload_n 0, 1) := by decide +kernel
theorem dX6_readBasin_21 : decode cX6_readBasin 21 = .ok (.invokevirtual 22, 3) := by decide +kernel
theorem dX6_readBasin_24 : decode cX6_readBasin 24 = .ok (.aload_n 0, 1) := by decide +kernel
theorem dX6_readBasin_25 : decode cX6_readBasin 25 = .ok (.iconst 0, 1) := by decide +kernel
theorem dX6_readBasin_26 : decode cX6_readBasin 26 = .ok (.aload_n 1, 1) := by decide +kernel
theorem dX6_readBasin_27 : decode cX6_readBasin 27 = .ok (.getfield 48, 3) := by decide +kernel
theorem dX6_readBasin_30 : decode cX6_readBasin 30 = .ok (.iconst 1, 1) := by decide +kernel
theorem dX6_readBasin_31 : decode cX6_readBasin 31 = .ok (.isub, 1) := by decide +kernel
theorem dX6_readBasin_32 : decode cX6_readBasin 32 = .ok (.invokevirtual 58, 3) := by decide +kernel
theorem dX6_readBasin_35 : decode cX6_readBasin 35 = .ok (.ifCond .ne 5, 3) := by decide +kernel
theorem dX6_readBasin_38 : decode cX6_readBasin 38 = .ok (.iconst 0, 1) := by decide +kernel
theorem dX6_readBasin_39 : decode cX6_readBasin 39 = .ok (.ireturn, 1) := by decide +kernel
theorem dX6_readBasin_40 : decode cX6_readBasin 40 = .ok (.aload_n 0, 1) := by decide +kernel
theorem dX6_readBasin_41 : decode cX6_readBasin 41 = .ok (.getfield 62, 3) := by decide +kernel
theorem dX6_readBasin_44 : decode cX6_readBasin 44 = .ok (.istore_n 3, 1) := by decide +kernel
theorem dX6_readBasin_45 : decode cX6_readBasin 45 = .ok (.iconst 1, 1) := by decide +kernel
theorem dX6_readBasin_46 : decode cX6_readBasin 46 = .ok (.istore 4, 2) := by decide +kernel
theorem dX6_readBasin_48 : decode cX6_readBasin 48 = .ok (.aload_n 0, 1) := by decide +kernel
theorem dX6_readBasin_49 : decode cX6_readBasin 49 = .ok (.ldc 69, 2) := by decide +kernel
theorem dX6_readBasin_51 : decode cX6_readBasin 51 = .ok (.invokevirtual 37, 3) := by decide +kernel
theorem dX6_readBasin_54 : decode cX6_readBasin 54 = .ok (.ifCond .eq 25, 3) := by decide +kernel
theorem dX6_readBasin_57 : decode cX6_readBasin 57 = .ok (.aload_n 0, 1) := by decide +kernel
theorem dX6_readBasin_58 : decode cX6_readBasin 58 = .ok (.invokevirtual 22, 3) := by decide +kernel
theorem dX6_readBasin_61 : decode cX6_readBasin 61 = .ok (.aload_n 0, 1) := by decide +kernel
theorem dX6_readBasin_62 : decode cX6_readBasin 62 = .ok (.iconst 1, 1) := by decide +kernel
theorem dX6_readBasin_63 : decode cX6_readBasin 63 = .ok (.bipush 9, 2) := by decide +kernel
theorem dX6_readBasin_65 : decode cX6_readBasin 65 = .ok (.invokevirtual 58, 3) := by decide +kernel
theorem dX6_readBasin_68 : decode cX6_readBasin 68 = .ok (.ifCond .ne 5, 3) := by decide +kernel
theorem dX6_readBasin_71 : decode cX6_readBasin 71 = .ok (.iconst 0, 1) := by decide +kernel
theorem dX6_readBasin_72 : decode cX6_readBasin 72 = .ok (.ireturn, 1) := by decide +kernel
theorem dX6_readBasin_73 : decode cX6_readBasin 73 = .ok (.aload_n 0, 1) := by decide +kernel
theorem dX6_readBasin_74 : decode cX6_readBasin 74 = .ok (.getfield 62, 3) := by decide +kernel
theorem dX6_readBasin_77 : decode cX6_readBasin 77 = .ok (.istore 4, 2) := by decide +kernel
theorem dX6_readBasin_79 : decode cX6_readBasin 79 = .ok (.aload_n 1, 1) := by decide +kernel
theorem dX6_readBasin_80 : decode cX6_readBasin 80 = .ok (.iload_n 2, 1) := by decide +kernel
theorem dX6_readBasin_81 : decode cX6_readBasin 81 = .ok (.iload_n 3, 1) := by decide +kernel
theorem dX6_readBasin_82 : decode cX6_readBasin 82 = .ok (.iload 4, 2) := by decide +kernel
theorem dX6_readBasin_84 : decode cX6_readBasin 84 = .ok (.invokevirtual 71, 3) := by decide +kernel
theorem dX6_readBasin_87 : decode cX6_readBasin 87 = .ok (.pop, 1) := by decide +kernel
theorem dX6_readBasin_88 : decode cX6_readBasin 88 = .ok (.iconst 1, 1) := by decide +kernel
theorem dX6_readBasin_89 : decode cX6_readBasin 89 = .ok (.ireturn, 1) := by decide +kernel
set_option maxRecDepth 20000 in
theorem ggX6_readNumber_X6_valueOfDigits : GoodIn wsX6_readNumber wsX6_valueOfDigits := goodIn_r _ [7, 8, 9, 10, 11, 12, 13, 14, 15, 16, 17, 6, 18, 19, 20, 29, 30, 31, 32, 33, 34] (by exact rfl) (by decide +kernel)
set_option maxRecDepth 20000 in
theorem gX6_readNumber_X6_valueOfDigits : GoodIn wsX6_readNumber (wsV RX6 75 RX6 yX6_valueOfDigits wsX6_valueOfDigits) := goodIn_app (goodIn_of _ (by decide +kernel)) ggX6_readNumber_X6_valueOfDigits
set_option maxRecDepth 20000 in
theorem ggX6_readNumber_X6_advance : GoodIn wsX6_readNumber wsX6_advance := goodIn_r _ [24, 9, 8, 1, 25, 26, 27, 6, 28, 15, 16, 17, 18, 19, 20, 29, 30, 31, 32, 33, 34] (by exact rfl) (by decide +kernel)
set_option maxRecDepth 20000 in
theorem gX6_readNumber_X6_advance : GoodIn wsX6_readNumber (wsV RX6 22 RX6 yX6_advance wsX6_advance) := goodIn_app (goodIn_of _ (by decide +kernel)) ggX6_readNumber_X6_advance
theorem dX6_readNumber_0 : decode cX6_readNumber 0 = .ok (.aload_n 0, 1) := by decide +kernel
theorem dX6_readNumber_1 : decode cX6_readNumber 1 = .ok (.getfield 29, 3) := by decide +kernel
theorem dX6_readNumber_4 : decode cX6_readNumber 4 = .ok (.iconst 2, 1) := by decide +kernel
theorem dX6_readNumber_5 : decode cX6_readNumber 5 = .ok (.if_icmp .eq 5, 3) := by decide +kernel
theorem dX6_readNumber_8 : decode cX6_readNumber 8 = .ok (.iconst 0, 1) := by decide +kernel
theorem dX6_readNumber_9 : decode cX6_readNumber 9 = .ok (.ireturn, 1) := by decide +kernel
theorem dX6_readNumber_10 : decode cX6_readNumber 10 = .ok (.aload_n 0, 1) := by decide +kernel
theorem dX6_readNumber_11 : decode cX6_readNumber 11 = .ok (.aload_n 0, 1) := by decide +kernel
theorem dX6_readNumber_12 : decode cX6_readNumber 12 = .ok (.invokevirtual 75, 3) := by decide +kernel
theorem dX6_readNumber_15 : decode cX6_readNumber 15 = .ok (.putfield 62, 3) := by decide +kernel
theorem dX6_readNumber_18 : decode cX6_readNumber 18 = .ok (.aload_n 0, 1) := by decide +kernel
theorem dX6_readNumber_19 : decode cX6_readNumber 19 = .ok (.getfield 62, 3) := by decide +kernel
theorem dX6_readNumber_22 : decode cX6_readNumber 22 = .ok (.iload_n 1, 1) := by decide +kernel
theorem dX6_readNumber_23 : decode cX6_readNumber 23 = .ok (.if_icmp .lt 11, 3) := by decide +kernel
theorem dX6_readNumber_26 : decode cX6_readNumber 26 = .ok (.aload_n 0, 1) := by decide +kernel
theorem dX6_readNumber_27 : decode cX6_readNumber 27 = .ok (.getfield 62, 3) := by decide +kernel
theorem dX6_readNumber_30 : decode cX6_readNumber 30 = .ok (.iload_n 2, 1) := by decide +kernel
theorem dX6_readNumber_31 : decode cX6_readNumber 31 = .ok (.if_icmp .le 5, 3) := by decide +kernel
theorem dX6_readNumber_34 : decode cX6_readNumber 34 = .ok (.iconst 0, 1) := by decide +kernel
theorem dX6_readNumber_35 : decode cX6_readNumber 35 = .ok (.ireturn, 1) := by decide +kernel
theorem dX6_readNumber_36 : decode cX6_readNumber 36 = .ok (.aload_n 0, 1) := by decide +kernel
theorem dX6_readNumber_37 : decode cX6_readNumber 37 = .ok (.invokevirtual 22, 3) := by decide +kernel
theorem dX6_readNumber_40 : decode cX6_readNumber 40 = .ok (.iconst 1, 1) := by decide +kernel
theorem dX6_readNumber_41 : decode cX6_readNumber 41 = .ok (.ireturn, 1) := by decide +kernel
set_option maxRecDepth 20000 in
theorem ggX6_valueOfDigits_X6_byteAt : GoodIn wsX6_valueOfDigits wsX6_byteAt := goodIn_r _ [12, 13, 14, 15, 16, 17, 18, 19, 20] (by exact rfl) (by decide +kernel)
set_option maxRecDepth 20000 in
theorem gX6_valueOfDigits_X6_byteAt : GoodIn wsX6_valueOfDigits (wsV RX6 78 RX6 yX6_byteAt wsX6_byteAt) := goodIn_app (goodIn_of _ (by decide +kernel)) ggX6_valueOfDigits_X6_byteAt
theorem dX6_valueOfDigits_0 : decode cX6_valueOfDigits 0 = .ok (.iconst 0, 1) := by decide +kernel
theorem dX6_valueOfDigits_1 : decode cX6_valueOfDigits 1 = .ok (.istore_n 1, 1) := by decide +kernel
theorem dX6_valueOfDigits_2 : decode cX6_valueOfDigits 2 = .ok (.aload_n 0, 1) := by decide +kernel
theorem dX6_valueOfDigits_3 : decode cX6_valueOfDigits 3 = .ok (.getfield 32, 3) := by decide +kernel
theorem dX6_valueOfDigits_6 : decode cX6_valueOfDigits 6 = .ok (.istore_n 2, 1) := by decide +kernel
theorem dX6_valueOfDigits_7 : decode cX6_valueOfDigits 7 = .ok (.iload_n 2, 1) := by decide +kernel
theorem dX6_valueOfDigits_8 : decode cX6_valueOfDigits 8 = .ok (.aload_n 0, 1) := by decide +kernel
theorem dX6_valueOfDigits_9 : decode cX6_valueOfDigits 9 = .ok (.getfield 19, 3) := by decide +kernel
theorem dX6_valueOfDigits_12 : decode cX6_valueOfDigits 12 = .ok (.if_icmp .ge 28, 3) := by decide +kernel
theorem dX6_valueOfDigits_15 : decode cX6_valueOfDigits 15 = .ok (.iload_n 1, 1) := by decide +kernel
theorem dX6_valueOfDigits_16 : decode cX6_valueOfDigits 16 = .ok (.bipush 10, 2) := by decide +kernel
theorem dX6_valueOfDigits_18 : decode cX6_valueOfDigits 18 = .ok (.imul, 1) := by decide +kernel
theorem dX6_valueOfDigits_19 : decode cX6_valueOfDigits 19 = .ok (.aload_n 0, 1) := by decide +kernel
theorem dX6_valueOfDigits_20 : decode cX6_valueOfDigits 20 = .ok (.iload_n 2, 1) := by decide +kernel
theorem dX6_valueOfDigits_21 : decode cX6_valueOfDigits 21 = .ok (.invokevirtual 78, 3) := by decide +kernel
theorem dX6_valueOfDigits_24 : decode cX6_valueOfDigits 24 = .ok (.iadd, 1) := by decide +kernel
theorem dX6_valueOfDigits_25 : decode cX6_valueOfDigits 25 = .ok (.bipush 48, 2) := by decide +kernel
theorem dX6_valueOfDigits_27 : decode cX6_valueOfDigits 27 = .ok (.isub, 1) := by decide +kernel
theorem dX6_valueOfDigits_28 : decode cX6_valueOfDigits 28 = .ok (.ldc 82, 2) := by decide +kernel
theorem dX6_valueOfDigits_30 : decode cX6_valueOfDigits 30 = .ok (.invokestatic 83, 3) := by decide +kernel
theorem dX6_valueOfDigits_33 : decode cX6_valueOfDigits 33 = .ok (.istore_n 1, 1) := by decide +kernel
theorem dX6_valueOfDigits_34 : decode cX6_valueOfDigits 34 = .ok (.iinc 2 1, 3) := by decide +kernel
theorem dX6_valueOfDigits_37 : decode cX6_valueOfDigits 37 = .ok (.goto (-30), 3) := by decide +kernel
theorem dX6_valueOfDigits_40 : decode cX6_valueOfDigits 40 = .ok (.iload_n 1, 1) := by decide +kernel
theorem dX6_valueOfDigits_41 : decode cX6_valueOfDigits 41 = .ok (.ireturn, 1) := by decide +kernel
set_option maxRecDepth 20000 in
theorem ggX6_kindTold_X6_wordOf : GoodIn wsX6_kindTold wsX6_wordOf := goodIn_r _ [4] (by exact rfl) (by decide +kernel)
set_option maxRecDepth 20000 in
theorem gX6_kindTold_X6_wordOf : GoodIn wsX6_kindTold (va_wsS RX6 91 yX6_wordOf wsX6_wordOf) := goodIn_app (goodIn_of _ (by decide +kernel)) ggX6_kindTold_X6_wordOf
set_option maxRecDepth 20000 in
theorem ggX6_kindTold_X6_isWord : GoodIn wsX6_kindTold wsX6_isWord := goodIn_r _ [8, 9, 10, 11, 12, 13, 14, 15, 16, 17, 18, 19, 20, 21, 22, 23, 24, 25, 26, 3, 27, 28, 29, 30, 31, 32, 33, 34, 35, 36, 37, 38, 39, 40, 41, 42, 43, 44, 45, 46, 47, 48, 49, 50, 51, 52, 53, 54, 55, 56, 57, 58, 59, 60, 61, 62, 63, 64, 65, 66, 67, 68, 69, 70, 71, 72] (by exact rfl) (by decide +kernel)
set_option maxRecDepth 20000 in
theorem gX6_kindTold_X6_isWord : GoodIn wsX6_kindTold (wsV RX6 37 RX6 yX6_isWord wsX6_isWord) := goodIn_app (goodIn_of _ (by decide +kernel)) ggX6_kindTold_X6_isWord
theorem dX6_kindTold_0 : decode cX6_kindTold 0 = .ok (.iconst 0, 1) := by decide +kernel
theorem dX6_kindTold_1 : decode cX6_kindTold 1 = .ok (.istore_n 1, 1) := by decide +kernel
theorem dX6_kindTold_2 : decode cX6_kindTold 2 = .ok (.iload_n 1, 1) := by decide +kernel
theorem dX6_kindTold_3 : decode cX6_kindTold 3 = .ok (.bipush 6, 2) := by decide +kernel
theorem dX6_kindTold_5 : decode cX6_kindTold 5 = .ok (.if_icmp .gt 22, 3) := by decide +kernel
theorem dX6_kindTold_8 : decode cX6_kindTold 8 = .ok (.aload_n 0, 1) := by decide +kernel
theorem dX6_kindTold_9 : decode cX6_kindTold 9 = .ok (.iload_n 1, 1) := by decide +kernel
theorem dX6_kindTold_10 : decode cX6_kindTold 10 = .ok (.invokestatic 91, 3) := by decide +kernel
theorem dX6_kindTold_13 : decode cX6_kindTold 13 = .ok (.invokevirtual 37, 3) := by decide +kernel
theorem dX6_kindTold_16 : decode cX6_kindTold 16 = .ok (.ifCond .eq 5, 3) := by decide +kernel
theorem dX6_kindTold_19 : decode cX6_kindTold 19 = .ok (.iload_n 1, 1) := by decide +kernel
theorem dX6_kindTold_20 : decode cX6_kindTold 20 = .ok (.ireturn, 1) := by decide +kernel
theorem dX6_kindTold_21 : decode cX6_kindTold 21 = .ok (.iinc 1 1, 3) := by decide +kernel
theorem dX6_kindTold_24 : decode cX6_kindTold 24 = .ok (.goto (-22), 3) := by decide +kernel
theorem dX6_kindTold_27 : decode cX6_kindTold 27 = .ok (.iconst (-1), 1) := by decide +kernel
theorem dX6_kindTold_28 : decode cX6_kindTold 28 = .ok (.ireturn, 1) := by decide +kernel
theorem dX6_wordOf_0 : decode cX6_wordOf 0 = .ok (.iload_n 0, 1) := by decide +kernel
theorem dX6_wordOf_1 : decode cX6_wordOf 1 = .ok (.tableswitch 57 1 6 #[39, 42, 45, 48, 51, 54], 39) := by decide +kernel
theorem dX6_wordOf_40 : decode cX6_wordOf 40 = .ok (.ldc 95, 2) := by decide +kernel
theorem dX6_wordOf_42 : decode cX6_wordOf 42 = .ok (.areturn, 1) := by decide +kernel
theorem dX6_wordOf_43 : decode cX6_wordOf 43 = .ok (.ldc 97, 2) := by decide +kernel
theorem dX6_wordOf_45 : decode cX6_wordOf 45 = .ok (.areturn, 1) := by decide +kernel
theorem dX6_wordOf_46 : decode cX6_wordOf 46 = .ok (.ldc 99, 2) := by decide +kernel
theorem dX6_wordOf_48 : decode cX6_wordOf 48 = .ok (.areturn, 1) := by decide +kernel
theorem dX6_wordOf_49 : decode cX6_wordOf 49 = .ok (.ldc 101, 2) := by decide +kernel
theorem dX6_wordOf_51 : decode cX6_wordOf 51 = .ok (.areturn, 1) := by decide +kernel
theorem dX6_wordOf_52 : decode cX6_wordOf 52 = .ok (.ldc 103, 2) := by decide +kernel
theorem dX6_wordOf_54 : decode cX6_wordOf 54 = .ok (.areturn, 1) := by decide +kernel
theorem dX6_wordOf_55 : decode cX6_wordOf 55 = .ok (.ldc 105, 2) := by decide +kernel
theorem dX6_wordOf_57 : decode cX6_wordOf 57 = .ok (.areturn, 1) := by decide +kernel
theorem dX6_wordOf_58 : decode cX6_wordOf 58 = .ok (.ldc 107, 2) := by decide +kernel
theorem dX6_wordOf_60 : decode cX6_wordOf 60 = .ok (.areturn, 1) := by decide +kernel
set_option maxRecDepth 20000 in
theorem ggX6_isWord_J0_length_8abf5 : GoodIn wsX6_isWord wsJ0_length_8abf5 := goodIn_r _ [8, 9, 10, 11, 12, 7, 13, 14, 15] (by exact rfl) (by decide +kernel)
set_option maxRecDepth 20000 in
theorem gX6_isWord_J0_length_8abf5 : GoodIn wsX6_isWord (wsV RX6 109 RJ0 yJ0_length_8abf5 wsJ0_length_8abf5) := goodIn_app (goodIn_of _ (by decide +kernel)) ggX6_isWord_J0_length_8abf5
set_option maxRecDepth 20000 in
theorem ggX6_isWord_X6_byteAt : GoodIn wsX6_isWord wsX6_byteAt := goodIn_r _ [20, 21, 22, 60, 61, 62, 63, 64, 65] (by exact rfl) (by decide +kernel)
set_option maxRecDepth 20000 in
theorem gX6_isWord_X6_byteAt : GoodIn wsX6_isWord (wsV RX6 78 RX6 yX6_byteAt wsX6_byteAt) := goodIn_app (goodIn_of _ (by decide +kernel)) ggX6_isWord_X6_byteAt
set_option maxRecDepth 20000 in
theorem ggX6_isWord_J0_charAt_5068e : GoodIn wsX6_isWord wsJ0_charAt_5068e := goodIn_r _ [26, 9, 27, 28, 29, 7, 30, 14, 15, 31, 32, 33, 34, 35, 36, 37, 38, 39, 40, 41, 42, 43, 44, 45, 46, 47, 48, 49, 50, 51, 52, 53, 54, 55, 56, 57, 58, 59] (by exact rfl) (by decide +kernel)
set_option maxRecDepth 20000 in
theorem gX6_isWord_J0_charAt_5068e : GoodIn wsX6_isWord (wsV RX6 114 RJ0 yJ0_charAt_5068e wsJ0_charAt_5068e) := goodIn_app (goodIn_of _ (by decide +kernel)) ggX6_isWord_J0_charAt_5068e
theorem dX6_isWord_0 : decode cX6_isWord 0 = .ok (.aload_n 0, 1) := by decide +kernel
theorem dX6_isWord_1 : decode cX6_isWord 1 = .ok (.getfield 29, 3) := by decide +kernel
theorem dX6_isWord_4 : decode cX6_isWord 4 = .ok (.iconst 1, 1) := by decide +kernel
theorem dX6_isWord_5 : decode cX6_isWord 5 = .ok (.if_icmp .ne 19, 3) := by decide +kernel
theorem dX6_isWord_8 : decode cX6_isWord 8 = .ok (.aload_n 1, 1) := by decide +kernel
theorem dX6_isWord_9 : decode cX6_isWord 9 = .ok (.invokevirtual 109, 3) := by decide +kernel
theorem dX6_isWord_12 : decode cX6_isWord 12 = .ok (.aload_n 0, 1) := by decide +kernel
theorem dX6_isWord_13 : decode cX6_isWord 13 = .ok (.getfield 19, 3) := by decide +kernel
theorem dX6_isWord_16 : decode cX6_isWord 16 = .ok (.aload_n 0, 1) := by decide +kernel
theorem dX6_isWord_17 : decode cX6_isWord 17 = .ok (.getfield 32, 3) := by decide +kernel
theorem dX6_isWord_20 : decode cX6_isWord 20 = .ok (.isub, 1) := by decide +kernel
theorem dX6_isWord_21 : decode cX6_isWord 21 = .ok (.if_icmp .eq 5, 3) := by decide +kernel
theorem dX6_isWord_24 : decode cX6_isWord 24 = .ok (.iconst 0, 1) := by decide +kernel
theorem dX6_isWord_25 : decode cX6_isWord 25 = .ok (.ireturn, 1) := by decide +kernel
theorem dX6_isWord_26 : decode cX6_isWord 26 = .ok (.iconst 0, 1) := by decide +kernel
theorem dX6_isWord_27 : decode cX6_isWord 27 = .ok (.istore_n 2, 1) := by decide +kernel
theorem dX6_isWord_28 : decode cX6_isWord 28 = .ok (.iload_n 2, 1) := by decide +kernel
theorem dX6_isWord_29 : decode cX6_isWord 29 = .ok (.aload_n 1, 1) := by decide +kernel
theorem dX6_isWord_30 : decode cX6_isWord 30 = .ok (.invokevirtual 109, 3) := by decide +kernel
theorem dX6_isWord_33 : decode cX6_isWord 33 = .ok (.if_icmp .ge 29, 3) := by decide +kernel
theorem dX6_isWord_36 : decode cX6_isWord 36 = .ok (.aload_n 0, 1) := by decide +kernel
theorem dX6_isWord_37 : decode cX6_isWord 37 = .ok (.aload_n 0, 1) := by decide +kernel
theorem dX6_isWord_38 : decode cX6_isWord 38 = .ok (.getfield 32, 3) := by decide +kernel
theorem dX6_isWord_41 : decode cX6_isWord 41 = .ok (.iload_n 2, 1) := by decide +kernel
theorem dX6_isWord_42 : decode cX6_isWord 42 = .ok (.iadd, 1) := by decide +kernel
theorem dX6_isWord_43 : decode cX6_isWord 43 = .ok (.invokevirtual 78, 3) := by decide +kernel
theorem dX6_isWord_46 : decode cX6_isWord 46 = .ok (.aload_n 1, 1) := by decide +kernel
theorem dX6_isWord_47 : decode cX6_isWord 47 = .ok (.iload_n 2, 1) := by decide +kernel
theorem dX6_isWord_48 : decode cX6_isWord 48 = .ok (.invokevirtual 114, 3) := by decide +kernel
theorem dX6_isWord_51 : decode cX6_isWord 51 = .ok (.if_icmp .eq 5, 3) := by decide +kernel
theorem dX6_isWord_54 : decode cX6_isWord 54 = .ok (.iconst 0, 1) := by decide +kernel
theorem dX6_isWord_55 : decode cX6_isWord 55 = .ok (.ireturn, 1) := by decide +kernel
theorem dX6_isWord_56 : decode cX6_isWord 56 = .ok (.iinc 2 1, 3) := by decide +kernel
theorem dX6_isWord_59 : decode cX6_isWord 59 = .ok (.goto (-31), 3) := by decide +kernel
theorem dX6_isWord_62 : decode cX6_isWord 62 = .ok (.iconst 1, 1) := by decide +kernel
theorem dX6_isWord_63 : decode cX6_isWord 63 = .ok (.ireturn, 1) := by decide +kernel
set_option maxRecDepth 20000 in
theorem ggX6_advance_X6_beginsAt : GoodIn wsX6_advance wsX6_beginsAt := goodIn_r _ [8, 9, 10, 11, 7, 12, 13, 14, 15, 16, 17, 18, 19, 20] (by exact rfl) (by decide +kernel)
set_option maxRecDepth 20000 in
theorem gX6_advance_X6_beginsAt : GoodIn wsX6_advance (wsV RX6 118 RX6 yX6_beginsAt wsX6_beginsAt) := goodIn_app (goodIn_of _ (by decide +kernel)) ggX6_advance_X6_beginsAt
theorem dX6_advance_0 : decode cX6_advance 0 = .ok (.aload_n 0, 1) := by decide +kernel
theorem dX6_advance_1 : decode cX6_advance 1 = .ok (.aload_n 0, 1) := by decide +kernel
theorem dX6_advance_2 : decode cX6_advance 2 = .ok (.getfield 19, 3) := by decide +kernel
theorem dX6_advance_5 : decode cX6_advance 5 = .ok (.putfield 32, 3) := by decide +kernel
theorem dX6_advance_8 : decode cX6_advance 8 = .ok (.iconst 0, 1) := by decide +kernel
theorem dX6_advance_9 : decode cX6_advance 9 = .ok (.istore_n 1, 1) := by decide +kernel
theorem dX6_advance_10 : decode cX6_advance 10 = .ok (.iload_n 1, 1) := by decide +kernel
theorem dX6_advance_11 : decode cX6_advance 11 = .ok (.bipush 120, 2) := by decide +kernel
theorem dX6_advance_13 : decode cX6_advance 13 = .ok (.if_icmp .ge 31, 3) := by decide +kernel
theorem dX6_advance_16 : decode cX6_advance 16 = .ok (.aload_n 0, 1) := by decide +kernel
theorem dX6_advance_17 : decode cX6_advance 17 = .ok (.aload_n 0, 1) := by decide +kernel
theorem dX6_advance_18 : decode cX6_advance 18 = .ok (.getfield 32, 3) := by decide +kernel
theorem dX6_advance_21 : decode cX6_advance 21 = .ok (.invokevirtual 118, 3) := by decide +kernel
theorem dX6_advance_24 : decode cX6_advance 24 = .ok (.iconst 5, 1) := by decide +kernel
theorem dX6_advance_25 : decode cX6_advance 25 = .ok (.if_icmp .ne 19, 3) := by decide +kernel
theorem dX6_advance_28 : decode cX6_advance 28 = .ok (.aload_n 0, 1) := by decide +kernel
theorem dX6_advance_29 : decode cX6_advance 29 = .ok (.dup, 1) := by decide +kernel
theorem dX6_advance_30 : decode cX6_advance 30 = .ok (.getfield 32, 3) := by decide +kernel
theorem dX6_advance_33 : decode cX6_advance 33 = .ok (.iconst 1, 1) := by decide +kernel
theorem dX6_advance_34 : decode cX6_advance 34 = .ok (.iadd, 1) := by decide +kernel
theorem dX6_advance_35 : decode cX6_advance 35 = .ok (.putfield 32, 3) := by decide +kernel
theorem dX6_advance_38 : decode cX6_advance 38 = .ok (.iinc 1 1, 3) := by decide +kernel
theorem dX6_advance_41 : decode cX6_advance 41 = .ok (.goto (-31), 3) := by decide +kernel
theorem dX6_advance_44 : decode cX6_advance 44 = .ok (.aload_n 0, 1) := by decide +kernel
theorem dX6_advance_45 : decode cX6_advance 45 = .ok (.aload_n 0, 1) := by decide +kernel
theorem dX6_advance_46 : decode cX6_advance 46 = .ok (.getfield 32, 3) := by decide +kernel
theorem dX6_advance_49 : decode cX6_advance 49 = .ok (.putfield 19, 3) := by decide +kernel
theorem dX6_advance_52 : decode cX6_advance 52 = .ok (.aload_n 0, 1) := by decide +kernel
theorem dX6_advance_53 : decode cX6_advance 53 = .ok (.aload_n 0, 1) := by decide +kernel
theorem dX6_advance_54 : decode cX6_advance 54 = .ok (.aload_n 0, 1) := by decide +kernel
theorem dX6_advance_55 : decode cX6_advance 55 = .ok (.getfield 32, 3) := by decide +kernel
theorem dX6_advance_58 : decode cX6_advance 58 = .ok (.invokevirtual 118, 3) := by decide +kernel
theorem dX6_advance_61 : decode cX6_advance 61 = .ok (.putfield 29, 3) := by decide +kernel
theorem dX6_advance_64 : decode cX6_advance 64 = .ok (.aload_n 0, 1) := by decide +kernel
theorem dX6_advance_65 : decode cX6_advance 65 = .ok (.getfield 29, 3) := by decide +kernel
theorem dX6_advance_68 : decode cX6_advance 68 = .ok (.ifCond .eq 13, 3) := by decide +kernel
theorem dX6_advance_71 : decode cX6_advance 71 = .ok (.aload_n 0, 1) := by decide +kernel
theorem dX6_advance_72 : decode cX6_advance 72 = .ok (.dup, 1) := by decide +kernel
theorem dX6_advance_73 : decode cX6_advance 73 = .ok (.getfield 19, 3) := by decide +kernel
theorem dX6_advance_76 : decode cX6_advance 76 = .ok (.iconst 1, 1) := by decide +kernel
theorem dX6_advance_77 : decode cX6_advance 77 = .ok (.iadd, 1) := by decide +kernel
theorem dX6_advance_78 : decode cX6_advance 78 = .ok (.putfield 19, 3) := by decide +kernel
theorem dX6_advance_81 : decode cX6_advance 81 = .ok (.aload_n 0, 1) := by decide +kernel
theorem dX6_advance_82 : decode cX6_advance 82 = .ok (.getfield 29, 3) := by decide +kernel
theorem dX6_advance_85 : decode cX6_advance 85 = .ok (.iconst 1, 1) := by decide +kernel
theorem dX6_advance_86 : decode cX6_advance 86 = .ok (.if_icmp .eq 11, 3) := by decide +kernel
theorem dX6_advance_89 : decode cX6_advance 89 = .ok (.aload_n 0, 1) := by decide +kernel
theorem dX6_advance_90 : decode cX6_advance 90 = .ok (.getfield 29, 3) := by decide +kernel
theorem dX6_advance_93 : decode cX6_advance 93 = .ok (.iconst 2, 1) := by decide +kernel
theorem dX6_advance_94 : decode cX6_advance 94 = .ok (.if_icmp .ne 7, 3) := by decide +kernel
theorem dX6_advance_97 : decode cX6_advance 97 = .ok (.iconst 1, 1) := by decide +kernel
theorem dX6_advance_98 : decode cX6_advance 98 = .ok (.goto 4, 3) := by decide +kernel
theorem dX6_advance_101 : decode cX6_advance 101 = .ok (.iconst 0, 1) := by decide +kernel
theorem dX6_advance_102 : decode cX6_advance 102 = .ok (.istore_n 1, 1) := by decide +kernel
theorem dX6_advance_103 : decode cX6_advance 103 = .ok (.iconst 0, 1) := by decide +kernel
theorem dX6_advance_104 : decode cX6_advance 104 = .ok (.istore_n 2, 1) := by decide +kernel
theorem dX6_advance_105 : decode cX6_advance 105 = .ok (.iload_n 2, 1) := by decide +kernel
theorem dX6_advance_106 : decode cX6_advance 106 = .ok (.bipush 120, 2) := by decide +kernel
theorem dX6_advance_108 : decode cX6_advance 108 = .ok (.if_icmp .ge 38, 3) := by decide +kernel
theorem dX6_advance_111 : decode cX6_advance 111 = .ok (.iload_n 1, 1) := by decide +kernel
theorem dX6_advance_112 : decode cX6_advance 112 = .ok (.ifCond .eq 34, 3) := by decide +kernel
theorem dX6_advance_115 : decode cX6_advance 115 = .ok (.aload_n 0, 1) := by decide +kernel
theorem dX6_advance_116 : decode cX6_advance 116 = .ok (.aload_n 0, 1) := by decide +kernel
theorem dX6_advance_117 : decode cX6_advance 117 = .ok (.getfield 19, 3) := by decide +kernel
theorem dX6_advance_120 : decode cX6_advance 120 = .ok (.invokevirtual 118, 3) := by decide +kernel
theorem dX6_advance_123 : decode cX6_advance 123 = .ok (.aload_n 0, 1) := by decide +kernel
theorem dX6_advance_124 : decode cX6_advance 124 = .ok (.getfield 29, 3) := by decide +kernel
theorem dX6_advance_127 : decode cX6_advance 127 = .ok (.if_icmp .ne 19, 3) := by decide +kernel
theorem dX6_advance_130 : decode cX6_advance 130 = .ok (.aload_n 0, 1) := by decide +kernel
theorem dX6_advance_131 : decode cX6_advance 131 = .ok (.dup, 1) := by decide +kernel
theorem dX6_advance_132 : decode cX6_advance 132 = .ok (.getfield 19, 3) := by decide +kernel
theorem dX6_advance_135 : decode cX6_advance 135 = .ok (.iconst 1, 1) := by decide +kernel
theorem dX6_advance_136 : decode cX6_advance 136 = .ok (.iadd, 1) := by decide +kernel
theorem dX6_advance_137 : decode cX6_advance 137 = .ok (.putfield 19, 3) := by decide +kernel
theorem dX6_advance_140 : decode cX6_advance 140 = .ok (.iinc 2 1, 3) := by decide +kernel
theorem dX6_advance_143 : decode cX6_advance 143 = .ok (.goto (-38), 3) := by decide +kernel
theorem dX6_advance_146 : decode cX6_advance 146 = .ok (.return_, 1) := by decide +kernel
set_option maxRecDepth 20000 in
theorem ggX6_beginsAt_X6_byteAt : GoodIn wsX6_beginsAt wsX6_byteAt := goodIn_r _ [5, 6, 7, 8, 9, 10, 11, 12, 13] (by exact rfl) (by decide +kernel)
set_option maxRecDepth 20000 in
theorem gX6_beginsAt_X6_byteAt : GoodIn wsX6_beginsAt (wsV RX6 78 RX6 yX6_byteAt wsX6_byteAt) := goodIn_app (goodIn_of _ (by decide +kernel)) ggX6_beginsAt_X6_byteAt
theorem dX6_beginsAt_0 : decode cX6_beginsAt 0 = .ok (.aload_n 0, 1) := by decide +kernel
theorem dX6_beginsAt_1 : decode cX6_beginsAt 1 = .ok (.iload_n 1, 1) := by decide +kernel
theorem dX6_beginsAt_2 : decode cX6_beginsAt 2 = .ok (.invokevirtual 78, 3) := by decide +kernel
theorem dX6_beginsAt_5 : decode cX6_beginsAt 5 = .ok (.istore_n 2, 1) := by decide +kernel
theorem dX6_beginsAt_6 : decode cX6_beginsAt 6 = .ok (.iload_n 2, 1) := by decide +kernel
theorem dX6_beginsAt_7 : decode cX6_beginsAt 7 = .ok (.iconst (-1), 1) := by decide +kernel
theorem dX6_beginsAt_8 : decode cX6_beginsAt 8 = .ok (.if_icmp .ne 5, 3) := by decide +kernel
theorem dX6_beginsAt_11 : decode cX6_beginsAt 11 = .ok (.iconst 0, 1) := by decide +kernel
theorem dX6_beginsAt_12 : decode cX6_beginsAt 12 = .ok (.ireturn, 1) := by decide +kernel
theorem dX6_beginsAt_13 : decode cX6_beginsAt 13 = .ok (.iload_n 2, 1) := by decide +kernel
theorem dX6_beginsAt_14 : decode cX6_beginsAt 14 = .ok (.bipush 97, 2) := by decide +kernel
theorem dX6_beginsAt_16 : decode cX6_beginsAt 16 = .ok (.if_icmp .lt 11, 3) := by decide +kernel
theorem dX6_beginsAt_19 : decode cX6_beginsAt 19 = .ok (.iload_n 2, 1) := by decide +kernel
theorem dX6_beginsAt_20 : decode cX6_beginsAt 20 = .ok (.bipush 122, 2) := by decide +kernel
theorem dX6_beginsAt_22 : decode cX6_beginsAt 22 = .ok (.if_icmp .gt 5, 3) := by decide +kernel
theorem dX6_beginsAt_25 : decode cX6_beginsAt 25 = .ok (.iconst 1, 1) := by decide +kernel
theorem dX6_beginsAt_26 : decode cX6_beginsAt 26 = .ok (.ireturn, 1) := by decide +kernel
theorem dX6_beginsAt_27 : decode cX6_beginsAt 27 = .ok (.iload_n 2, 1) := by decide +kernel
theorem dX6_beginsAt_28 : decode cX6_beginsAt 28 = .ok (.bipush 48, 2) := by decide +kernel
theorem dX6_beginsAt_30 : decode cX6_beginsAt 30 = .ok (.if_icmp .lt 11, 3) := by decide +kernel
theorem dX6_beginsAt_33 : decode cX6_beginsAt 33 = .ok (.iload_n 2, 1) := by decide +kernel
theorem dX6_beginsAt_34 : decode cX6_beginsAt 34 = .ok (.bipush 57, 2) := by decide +kernel
theorem dX6_beginsAt_36 : decode cX6_beginsAt 36 = .ok (.if_icmp .gt 5, 3) := by decide +kernel
theorem dX6_beginsAt_39 : decode cX6_beginsAt 39 = .ok (.iconst 2, 1) := by decide +kernel
theorem dX6_beginsAt_40 : decode cX6_beginsAt 40 = .ok (.ireturn, 1) := by decide +kernel
theorem dX6_beginsAt_41 : decode cX6_beginsAt 41 = .ok (.iload_n 2, 1) := by decide +kernel
theorem dX6_beginsAt_42 : decode cX6_beginsAt 42 = .ok (.bipush 32, 2) := by decide +kernel
theorem dX6_beginsAt_44 : decode cX6_beginsAt 44 = .ok (.if_icmp .ne 5, 3) := by decide +kernel
theorem dX6_beginsAt_47 : decode cX6_beginsAt 47 = .ok (.iconst 5, 1) := by decide +kernel
theorem dX6_beginsAt_48 : decode cX6_beginsAt 48 = .ok (.ireturn, 1) := by decide +kernel
theorem dX6_beginsAt_49 : decode cX6_beginsAt 49 = .ok (.iload_n 2, 1) := by decide +kernel
theorem dX6_beginsAt_50 : decode cX6_beginsAt 50 = .ok (.bipush 59, 2) := by decide +kernel
theorem dX6_beginsAt_52 : decode cX6_beginsAt 52 = .ok (.if_icmp .ne 7, 3) := by decide +kernel
theorem dX6_beginsAt_55 : decode cX6_beginsAt 55 = .ok (.iconst 3, 1) := by decide +kernel
theorem dX6_beginsAt_56 : decode cX6_beginsAt 56 = .ok (.goto 4, 3) := by decide +kernel
theorem dX6_beginsAt_59 : decode cX6_beginsAt 59 = .ok (.iconst 4, 1) := by decide +kernel
theorem dX6_beginsAt_60 : decode cX6_beginsAt 60 = .ok (.ireturn, 1) := by decide +kernel
theorem dX6_byteAt_0 : decode cX6_byteAt 0 = .ok (.iload_n 1, 1) := by decide +kernel
theorem dX6_byteAt_1 : decode cX6_byteAt 1 = .ok (.ifCond .lt 26, 3) := by decide +kernel
theorem dX6_byteAt_4 : decode cX6_byteAt 4 = .ok (.iload_n 1, 1) := by decide +kernel
theorem dX6_byteAt_5 : decode cX6_byteAt 5 = .ok (.aload_n 0, 1) := by decide +kernel
theorem dX6_byteAt_6 : decode cX6_byteAt 6 = .ok (.getfield 15, 3) := by decide +kernel
theorem dX6_byteAt_9 : decode cX6_byteAt 9 = .ok (.if_icmp .ge 18, 3) := by decide +kernel
theorem dX6_byteAt_12 : decode cX6_byteAt 12 = .ok (.iload_n 1, 1) := by decide +kernel
theorem dX6_byteAt_13 : decode cX6_byteAt 13 = .ok (.bipush 120, 2) := by decide +kernel
theorem dX6_byteAt_15 : decode cX6_byteAt 15 = .ok (.if_icmp .ge 12, 3) := by decide +kernel
theorem dX6_byteAt_18 : decode cX6_byteAt 18 = .ok (.aload_n 0, 1) := by decide +kernel
theorem dX6_byteAt_19 : decode cX6_byteAt 19 = .ok (.getfield 9, 3) := by decide +kernel
theorem dX6_byteAt_22 : decode cX6_byteAt 22 = .ok (.iload_n 1, 1) := by decide +kernel
theorem dX6_byteAt_23 : decode cX6_byteAt 23 = .ok (.iaload, 1) := by decide +kernel
theorem dX6_byteAt_24 : decode cX6_byteAt 24 = .ok (.goto 4, 3) := by decide +kernel
theorem dX6_byteAt_27 : decode cX6_byteAt 27 = .ok (.iconst (-1), 1) := by decide +kernel
theorem dX6_byteAt_28 : decode cX6_byteAt 28 = .ok (.ireturn, 1) := by decide +kernel
