set_option maxRecDepth 20000 in
theorem ggX7_edge_X7_findingOfWeighing : GoodIn wsX7_edge wsX7_findingOfWeighing := goodIn_r _ [8, 9, 10, 11, 12, 7, 13, 14, 15, 16, 17, 18, 19, 20, 21, 22, 23, 24, 25, 26, 27, 28, 124, 125, 126, 127, 128, 129, 130, 131, 132, 133, 134, 135, 136, 137, 138, 139, 140, 141, 142, 143, 144] (by exact rfl) (by decide +kernel)
set_option maxRecDepth 20000 in
theorem gX7_edge_X7_findingOfWeighing : GoodIn wsX7_edge (wsV RX7 210 RX7 yX7_findingOfWeighing wsX7_findingOfWeighing) := goodIn_app (goodIn_of _ (by decide +kernel)) ggX7_edge_X7_findingOfWeighing
set_option maxRecDepth 20000 in
theorem ggX7_edge_X7_tell : GoodIn wsX7_edge wsX7_tell := goodIn_r _ [32, 9, 33, 124, 125, 126, 127, 128, 129, 130, 131, 132, 133, 134] (by exact rfl) (by decide +kernel)
set_option maxRecDepth 20000 in
theorem gX7_edge_X7_tell : GoodIn wsX7_edge (wsV RX7 82 RX7 yX7_tell wsX7_tell) := goodIn_app (goodIn_of _ (by decide +kernel)) ggX7_edge_X7_tell
set_option maxRecDepth 20000 in
theorem ggX7_edge_X7_startTrial : GoodIn wsX7_edge wsX7_startTrial := goodIn_r _ [37, 1, 14, 38, 39, 40, 41, 42, 43, 44, 45, 46, 47, 48, 49, 50, 51, 52, 53, 54, 55, 56, 124, 125, 126, 127, 128, 129, 130, 131, 132, 133, 134, 135, 136, 137, 138, 139, 140, 141, 142, 143, 144] (by exact rfl) (by decide +kernel)
set_option maxRecDepth 20000 in
theorem gX7_edge_X7_startTrial : GoodIn wsX7_edge (wsV RX7 163 RX7 yX7_startTrial wsX7_startTrial) := goodIn_app (goodIn_of _ (by decide +kernel)) ggX7_edge_X7_startTrial
set_option maxRecDepth 20000 in
theorem ggX7_edge_X1_pass : GoodIn wsX7_edge wsX1_pass := goodIn_r _ [61, 62, 63, 64, 65, 66, 67, 68, 69, 70, 60, 71, 72, 73, 74, 75, 76, 77, 78, 79, 80, 81, 82, 83, 84, 85, 86, 87, 88, 89, 90, 91, 92, 93, 94, 95, 96, 97, 98, 99, 100, 101, 102, 103, 104, 105, 106, 107, 108, 109, 110, 111, 112, 113, 114, 115, 41, 116, 53, 51, 117, 50, 118, 55, 145, 146, 147, 148, 149, 150, 151, 152, 153, 154, 155, 156, 135, 136, 137, 138, 139, 140, 141, 142, 143, 144] (by exact rfl) (by decide +kernel)
set_option maxRecDepth 20000 in
theorem gX7_edge_X1_pass : GoodIn wsX7_edge (wsV RX7 178 RX1 yX1_pass wsX1_pass) := goodIn_app (goodIn_of _ (by decide +kernel)) ggX7_edge_X1_pass
set_option maxRecDepth 20000 in
theorem ggX7_edge_X7_gain : GoodIn wsX7_edge wsX7_gain := goodIn_r _ [122, 1, 123, 14, 124, 125, 126, 127, 128, 129, 130, 131, 132, 133, 134, 135, 136, 137, 138, 139, 140, 141, 142, 143, 144] (by exact rfl) (by decide +kernel)
set_option maxRecDepth 20000 in
theorem gX7_edge_X7_gain : GoodIn wsX7_edge (wsV RX7 207 RX7 yX7_gain wsX7_gain) := goodIn_app (goodIn_of _ (by decide +kernel)) ggX7_edge_X7_gain
theorem dX7_edge_0 : decode cX7_edge 0 = .ok (.aload_n 0, 1) := by decide +kernel
theorem dX7_edge_1 : decode cX7_edge 1 = .ok (.iload_n 1, 1) := by decide +kernel
theorem dX7_edge_2 : decode cX7_edge 2 = .ok (.iload_n 2, 1) := by decide +kernel
theorem dX7_edge_3 : decode cX7_edge 3 = .ok (.invokevirtual 210, 3) := by decide +kernel
theorem dX7_edge_6 : decode cX7_edge 6 = .ok (.istore_n 3, 1) := by decide +kernel
theorem dX7_edge_7 : decode cX7_edge 7 = .ok (.iload_n 3, 1) := by decide +kernel
theorem dX7_edge_8 : decode cX7_edge 8 = .ok (.ifCond .eq 9, 3) := by decide +kernel
theorem dX7_edge_11 : decode cX7_edge 11 = .ok (.aload_n 0, 1) := by decide +kernel
theorem dX7_edge_12 : decode cX7_edge 12 = .ok (.iload_n 3, 1) := by decide +kernel
theorem dX7_edge_13 : decode cX7_edge 13 = .ok (.invokevirtual 82, 3) := by decide +kernel
theorem dX7_edge_16 : decode cX7_edge 16 = .ok (.ireturn, 1) := by decide +kernel
theorem dX7_edge_17 : decode cX7_edge 17 = .ok (.iconst 1, 1) := by decide +kernel
theorem dX7_edge_18 : decode cX7_edge 18 = .ok (.istore 4, 2) := by decide +kernel
theorem dX7_edge_20 : decode cX7_edge 20 = .ok (.iconst (-1), 1) := by decide +kernel
theorem dX7_edge_21 : decode cX7_edge 21 = .ok (.istore 5, 2) := by decide +kernel
theorem dX7_edge_23 : decode cX7_edge 23 = .ok (.iconst 1, 1) := by decide +kernel
theorem dX7_edge_24 : decode cX7_edge 24 = .ok (.istore 6, 2) := by decide +kernel
theorem dX7_edge_26 : decode cX7_edge 26 = .ok (.iload 6, 2) := by decide +kernel
theorem dX7_edge_28 : decode cX7_edge 28 = .ok (.bipush 9, 2) := by decide +kernel
theorem dX7_edge_30 : decode cX7_edge 30 = .ok (.if_icmp .gt 57, 3) := by decide +kernel
theorem dX7_edge_33 : decode cX7_edge 33 = .ok (.aload_n 0, 1) := by decide +kernel
theorem dX7_edge_34 : decode cX7_edge 34 = .ok (.invokevirtual 163, 3) := by decide +kernel
theorem dX7_edge_37 : decode cX7_edge 37 = .ok (.aload_n 0, 1) := by decide +kernel
theorem dX7_edge_38 : decode cX7_edge 38 = .ok (.getfield 19, 3) := by decide +kernel
theorem dX7_edge_41 : decode cX7_edge 41 = .ok (.getfield 97, 3) := by decide +kernel
theorem dX7_edge_44 : decode cX7_edge 44 = .ok (.iload_n 1, 1) := by decide +kernel
theorem dX7_edge_45 : decode cX7_edge 45 = .ok (.iload 6, 2) := by decide +kernel
theorem dX7_edge_47 : decode cX7_edge 47 = .ok (.iastore, 1) := by decide +kernel
theorem dX7_edge_48 : decode cX7_edge 48 = .ok (.aload_n 0, 1) := by decide +kernel
theorem dX7_edge_49 : decode cX7_edge 49 = .ok (.getfield 25, 3) := by decide +kernel
theorem dX7_edge_52 : decode cX7_edge 52 = .ok (.aload_n 0, 1) := by decide +kernel
theorem dX7_edge_53 : decode cX7_edge 53 = .ok (.getfield 19, 3) := by decide +kernel
theorem dX7_edge_56 : decode cX7_edge 56 = .ok (.iload_n 2, 1) := by decide +kernel
theorem dX7_edge_57 : decode cX7_edge 57 = .ok (.invokevirtual 178, 3) := by decide +kernel
theorem dX7_edge_60 : decode cX7_edge 60 = .ok (.aload_n 0, 1) := by decide +kernel
theorem dX7_edge_61 : decode cX7_edge 61 = .ok (.iload_n 1, 1) := by decide +kernel
theorem dX7_edge_62 : decode cX7_edge 62 = .ok (.invokevirtual 207, 3) := by decide +kernel
theorem dX7_edge_65 : decode cX7_edge 65 = .ok (.iload 5, 2) := by decide +kernel
theorem dX7_edge_67 : decode cX7_edge 67 = .ok (.if_icmp .le 14, 3) := by decide +kernel
theorem dX7_edge_70 : decode cX7_edge 70 = .ok (.aload_n 0, 1) := by decide +kernel
theorem dX7_edge_71 : decode cX7_edge 71 = .ok (.iload_n 1, 1) := by decide +kernel
theorem dX7_edge_72 : decode cX7_edge 72 = .ok (.invokevirtual 207, 3) := by decide +kernel
theorem dX7_edge_75 : decode cX7_edge 75 = .ok (.istore 5, 2) := by decide +kernel
theorem dX7_edge_77 : decode cX7_edge 77 = .ok (.iload 6, 2) := by decide +kernel
theorem dX7_edge_79 : decode cX7_edge 79 = .ok (.istore 4, 2) := by decide +kernel
theorem dX7_edge_81 : decode cX7_edge 81 = .ok (.iinc 6 1, 3) := by decide +kernel
theorem dX7_edge_84 : decode cX7_edge 84 = .ok (.goto (-58), 3) := by decide +kernel
theorem dX7_edge_87 : decode cX7_edge 87 = .ok (.iload 4, 2) := by decide +kernel
theorem dX7_edge_89 : decode cX7_edge 89 = .ok (.ireturn, 1) := by decide +kernel
set_option maxRecDepth 20000 in
theorem ggX7_place_X7_findingOfWeighing : GoodIn wsX7_place wsX7_findingOfWeighing := goodIn_r _ [9, 1, 10, 11, 12, 8, 13, 14, 15, 16, 17, 18, 19, 20, 21, 22, 23, 24, 25, 26, 27, 28, 124, 125, 126, 127, 128, 129, 130, 131, 132, 133, 134, 135, 136, 137, 138, 139, 140, 141, 142, 143, 144] (by exact rfl) (by decide +kernel)
set_option maxRecDepth 20000 in
theorem gX7_place_X7_findingOfWeighing : GoodIn wsX7_place (wsV RX7 210 RX7 yX7_findingOfWeighing wsX7_findingOfWeighing) := goodIn_app (goodIn_of _ (by decide +kernel)) ggX7_place_X7_findingOfWeighing
set_option maxRecDepth 20000 in
theorem ggX7_place_X7_tell : GoodIn wsX7_place wsX7_tell := goodIn_r _ [32, 1, 33, 124, 125, 126, 127, 128, 129, 130, 131, 132, 133, 134] (by exact rfl) (by decide +kernel)
set_option maxRecDepth 20000 in
theorem gX7_place_X7_tell : GoodIn wsX7_place (wsV RX7 82 RX7 yX7_tell wsX7_tell) := goodIn_app (goodIn_of _ (by decide +kernel)) ggX7_place_X7_tell
set_option maxRecDepth 20000 in
theorem ggX7_place_X7_startTrial : GoodIn wsX7_place wsX7_startTrial := goodIn_r _ [37, 2, 14, 38, 39, 40, 41, 42, 43, 44, 45, 46, 47, 48, 49, 50, 51, 52, 53, 54, 55, 56, 124, 125, 126, 127, 128, 129, 130, 131, 132, 133, 134, 135, 136, 137, 138, 139, 140, 141, 142, 143, 144] (by exact rfl) (by decide +kernel)
set_option maxRecDepth 20000 in
theorem gX7_place_X7_startTrial : GoodIn wsX7_place (wsV RX7 163 RX7 yX7_startTrial wsX7_startTrial) := goodIn_app (goodIn_of _ (by decide +kernel)) ggX7_place_X7_startTrial
set_option maxRecDepth 20000 in
theorem ggX7_place_X1_pass : GoodIn wsX7_place wsX1_pass := goodIn_r _ [61, 62, 63, 64, 65, 66, 67, 68, 69, 70, 60, 71, 72, 73, 74, 75, 76, 77, 78, 79, 80, 81, 82, 83, 84, 85, 86, 87, 88, 89, 90, 91, 92, 93, 94, 95, 96, 97, 98, 99, 100, 101, 102, 103, 104, 105, 106, 107, 108, 109, 110, 111, 112, 113, 114, 115, 41, 116, 53, 51, 117, 50, 118, 55, 145, 146, 147, 148, 149, 150, 151, 152, 153, 154, 155, 156, 135, 136, 137, 138, 139, 140, 141, 142, 143, 144] (by exact rfl) (by decide +kernel)
set_option maxRecDepth 20000 in
theorem gX7_place_X1_pass : GoodIn wsX7_place (wsV RX7 178 RX1 yX1_pass wsX1_pass) := goodIn_app (goodIn_of _ (by decide +kernel)) ggX7_place_X1_pass
set_option maxRecDepth 20000 in
theorem ggX7_place_X7_gain : GoodIn wsX7_place wsX7_gain := goodIn_r _ [122, 2, 123, 14, 124, 125, 126, 127, 128, 129, 130, 131, 132, 133, 134, 135, 136, 137, 138, 139, 140, 141, 142, 143, 144] (by exact rfl) (by decide +kernel)
set_option maxRecDepth 20000 in
theorem gX7_place_X7_gain : GoodIn wsX7_place (wsV RX7 207 RX7 yX7_gain wsX7_gain) := goodIn_app (goodIn_of _ (by decide +kernel)) ggX7_place_X7_gain
theorem dX7_place_0 : decode cX7_place 0 = .ok (.iload_n 1, 1) := by decide +kernel
theorem dX7_place_1 : decode cX7_place 1 = .ok (.ifCond .ne 8, 3) := by decide +kernel
theorem dX7_place_4 : decode cX7_place 4 = .ok (.ldc 81, 2) := by decide +kernel
theorem dX7_place_6 : decode cX7_place 6 = .ok (.goto 9, 3) := by decide +kernel
theorem dX7_place_9 : decode cX7_place 9 = .ok (.aload_n 0, 1) := by decide +kernel
theorem dX7_place_10 : decode cX7_place 10 = .ok (.iload_n 1, 1) := by decide +kernel
theorem dX7_place_11 : decode cX7_place 11 = .ok (.iload_n 2, 1) := by decide +kernel
theorem dX7_place_12 : decode cX7_place 12 = .ok (.invokevirtual 210, 3) := by decide +kernel
theorem dX7_place_15 : decode cX7_place 15 = .ok (.istore_n 3, 1) := by decide +kernel
theorem dX7_place_16 : decode cX7_place 16 = .ok (.iload_n 3, 1) := by decide +kernel
theorem dX7_place_17 : decode cX7_place 17 = .ok (.ifCond .eq 9, 3) := by decide +kernel
theorem dX7_place_20 : decode cX7_place 20 = .ok (.aload_n 0, 1) := by decide +kernel
theorem dX7_place_21 : decode cX7_place 21 = .ok (.iload_n 3, 1) := by decide +kernel
theorem dX7_place_22 : decode cX7_place 22 = .ok (.invokevirtual 82, 3) := by decide +kernel
theorem dX7_place_25 : decode cX7_place 25 = .ok (.ireturn, 1) := by decide +kernel
theorem dX7_place_26 : decode cX7_place 26 = .ok (.iconst 0, 1) := by decide +kernel
theorem dX7_place_27 : decode cX7_place 27 = .ok (.istore 4, 2) := by decide +kernel
theorem dX7_place_29 : decode cX7_place 29 = .ok (.iconst (-1), 1) := by decide +kernel
theorem dX7_place_30 : decode cX7_place 30 = .ok (.istore 5, 2) := by decide +kernel
theorem dX7_place_32 : decode cX7_place 32 = .ok (.iconst 0, 1) := by decide +kernel
theorem dX7_place_33 : decode cX7_place 33 = .ok (.istore 6, 2) := by decide +kernel
theorem dX7_place_35 : decode cX7_place 35 = .ok (.iload 6, 2) := by decide +kernel
theorem dX7_place_37 : decode cX7_place 37 = .ok (.iload_n 1, 1) := by decide +kernel
theorem dX7_place_38 : decode cX7_place 38 = .ok (.if_icmp .ge 57, 3) := by decide +kernel
theorem dX7_place_41 : decode cX7_place 41 = .ok (.aload_n 0, 1) := by decide +kernel
theorem dX7_place_42 : decode cX7_place 42 = .ok (.invokevirtual 163, 3) := by decide +kernel
theorem dX7_place_45 : decode cX7_place 45 = .ok (.aload_n 0, 1) := by decide +kernel
theorem dX7_place_46 : decode cX7_place 46 = .ok (.getfield 19, 3) := by decide +kernel
theorem dX7_place_49 : decode cX7_place 49 = .ok (.getfield 94, 3) := by decide +kernel
theorem dX7_place_52 : decode cX7_place 52 = .ok (.iload_n 1, 1) := by decide +kernel
theorem dX7_place_53 : decode cX7_place 53 = .ok (.iload 6, 2) := by decide +kernel
theorem dX7_place_55 : decode cX7_place 55 = .ok (.iastore, 1) := by decide +kernel
theorem dX7_place_56 : decode cX7_place 56 = .ok (.aload_n 0, 1) := by decide +kernel
theorem dX7_place_57 : decode cX7_place 57 = .ok (.getfield 25, 3) := by decide +kernel
theorem dX7_place_60 : decode cX7_place 60 = .ok (.aload_n 0, 1) := by decide +kernel
theorem dX7_place_61 : decode cX7_place 61 = .ok (.getfield 19, 3) := by decide +kernel
theorem dX7_place_64 : decode cX7_place 64 = .ok (.iload_n 2, 1) := by decide +kernel
theorem dX7_place_65 : decode cX7_place 65 = .ok (.invokevirtual 178, 3) := by decide +kernel
theorem dX7_place_68 : decode cX7_place 68 = .ok (.aload_n 0, 1) := by decide +kernel
theorem dX7_place_69 : decode cX7_place 69 = .ok (.iload_n 1, 1) := by decide +kernel
theorem dX7_place_70 : decode cX7_place 70 = .ok (.invokevirtual 207, 3) := by decide +kernel
theorem dX7_place_73 : decode cX7_place 73 = .ok (.iload 5, 2) := by decide +kernel
theorem dX7_place_75 : decode cX7_place 75 = .ok (.if_icmp .le 14, 3) := by decide +kernel
theorem dX7_place_78 : decode cX7_place 78 = .ok (.aload_n 0, 1) := by decide +kernel
theorem dX7_place_79 : decode cX7_place 79 = .ok (.iload_n 1, 1) := by decide +kernel
theorem dX7_place_80 : decode cX7_place 80 = .ok (.invokevirtual 207, 3) := by decide +kernel
theorem dX7_place_83 : decode cX7_place 83 = .ok (.istore 5, 2) := by decide +kernel
theorem dX7_place_85 : decode cX7_place 85 = .ok (.iload 6, 2) := by decide +kernel
theorem dX7_place_87 : decode cX7_place 87 = .ok (.istore 4, 2) := by decide +kernel
theorem dX7_place_89 : decode cX7_place 89 = .ok (.iinc 6 1, 3) := by decide +kernel
theorem dX7_place_92 : decode cX7_place 92 = .ok (.goto (-57), 3) := by decide +kernel
theorem dX7_place_95 : decode cX7_place 95 = .ok (.iload 4, 2) := by decide +kernel
theorem dX7_place_97 : decode cX7_place 97 = .ok (.ireturn, 1) := by decide +kernel
set_option maxRecDepth 20000 in
theorem ggX7_kindFor_X7_findingOfWeighing : GoodIn wsX7_kindFor wsX7_findingOfWeighing := goodIn_r _ [5, 6, 7, 8, 9, 4, 10, 11, 12, 13, 14, 15, 16, 17, 18, 19, 20, 21, 22, 23, 24, 25, 128, 129, 130, 131, 132, 133, 134, 135, 136, 137, 138, 139, 140, 141, 142, 143, 144, 145, 146, 147, 148] (by exact rfl) (by decide +kernel)
set_option maxRecDepth 20000 in
theorem gX7_kindFor_X7_findingOfWeighing : GoodIn wsX7_kindFor (wsV RX7 210 RX7 yX7_findingOfWeighing wsX7_findingOfWeighing) := goodIn_app (goodIn_of _ (by decide +kernel)) ggX7_kindFor_X7_findingOfWeighing
set_option maxRecDepth 20000 in
theorem ggX7_kindFor_X7_tell : GoodIn wsX7_kindFor wsX7_tell := goodIn_r _ [29, 6, 30, 128, 129, 130, 131, 132, 133, 134, 135, 136, 137, 138] (by exact rfl) (by decide +kernel)
set_option maxRecDepth 20000 in
theorem gX7_kindFor_X7_tell : GoodIn wsX7_kindFor (wsV RX7 82 RX7 yX7_tell wsX7_tell) := goodIn_app (goodIn_of _ (by decide +kernel)) ggX7_kindFor_X7_tell
set_option maxRecDepth 20000 in
theorem ggX7_kindFor_X7_passAsKind : GoodIn wsX7_kindFor wsX7_passAsKind := goodIn_r _ [34, 35, 36, 37, 38, 39, 40, 4, 41, 11, 42, 43, 44, 45, 46, 47, 48, 49, 50, 51, 52, 53, 54, 55, 56, 57, 58, 59, 60, 61, 62, 63, 64, 65, 66, 67, 68, 69, 70, 71, 72, 73, 74, 75, 76, 77, 78, 79, 80, 81, 82, 83, 84, 85, 86, 87, 88, 89, 90, 91, 92, 93, 94, 95, 96, 97, 98, 99, 100, 101, 102, 103, 104, 105, 106, 107, 108, 109, 110, 111, 112, 113, 114, 115, 116, 117, 118, 119, 120, 121, 122, 128, 129, 130, 131, 132, 133, 134, 135, 136, 137, 138, 139, 140, 141, 142, 143, 144, 145, 146, 147, 148, 149, 150, 151, 152, 153, 154, 155, 156, 157, 158, 159, 160] (by exact rfl) (by decide +kernel)
set_option maxRecDepth 20000 in
theorem gX7_kindFor_X7_passAsKind : GoodIn wsX7_kindFor (wsV RX7 213 RX7 yX7_passAsKind wsX7_passAsKind) := goodIn_app (goodIn_of _ (by decide +kernel)) ggX7_kindFor_X7_passAsKind
set_option maxRecDepth 20000 in
theorem ggX7_kindFor_X7_gain : GoodIn wsX7_kindFor wsX7_gain := goodIn_r _ [126, 35, 127, 11, 128, 129, 130, 131, 132, 133, 134, 135, 136, 137, 138, 139, 140, 141, 142, 143, 144, 145, 146, 147, 148] (by exact rfl) (by decide +kernel)
set_option maxRecDepth 20000 in
theorem gX7_kindFor_X7_gain : GoodIn wsX7_kindFor (wsV RX7 207 RX7 yX7_gain wsX7_gain) := goodIn_app (goodIn_of _ (by decide +kernel)) ggX7_kindFor_X7_gain
theorem dX7_kindFor_0 : decode cX7_kindFor 0 = .ok (.aload_n 0, 1) := by decide +kernel
theorem dX7_kindFor_1 : decode cX7_kindFor 1 = .ok (.iload_n 1, 1) := by decide +kernel
theorem dX7_kindFor_2 : decode cX7_kindFor 2 = .ok (.iload_n 2, 1) := by decide +kernel
theorem dX7_kindFor_3 : decode cX7_kindFor 3 = .ok (.invokevirtual 210, 3) := by decide +kernel
theorem dX7_kindFor_6 : decode cX7_kindFor 6 = .ok (.istore_n 3, 1) := by decide +kernel
theorem dX7_kindFor_7 : decode cX7_kindFor 7 = .ok (.iload_n 3, 1) := by decide +kernel
theorem dX7_kindFor_8 : decode cX7_kindFor 8 = .ok (.ifCond .eq 9, 3) := by decide +kernel
theorem dX7_kindFor_11 : decode cX7_kindFor 11 = .ok (.aload_n 0, 1) := by decide +kernel
theorem dX7_kindFor_12 : decode cX7_kindFor 12 = .ok (.iload_n 3, 1) := by decide +kernel
theorem dX7_kindFor_13 : decode cX7_kindFor 13 = .ok (.invokevirtual 82, 3) := by decide +kernel
theorem dX7_kindFor_16 : decode cX7_kindFor 16 = .ok (.ireturn, 1) := by decide +kernel
theorem dX7_kindFor_17 : decode cX7_kindFor 17 = .ok (.iconst 0, 1) := by decide +kernel
theorem dX7_kindFor_18 : decode cX7_kindFor 18 = .ok (.istore 4, 2) := by decide +kernel
theorem dX7_kindFor_20 : decode cX7_kindFor 20 = .ok (.iconst (-1), 1) := by decide +kernel
theorem dX7_kindFor_21 : decode cX7_kindFor 21 = .ok (.istore 5, 2) := by decide +kernel
theorem dX7_kindFor_23 : decode cX7_kindFor 23 = .ok (.iconst 0, 1) := by decide +kernel
theorem dX7_kindFor_24 : decode cX7_kindFor 24 = .ok (.istore 6, 2) := by decide +kernel
theorem dX7_kindFor_26 : decode cX7_kindFor 26 = .ok (.iload 6, 2) := by decide +kernel
theorem dX7_kindFor_28 : decode cX7_kindFor 28 = .ok (.bipush 6, 2) := by decide +kernel
theorem dX7_kindFor_30 : decode cX7_kindFor 30 = .ok (.if_icmp .gt 38, 3) := by decide +kernel
theorem dX7_kindFor_33 : decode cX7_kindFor 33 = .ok (.aload_n 0, 1) := by decide +kernel
theorem dX7_kindFor_34 : decode cX7_kindFor 34 = .ok (.iload_n 1, 1) := by decide +kernel
theorem dX7_kindFor_35 : decode cX7_kindFor 35 = .ok (.iload 6, 2) := by decide +kernel
theorem dX7_kindFor_37 : decode cX7_kindFor 37 = .ok (.iload_n 2, 1) := by decide +kernel
theorem dX7_kindFor_38 : decode cX7_kindFor 38 = .ok (.invokevirtual 213, 3) := by decide +kernel
theorem dX7_kindFor_41 : decode cX7_kindFor 41 = .ok (.aload_n 0, 1) := by decide +kernel
theorem dX7_kindFor_42 : decode cX7_kindFor 42 = .ok (.iload_n 1, 1) := by decide +kernel
theorem dX7_kindFor_43 : decode cX7_kindFor 43 = .ok (.invokevirtual 207, 3) := by decide +kernel
theorem dX7_kindFor_46 : decode cX7_kindFor 46 = .ok (.iload 5, 2) := by decide +kernel
theorem dX7_kindFor_48 : decode cX7_kindFor 48 = .ok (.if_icmp .le 14, 3) := by decide +kernel
theorem dX7_kindFor_51 : decode cX7_kindFor 51 = .ok (.aload_n 0, 1) := by decide +kernel
theorem dX7_kindFor_52 : decode cX7_kindFor 52 = .ok (.iload_n 1, 1) := by decide +kernel
theorem dX7_kindFor_53 : decode cX7_kindFor 53 = .ok (.invokevirtual 207, 3) := by decide +kernel
theorem dX7_kindFor_56 : decode cX7_kindFor 56 = .ok (.istore 5, 2) := by decide +kernel
theorem dX7_kindFor_58 : decode cX7_kindFor 58 = .ok (.iload 6, 2) := by decide +kernel
theorem dX7_kindFor_60 : decode cX7_kindFor 60 = .ok (.istore 4, 2) := by decide +kernel
theorem dX7_kindFor_62 : decode cX7_kindFor 62 = .ok (.iinc 6 1, 3) := by decide +kernel
theorem dX7_kindFor_65 : decode cX7_kindFor 65 = .ok (.goto (-39), 3) := by decide +kernel
theorem dX7_kindFor_68 : decode cX7_kindFor 68 = .ok (.iload 4, 2) := by decide +kernel
theorem dX7_kindFor_70 : decode cX7_kindFor 70 = .ok (.ireturn, 1) := by decide +kernel
set_option maxRecDepth 20000 in
theorem ggX7_hurt_X7_findingOfWeighing : GoodIn wsX7_hurt wsX7_findingOfWeighing := goodIn_r _ [8, 9, 10, 11, 12, 7, 13, 1, 2, 14, 15, 16, 17, 18, 19, 20, 21, 22, 23, 24, 25, 26, 133, 134, 135, 136, 137, 138, 139, 140, 141, 142, 143, 144, 145, 146, 147, 148, 149, 150, 151, 152, 153] (by exact rfl) (by decide +kernel)
set_option maxRecDepth 20000 in
theorem gX7_hurt_X7_findingOfWeighing : GoodIn wsX7_hurt (wsV RX7 210 RX7 yX7_findingOfWeighing wsX7_findingOfWeighing) := goodIn_app (goodIn_of _ (by decide +kernel)) ggX7_hurt_X7_findingOfWeighing
set_option maxRecDepth 20000 in
theorem ggX7_hurt_X7_tell : GoodIn wsX7_hurt wsX7_tell := goodIn_r _ [30, 9, 31, 133, 134, 135, 136, 137, 138, 139, 140, 141, 142, 143] (by exact rfl) (by decide +kernel)
set_option maxRecDepth 20000 in
theorem gX7_hurt_X7_tell : GoodIn wsX7_hurt (wsV RX7 82 RX7 yX7_tell wsX7_tell) := goodIn_app (goodIn_of _ (by decide +kernel)) ggX7_hurt_X7_tell
set_option maxRecDepth 20000 in
theorem ggX7_hurt_X7_noteUsualGains : GoodIn wsX7_hurt wsX7_noteUsualGains := goodIn_r _ [35, 36, 37, 1, 2, 3, 38, 39, 40, 7, 41, 42, 43, 44, 45, 46, 47, 48, 49, 50, 51, 52, 53, 54, 55, 56, 57, 58, 59, 60, 61, 62, 63, 64, 65, 66, 67, 68, 69, 70, 71, 72, 73, 74, 75, 76, 77, 78, 79, 80, 81, 82, 83, 84, 85, 86, 87, 88, 89, 90, 91, 92, 93, 94, 95, 96, 97, 98, 99, 100, 101, 102, 103, 104, 105, 106, 107, 108, 109, 110, 111, 112, 113, 114, 115, 116, 117, 118, 119, 120, 121, 122, 123, 124, 125, 126, 127, 133, 134, 135, 136, 137, 138, 139, 140, 141, 142, 143, 144, 145, 146, 147, 148, 149, 150, 151, 152, 153, 154, 155, 156, 157, 158, 159, 160, 161, 162, 163, 164, 165] (by exact rfl) (by decide +kernel)
set_option maxRecDepth 20000 in
theorem gX7_hurt_X7_noteUsualGains : GoodIn wsX7_hurt (wsV RX7 217 RX7 yX7_noteUsualGains wsX7_noteUsualGains) := goodIn_app (goodIn_of _ (by decide +kernel)) ggX7_hurt_X7_noteUsualGains
set_option maxRecDepth 20000 in
theorem ggX7_hurt_X7_passAsKind : GoodIn wsX7_hurt wsX7_passAsKind := goodIn_r _ [131, 37, 132, 36, 38, 39, 40, 7, 41, 1, 42, 43, 44, 45, 46, 47, 48, 49, 50, 51, 52, 53, 54, 55, 56, 57, 58, 59, 60, 61, 62, 63, 64, 65, 66, 67, 68, 69, 70, 71, 72, 73, 74, 75, 76, 77, 78, 79, 80, 81, 82, 83, 84, 85, 86, 87, 88, 89, 90, 91, 92, 93, 94, 95, 96, 97, 98, 99, 100, 101, 102, 103, 104, 105, 106, 107, 108, 109, 110, 111, 112, 113, 114, 115, 116, 117, 118, 119, 120, 121, 122, 133, 134, 135, 136, 137, 138, 139, 140, 141, 142, 143, 144, 145, 146, 147, 148, 149, 150, 151, 152, 153, 154, 155, 156, 157, 158, 159, 160, 161, 162, 163, 164, 165] (by exact rfl) (by decide +kernel)
set_option maxRecDepth 20000 in
theorem gX7_hurt_X7_passAsKind : GoodIn wsX7_hurt (wsV RX7 213 RX7 yX7_passAsKind wsX7_passAsKind) := goodIn_app (goodIn_of _ (by decide +kernel)) ggX7_hurt_X7_passAsKind
set_option maxRecDepth 20000 in
theorem ggX7_hurt_X7_gain : GoodIn wsX7_hurt wsX7_gain := goodIn_r _ [126, 37, 127, 1, 133, 134, 135, 136, 137, 138, 139, 140, 141, 142, 143, 144, 145, 146, 147, 148, 149, 150, 151, 152, 153] (by exact rfl) (by decide +kernel)
set_option maxRecDepth 20000 in
theorem gX7_hurt_X7_gain : GoodIn wsX7_hurt (wsV RX7 207 RX7 yX7_gain wsX7_gain) := goodIn_app (goodIn_of _ (by decide +kernel)) ggX7_hurt_X7_gain
theorem dX7_hurt_0 : decode cX7_hurt 0 = .ok (.aload_n 0, 1) := by decide +kernel
theorem dX7_hurt_1 : decode cX7_hurt 1 = .ok (.iload_n 1, 1) := by decide +kernel
theorem dX7_hurt_2 : decode cX7_hurt 2 = .ok (.iload_n 2, 1) := by decide +kernel
theorem dX7_hurt_3 : decode cX7_hurt 3 = .ok (.invokevirtual 210, 3) := by decide +kernel
theorem dX7_hurt_6 : decode cX7_hurt 6 = .ok (.istore_n 3, 1) := by decide +kernel
theorem dX7_hurt_7 : decode cX7_hurt 7 = .ok (.iload_n 3, 1) := by decide +kernel
theorem dX7_hurt_8 : decode cX7_hurt 8 = .ok (.ifCond .eq 9, 3) := by decide +kernel
theorem dX7_hurt_11 : decode cX7_hurt 11 = .ok (.aload_n 0, 1) := by decide +kernel
theorem dX7_hurt_12 : decode cX7_hurt 12 = .ok (.iload_n 3, 1) := by decide +kernel
theorem dX7_hurt_13 : decode cX7_hurt 13 = .ok (.invokevirtual 82, 3) := by decide +kernel
theorem dX7_hurt_16 : decode cX7_hurt 16 = .ok (.ireturn, 1) := by decide +kernel
theorem dX7_hurt_17 : decode cX7_hurt 17 = .ok (.aload_n 0, 1) := by decide +kernel
theorem dX7_hurt_18 : decode cX7_hurt 18 = .ok (.iload_n 2, 1) := by decide +kernel
theorem dX7_hurt_19 : decode cX7_hurt 19 = .ok (.invokevirtual 217, 3) := by decide +kernel
theorem dX7_hurt_22 : decode cX7_hurt 22 = .ok (.aload_n 0, 1) := by decide +kernel
theorem dX7_hurt_23 : decode cX7_hurt 23 = .ok (.iload_n 1, 1) := by decide +kernel
theorem dX7_hurt_24 : decode cX7_hurt 24 = .ok (.iconst 1, 1) := by decide +kernel
theorem dX7_hurt_25 : decode cX7_hurt 25 = .ok (.iload_n 2, 1) := by decide +kernel
theorem dX7_hurt_26 : decode cX7_hurt 26 = .ok (.invokevirtual 213, 3) := by decide +kernel
theorem dX7_hurt_29 : decode cX7_hurt 29 = .ok (.iconst 0, 1) := by decide +kernel
theorem dX7_hurt_30 : decode cX7_hurt 30 = .ok (.istore 4, 2) := by decide +kernel
theorem dX7_hurt_32 : decode cX7_hurt 32 = .ok (.iconst 0, 1) := by decide +kernel
theorem dX7_hurt_33 : decode cX7_hurt 33 = .ok (.istore 5, 2) := by decide +kernel
theorem dX7_hurt_35 : decode cX7_hurt 35 = .ok (.iload 5, 2) := by decide +kernel
theorem dX7_hurt_37 : decode cX7_hurt 37 = .ok (.aload_n 0, 1) := by decide +kernel
theorem dX7_hurt_38 : decode cX7_hurt 38 = .ok (.getfield 12, 3) := by decide +kernel
theorem dX7_hurt_41 : decode cX7_hurt 41 = .ok (.getfield 68, 3) := by decide +kernel
theorem dX7_hurt_44 : decode cX7_hurt 44 = .ok (.if_icmp .ge 34, 3) := by decide +kernel
theorem dX7_hurt_47 : decode cX7_hurt 47 = .ok (.aload_n 0, 1) := by decide +kernel
theorem dX7_hurt_48 : decode cX7_hurt 48 = .ok (.iload 5, 2) := by decide +kernel
theorem dX7_hurt_50 : decode cX7_hurt 50 = .ok (.invokevirtual 207, 3) := by decide +kernel
theorem dX7_hurt_53 : decode cX7_hurt 53 = .ok (.aload_n 0, 1) := by decide +kernel
theorem dX7_hurt_54 : decode cX7_hurt 54 = .ok (.getfield 57, 3) := by decide +kernel
theorem dX7_hurt_57 : decode cX7_hurt 57 = .ok (.iload 5, 2) := by decide +kernel
theorem dX7_hurt_59 : decode cX7_hurt 59 = .ok (.iaload, 1) := by decide +kernel
theorem dX7_hurt_60 : decode cX7_hurt 60 = .ok (.if_icmp .ge 12, 3) := by decide +kernel
theorem dX7_hurt_63 : decode cX7_hurt 63 = .ok (.iload 4, 2) := by decide +kernel
theorem dX7_hurt_65 : decode cX7_hurt 65 = .ok (.iconst 1, 1) := by decide +kernel
theorem dX7_hurt_66 : decode cX7_hurt 66 = .ok (.iload 5, 2) := by decide +kernel
theorem dX7_hurt_68 : decode cX7_hurt 68 = .ok (.ishl, 1) := by decide +kernel
theorem dX7_hurt_69 : decode cX7_hurt 69 = .ok (.ior, 1) := by decide +kernel
theorem dX7_hurt_70 : decode cX7_hurt 70 = .ok (.istore 4, 2) := by decide +kernel
theorem dX7_hurt_72 : decode cX7_hurt 72 = .ok (.iinc 5 1, 3) := by decide +kernel
theorem dX7_hurt_75 : decode cX7_hurt 75 = .ok (.goto (-40), 3) := by decide +kernel
theorem dX7_hurt_78 : decode cX7_hurt 78 = .ok (.iload 4, 2) := by decide +kernel
theorem dX7_hurt_80 : decode cX7_hurt 80 = .ok (.ireturn, 1) := by decide +kernel
set_option maxRecDepth 20000 in
theorem ggX7_deal_X7_findingOfWeighedHours : GoodIn wsX7_deal wsX7_findingOfWeighedHours := goodIn_r _ [9, 10, 11, 12, 13, 8, 14, 15, 16, 17, 18, 1, 19, 126, 127, 128, 129, 130, 131, 132, 133, 134, 135, 136, 137, 138, 139, 140, 141, 142, 143, 144, 145, 146] (by exact rfl) (by decide +kernel)
set_option maxRecDepth 20000 in
theorem gX7_deal_X7_findingOfWeighedHours : GoodIn wsX7_deal (wsV RX7 221 RX7 yX7_findingOfWeighedHours wsX7_findingOfWeighedHours) := goodIn_app (goodIn_of _ (by decide +kernel)) ggX7_deal_X7_findingOfWeighedHours
set_option maxRecDepth 20000 in
theorem ggX7_deal_X7_tell : GoodIn wsX7_deal wsX7_tell := goodIn_r _ [23, 10, 24, 126, 127, 128, 129, 130, 131, 132, 133, 134, 135, 136] (by exact rfl) (by decide +kernel)
set_option maxRecDepth 20000 in
theorem gX7_deal_X7_tell : GoodIn wsX7_deal (wsV RX7 82 RX7 yX7_tell wsX7_tell) := goodIn_app (goodIn_of _ (by decide +kernel)) ggX7_deal_X7_tell
set_option maxRecDepth 20000 in
theorem ggX7_deal_X7_noteUsualGains : GoodIn wsX7_deal wsX7_noteUsualGains := goodIn_r _ [28, 29, 30, 1, 2, 31, 32, 33, 34, 8, 35, 36, 37, 38, 39, 40, 41, 42, 43, 44, 45, 46, 47, 48, 49, 50, 51, 52, 53, 54, 55, 56, 57, 58, 59, 60, 61, 62, 63, 64, 65, 66, 67, 68, 69, 70, 71, 72, 73, 74, 75, 76, 77, 78, 79, 80, 81, 82, 83, 84, 85, 86, 87, 88, 89, 90, 91, 92, 93, 94, 95, 96, 97, 98, 99, 100, 101, 102, 103, 104, 105, 106, 107, 108, 109, 110, 111, 112, 113, 114, 115, 116, 117, 118, 119, 120, 121, 126, 127, 128, 129, 130, 131, 132, 133, 134, 135, 136, 137, 138, 139, 140, 141, 142, 143, 144, 145, 146, 147, 148, 149, 150, 151, 152, 153, 154, 155, 156, 157, 158] (by exact rfl) (by decide +kernel)
set_option maxRecDepth 20000 in
theorem gX7_deal_X7_noteUsualGains : GoodIn wsX7_deal (wsV RX7 217 RX7 yX7_noteUsualGains wsX7_noteUsualGains) := goodIn_app (goodIn_of _ (by decide +kernel)) ggX7_deal_X7_noteUsualGains
set_option maxRecDepth 20000 in
theorem ggX7_deal_X7_bothGain : GoodIn wsX7_deal wsX7_bothGain := goodIn_r _ [125, 30, 3, 1, 29, 31, 32, 33, 34, 8, 35, 36, 37, 38, 39, 40, 41, 42, 43, 44, 45, 46, 47, 48, 49, 50, 51, 52, 53, 54, 55, 56, 57, 58, 59, 60, 61, 62, 63, 64, 65, 66, 67, 68, 69, 70, 71, 72, 73, 74, 75, 76, 77, 78, 79, 80, 81, 82, 83, 84, 85, 86, 87, 88, 89, 90, 91, 92, 93, 94, 95, 96, 97, 98, 99, 100, 101, 102, 103, 104, 105, 106, 107, 108, 109, 110, 111, 112, 113, 114, 115, 116, 117, 118, 119, 120, 121, 126, 127, 128, 129, 130, 131, 132, 133, 134, 135, 136, 137, 138, 139, 140, 141, 142, 143, 144, 145, 146, 147, 148, 149, 150, 151, 152, 153, 154, 155, 156, 157, 158] (by exact rfl) (by decide +kernel)
set_option maxRecDepth 20000 in
theorem gX7_deal_X7_bothGain : GoodIn wsX7_deal (wsV RX7 224 RX7 yX7_bothGain wsX7_bothGain) := goodIn_app (goodIn_of _ (by decide +kernel)) ggX7_deal_X7_bothGain
theorem dX7_deal_0 : decode cX7_deal 0 = .ok (.aload_n 0, 1) := by decide +kernel
theorem dX7_deal_1 : decode cX7_deal 1 = .ok (.iload_n 1, 1) := by decide +kernel
theorem dX7_deal_2 : decode cX7_deal 2 = .ok (.invokevirtual 221, 3) := by decide +kernel
theorem dX7_deal_5 : decode cX7_deal 5 = .ok (.istore_n 2, 1) := by decide +kernel
theorem dX7_deal_6 : decode cX7_deal 6 = .ok (.iload_n 2, 1) := by decide +kernel
theorem dX7_deal_7 : decode cX7_deal 7 = .ok (.ifCond .eq 9, 3) := by decide +kernel
theorem dX7_deal_10 : decode cX7_deal 10 = .ok (.aload_n 0, 1) := by decide +kernel
theorem dX7_deal_11 : decode cX7_deal 11 = .ok (.iload_n 2, 1) := by decide +kernel
theorem dX7_deal_12 : decode cX7_deal 12 = .ok (.invokevirtual 82, 3) := by decide +kernel
theorem dX7_deal_15 : decode cX7_deal 15 = .ok (.ireturn, 1) := by decide +kernel
theorem dX7_deal_16 : decode cX7_deal 16 = .ok (.aload_n 0, 1) := by decide +kernel
theorem dX7_deal_17 : decode cX7_deal 17 = .ok (.iload_n 1, 1) := by decide +kernel
theorem dX7_deal_18 : decode cX7_deal 18 = .ok (.invokevirtual 217, 3) := by decide +kernel
theorem dX7_deal_21 : decode cX7_deal 21 = .ok (.iconst 1, 1) := by decide +kernel
theorem dX7_deal_22 : decode cX7_deal 22 = .ok (.istore_n 3, 1) := by decide +kernel
theorem dX7_deal_23 : decode cX7_deal 23 = .ok (.iload_n 3, 1) := by decide +kernel
theorem dX7_deal_24 : decode cX7_deal 24 = .ok (.aload_n 0, 1) := by decide +kernel
theorem dX7_deal_25 : decode cX7_deal 25 = .ok (.getfield 12, 3) := by decide +kernel
theorem dX7_deal_28 : decode cX7_deal 28 = .ok (.getfield 68, 3) := by decide +kernel
theorem dX7_deal_31 : decode cX7_deal 31 = .ok (.if_icmp .ge 65, 3) := by decide +kernel
theorem dX7_deal_34 : decode cX7_deal 34 = .ok (.iload_n 3, 1) := by decide +kernel
theorem dX7_deal_35 : decode cX7_deal 35 = .ok (.iconst 1, 1) := by decide +kernel
theorem dX7_deal_36 : decode cX7_deal 36 = .ok (.iadd, 1) := by decide +kernel
theorem dX7_deal_37 : decode cX7_deal 37 = .ok (.istore 4, 2) := by decide +kernel
theorem dX7_deal_39 : decode cX7_deal 39 = .ok (.iload 4, 2) := by decide +kernel
theorem dX7_deal_41 : decode cX7_deal 41 = .ok (.aload_n 0, 1) := by decide +kernel
theorem dX7_deal_42 : decode cX7_deal 42 = .ok (.getfield 12, 3) := by decide +kernel
theorem dX7_deal_45 : decode cX7_deal 45 = .ok (.getfield 68, 3) := by decide +kernel
theorem dX7_deal_48 : decode cX7_deal 48 = .ok (.if_icmp .ge 42, 3) := by decide +kernel
theorem dX7_deal_51 : decode cX7_deal 51 = .ok (.aload_n 0, 1) := by decide +kernel
theorem dX7_deal_52 : decode cX7_deal 52 = .ok (.getfield 12, 3) := by decide +kernel
theorem dX7_deal_55 : decode cX7_deal 55 = .ok (.getfield 94, 3) := by decide +kernel
theorem dX7_deal_58 : decode cX7_deal 58 = .ok (.iload 4, 2) := by decide +kernel
theorem dX7_deal_60 : decode cX7_deal 60 = .ok (.iaload, 1) := by decide +kernel
theorem dX7_deal_61 : decode cX7_deal 61 = .ok (.iload_n 3, 1) := by decide +kernel
theorem dX7_deal_62 : decode cX7_deal 62 = .ok (.if_icmp .ge 22, 3) := by decide +kernel
theorem dX7_deal_65 : decode cX7_deal 65 = .ok (.aload_n 0, 1) := by decide +kernel
theorem dX7_deal_66 : decode cX7_deal 66 = .ok (.iload_n 3, 1) := by decide +kernel
theorem dX7_deal_67 : decode cX7_deal 67 = .ok (.iload 4, 2) := by decide +kernel
theorem dX7_deal_69 : decode cX7_deal 69 = .ok (.iload_n 1, 1) := by decide +kernel
theorem dX7_deal_70 : decode cX7_deal 70 = .ok (.invokevirtual 224, 3) := by decide +kernel
theorem dX7_deal_73 : decode cX7_deal 73 = .ok (.ifCond .eq 11, 3) := by decide +kernel
theorem dX7_deal_76 : decode cX7_deal 76 = .ok (.bipush 10, 2) := by decide +kernel
theorem dX7_deal_78 : decode cX7_deal 78 = .ok (.iload_n 3, 1) := by decide +kernel
theorem dX7_deal_79 : decode cX7_deal 79 = .ok (.imul, 1) := by decide +kernel
theorem dX7_deal_80 : decode cX7_deal 80 = .ok (.iload 4, 2) := by decide +kernel
theorem dX7_deal_82 : decode cX7_deal 82 = .ok (.iadd, 1) := by decide +kernel
theorem dX7_deal_83 : decode cX7_deal 83 = .ok (.ireturn, 1) := by decide +kernel
theorem dX7_deal_84 : decode cX7_deal 84 = .ok (.iinc 4 1, 3) := by decide +kernel
theorem dX7_deal_87 : decode cX7_deal 87 = .ok (.goto (-48), 3) := by decide +kernel
theorem dX7_deal_90 : decode cX7_deal 90 = .ok (.iinc 3 1, 3) := by decide +kernel
theorem dX7_deal_93 : decode cX7_deal 93 = .ok (.goto (-70), 3) := by decide +kernel
theorem dX7_deal_96 : decode cX7_deal 96 = .ok (.aload_n 0, 1) := by decide +kernel
theorem dX7_deal_97 : decode cX7_deal 97 = .ok (.ldc 161, 2) := by decide +kernel
theorem dX7_deal_99 : decode cX7_deal 99 = .ok (.invokevirtual 82, 3) := by decide +kernel
theorem dX7_deal_102 : decode cX7_deal 102 = .ok (.ireturn, 1) := by decide +kernel
set_option maxRecDepth 20000 in
theorem ggX7_chips_X7_sheetAt : GoodIn wsX7_chips wsX7_sheetAt := goodIn_r _ [11, 12, 13, 14, 10, 15, 121, 122, 123, 124, 125, 126, 127, 128, 129, 130, 131] (by exact rfl) (by decide +kernel)
set_option maxRecDepth 20000 in
theorem gX7_chips_X7_sheetAt : GoodIn wsX7_chips (wsV RX7 230 RX7 yX7_sheetAt wsX7_sheetAt) := goodIn_app (goodIn_of _ (by decide +kernel)) ggX7_chips_X7_sheetAt
set_option maxRecDepth 20000 in
theorem ggX7_chips_X7_tell : GoodIn wsX7_chips wsX7_tell := goodIn_r _ [19, 1, 20, 121, 122, 123, 124, 125, 126, 127, 128, 129, 130, 131] (by exact rfl) (by decide +kernel)
set_option maxRecDepth 20000 in
theorem gX7_chips_X7_tell : GoodIn wsX7_chips (wsV RX7 82 RX7 yX7_tell wsX7_tell) := goodIn_app (goodIn_of _ (by decide +kernel)) ggX7_chips_X7_tell
set_option maxRecDepth 20000 in
theorem ggX7_chips_X5_isMissing : GoodIn wsX7_chips wsX5_isMissing := goodIn_r _ [25, 26, 136, 137, 138] (by exact rfl) (by decide +kernel)
set_option maxRecDepth 20000 in
theorem gX7_chips_X5_isMissing : GoodIn wsX7_chips (wsV RX7 234 RX5 yX5_isMissing wsX5_isMissing) := goodIn_app (goodIn_of _ (by decide +kernel)) ggX7_chips_X5_isMissing
set_option maxRecDepth 20000 in
theorem ggX7_chips_X7_startTrial : GoodIn wsX7_chips wsX7_startTrial := goodIn_r _ [30, 4, 31, 32, 33, 34, 35, 36, 37, 38, 39, 40, 41, 42, 43, 44, 45, 46, 47, 48, 49, 50, 121, 122, 123, 124, 125, 126, 127, 128, 129, 130, 131, 139, 140, 141, 142, 143, 144, 145, 146, 147, 148] (by exact rfl) (by decide +kernel)
set_option maxRecDepth 20000 in
theorem gX7_chips_X7_startTrial : GoodIn wsX7_chips (wsV RX7 163 RX7 yX7_startTrial wsX7_startTrial) := goodIn_app (goodIn_of _ (by decide +kernel)) ggX7_chips_X7_startTrial
set_option maxRecDepth 20000 in
theorem ggX7_chips_X0_look : GoodIn wsX7_chips wsX0_look := goodIn_r _ [55, 56, 57, 58, 59, 60, 61, 62, 63, 64, 65, 66, 67, 68, 69, 70, 71, 72, 73, 74, 75, 76, 77, 78, 79, 80, 81, 82, 83, 84, 85, 86, 87, 88, 89, 90, 91, 92, 93, 94, 95, 96, 97, 98, 99, 100, 101, 102, 103, 104, 105, 106, 107, 108, 109, 110, 111, 112, 54, 113, 114, 115, 116, 117, 118, 119, 120, 132, 133, 134, 135, 139, 140, 141, 142, 143, 144, 145, 146, 147, 148, 149, 150, 151, 152, 153, 154, 155, 156, 157, 158, 159, 160, 136, 137, 138] (by exact rfl) (by decide +kernel)
set_option maxRecDepth 20000 in
theorem gX7_chips_X0_look : GoodIn wsX7_chips (wsV RX7 239 RX0 yX0_look wsX0_look) := goodIn_app (goodIn_of _ (by decide +kernel)) ggX7_chips_X0_look
theorem dX7_chips_0 : decode cX7_chips 0 = .ok (.aload_n 0, 1) := by decide +kernel
theorem dX7_chips_1 : decode cX7_chips 1 = .ok (.iload_n 1, 1) := by decide +kernel
theorem dX7_chips_2 : decode cX7_chips 2 = .ok (.invokevirtual 230, 3) := by decide +kernel
theorem dX7_chips_5 : decode cX7_chips 5 = .ok (.astore_n 2, 1) := by decide +kernel
theorem dX7_chips_6 : decode cX7_chips 6 = .ok (.aload_n 2, 1) := by decide +kernel
theorem dX7_chips_7 : decode cX7_chips 7 = .ok (.ifnonnull 10, 3) := by decide +kernel
theorem dX7_chips_10 : decode cX7_chips 10 = .ok (.aload_n 0, 1) := by decide +kernel
theorem dX7_chips_11 : decode cX7_chips 11 = .ok (.ldc 81, 2) := by decide +kernel
theorem dX7_chips_13 : decode cX7_chips 13 = .ok (.invokevirtual 82, 3) := by decide +kernel
theorem dX7_chips_16 : decode cX7_chips 16 = .ok (.ireturn, 1) := by decide +kernel
theorem dX7_chips_17 : decode cX7_chips 17 = .ok (.aload_n 2, 1) := by decide +kernel
theorem dX7_chips_18 : decode cX7_chips 18 = .ok (.invokevirtual 234, 3) := by decide +kernel
theorem dX7_chips_21 : decode cX7_chips 21 = .ok (.ifCond .eq 10, 3) := by decide +kernel
theorem dX7_chips_24 : decode cX7_chips 24 = .ok (.aload_n 0, 1) := by decide +kernel
theorem dX7_chips_25 : decode cX7_chips 25 = .ok (.ldc 238, 2) := by decide +kernel
theorem dX7_chips_27 : decode cX7_chips 27 = .ok (.invokevirtual 82, 3) := by decide +kernel
theorem dX7_chips_30 : decode cX7_chips 30 = .ok (.ireturn, 1) := by decide +kernel
theorem dX7_chips_31 : decode cX7_chips 31 = .ok (.aload_n 0, 1) := by decide +kernel
theorem dX7_chips_32 : decode cX7_chips 32 = .ok (.invokevirtual 163, 3) := by decide +kernel
theorem dX7_chips_35 : decode cX7_chips 35 = .ok (.aload_n 0, 1) := by decide +kernel
theorem dX7_chips_36 : decode cX7_chips 36 = .ok (.getfield 39, 3) := by decide +kernel
theorem dX7_chips_39 : decode cX7_chips 39 = .ok (.aload_n 0, 1) := by decide +kernel
theorem dX7_chips_40 : decode cX7_chips 40 = .ok (.getfield 19, 3) := by decide +kernel
theorem dX7_chips_43 : decode cX7_chips 43 = .ok (.aload_n 0, 1) := by decide +kernel
theorem dX7_chips_44 : decode cX7_chips 44 = .ok (.getfield 25, 3) := by decide +kernel
theorem dX7_chips_47 : decode cX7_chips 47 = .ok (.aload_n 2, 1) := by decide +kernel
theorem dX7_chips_48 : decode cX7_chips 48 = .ok (.invokevirtual 239, 3) := by decide +kernel
theorem dX7_chips_51 : decode cX7_chips 51 = .ok (.aload_n 0, 1) := by decide +kernel
theorem dX7_chips_52 : decode cX7_chips 52 = .ok (.getfield 39, 3) := by decide +kernel
theorem dX7_chips_55 : decode cX7_chips 55 = .ok (.getfield 243, 3) := by decide +kernel
theorem dX7_chips_58 : decode cX7_chips 58 = .ok (.ireturn, 1) := by decide +kernel
set_option maxRecDepth 20000 in
theorem ggX7_chipped_X7_sheetAt : GoodIn wsX7_chipped wsX7_sheetAt := goodIn_r _ [15, 16, 17, 18, 14, 19, 125, 126, 127, 128, 129, 130, 131, 132, 133, 134, 135] (by exact rfl) (by decide +kernel)
set_option maxRecDepth 20000 in
theorem gX7_chipped_X7_sheetAt : GoodIn wsX7_chipped (wsV RX7 230 RX7 yX7_sheetAt wsX7_sheetAt) := goodIn_app (goodIn_of _ (by decide +kernel)) ggX7_chipped_X7_sheetAt
set_option maxRecDepth 20000 in
theorem ggX7_chipped_X7_within : GoodIn wsX7_chipped wsX7_within := goodIn_r _ [19] (by exact rfl) (by decide +kernel)
set_option maxRecDepth 20000 in
theorem gX7_chipped_X7_within : GoodIn wsX7_chipped (va_wsS RX7 122 yX7_within wsX7_within) := goodIn_app (goodIn_of _ (by decide +kernel)) ggX7_chipped_X7_within
set_option maxRecDepth 20000 in
theorem ggX7_chipped_X7_tell : GoodIn wsX7_chipped wsX7_tell := goodIn_r _ [23, 1, 24, 125, 126, 127, 128, 129, 130, 131, 132, 133, 134, 135] (by exact rfl) (by decide +kernel)
set_option maxRecDepth 20000 in
theorem gX7_chipped_X7_tell : GoodIn wsX7_chipped (wsV RX7 82 RX7 yX7_tell wsX7_tell) := goodIn_app (goodIn_of _ (by decide +kernel)) ggX7_chipped_X7_tell
set_option maxRecDepth 20000 in
theorem ggX7_chipped_X5_isMissing : GoodIn wsX7_chipped wsX5_isMissing := goodIn_r _ [29, 30, 140, 141, 142] (by exact rfl) (by decide +kernel)
set_option maxRecDepth 20000 in
theorem gX7_chipped_X5_isMissing : GoodIn wsX7_chipped (wsV RX7 234 RX5 yX5_isMissing wsX5_isMissing) := goodIn_app (goodIn_of _ (by decide +kernel)) ggX7_chipped_X5_isMissing
set_option maxRecDepth 20000 in
theorem ggX7_chipped_X7_startTrial : GoodIn wsX7_chipped wsX7_startTrial := goodIn_r _ [34, 4, 35, 36, 37, 38, 39, 40, 41, 42, 43, 44, 45, 46, 47, 48, 49, 50, 51, 52, 53, 54, 125, 126, 127, 128, 129, 130, 131, 132, 133, 134, 135, 143, 144, 145, 146, 147, 148, 149, 150, 151, 152] (by exact rfl) (by decide +kernel)
set_option maxRecDepth 20000 in
theorem gX7_chipped_X7_startTrial : GoodIn wsX7_chipped (wsV RX7 163 RX7 yX7_startTrial wsX7_startTrial) := goodIn_app (goodIn_of _ (by decide +kernel)) ggX7_chipped_X7_startTrial
set_option maxRecDepth 20000 in
theorem ggX7_chipped_X0_look : GoodIn wsX7_chipped wsX0_look := goodIn_r _ [59, 60, 61, 62, 63, 64, 65, 66, 67, 68, 69, 70, 71, 72, 73, 74, 75, 76, 77, 78, 79, 80, 81, 82, 83, 84, 85, 86, 87, 88, 89, 90, 91, 92, 93, 94, 95, 96, 97, 98, 99, 100, 101, 102, 103, 104, 105, 106, 107, 108, 109, 110, 111, 112, 113, 114, 115, 116, 58, 117, 118, 119, 120, 121, 122, 123, 124, 136, 137, 138, 139, 143, 144, 145, 146, 147, 148, 149, 150, 151, 152, 153, 154, 155, 156, 157, 158, 159, 160, 161, 162, 163, 164, 140, 141, 142] (by exact rfl) (by decide +kernel)
set_option maxRecDepth 20000 in
theorem gX7_chipped_X0_look : GoodIn wsX7_chipped (wsV RX7 239 RX0 yX0_look wsX0_look) := goodIn_app (goodIn_of _ (by decide +kernel)) ggX7_chipped_X0_look
theorem dX7_chipped_0 : decode cX7_chipped 0 = .ok (.aload_n 0, 1) := by decide +kernel
theorem dX7_chipped_1 : decode cX7_chipped 1 = .ok (.iload_n 1, 1) := by decide +kernel
theorem dX7_chipped_2 : decode cX7_chipped 2 = .ok (.invokevirtual 230, 3) := by decide +kernel
theorem dX7_chipped_5 : decode cX7_chipped 5 = .ok (.astore_n 3, 1) := by decide +kernel
theorem dX7_chipped_6 : decode cX7_chipped 6 = .ok (.aload_n 3, 1) := by decide +kernel
theorem dX7_chipped_7 : decode cX7_chipped 7 = .ok (.ifnull 12, 3) := by decide +kernel
theorem dX7_chipped_10 : decode cX7_chipped 10 = .ok (.iload_n 2, 1) := by decide +kernel
theorem dX7_chipped_11 : decode cX7_chipped 11 = .ok (.iconst 0, 1) := by decide +kernel
theorem dX7_chipped_12 : decode cX7_chipped 12 = .ok (.iconst 2, 1) := by decide +kernel
theorem dX7_chipped_13 : decode cX7_chipped 13 = .ok (.invokestatic 122, 3) := by decide +kernel
theorem dX7_chipped_16 : decode cX7_chipped 16 = .ok (.ifCond .ne 10, 3) := by decide +kernel
theorem dX7_chipped_19 : decode cX7_chipped 19 = .ok (.aload_n 0, 1) := by decide +kernel
theorem dX7_chipped_20 : decode cX7_chipped 20 = .ok (.ldc 81, 2) := by decide +kernel
theorem dX7_chipped_22 : decode cX7_chipped 22 = .ok (.invokevirtual 82, 3) := by decide +kernel
theorem dX7_chipped_25 : decode cX7_chipped 25 = .ok (.ireturn, 1) := by decide +kernel
theorem dX7_chipped_26 : decode cX7_chipped 26 = .ok (.aload_n 3, 1) := by decide +kernel
theorem dX7_chipped_27 : decode cX7_chipped 27 = .ok (.invokevirtual 234, 3) := by decide +kernel
theorem dX7_chipped_30 : decode cX7_chipped 30 = .ok (.ifCond .eq 10, 3) := by decide +kernel
theorem dX7_chipped_33 : decode cX7_chipped 33 = .ok (.aload_n 0, 1) := by decide +kernel
theorem dX7_chipped_34 : decode cX7_chipped 34 = .ok (.ldc 238, 2) := by decide +kernel
theorem dX7_chipped_36 : decode cX7_chipped 36 = .ok (.invokevirtual 82, 3) := by decide +kernel
theorem dX7_chipped_39 : decode cX7_chipped 39 = .ok (.ireturn, 1) := by decide +kernel
theorem dX7_chipped_40 : decode cX7_chipped 40 = .ok (.aload_n 0, 1) := by decide +kernel
theorem dX7_chipped_41 : decode cX7_chipped 41 = .ok (.invokevirtual 163, 3) := by decide +kernel
theorem dX7_chipped_44 : decode cX7_chipped 44 = .ok (.aload_n 0, 1) := by decide +kernel
theorem dX7_chipped_45 : decode cX7_chipped 45 = .ok (.getfield 39, 3) := by decide +kernel
theorem dX7_chipped_48 : decode cX7_chipped 48 = .ok (.aload_n 0, 1) := by decide +kernel
theorem dX7_chipped_49 : decode cX7_chipped 49 = .ok (.getfield 19, 3) := by decide +kernel
theorem dX7_chipped_52 : decode cX7_chipped 52 = .ok (.aload_n 0, 1) := by decide +kernel
theorem dX7_chipped_53 : decode cX7_chipped 53 = .ok (.getfield 25, 3) := by decide +kernel
theorem dX7_chipped_56 : decode cX7_chipped 56 = .ok (.aload_n 3, 1) := by decide +kernel
theorem dX7_chipped_57 : decode cX7_chipped 57 = .ok (.invokevirtual 239, 3) := by decide +kernel
theorem dX7_chipped_60 : decode cX7_chipped 60 = .ok (.aload_n 0, 1) := by decide +kernel
theorem dX7_chipped_61 : decode cX7_chipped 61 = .ok (.getfield 39, 3) := by decide +kernel
theorem dX7_chipped_64 : decode cX7_chipped 64 = .ok (.getfield 243, 3) := by decide +kernel
theorem dX7_chipped_67 : decode cX7_chipped 67 = .ok (.ifCond .ne 10, 3) := by decide +kernel
theorem dX7_chipped_70 : decode cX7_chipped 70 = .ok (.aload_n 0, 1) := by decide +kernel
theorem dX7_chipped_71 : decode cX7_chipped 71 = .ok (.ldc 161, 2) := by decide +kernel
theorem dX7_chipped_73 : decode cX7_chipped 73 = .ok (.invokevirtual 82, 3) := by decide +kernel
theorem dX7_chipped_76 : decode cX7_chipped 76 = .ok (.ireturn, 1) := by decide +kernel
theorem dX7_chipped_77 : decode cX7_chipped 77 = .ok (.iload_n 2, 1) := by decide +kernel
theorem dX7_chipped_78 : decode cX7_chipped 78 = .ok (.lookupswitch 42 #[(0, 26), (1, 34)], 26) := by decide +kernel
theorem dX7_chipped_104 : decode cX7_chipped 104 = .ok (.aload_n 0, 1) := by decide +kernel
theorem dX7_chipped_105 : decode cX7_chipped 105 = .ok (.getfield 39, 3) := by decide +kernel
theorem dX7_chipped_108 : decode cX7_chipped 108 = .ok (.getfield 246, 3) := by decide +kernel
theorem dX7_chipped_111 : decode cX7_chipped 111 = .ok (.ireturn, 1) := by decide +kernel
theorem dX7_chipped_112 : decode cX7_chipped 112 = .ok (.aload_n 0, 1) := by decide +kernel
theorem dX7_chipped_113 : decode cX7_chipped 113 = .ok (.getfield 39, 3) := by decide +kernel
theorem dX7_chipped_116 : decode cX7_chipped 116 = .ok (.getfield 249, 3) := by decide +kernel
theorem dX7_chipped_119 : decode cX7_chipped 119 = .ok (.ireturn, 1) := by decide +kernel
theorem dX7_chipped_120 : decode cX7_chipped 120 = .ok (.aload_n 0, 1) := by decide +kernel
theorem dX7_chipped_121 : decode cX7_chipped 121 = .ok (.getfield 39, 3) := by decide +kernel
theorem dX7_chipped_124 : decode cX7_chipped 124 = .ok (.getfield 252, 3) := by decide +kernel
theorem dX7_chipped_127 : decode cX7_chipped 127 = .ok (.ireturn, 1) := by decide +kernel
set_option maxRecDepth 20000 in
theorem ggX7_weather_X7_within : GoodIn wsX7_weather wsX7_within := goodIn_r _ [10] (by exact rfl) (by decide +kernel)
set_option maxRecDepth 20000 in
theorem gX7_weather_X7_within : GoodIn wsX7_weather (va_wsS RX7 122 yX7_within wsX7_within) := goodIn_app (goodIn_of _ (by decide +kernel)) ggX7_weather_X7_within
set_option maxRecDepth 20000 in
theorem ggX7_weather_X7_tell : GoodIn wsX7_weather wsX7_tell := goodIn_r _ [14, 1, 15, 94, 95, 96, 97, 98, 99, 100, 101, 102, 103, 104] (by exact rfl) (by decide +kernel)
set_option maxRecDepth 20000 in
theorem gX7_weather_X7_tell : GoodIn wsX7_weather (wsV RX7 82 RX7 yX7_tell wsX7_tell) := goodIn_app (goodIn_of _ (by decide +kernel)) ggX7_weather_X7_tell
set_option maxRecDepth 20000 in
theorem ggX7_weather_X7_tooLate : GoodIn wsX7_weather wsX7_tooLate := goodIn_r _ [19, 3, 20, 94, 95, 96, 97, 98, 99, 100, 101, 102, 103, 104, 105, 106, 107, 108, 109, 110, 111, 112, 113, 114] (by exact rfl) (by decide +kernel)
set_option maxRecDepth 20000 in
theorem gX7_weather_X7_tooLate : GoodIn wsX7_weather (wsV RX7 175 RX7 yX7_tooLate wsX7_tooLate) := goodIn_app (goodIn_of _ (by decide +kernel)) ggX7_weather_X7_tooLate
set_option maxRecDepth 20000 in
theorem ggX7_weather_X2_draw : GoodIn wsX7_weather wsX2_draw := goodIn_r _ [25, 26, 27, 105, 106, 107, 108, 109, 110, 111, 112, 113, 114] (by exact rfl) (by decide +kernel)
set_option maxRecDepth 20000 in
theorem gX7_weather_X2_draw : GoodIn wsX7_weather (wsV RX7 255 RX2 yX2_draw wsX2_draw) := goodIn_app (goodIn_of _ (by decide +kernel)) ggX7_weather_X2_draw
set_option maxRecDepth 20000 in
theorem ggX7_weather_X1_pass : GoodIn wsX7_weather wsX1_pass := goodIn_r _ [32, 33, 34, 35, 36, 37, 38, 39, 40, 41, 31, 42, 43, 44, 45, 46, 47, 48, 49, 50, 51, 52, 53, 54, 55, 56, 57, 58, 59, 60, 61, 62, 63, 64, 65, 66, 67, 68, 69, 70, 71, 72, 73, 74, 75, 76, 77, 78, 79, 80, 81, 82, 83, 84, 85, 86, 24, 87, 88, 89, 90, 91, 92, 93, 115, 116, 117, 118, 119, 120, 121, 122, 123, 124, 125, 126, 105, 106, 107, 108, 109, 110, 111, 112, 113, 114] (by exact rfl) (by decide +kernel)
set_option maxRecDepth 20000 in
theorem gX7_weather_X1_pass : GoodIn wsX7_weather (wsV RX7 178 RX1 yX1_pass wsX1_pass) := goodIn_app (goodIn_of _ (by decide +kernel)) ggX7_weather_X1_pass
theorem dX7_weather_0 : decode cX7_weather 0 = .ok (.iload_n 1, 1) := by decide +kernel
theorem dX7_weather_1 : decode cX7_weather 1 = .ok (.iconst 1, 1) := by decide +kernel
theorem dX7_weather_2 : decode cX7_weather 2 = .ok (.bipush 12, 2) := by decide +kernel
theorem dX7_weather_4 : decode cX7_weather 4 = .ok (.invokestatic 122, 3) := by decide +kernel
theorem dX7_weather_7 : decode cX7_weather 7 = .ok (.ifCond .ne 10, 3) := by decide +kernel
theorem dX7_weather_10 : decode cX7_weather 10 = .ok (.aload_n 0, 1) := by decide +kernel
theorem dX7_weather_11 : decode cX7_weather 11 = .ok (.ldc 81, 2) := by decide +kernel
theorem dX7_weather_13 : decode cX7_weather 13 = .ok (.invokevirtual 82, 3) := by decide +kernel
theorem dX7_weather_16 : decode cX7_weather 16 = .ok (.ireturn, 1) := by decide +kernel
theorem dX7_weather_17 : decode cX7_weather 17 = .ok (.aload_n 0, 1) := by decide +kernel
theorem dX7_weather_18 : decode cX7_weather 18 = .ok (.iload_n 1, 1) := by decide +kernel
theorem dX7_weather_19 : decode cX7_weather 19 = .ok (.invokevirtual 175, 3) := by decide +kernel
theorem dX7_weather_22 : decode cX7_weather 22 = .ok (.ifCond .eq 10, 3) := by decide +kernel
theorem dX7_weather_25 : decode cX7_weather 25 = .ok (.aload_n 0, 1) := by decide +kernel
theorem dX7_weather_26 : decode cX7_weather 26 = .ok (.ldc 162, 2) := by decide +kernel
theorem dX7_weather_28 : decode cX7_weather 28 = .ok (.invokevirtual 82, 3) := by decide +kernel
theorem dX7_weather_31 : decode cX7_weather 31 = .ok (.ireturn, 1) := by decide +kernel
theorem dX7_weather_32 : decode cX7_weather 32 = .ok (.iconst 0, 1) := by decide +kernel
theorem dX7_weather_33 : decode cX7_weather 33 = .ok (.istore_n 2, 1) := by decide +kernel
theorem dX7_weather_34 : decode cX7_weather 34 = .ok (.iconst 0, 1) := by decide +kernel
theorem dX7_weather_35 : decode cX7_weather 35 = .ok (.istore_n 3, 1) := by decide +kernel
theorem dX7_weather_36 : decode cX7_weather 36 = .ok (.iload_n 3, 1) := by decide +kernel
theorem dX7_weather_37 : decode cX7_weather 37 = .ok (.iload_n 1, 1) := by decide +kernel
theorem dX7_weather_38 : decode cX7_weather 38 = .ok (.if_icmp .ge 49, 3) := by decide +kernel
theorem dX7_weather_41 : decode cX7_weather 41 = .ok (.aload_n 0, 1) := by decide +kernel
theorem dX7_weather_42 : decode cX7_weather 42 = .ok (.getfield 12, 3) := by decide +kernel
theorem dX7_weather_45 : decode cX7_weather 45 = .ok (.aload_n 0, 1) := by decide +kernel
theorem dX7_weather_46 : decode cX7_weather 46 = .ok (.getfield 12, 3) := by decide +kernel
theorem dX7_weather_49 : decode cX7_weather 49 = .ok (.invokevirtual 255, 3) := by decide +kernel
theorem dX7_weather_52 : decode cX7_weather 52 = .ok (.sipush 300, 3) := by decide +kernel
theorem dX7_weather_55 : decode cX7_weather 55 = .ok (.irem, 1) := by decide +kernel
theorem dX7_weather_56 : decode cX7_weather 56 = .ok (.putfield 126, 3) := by decide +kernel
theorem dX7_weather_59 : decode cX7_weather 59 = .ok (.aload_n 0, 1) := by decide +kernel
theorem dX7_weather_60 : decode cX7_weather 60 = .ok (.getfield 25, 3) := by decide +kernel
theorem dX7_weather_63 : decode cX7_weather 63 = .ok (.aload_n 0, 1) := by decide +kernel
theorem dX7_weather_64 : decode cX7_weather 64 = .ok (.getfield 12, 3) := by decide +kernel
theorem dX7_weather_67 : decode cX7_weather 67 = .ok (.iconst 1, 1) := by decide +kernel
theorem dX7_weather_68 : decode cX7_weather 68 = .ok (.invokevirtual 178, 3) := by decide +kernel
theorem dX7_weather_71 : decode cX7_weather 71 = .ok (.iload_n 2, 1) := by decide +kernel
theorem dX7_weather_72 : decode cX7_weather 72 = .ok (.aload_n 0, 1) := by decide +kernel
theorem dX7_weather_73 : decode cX7_weather 73 = .ok (.getfield 25, 3) := by decide +kernel
theorem dX7_weather_76 : decode cX7_weather 76 = .ok (.getfield 182, 3) := by decide +kernel
theorem dX7_weather_79 : decode cX7_weather 79 = .ok (.iadd, 1) := by decide +kernel
theorem dX7_weather_80 : decode cX7_weather 80 = .ok (.istore_n 2, 1) := by decide +kernel
theorem dX7_weather_81 : decode cX7_weather 81 = .ok (.iinc 3 1, 3) := by decide +kernel
theorem dX7_weather_84 : decode cX7_weather 84 = .ok (.goto (-48), 3) := by decide +kernel
theorem dX7_weather_87 : decode cX7_weather 87 = .ok (.iload_n 2, 1) := by decide +kernel
theorem dX7_weather_88 : decode cX7_weather 88 = .ok (.ireturn, 1) := by decide +kernel
set_option maxRecDepth 20000 in
theorem ggX7_wear_X7_within : GoodIn wsX7_wear wsX7_within := goodIn_r _ [11] (by exact rfl) (by decide +kernel)
set_option maxRecDepth 20000 in
theorem gX7_wear_X7_within : GoodIn wsX7_wear (va_wsS RX7 122 yX7_within wsX7_within) := goodIn_app (goodIn_of _ (by decide +kernel)) ggX7_wear_X7_within
set_option maxRecDepth 20000 in
theorem ggX7_wear_X7_tell : GoodIn wsX7_wear wsX7_tell := goodIn_r _ [15, 1, 16, 73, 74, 75, 76, 77, 78, 79, 80, 81, 82, 83] (by exact rfl) (by decide +kernel)
set_option maxRecDepth 20000 in
theorem gX7_wear_X7_tell : GoodIn wsX7_wear (wsV RX7 82 RX7 yX7_tell wsX7_tell) := goodIn_app (goodIn_of _ (by decide +kernel)) ggX7_wear_X7_tell
set_option maxRecDepth 20000 in
theorem ggX7_wear_X2_draw : GoodIn wsX7_wear wsX2_draw := goodIn_r _ [21, 22, 23, 84, 85, 86, 87, 88, 89, 90, 91, 92, 93] (by exact rfl) (by decide +kernel)
set_option maxRecDepth 20000 in
theorem gX7_wear_X2_draw : GoodIn wsX7_wear (wsV RX7 255 RX2 yX2_draw wsX2_draw) := goodIn_app (goodIn_of _ (by decide +kernel)) ggX7_wear_X2_draw
set_option maxRecDepth 20000 in
theorem ggX7_wear_X1_reckon : GoodIn wsX7_wear wsX1_reckon := goodIn_r _ [28, 29, 30, 31, 32, 33, 34, 35, 36, 37, 27, 38, 39, 40, 41, 42, 43, 44, 45, 46, 47, 48, 49, 50, 51, 52, 53, 54, 55, 56, 57, 58, 59, 60, 61, 62, 63, 64, 65, 66, 67, 68, 69, 70, 71, 72, 94, 95, 96, 97, 98, 99, 100, 101, 102, 103, 104, 105, 84, 85, 86, 87, 88, 89, 90, 91, 92, 93] (by exact rfl) (by decide +kernel)
set_option maxRecDepth 20000 in
theorem gX7_wear_X1_reckon : GoodIn wsX7_wear (wsV RX7 106 RX1 yX1_reckon wsX1_reckon) := goodIn_app (goodIn_of _ (by decide +kernel)) ggX7_wear_X1_reckon
theorem dX7_wear_0 : decode cX7_wear 0 = .ok (.iload_n 1, 1) := by decide +kernel
theorem dX7_wear_1 : decode cX7_wear 1 = .ok (.iconst 1, 1) := by decide +kernel
theorem dX7_wear_2 : decode cX7_wear 2 = .ok (.bipush 12, 2) := by decide +kernel
theorem dX7_wear_4 : decode cX7_wear 4 = .ok (.invokestatic 122, 3) := by decide +kernel
theorem dX7_wear_7 : decode cX7_wear 7 = .ok (.ifCond .ne 10, 3) := by decide +kernel
theorem dX7_wear_10 : decode cX7_wear 10 = .ok (.aload_n 0, 1) := by decide +kernel
theorem dX7_wear_11 : decode cX7_wear 11 = .ok (.ldc 81, 2) := by decide +kernel
theorem dX7_wear_13 : decode cX7_wear 13 = .ok (.invokevirtual 82, 3) := by decide +kernel
theorem dX7_wear_16 : decode cX7_wear 16 = .ok (.ireturn, 1) := by decide +kernel
theorem dX7_wear_17 : decode cX7_wear 17 = .ok (.aload_n 0, 1) := by decide +kernel
theorem dX7_wear_18 : decode cX7_wear 18 = .ok (.getfield 12, 3) := by decide +kernel
theorem dX7_wear_21 : decode cX7_wear 21 = .ok (.getfield 68, 3) := by decide +kernel
theorem dX7_wear_24 : decode cX7_wear 24 = .ok (.istore_n 2, 1) := by decide +kernel
theorem dX7_wear_25 : decode cX7_wear 25 = .ok (.iload_n 2, 1) := by decide +kernel
theorem dX7_wear_26 : decode cX7_wear 26 = .ok (.ifCond .gt 10, 3) := by decide +kernel
theorem dX7_wear_29 : decode cX7_wear 29 = .ok (.aload_n 0, 1) := by decide +kernel
theorem dX7_wear_30 : decode cX7_wear 30 = .ok (.ldc 162, 2) := by decide +kernel
theorem dX7_wear_32 : decode cX7_wear 32 = .ok (.invokevirtual 82, 3) := by decide +kernel
theorem dX7_wear_35 : decode cX7_wear 35 = .ok (.ireturn, 1) := by decide +kernel
theorem dX7_wear_36 : decode cX7_wear 36 = .ok (.iconst 0, 1) := by decide +kernel
theorem dX7_wear_37 : decode cX7_wear 37 = .ok (.istore_n 3, 1) := by decide +kernel
theorem dX7_wear_38 : decode cX7_wear 38 = .ok (.iload_n 3, 1) := by decide +kernel
theorem dX7_wear_39 : decode cX7_wear 39 = .ok (.iload_n 1, 1) := by decide +kernel
theorem dX7_wear_40 : decode cX7_wear 40 = .ok (.if_icmp .ge 40, 3) := by decide +kernel
theorem dX7_wear_43 : decode cX7_wear 43 = .ok (.aload_n 0, 1) := by decide +kernel
theorem dX7_wear_44 : decode cX7_wear 44 = .ok (.getfield 12, 3) := by decide +kernel
theorem dX7_wear_47 : decode cX7_wear 47 = .ok (.invokevirtual 255, 3) := by decide +kernel
theorem dX7_wear_50 : decode cX7_wear 50 = .ok (.iload_n 2, 1) := by decide +kernel
theorem dX7_wear_51 : decode cX7_wear 51 = .ok (.irem, 1) := by decide +kernel
theorem dX7_wear_52 : decode cX7_wear 52 = .ok (.istore 4, 2) := by decide +kernel
theorem dX7_wear_54 : decode cX7_wear 54 = .ok (.aload_n 0, 1) := by decide +kernel
theorem dX7_wear_55 : decode cX7_wear 55 = .ok (.getfield 12, 3) := by decide +kernel
theorem dX7_wear_58 : decode cX7_wear 58 = .ok (.getfield 91, 3) := by decide +kernel
theorem dX7_wear_61 : decode cX7_wear 61 = .ok (.iload 4, 2) := by decide +kernel
theorem dX7_wear_63 : decode cX7_wear 63 = .ok (.aload_n 0, 1) := by decide +kernel
theorem dX7_wear_64 : decode cX7_wear 64 = .ok (.getfield 12, 3) := by decide +kernel
theorem dX7_wear_67 : decode cX7_wear 67 = .ok (.invokevirtual 255, 3) := by decide +kernel
theorem dX7_wear_70 : decode cX7_wear 70 = .ok (.bipush 7, 2) := by decide +kernel
theorem dX7_wear_72 : decode cX7_wear 72 = .ok (.irem, 1) := by decide +kernel
theorem dX7_wear_73 : decode cX7_wear 73 = .ok (.iastore, 1) := by decide +kernel
theorem dX7_wear_74 : decode cX7_wear 74 = .ok (.iinc 3 1, 3) := by decide +kernel
theorem dX7_wear_77 : decode cX7_wear 77 = .ok (.goto (-39), 3) := by decide +kernel
theorem dX7_wear_80 : decode cX7_wear 80 = .ok (.aload_n 0, 1) := by decide +kernel
theorem dX7_wear_81 : decode cX7_wear 81 = .ok (.getfield 25, 3) := by decide +kernel
theorem dX7_wear_84 : decode cX7_wear 84 = .ok (.aload_n 0, 1) := by decide +kernel
theorem dX7_wear_85 : decode cX7_wear 85 = .ok (.getfield 12, 3) := by decide +kernel
theorem dX7_wear_88 : decode cX7_wear 88 = .ok (.invokevirtual 106, 3) := by decide +kernel
theorem dX7_wear_91 : decode cX7_wear 91 = .ok (.aload_n 0, 1) := by decide +kernel
theorem dX7_wear_92 : decode cX7_wear 92 = .ok (.getfield 25, 3) := by decide +kernel
theorem dX7_wear_95 : decode cX7_wear 95 = .ok (.getfield 198, 3) := by decide +kernel
theorem dX7_wear_98 : decode cX7_wear 98 = .ok (.ireturn, 1) := by decide +kernel
set_option maxRecDepth 20000 in
theorem ggX7_sheet_X7_sheetAt : GoodIn wsX7_sheet wsX7_sheetAt := goodIn_r _ [8, 9, 10, 11, 7, 12, 29, 30, 31, 32, 33, 34, 35, 36, 37, 38, 39] (by exact rfl) (by decide +kernel)
set_option maxRecDepth 20000 in
theorem gX7_sheet_X7_sheetAt : GoodIn wsX7_sheet (wsV RX7 230 RX7 yX7_sheetAt wsX7_sheetAt) := goodIn_app (goodIn_of _ (by decide +kernel)) ggX7_sheet_X7_sheetAt
set_option maxRecDepth 20000 in
theorem ggX7_sheet_X7_tell : GoodIn wsX7_sheet wsX7_tell := goodIn_r _ [16, 1, 17, 29, 30, 31, 32, 33, 34, 35, 36, 37, 38, 39] (by exact rfl) (by decide +kernel)
set_option maxRecDepth 20000 in
theorem gX7_sheet_X7_tell : GoodIn wsX7_sheet (wsV RX7 82 RX7 yX7_tell wsX7_tell) := goodIn_app (goodIn_of _ (by decide +kernel)) ggX7_sheet_X7_tell
set_option maxRecDepth 20000 in
theorem ggX7_sheet_X5_begin : GoodIn wsX7_sheet wsX5_begin := goodIn_r _ [22, 23, 24, 25, 26, 27, 28] (by exact rfl) (by decide +kernel)
set_option maxRecDepth 20000 in
theorem gX7_sheet_X5_begin : GoodIn wsX7_sheet (wsV RX7 283 RX5 yX5_begin wsX5_begin) := goodIn_app (goodIn_of _ (by decide +kernel)) ggX7_sheet_X5_begin
theorem dX7_sheet_0 : decode cX7_sheet 0 = .ok (.aload_n 0, 1) := by decide +kernel
theorem dX7_sheet_1 : decode cX7_sheet 1 = .ok (.iload_n 1, 1) := by decide +kernel
theorem dX7_sheet_2 : decode cX7_sheet 2 = .ok (.invokevirtual 230, 3) := by decide +kernel
theorem dX7_sheet_5 : decode cX7_sheet 5 = .ok (.astore 4, 2) := by decide +kernel
theorem dX7_sheet_7 : decode cX7_sheet 7 = .ok (.aload 4, 2) := by decide +kernel
theorem dX7_sheet_9 : decode cX7_sheet 9 = .ok (.ifnull 25, 3) := by decide +kernel
theorem dX7_sheet_12 : decode cX7_sheet 12 = .ok (.iload_n 2, 1) := by decide +kernel
theorem dX7_sheet_13 : decode cX7_sheet 13 = .ok (.ifCond .eq 28, 3) := by decide +kernel
theorem dX7_sheet_16 : decode cX7_sheet 16 = .ok (.iload_n 2, 1) := by decide +kernel
theorem dX7_sheet_17 : decode cX7_sheet 17 = .ok (.bipush 8, 2) := by decide +kernel
theorem dX7_sheet_19 : decode cX7_sheet 19 = .ok (.if_icmp .eq 22, 3) := by decide +kernel
theorem dX7_sheet_22 : decode cX7_sheet 22 = .ok (.iload_n 2, 1) := by decide +kernel
theorem dX7_sheet_23 : decode cX7_sheet 23 = .ok (.bipush 16, 2) := by decide +kernel
theorem dX7_sheet_25 : decode cX7_sheet 25 = .ok (.if_icmp .eq 16, 3) := by decide +kernel
theorem dX7_sheet_28 : decode cX7_sheet 28 = .ok (.iload_n 2, 1) := by decide +kernel
theorem dX7_sheet_29 : decode cX7_sheet 29 = .ok (.bipush 32, 2) := by decide +kernel
theorem dX7_sheet_31 : decode cX7_sheet 31 = .ok (.if_icmp .eq 10, 3) := by decide +kernel
theorem dX7_sheet_34 : decode cX7_sheet 34 = .ok (.aload_n 0, 1) := by decide +kernel
theorem dX7_sheet_35 : decode cX7_sheet 35 = .ok (.ldc 81, 2) := by decide +kernel
theorem dX7_sheet_37 : decode cX7_sheet 37 = .ok (.invokevirtual 82, 3) := by decide +kernel
theorem dX7_sheet_40 : decode cX7_sheet 40 = .ok (.ireturn, 1) := by decide +kernel
theorem dX7_sheet_41 : decode cX7_sheet 41 = .ok (.iload_n 3, 1) := by decide +kernel
theorem dX7_sheet_42 : decode cX7_sheet 42 = .ok (.ifCond .ge 10, 3) := by decide +kernel
theorem dX7_sheet_45 : decode cX7_sheet 45 = .ok (.aload_n 0, 1) := by decide +kernel
theorem dX7_sheet_46 : decode cX7_sheet 46 = .ok (.ldc 137, 2) := by decide +kernel
theorem dX7_sheet_48 : decode cX7_sheet 48 = .ok (.invokevirtual 82, 3) := by decide +kernel
theorem dX7_sheet_51 : decode cX7_sheet 51 = .ok (.ireturn, 1) := by decide +kernel
theorem dX7_sheet_52 : decode cX7_sheet 52 = .ok (.iload_n 3, 1) := by decide +kernel
theorem dX7_sheet_53 : decode cX7_sheet 53 = .ok (.bipush 40, 2) := by decide +kernel
theorem dX7_sheet_55 : decode cX7_sheet 55 = .ok (.if_icmp .le 10, 3) := by decide +kernel
theorem dX7_sheet_58 : decode cX7_sheet 58 = .ok (.aload_n 0, 1) := by decide +kernel
theorem dX7_sheet_59 : decode cX7_sheet 59 = .ok (.ldc 81, 2) := by decide +kernel
theorem dX7_sheet_61 : decode cX7_sheet 61 = .ok (.invokevirtual 82, 3) := by decide +kernel
theorem dX7_sheet_64 : decode cX7_sheet 64 = .ok (.ireturn, 1) := by decide +kernel
theorem dX7_sheet_65 : decode cX7_sheet 65 = .ok (.aload 4, 2) := by decide +kernel
theorem dX7_sheet_67 : decode cX7_sheet 67 = .ok (.iload_n 2, 1) := by decide +kernel
theorem dX7_sheet_68 : decode cX7_sheet 68 = .ok (.iload_n 2, 1) := by decide +kernel
theorem dX7_sheet_69 : decode cX7_sheet 69 = .ok (.ifCond .ne 7, 3) := by decide +kernel
theorem dX7_sheet_72 : decode cX7_sheet 72 = .ok (.iconst 0, 1) := by decide +kernel
theorem dX7_sheet_73 : decode cX7_sheet 73 = .ok (.goto 4, 3) := by decide +kernel
theorem dX7_sheet_76 : decode cX7_sheet 76 = .ok (.iload_n 3, 1) := by decide +kernel
theorem dX7_sheet_77 : decode cX7_sheet 77 = .ok (.invokevirtual 283, 3) := by decide +kernel
theorem dX7_sheet_80 : decode cX7_sheet 80 = .ok (.aload 4, 2) := by decide +kernel
theorem dX7_sheet_82 : decode cX7_sheet 82 = .ok (.getfield 287, 3) := by decide +kernel
theorem dX7_sheet_85 : decode cX7_sheet 85 = .ok (.ireturn, 1) := by decide +kernel
set_option maxRecDepth 20000 in
theorem ggX7_write_X7_sheetAt : GoodIn wsX7_write wsX7_sheetAt := goodIn_r _ [9, 10, 11, 12, 8, 13, 32, 33, 34, 35, 36, 37, 38, 39, 40, 41, 42] (by exact rfl) (by decide +kernel)
set_option maxRecDepth 20000 in
theorem gX7_write_X7_sheetAt : GoodIn wsX7_write (wsV RX7 230 RX7 yX7_sheetAt wsX7_sheetAt) := goodIn_app (goodIn_of _ (by decide +kernel)) ggX7_write_X7_sheetAt
set_option maxRecDepth 20000 in
theorem ggX7_write_X7_tell : GoodIn wsX7_write wsX7_tell := goodIn_r _ [17, 1, 18, 32, 33, 34, 35, 36, 37, 38, 39, 40, 41, 42] (by exact rfl) (by decide +kernel)
set_option maxRecDepth 20000 in
theorem gX7_write_X7_tell : GoodIn wsX7_write (wsV RX7 82 RX7 yX7_tell wsX7_tell) := goodIn_app (goodIn_of _ (by decide +kernel)) ggX7_write_X7_tell
set_option maxRecDepth 20000 in
theorem ggX7_write_X5_isMissing : GoodIn wsX7_write wsX5_isMissing := goodIn_r _ [23, 24, 29, 30, 31] (by exact rfl) (by decide +kernel)
set_option maxRecDepth 20000 in
theorem gX7_write_X5_isMissing : GoodIn wsX7_write (wsV RX7 234 RX5 yX5_isMissing wsX5_isMissing) := goodIn_app (goodIn_of _ (by decide +kernel)) ggX7_write_X5_isMissing
set_option maxRecDepth 20000 in
theorem ggX7_write_X5_lowestBits : GoodIn wsX7_write wsX5_lowestBits := goodIn_r _ [28, 24, 29, 30, 31] (by exact rfl) (by decide +kernel)
set_option maxRecDepth 20000 in
theorem gX7_write_X5_lowestBits : GoodIn wsX7_write (wsV RX7 291 RX5 yX5_lowestBits wsX5_lowestBits) := goodIn_app (goodIn_of _ (by decide +kernel)) ggX7_write_X5_lowestBits
theorem dX7_write_0 : decode cX7_write 0 = .ok (.aload_n 0, 1) := by decide +kernel
theorem dX7_write_1 : decode cX7_write 1 = .ok (.iload_n 1, 1) := by decide +kernel
theorem dX7_write_2 : decode cX7_write 2 = .ok (.invokevirtual 230, 3) := by decide +kernel
theorem dX7_write_5 : decode cX7_write 5 = .ok (.astore 4, 2) := by decide +kernel
theorem dX7_write_7 : decode cX7_write 7 = .ok (.aload 4, 2) := by decide +kernel
theorem dX7_write_9 : decode cX7_write 9 = .ok (.ifnonnull 10, 3) := by decide +kernel
theorem dX7_write_12 : decode cX7_write 12 = .ok (.aload_n 0, 1) := by decide +kernel
theorem dX7_write_13 : decode cX7_write 13 = .ok (.ldc 81, 2) := by decide +kernel
theorem dX7_write_15 : decode cX7_write 15 = .ok (.invokevirtual 82, 3) := by decide +kernel
theorem dX7_write_18 : decode cX7_write 18 = .ok (.ireturn, 1) := by decide +kernel
theorem dX7_write_19 : decode cX7_write 19 = .ok (.aload 4, 2) := by decide +kernel
theorem dX7_write_21 : decode cX7_write 21 = .ok (.invokevirtual 234, 3) := by decide +kernel
theorem dX7_write_24 : decode cX7_write 24 = .ok (.ifCond .eq 10, 3) := by decide +kernel
theorem dX7_write_27 : decode cX7_write 27 = .ok (.aload_n 0, 1) := by decide +kernel
theorem dX7_write_28 : decode cX7_write 28 = .ok (.ldc 238, 2) := by decide +kernel
theorem dX7_write_30 : decode cX7_write 30 = .ok (.invokevirtual 82, 3) := by decide +kernel
theorem dX7_write_33 : decode cX7_write 33 = .ok (.ireturn, 1) := by decide +kernel
theorem dX7_write_34 : decode cX7_write 34 = .ok (.iload_n 2, 1) := by decide +kernel
theorem dX7_write_35 : decode cX7_write 35 = .ok (.ifCond .lt 12, 3) := by decide +kernel
theorem dX7_write_38 : decode cX7_write 38 = .ok (.iload_n 2, 1) := by decide +kernel
theorem dX7_write_39 : decode cX7_write 39 = .ok (.aload 4, 2) := by decide +kernel
theorem dX7_write_41 : decode cX7_write 41 = .ok (.getfield 287, 3) := by decide +kernel
theorem dX7_write_44 : decode cX7_write 44 = .ok (.if_icmp .lt 10, 3) := by decide +kernel
theorem dX7_write_47 : decode cX7_write 47 = .ok (.aload_n 0, 1) := by decide +kernel
theorem dX7_write_48 : decode cX7_write 48 = .ok (.ldc 81, 2) := by decide +kernel
theorem dX7_write_50 : decode cX7_write 50 = .ok (.invokevirtual 82, 3) := by decide +kernel
theorem dX7_write_53 : decode cX7_write 53 = .ok (.ireturn, 1) := by decide +kernel
theorem dX7_write_54 : decode cX7_write 54 = .ok (.aload 4, 2) := by decide +kernel
theorem dX7_write_56 : decode cX7_write 56 = .ok (.getfield 288, 3) := by decide +kernel
theorem dX7_write_59 : decode cX7_write 59 = .ok (.iload_n 2, 1) := by decide +kernel
theorem dX7_write_60 : decode cX7_write 60 = .ok (.aload 4, 2) := by decide +kernel
theorem dX7_write_62 : decode cX7_write 62 = .ok (.iload_n 3, 1) := by decide +kernel
theorem dX7_write_63 : decode cX7_write 63 = .ok (.invokevirtual 291, 3) := by decide +kernel
theorem dX7_write_66 : decode cX7_write 66 = .ok (.iastore, 1) := by decide +kernel
theorem dX7_write_67 : decode cX7_write 67 = .ok (.iconst 1, 1) := by decide +kernel
theorem dX7_write_68 : decode cX7_write 68 = .ok (.ireturn, 1) := by decide +kernel
set_option maxRecDepth 20000 in
theorem ggX7_image_X2_become : GoodIn wsX7_image wsX2_become := goodIn_r _ [8, 9, 10, 11, 12, 13, 14, 15, 16, 17, 18, 19, 20, 21, 22, 34, 35, 36, 37, 38, 39, 40, 41, 42, 43] (by exact rfl) (by decide +kernel)
set_option maxRecDepth 20000 in
theorem gX7_image_X2_become : GoodIn wsX7_image (wsV RX7 272 RX2 yX2_become wsX2_become) := goodIn_app (goodIn_of _ (by decide +kernel)) ggX7_image_X2_become
theorem dX7_image_0 : decode cX7_image 0 = .ok (.aload_n 0, 1) := by decide +kernel
theorem dX7_image_1 : decode cX7_image 1 = .ok (.getfield 16, 3) := by decide +kernel
theorem dX7_image_4 : decode cX7_image 4 = .ok (.aload_n 0, 1) := by decide +kernel
theorem dX7_image_5 : decode cX7_image 5 = .ok (.getfield 12, 3) := by decide +kernel
theorem dX7_image_8 : decode cX7_image 8 = .ok (.invokevirtual 272, 3) := by decide +kernel
theorem dX7_image_11 : decode cX7_image 11 = .ok (.aload_n 0, 1) := by decide +kernel
theorem dX7_image_12 : decode cX7_image 12 = .ok (.iconst 1, 1) := by decide +kernel
theorem dX7_image_13 : decode cX7_image 13 = .ok (.putfield 64, 3) := by decide +kernel
theorem dX7_image_16 : decode cX7_image 16 = .ok (.iconst 1, 1) := by decide +kernel
theorem dX7_image_17 : decode cX7_image 17 = .ok (.ireturn, 1) := by decide +kernel
set_option maxRecDepth 20000 in
theorem ggX7_undo_X7_tell : GoodIn wsX7_undo wsX7_tell := goodIn_r _ [10, 11, 12, 32, 33, 34, 35, 36, 37, 38, 39, 40, 41, 42] (by exact rfl) (by decide +kernel)
set_option maxRecDepth 20000 in
theorem gX7_undo_X7_tell : GoodIn wsX7_undo (wsV RX7 82 RX7 yX7_tell wsX7_tell) := goodIn_app (goodIn_of _ (by decide +kernel)) ggX7_undo_X7_tell
set_option maxRecDepth 20000 in
theorem ggX7_undo_X2_become : GoodIn wsX7_undo wsX2_become := goodIn_r _ [17, 18, 19, 20, 21, 22, 23, 24, 25, 26, 27, 28, 29, 30, 31, 43, 44, 45, 46, 47, 48, 49, 50, 51, 52] (by exact rfl) (by decide +kernel)
set_option maxRecDepth 20000 in
theorem gX7_undo_X2_become : GoodIn wsX7_undo (wsV RX7 272 RX2 yX2_become wsX2_become) := goodIn_app (goodIn_of _ (by decide +kernel)) ggX7_undo_X2_become
theorem dX7_undo_0 : decode cX7_undo 0 = .ok (.aload_n 0, 1) := by decide +kernel
theorem dX7_undo_1 : decode cX7_undo 1 = .ok (.getfield 64, 3) := by decide +kernel
theorem dX7_undo_4 : decode cX7_undo 4 = .ok (.ifCond .ne 10, 3) := by decide +kernel
theorem dX7_undo_7 : decode cX7_undo 7 = .ok (.aload_n 0, 1) := by decide +kernel
theorem dX7_undo_8 : decode cX7_undo 8 = .ok (.ldc 161, 2) := by decide +kernel
theorem dX7_undo_10 : decode cX7_undo 10 = .ok (.invokevirtual 82, 3) := by decide +kernel
theorem dX7_undo_13 : decode cX7_undo 13 = .ok (.ireturn, 1) := by decide +kernel
theorem dX7_undo_14 : decode cX7_undo 14 = .ok (.aload_n 0, 1) := by decide +kernel
theorem dX7_undo_15 : decode cX7_undo 15 = .ok (.getfield 12, 3) := by decide +kernel
theorem dX7_undo_18 : decode cX7_undo 18 = .ok (.aload_n 0, 1) := by decide +kernel
theorem dX7_undo_19 : decode cX7_undo 19 = .ok (.getfield 16, 3) := by decide +kernel
theorem dX7_undo_22 : decode cX7_undo 22 = .ok (.invokevirtual 272, 3) := by decide +kernel
theorem dX7_undo_25 : decode cX7_undo 25 = .ok (.aload_n 0, 1) := by decide +kernel
theorem dX7_undo_26 : decode cX7_undo 26 = .ok (.getfield 12, 3) := by decide +kernel
theorem dX7_undo_29 : decode cX7_undo 29 = .ok (.getfield 185, 3) := by decide +kernel
theorem dX7_undo_32 : decode cX7_undo 32 = .ok (.ireturn, 1) := by decide +kernel
set_option maxRecDepth 20000 in
theorem ggX7_count_X2_sum : GoodIn wsX7_count wsX2_sum := goodIn_r _ [15, 16, 39, 40, 41, 42, 43, 44, 45, 46, 47, 48] (by exact rfl) (by decide +kernel)
set_option maxRecDepth 20000 in
theorem gX7_count_X2_sum : GoodIn wsX7_count (wsV RX7 188 RX2 yX2_sum wsX2_sum) := goodIn_app (goodIn_of _ (by decide +kernel)) ggX7_count_X2_sum
set_option maxRecDepth 20000 in
theorem ggX7_count_X2_spotsInUse : GoodIn wsX7_count wsX2_spotsInUse := goodIn_r _ [20, 21, 39, 40, 41, 42, 43, 44, 45, 46, 47, 48] (by exact rfl) (by decide +kernel)
set_option maxRecDepth 20000 in
theorem gX7_count_X2_spotsInUse : GoodIn wsX7_count (wsV RX7 306 RX2 yX2_spotsInUse wsX2_spotsInUse) := goodIn_app (goodIn_of _ (by decide +kernel)) ggX7_count_X2_spotsInUse
set_option maxRecDepth 20000 in
theorem ggX7_count_X7_tell : GoodIn wsX7_count wsX7_tell := goodIn_r _ [26, 10, 27, 28, 29, 30, 31, 32, 33, 34, 35, 36, 37, 38] (by exact rfl) (by decide +kernel)
set_option maxRecDepth 20000 in
theorem gX7_count_X7_tell : GoodIn wsX7_count (wsV RX7 82 RX7 yX7_tell wsX7_tell) := goodIn_app (goodIn_of _ (by decide +kernel)) ggX7_count_X7_tell
theorem dX7_count_0 : decode cX7_count 0 = .ok (.iload_n 1, 1) := by decide +kernel
theorem dX7_count_1 : decode cX7_count 1 = .ok (.tableswitch 125 0 7 #[47, 55, 63, 78, 93, 101, 109, 117], 47) := by decide +kernel
theorem dX7_count_48 : decode cX7_count 48 = .ok (.aload_n 0, 1) := by decide +kernel
theorem dX7_count_49 : decode cX7_count 49 = .ok (.getfield 12, 3) := by decide +kernel
theorem dX7_count_52 : decode cX7_count 52 = .ok (.getfield 185, 3) := by decide +kernel
theorem dX7_count_55 : decode cX7_count 55 = .ok (.ireturn, 1) := by decide +kernel
theorem dX7_count_56 : decode cX7_count 56 = .ok (.aload_n 0, 1) := by decide +kernel
theorem dX7_count_57 : decode cX7_count 57 = .ok (.getfield 12, 3) := by decide +kernel
theorem dX7_count_60 : decode cX7_count 60 = .ok (.getfield 68, 3) := by decide +kernel
theorem dX7_count_63 : decode cX7_count 63 = .ok (.ireturn, 1) := by decide +kernel
theorem dX7_count_64 : decode cX7_count 64 = .ok (.aload_n 0, 1) := by decide +kernel
theorem dX7_count_65 : decode cX7_count 65 = .ok (.getfield 12, 3) := by decide +kernel
theorem dX7_count_68 : decode cX7_count 68 = .ok (.aload_n 0, 1) := by decide +kernel
theorem dX7_count_69 : decode cX7_count 69 = .ok (.getfield 12, 3) := by decide +kernel
theorem dX7_count_72 : decode cX7_count 72 = .ok (.getfield 97, 3) := by decide +kernel
theorem dX7_count_75 : decode cX7_count 75 = .ok (.invokevirtual 188, 3) := by decide +kernel
theorem dX7_count_78 : decode cX7_count 78 = .ok (.ireturn, 1) := by decide +kernel
theorem dX7_count_79 : decode cX7_count 79 = .ok (.aload_n 0, 1) := by decide +kernel
theorem dX7_count_80 : decode cX7_count 80 = .ok (.getfield 12, 3) := by decide +kernel
theorem dX7_count_83 : decode cX7_count 83 = .ok (.aload_n 0, 1) := by decide +kernel
theorem dX7_count_84 : decode cX7_count 84 = .ok (.getfield 12, 3) := by decide +kernel
theorem dX7_count_87 : decode cX7_count 87 = .ok (.getfield 100, 3) := by decide +kernel
theorem dX7_count_90 : decode cX7_count 90 = .ok (.invokevirtual 188, 3) := by decide +kernel
theorem dX7_count_93 : decode cX7_count 93 = .ok (.ireturn, 1) := by decide +kernel
theorem dX7_count_94 : decode cX7_count 94 = .ok (.aload_n 0, 1) := by decide +kernel
theorem dX7_count_95 : decode cX7_count 95 = .ok (.getfield 12, 3) := by decide +kernel
theorem dX7_count_98 : decode cX7_count 98 = .ok (.getfield 126, 3) := by decide +kernel
theorem dX7_count_101 : decode cX7_count 101 = .ok (.ireturn, 1) := by decide +kernel
theorem dX7_count_102 : decode cX7_count 102 = .ok (.aload_n 0, 1) := by decide +kernel
theorem dX7_count_103 : decode cX7_count 103 = .ok (.getfield 46, 3) := by decide +kernel
theorem dX7_count_106 : decode cX7_count 106 = .ok (.getfield 262, 3) := by decide +kernel
theorem dX7_count_109 : decode cX7_count 109 = .ok (.ireturn, 1) := by decide +kernel
theorem dX7_count_110 : decode cX7_count 110 = .ok (.aload_n 0, 1) := by decide +kernel
theorem dX7_count_111 : decode cX7_count 111 = .ok (.getfield 12, 3) := by decide +kernel
theorem dX7_count_114 : decode cX7_count 114 = .ok (.getfield 259, 3) := by decide +kernel
theorem dX7_count_117 : decode cX7_count 117 = .ok (.ireturn, 1) := by decide +kernel
theorem dX7_count_118 : decode cX7_count 118 = .ok (.aload_n 0, 1) := by decide +kernel
theorem dX7_count_119 : decode cX7_count 119 = .ok (.getfield 12, 3) := by decide +kernel
theorem dX7_count_122 : decode cX7_count 122 = .ok (.invokevirtual 306, 3) := by decide +kernel
theorem dX7_count_125 : decode cX7_count 125 = .ok (.ireturn, 1) := by decide +kernel
theorem dX7_count_126 : decode cX7_count 126 = .ok (.aload_n 0, 1) := by decide +kernel
theorem dX7_count_127 : decode cX7_count 127 = .ok (.ldc 81, 2) := by decide +kernel
theorem dX7_count_129 : decode cX7_count 129 = .ok (.invokevirtual 82, 3) := by decide +kernel
theorem dX7_count_132 : decode cX7_count 132 = .ok (.ireturn, 1) := by decide +kernel
theorem dX7_tell_0 : decode cX7_tell 0 = .ok (.ldc 81, 2) := by decide +kernel
theorem dX7_tell_2 : decode cX7_tell 2 = .ok (.iload_n 1, 1) := by decide +kernel
theorem dX7_tell_3 : decode cX7_tell 3 = .ok (.isub, 1) := by decide +kernel
theorem dX7_tell_4 : decode cX7_tell 4 = .ok (.istore_n 2, 1) := by decide +kernel
theorem dX7_tell_5 : decode cX7_tell 5 = .ok (.iload_n 2, 1) := by decide +kernel
theorem dX7_tell_6 : decode cX7_tell 6 = .ok (.ifCond .lt 19, 3) := by decide +kernel
theorem dX7_tell_9 : decode cX7_tell 9 = .ok (.iload_n 2, 1) := by decide +kernel
theorem dX7_tell_10 : decode cX7_tell 10 = .ok (.bipush 7, 2) := by decide +kernel
theorem dX7_tell_12 : decode cX7_tell 12 = .ok (.if_icmp .ge 13, 3) := by decide +kernel
theorem dX7_tell_15 : decode cX7_tell 15 = .ok (.aload_n 0, 1) := by decide +kernel
theorem dX7_tell_16 : decode cX7_tell 16 = .ok (.getfield 61, 3) := by decide +kernel
theorem dX7_tell_19 : decode cX7_tell 19 = .ok (.iload_n 2, 1) := by decide +kernel
theorem dX7_tell_20 : decode cX7_tell 20 = .ok (.dup2, 1) := by decide +kernel
theorem dX7_tell_21 : decode cX7_tell 21 = .ok (.iaload, 1) := by decide +kernel
theorem dX7_tell_22 : decode cX7_tell 22 = .ok (.iconst 1, 1) := by decide +kernel
theorem dX7_tell_23 : decode cX7_tell 23 = .ok (.iadd, 1) := by decide +kernel
theorem dX7_tell_24 : decode cX7_tell 24 = .ok (.iastore, 1) := by decide +kernel
theorem dX7_tell_25 : decode cX7_tell 25 = .ok (.iload_n 1, 1) := by decide +kernel
theorem dX7_tell_26 : decode cX7_tell 26 = .ok (.ireturn, 1) := by decide +kernel
theorem dX7_within_0 : decode cX7_within 0 = .ok (.iload_n 0, 1) := by decide +kernel
theorem dX7_within_1 : decode cX7_within 1 = .ok (.iload_n 1, 1) := by decide +kernel
theorem dX7_within_2 : decode cX7_within 2 = .ok (.if_icmp .lt 12, 3) := by decide +kernel
theorem dX7_within_5 : decode cX7_within 5 = .ok (.iload_n 0, 1) := by decide +kernel
theorem dX7_within_6 : decode cX7_within 6 = .ok (.iload_n 2, 1) := by decide +kernel
theorem dX7_within_7 : decode cX7_within 7 = .ok (.if_icmp .gt 7, 3) := by decide +kernel
theorem dX7_within_10 : decode cX7_within 10 = .ok (.iconst 1, 1) := by decide +kernel
theorem dX7_within_11 : decode cX7_within 11 = .ok (.goto 4, 3) := by decide +kernel
theorem dX7_within_14 : decode cX7_within 14 = .ok (.iconst 0, 1) := by decide +kernel
theorem dX7_within_15 : decode cX7_within 15 = .ok (.ireturn, 1) := by decide +kernel
theorem dX7_isBasin_0 : decode cX7_isBasin 0 = .ok (.iload_n 1, 1) := by decide +kernel
theorem dX7_isBasin_1 : decode cX7_isBasin 1 = .ok (.ifCond .lt 18, 3) := by decide +kernel
theorem dX7_isBasin_4 : decode cX7_isBasin 4 = .ok (.iload_n 1, 1) := by decide +kernel
theorem dX7_isBasin_5 : decode cX7_isBasin 5 = .ok (.aload_n 0, 1) := by decide +kernel
theorem dX7_isBasin_6 : decode cX7_isBasin 6 = .ok (.getfield 12, 3) := by decide +kernel
theorem dX7_isBasin_9 : decode cX7_isBasin 9 = .ok (.getfield 68, 3) := by decide +kernel
theorem dX7_isBasin_12 : decode cX7_isBasin 12 = .ok (.if_icmp .ge 7, 3) := by decide +kernel
theorem dX7_isBasin_15 : decode cX7_isBasin 15 = .ok (.iconst 1, 1) := by decide +kernel
theorem dX7_isBasin_16 : decode cX7_isBasin 16 = .ok (.goto 4, 3) := by decide +kernel
theorem dX7_isBasin_19 : decode cX7_isBasin 19 = .ok (.iconst 0, 1) := by decide +kernel
theorem dX7_isBasin_20 : decode cX7_isBasin 20 = .ok (.ireturn, 1) := by decide +kernel
theorem dX7_tooLate_0 : decode cX7_tooLate 0 = .ok (.aload_n 0, 1) := by decide +kernel
theorem dX7_tooLate_1 : decode cX7_tooLate 1 = .ok (.getfield 12, 3) := by decide +kernel
theorem dX7_tooLate_4 : decode cX7_tooLate 4 = .ok (.getfield 185, 3) := by decide +kernel
theorem dX7_tooLate_7 : decode cX7_tooLate 7 = .ok (.iload_n 1, 1) := by decide +kernel
theorem dX7_tooLate_8 : decode cX7_tooLate 8 = .ok (.iadd, 1) := by decide +kernel
theorem dX7_tooLate_9 : decode cX7_tooLate 9 = .ok (.sipush 9999, 3) := by decide +kernel
theorem dX7_tooLate_12 : decode cX7_tooLate 12 = .ok (.if_icmp .le 7, 3) := by decide +kernel
theorem dX7_tooLate_15 : decode cX7_tooLate 15 = .ok (.iconst 1, 1) := by decide +kernel
theorem dX7_tooLate_16 : decode cX7_tooLate 16 = .ok (.goto 4, 3) := by decide +kernel
theorem dX7_tooLate_19 : decode cX7_tooLate 19 = .ok (.iconst 0, 1) := by decide +kernel
theorem dX7_tooLate_20 : decode cX7_tooLate 20 = .ok (.ireturn, 1) := by decide +kernel
set_option maxRecDepth 20000 in
theorem ggX7_sheetAt_X7_within : GoodIn wsX7_sheetAt wsX7_within := goodIn_r _ [5] (by exact rfl) (by decide +kernel)
set_option maxRecDepth 20000 in
theorem gX7_sheetAt_X7_within : GoodIn wsX7_sheetAt (va_wsS RX7 122 yX7_within wsX7_within) := goodIn_app (goodIn_of _ (by decide +kernel)) ggX7_sheetAt_X7_within
theorem dX7_sheetAt_0 : decode cX7_sheetAt 0 = .ok (.iload_n 1, 1) := by decide +kernel
theorem dX7_sheetAt_1 : decode cX7_sheetAt 1 = .ok (.iconst 0, 1) := by decide +kernel
theorem dX7_sheetAt_2 : decode cX7_sheetAt 2 = .ok (.iconst 3, 1) := by decide +kernel
theorem dX7_sheetAt_3 : decode cX7_sheetAt 3 = .ok (.invokestatic 122, 3) := by decide +kernel
theorem dX7_sheetAt_6 : decode cX7_sheetAt 6 = .ok (.ifCond .eq 12, 3) := by decide +kernel
theorem dX7_sheetAt_9 : decode cX7_sheetAt 9 = .ok (.aload_n 0, 1) := by decide +kernel
theorem dX7_sheetAt_10 : decode cX7_sheetAt 10 = .ok (.getfield 52, 3) := by decide +kernel
theorem dX7_sheetAt_13 : decode cX7_sheetAt 13 = .ok (.iload_n 1, 1) := by decide +kernel
theorem dX7_sheetAt_14 : decode cX7_sheetAt 14 = .ok (.aaload, 1) := by decide +kernel
theorem dX7_sheetAt_15 : decode cX7_sheetAt 15 = .ok (.goto 4, 3) := by decide +kernel
theorem dX7_sheetAt_18 : decode cX7_sheetAt 18 = .ok (.aconst_null, 1) := by decide +kernel
theorem dX7_sheetAt_19 : decode cX7_sheetAt 19 = .ok (.areturn, 1) := by decide +kernel
set_option maxRecDepth 20000 in
theorem ggX7_put_X7_within : GoodIn wsX7_put wsX7_within := goodIn_r _ [5] (by exact rfl) (by decide +kernel)
set_option maxRecDepth 20000 in
theorem gX7_put_X7_within : GoodIn wsX7_put (va_wsS RX7 122 yX7_within wsX7_within) := goodIn_app (goodIn_of _ (by decide +kernel)) ggX7_put_X7_within
set_option maxRecDepth 20000 in
theorem ggX7_put_X7_tell : GoodIn wsX7_put wsX7_tell := goodIn_r _ [9, 1, 10, 11, 12, 13, 14, 15, 16, 17, 18, 19, 20, 21] (by exact rfl) (by decide +kernel)
set_option maxRecDepth 20000 in
theorem gX7_put_X7_tell : GoodIn wsX7_put (wsV RX7 82 RX7 yX7_tell wsX7_tell) := goodIn_app (goodIn_of _ (by decide +kernel)) ggX7_put_X7_tell
theorem dX7_put_0 : decode cX7_put 0 = .ok (.iload_n 3, 1) := by decide +kernel
theorem dX7_put_1 : decode cX7_put 1 = .ok (.iload 4, 2) := by decide +kernel
theorem dX7_put_3 : decode cX7_put 3 = .ok (.iload 5, 2) := by decide +kernel
theorem dX7_put_5 : decode cX7_put 5 = .ok (.invokestatic 122, 3) := by decide +kernel
theorem dX7_put_8 : decode cX7_put 8 = .ok (.ifCond .ne 10, 3) := by decide +kernel
theorem dX7_put_11 : decode cX7_put 11 = .ok (.aload_n 0, 1) := by decide +kernel
theorem dX7_put_12 : decode cX7_put 12 = .ok (.ldc 81, 2) := by decide +kernel
theorem dX7_put_14 : decode cX7_put 14 = .ok (.invokevirtual 82, 3) := by decide +kernel
theorem dX7_put_17 : decode cX7_put 17 = .ok (.ireturn, 1) := by decide +kernel
theorem dX7_put_18 : decode cX7_put 18 = .ok (.aload_n 1, 1) := by decide +kernel
theorem dX7_put_19 : decode cX7_put 19 = .ok (.iload_n 2, 1) := by decide +kernel
theorem dX7_put_20 : decode cX7_put 20 = .ok (.iaload, 1) := by decide +kernel
theorem dX7_put_21 : decode cX7_put 21 = .ok (.istore 6, 2) := by decide +kernel
theorem dX7_put_23 : decode cX7_put 23 = .ok (.aload_n 1, 1) := by decide +kernel
theorem dX7_put_24 : decode cX7_put 24 = .ok (.iload_n 2, 1) := by decide +kernel
theorem dX7_put_25 : decode cX7_put 25 = .ok (.iload_n 3, 1) := by decide +kernel
theorem dX7_put_26 : decode cX7_put 26 = .ok (.iastore, 1) := by decide +kernel
theorem dX7_put_27 : decode cX7_put 27 = .ok (.iload 6, 2) := by decide +kernel
theorem dX7_put_29 : decode cX7_put 29 = .ok (.ireturn, 1) := by decide +kernel
set_option maxRecDepth 20000 in
theorem ggX7_startTrial_X2_become : GoodIn wsX7_startTrial wsX2_become := goodIn_r _ [7, 8, 9, 10, 11, 12, 13, 14, 15, 16, 17, 18, 19, 20, 21, 33, 34, 35, 36, 37, 38, 39, 40, 41, 42] (by exact rfl) (by decide +kernel)
set_option maxRecDepth 20000 in
theorem gX7_startTrial_X2_become : GoodIn wsX7_startTrial (wsV RX7 272 RX2 yX2_become wsX2_become) := goodIn_app (goodIn_of _ (by decide +kernel)) ggX7_startTrial_X2_become
theorem dX7_startTrial_0 : decode cX7_startTrial 0 = .ok (.aload_n 0, 1) := by decide +kernel
theorem dX7_startTrial_1 : decode cX7_startTrial 1 = .ok (.getfield 19, 3) := by decide +kernel
theorem dX7_startTrial_4 : decode cX7_startTrial 4 = .ok (.aload_n 0, 1) := by decide +kernel
theorem dX7_startTrial_5 : decode cX7_startTrial 5 = .ok (.getfield 12, 3) := by decide +kernel
theorem dX7_startTrial_8 : decode cX7_startTrial 8 = .ok (.invokevirtual 272, 3) := by decide +kernel
theorem dX7_startTrial_11 : decode cX7_startTrial 11 = .ok (.return_, 1) := by decide +kernel
theorem dX7_gain_0 : decode cX7_gain 0 = .ok (.aload_n 0, 1) := by decide +kernel
theorem dX7_gain_1 : decode cX7_gain 1 = .ok (.getfield 19, 3) := by decide +kernel
theorem dX7_gain_4 : decode cX7_gain 4 = .ok (.getfield 103, 3) := by decide +kernel
theorem dX7_gain_7 : decode cX7_gain 7 = .ok (.iload_n 1, 1) := by decide +kernel
theorem dX7_gain_8 : decode cX7_gain 8 = .ok (.iaload, 1) := by decide +kernel
theorem dX7_gain_9 : decode cX7_gain 9 = .ok (.aload_n 0, 1) := by decide +kernel
theorem dX7_gain_10 : decode cX7_gain 10 = .ok (.getfield 12, 3) := by decide +kernel
theorem dX7_gain_13 : decode cX7_gain 13 = .ok (.getfield 103, 3) := by decide +kernel
theorem dX7_gain_16 : decode cX7_gain 16 = .ok (.iload_n 1, 1) := by decide +kernel
theorem dX7_gain_17 : decode cX7_gain 17 = .ok (.iaload, 1) := by decide +kernel
theorem dX7_gain_18 : decode cX7_gain 18 = .ok (.isub, 1) := by decide +kernel
theorem dX7_gain_19 : decode cX7_gain 19 = .ok (.ireturn, 1) := by decide +kernel
set_option maxRecDepth 20000 in
theorem ggX7_noteUsualGains_X7_startTrial : GoodIn wsX7_noteUsualGains wsX7_startTrial := goodIn_r _ [10, 2, 3, 11, 12, 13, 14, 15, 16, 17, 18, 19, 20, 21, 22, 23, 24, 25, 26, 27, 28, 29, 97, 98, 99, 100, 101, 102, 103, 104, 105, 106, 107, 108, 109, 110, 111, 112, 113, 114, 115, 116, 117] (by exact rfl) (by decide +kernel)
set_option maxRecDepth 20000 in
theorem gX7_noteUsualGains_X7_startTrial : GoodIn wsX7_noteUsualGains (wsV RX7 163 RX7 yX7_startTrial wsX7_startTrial) := goodIn_app (goodIn_of _ (by decide +kernel)) ggX7_noteUsualGains_X7_startTrial
set_option maxRecDepth 20000 in
theorem ggX7_noteUsualGains_X1_pass : GoodIn wsX7_noteUsualGains wsX1_pass := goodIn_r _ [34, 35, 36, 37, 38, 39, 40, 41, 42, 43, 33, 44, 45, 46, 47, 48, 49, 50, 51, 52, 53, 54, 55, 56, 57, 58, 59, 60, 61, 62, 63, 64, 65, 66, 67, 68, 69, 70, 71, 72, 73, 74, 75, 76, 77, 78, 79, 80, 81, 82, 83, 84, 85, 86, 87, 88, 14, 89, 26, 24, 90, 23, 91, 28, 118, 119, 120, 121, 122, 123, 124, 125, 126, 127, 128, 129, 108, 109, 110, 111, 112, 113, 114, 115, 116, 117] (by exact rfl) (by decide +kernel)
set_option maxRecDepth 20000 in
theorem gX7_noteUsualGains_X1_pass : GoodIn wsX7_noteUsualGains (wsV RX7 178 RX1 yX1_pass wsX1_pass) := goodIn_app (goodIn_of _ (by decide +kernel)) ggX7_noteUsualGains_X1_pass
set_option maxRecDepth 20000 in
theorem ggX7_noteUsualGains_X7_gain : GoodIn wsX7_noteUsualGains wsX7_gain := goodIn_r _ [95, 2, 96, 3, 97, 98, 99, 100, 101, 102, 103, 104, 105, 106, 107, 108, 109, 110, 111, 112, 113, 114, 115, 116, 117] (by exact rfl) (by decide +kernel)
set_option maxRecDepth 20000 in
theorem gX7_noteUsualGains_X7_gain : GoodIn wsX7_noteUsualGains (wsV RX7 207 RX7 yX7_gain wsX7_gain) := goodIn_app (goodIn_of _ (by decide +kernel)) ggX7_noteUsualGains_X7_gain
theorem dX7_noteUsualGains_0 : decode cX7_noteUsualGains 0 = .ok (.aload_n 0, 1) := by decide +kernel
theorem dX7_noteUsualGains_1 : decode cX7_noteUsualGains 1 = .ok (.invokevirtual 163, 3) := by decide +kernel
theorem dX7_noteUsualGains_4 : decode cX7_noteUsualGains 4 = .ok (.aload_n 0, 1) := by decide +kernel
theorem dX7_noteUsualGains_5 : decode cX7_noteUsualGains 5 = .ok (.getfield 25, 3) := by decide +kernel
theorem dX7_noteUsualGains_8 : decode cX7_noteUsualGains 8 = .ok (.aload_n 0, 1) := by decide +kernel
theorem dX7_noteUsualGains_9 : decode cX7_noteUsualGains 9 = .ok (.getfield 19, 3) := by decide +kernel
theorem dX7_noteUsualGains_12 : decode cX7_noteUsualGains 12 = .ok (.iload_n 1, 1) := by decide +kernel
theorem dX7_noteUsualGains_13 : decode cX7_noteUsualGains 13 = .ok (.invokevirtual 178, 3) := by decide +kernel
theorem dX7_noteUsualGains_16 : decode cX7_noteUsualGains 16 = .ok (.iconst 0, 1) := by decide +kernel
theorem dX7_noteUsualGains_17 : decode cX7_noteUsualGains 17 = .ok (.istore_n 2, 1) := by decide +kernel
theorem dX7_noteUsualGains_18 : decode cX7_noteUsualGains 18 = .ok (.iload_n 2, 1) := by decide +kernel
theorem dX7_noteUsualGains_19 : decode cX7_noteUsualGains 19 = .ok (.aload_n 0, 1) := by decide +kernel
theorem dX7_noteUsualGains_20 : decode cX7_noteUsualGains 20 = .ok (.getfield 12, 3) := by decide +kernel
theorem dX7_noteUsualGains_23 : decode cX7_noteUsualGains 23 = .ok (.getfield 68, 3) := by decide +kernel
theorem dX7_noteUsualGains_26 : decode cX7_noteUsualGains 26 = .ok (.if_icmp .ge 20, 3) := by decide +kernel
theorem dX7_noteUsualGains_29 : decode cX7_noteUsualGains 29 = .ok (.aload_n 0, 1) := by decide +kernel
theorem dX7_noteUsualGains_30 : decode cX7_noteUsualGains 30 = .ok (.getfield 57, 3) := by decide +kernel
theorem dX7_noteUsualGains_33 : decode cX7_noteUsualGains 33 = .ok (.iload_n 2, 1) := by decide +kernel
theorem dX7_noteUsualGains_34 : decode cX7_noteUsualGains 34 = .ok (.aload_n 0, 1) := by decide +kernel
theorem dX7_noteUsualGains_35 : decode cX7_noteUsualGains 35 = .ok (.iload_n 2, 1) := by decide +kernel
theorem dX7_noteUsualGains_36 : decode cX7_noteUsualGains 36 = .ok (.invokevirtual 207, 3) := by decide +kernel
theorem dX7_noteUsualGains_39 : decode cX7_noteUsualGains 39 = .ok (.iastore, 1) := by decide +kernel
theorem dX7_noteUsualGains_40 : decode cX7_noteUsualGains 40 = .ok (.iinc 2 1, 3) := by decide +kernel
theorem dX7_noteUsualGains_43 : decode cX7_noteUsualGains 43 = .ok (.goto (-25), 3) := by decide +kernel
theorem dX7_noteUsualGains_46 : decode cX7_noteUsualGains 46 = .ok (.return_, 1) := by decide +kernel
set_option maxRecDepth 20000 in
theorem ggX7_passAsKind_X7_startTrial : GoodIn wsX7_passAsKind wsX7_startTrial := goodIn_r _ [8, 1, 9, 10, 11, 12, 13, 14, 15, 16, 17, 18, 19, 20, 21, 22, 23, 24, 25, 26, 27, 28, 91, 92, 93, 94, 95, 96, 97, 98, 99, 100, 101, 102, 103, 104, 105, 106, 107, 108, 109, 110, 111] (by exact rfl) (by decide +kernel)
set_option maxRecDepth 20000 in
theorem gX7_passAsKind_X7_startTrial : GoodIn wsX7_passAsKind (wsV RX7 163 RX7 yX7_startTrial wsX7_startTrial) := goodIn_app (goodIn_of _ (by decide +kernel)) ggX7_passAsKind_X7_startTrial
set_option maxRecDepth 20000 in
theorem ggX7_passAsKind_X1_pass : GoodIn wsX7_passAsKind wsX1_pass := goodIn_r _ [33, 34, 35, 36, 37, 38, 39, 40, 41, 42, 32, 43, 44, 45, 46, 47, 48, 49, 50, 51, 52, 53, 54, 55, 56, 57, 58, 59, 60, 61, 62, 63, 64, 65, 66, 67, 68, 69, 70, 71, 72, 73, 74, 75, 76, 77, 78, 79, 80, 81, 82, 83, 84, 85, 86, 87, 13, 88, 25, 23, 89, 22, 90, 27, 112, 113, 114, 115, 116, 117, 118, 119, 120, 121, 122, 123, 102, 103, 104, 105, 106, 107, 108, 109, 110, 111] (by exact rfl) (by decide +kernel)
set_option maxRecDepth 20000 in
theorem gX7_passAsKind_X1_pass : GoodIn wsX7_passAsKind (wsV RX7 178 RX1 yX1_pass wsX1_pass) := goodIn_app (goodIn_of _ (by decide +kernel)) ggX7_passAsKind_X1_pass
theorem dX7_passAsKind_0 : decode cX7_passAsKind 0 = .ok (.aload_n 0, 1) := by decide +kernel
theorem dX7_passAsKind_1 : decode cX7_passAsKind 1 = .ok (.invokevirtual 163, 3) := by decide +kernel
theorem dX7_passAsKind_4 : decode cX7_passAsKind 4 = .ok (.aload_n 0, 1) := by decide +kernel
theorem dX7_passAsKind_5 : decode cX7_passAsKind 5 = .ok (.getfield 19, 3) := by decide +kernel
theorem dX7_passAsKind_8 : decode cX7_passAsKind 8 = .ok (.getfield 91, 3) := by decide +kernel
theorem dX7_passAsKind_11 : decode cX7_passAsKind 11 = .ok (.iload_n 1, 1) := by decide +kernel
theorem dX7_passAsKind_12 : decode cX7_passAsKind 12 = .ok (.iload_n 2, 1) := by decide +kernel
theorem dX7_passAsKind_13 : decode cX7_passAsKind 13 = .ok (.iastore, 1) := by decide +kernel
theorem dX7_passAsKind_14 : decode cX7_passAsKind 14 = .ok (.aload_n 0, 1) := by decide +kernel
theorem dX7_passAsKind_15 : decode cX7_passAsKind 15 = .ok (.getfield 25, 3) := by decide +kernel
theorem dX7_passAsKind_18 : decode cX7_passAsKind 18 = .ok (.aload_n 0, 1) := by decide +kernel
theorem dX7_passAsKind_19 : decode cX7_passAsKind 19 = .ok (.getfield 19, 3) := by decide +kernel
theorem dX7_passAsKind_22 : decode cX7_passAsKind 22 = .ok (.iload_n 3, 1) := by decide +kernel
theorem dX7_passAsKind_23 : decode cX7_passAsKind 23 = .ok (.invokevirtual 178, 3) := by decide +kernel
theorem dX7_passAsKind_26 : decode cX7_passAsKind 26 = .ok (.return_, 1) := by decide +kernel
set_option maxRecDepth 20000 in
theorem ggX7_bothGain_X7_startTrial : GoodIn wsX7_bothGain wsX7_startTrial := goodIn_r _ [10, 1, 3, 11, 12, 13, 14, 15, 16, 17, 18, 19, 20, 21, 22, 23, 24, 25, 26, 27, 28, 29, 97, 98, 99, 100, 101, 102, 103, 104, 105, 106, 107, 108, 109, 110, 111, 112, 113, 114, 115, 116, 117] (by exact rfl) (by decide +kernel)
set_option maxRecDepth 20000 in
theorem gX7_bothGain_X7_startTrial : GoodIn wsX7_bothGain (wsV RX7 163 RX7 yX7_startTrial wsX7_startTrial) := goodIn_app (goodIn_of _ (by decide +kernel)) ggX7_bothGain_X7_startTrial
set_option maxRecDepth 20000 in
theorem ggX7_bothGain_X1_pass : GoodIn wsX7_bothGain wsX1_pass := goodIn_r _ [34, 35, 36, 37, 38, 39, 40, 41, 42, 43, 33, 44, 45, 46, 47, 48, 49, 50, 51, 52, 53, 54, 55, 56, 57, 58, 59, 60, 61, 62, 63, 64, 65, 66, 67, 68, 69, 70, 71, 72, 73, 74, 75, 76, 77, 78, 79, 80, 81, 82, 83, 84, 85, 86, 87, 88, 14, 89, 26, 24, 90, 23, 91, 28, 118, 119, 120, 121, 122, 123, 124, 125, 126, 127, 128, 129, 108, 109, 110, 111, 112, 113, 114, 115, 116, 117] (by exact rfl) (by decide +kernel)
set_option maxRecDepth 20000 in
theorem gX7_bothGain_X1_pass : GoodIn wsX7_bothGain (wsV RX7 178 RX1 yX1_pass wsX1_pass) := goodIn_app (goodIn_of _ (by decide +kernel)) ggX7_bothGain_X1_pass
set_option maxRecDepth 20000 in
theorem ggX7_bothGain_X7_gain : GoodIn wsX7_bothGain wsX7_gain := goodIn_r _ [95, 1, 96, 3, 97, 98, 99, 100, 101, 102, 103, 104, 105, 106, 107, 108, 109, 110, 111, 112, 113, 114, 115, 116, 117] (by exact rfl) (by decide +kernel)
set_option maxRecDepth 20000 in
theorem gX7_bothGain_X7_gain : GoodIn wsX7_bothGain (wsV RX7 207 RX7 yX7_gain wsX7_gain) := goodIn_app (goodIn_of _ (by decide +kernel)) ggX7_bothGain_X7_gain
theorem dX7_bothGain_0 : decode cX7_bothGain 0 = .ok (.aload_n 0, 1) := by decide +kernel
theorem dX7_bothGain_1 : decode cX7_bothGain 1 = .ok (.invokevirtual 163, 3) := by decide +kernel
theorem dX7_bothGain_4 : decode cX7_bothGain 4 = .ok (.aload_n 0, 1) := by decide +kernel
theorem dX7_bothGain_5 : decode cX7_bothGain 5 = .ok (.getfield 19, 3) := by decide +kernel
theorem dX7_bothGain_8 : decode cX7_bothGain 8 = .ok (.getfield 94, 3) := by decide +kernel
theorem dX7_bothGain_11 : decode cX7_bothGain 11 = .ok (.iload_n 1, 1) := by decide +kernel
theorem dX7_bothGain_12 : decode cX7_bothGain 12 = .ok (.aload_n 0, 1) := by decide +kernel
theorem dX7_bothGain_13 : decode cX7_bothGain 13 = .ok (.getfield 12, 3) := by decide +kernel
theorem dX7_bothGain_16 : decode cX7_bothGain 16 = .ok (.getfield 94, 3) := by decide +kernel
theorem dX7_bothGain_19 : decode cX7_bothGain 19 = .ok (.iload_n 2, 1) := by decide +kernel
theorem dX7_bothGain_20 : decode cX7_bothGain 20 = .ok (.iaload, 1) := by decide +kernel
theorem dX7_bothGain_21 : decode cX7_bothGain 21 = .ok (.iastore, 1) := by decide +kernel
theorem dX7_bothGain_22 : decode cX7_bothGain 22 = .ok (.aload_n 0, 1) := by decide +kernel
theorem dX7_bothGain_23 : decode cX7_bothGain 23 = .ok (.getfield 19, 3) := by decide +kernel
theorem dX7_bothGain_26 : decode cX7_bothGain 26 = .ok (.getfield 94, 3) := by decide +kernel
theorem dX7_bothGain_29 : decode cX7_bothGain 29 = .ok (.iload_n 2, 1) := by decide +kernel
theorem dX7_bothGain_30 : decode cX7_bothGain 30 = .ok (.aload_n 0, 1) := by decide +kernel
theorem dX7_bothGain_31 : decode cX7_bothGain 31 = .ok (.getfield 12, 3) := by decide +kernel
theorem dX7_bothGain_34 : decode cX7_bothGain 34 = .ok (.getfield 94, 3) := by decide +kernel
theorem dX7_bothGain_37 : decode cX7_bothGain 37 = .ok (.iload_n 1, 1) := by decide +kernel
theorem dX7_bothGain_38 : decode cX7_bothGain 38 = .ok (.iaload, 1) := by decide +kernel
theorem dX7_bothGain_39 : decode cX7_bothGain 39 = .ok (.iastore, 1) := by decide +kernel
theorem dX7_bothGain_40 : decode cX7_bothGain 40 = .ok (.aload_n 0, 1) := by decide +kernel
theorem dX7_bothGain_41 : decode cX7_bothGain 41 = .ok (.getfield 25, 3) := by decide +kernel
theorem dX7_bothGain_44 : decode cX7_bothGain 44 = .ok (.aload_n 0, 1) := by decide +kernel
theorem dX7_bothGain_45 : decode cX7_bothGain 45 = .ok (.getfield 19, 3) := by decide +kernel
theorem dX7_bothGain_48 : decode cX7_bothGain 48 = .ok (.iload_n 3, 1) := by decide +kernel
theorem dX7_bothGain_49 : decode cX7_bothGain 49 = .ok (.invokevirtual 178, 3) := by decide +kernel
theorem dX7_bothGain_52 : decode cX7_bothGain 52 = .ok (.aload_n 0, 1) := by decide +kernel
theorem dX7_bothGain_53 : decode cX7_bothGain 53 = .ok (.iload_n 1, 1) := by decide +kernel
theorem dX7_bothGain_54 : decode cX7_bothGain 54 = .ok (.invokevirtual 207, 3) := by decide +kernel
theorem dX7_bothGain_57 : decode cX7_bothGain 57 = .ok (.aload_n 0, 1) := by decide +kernel
theorem dX7_bothGain_58 : decode cX7_bothGain 58 = .ok (.getfield 57, 3) := by decide +kernel
theorem dX7_bothGain_61 : decode cX7_bothGain 61 = .ok (.iload_n 1, 1) := by decide +kernel
theorem dX7_bothGain_62 : decode cX7_bothGain 62 = .ok (.iaload, 1) := by decide +kernel
theorem dX7_bothGain_63 : decode cX7_bothGain 63 = .ok (.if_icmp .le 21, 3) := by decide +kernel
theorem dX7_bothGain_66 : decode cX7_bothGain 66 = .ok (.aload_n 0, 1) := by decide +kernel
theorem dX7_bothGain_67 : decode cX7_bothGain 67 = .ok (.iload_n 2, 1) := by decide +kernel
theorem dX7_bothGain_68 : decode cX7_bothGain 68 = .ok (.invokevirtual 207, 3) := by decide +kernel
theorem dX7_bothGain_71 : decode cX7_bothGain 71 = .ok (.aload_n 0, 1) := by decide +kernel
theorem dX7_bothGain_72 : decode cX7_bothGain 72 = .ok (.getfield 57, 3) := by decide +kernel
theorem dX7_bothGain_75 : decode cX7_bothGain 75 = .ok (.iload_n 2, 1) := by decide +kernel
theorem dX7_bothGain_76 : decode cX7_bothGain 76 = .ok (.iaload, 1) := by decide +kernel
theorem dX7_bothGain_77 : decode cX7_bothGain 77 = .ok (.if_icmp .le 7, 3) := by decide +kernel
theorem dX7_bothGain_80 : decode cX7_bothGain 80 = .ok (.iconst 1, 1) := by decide +kernel
theorem dX7_bothGain_81 : decode cX7_bothGain 81 = .ok (.goto 4, 3) := by decide +kernel
theorem dX7_bothGain_84 : decode cX7_bothGain 84 = .ok (.iconst 0, 1) := by decide +kernel
theorem dX7_bothGain_85 : decode cX7_bothGain 85 = .ok (.ireturn, 1) := by decide +kernel
set_option maxRecDepth 20000 in
theorem ggX7_findingOfWeighedHours_X7_within : GoodIn wsX7_findingOfWeighedHours wsX7_within := goodIn_r _ [6] (by exact rfl) (by decide +kernel)
set_option maxRecDepth 20000 in
theorem gX7_findingOfWeighedHours_X7_within : GoodIn wsX7_findingOfWeighedHours (va_wsS RX7 122 yX7_within wsX7_within) := goodIn_app (goodIn_of _ (by decide +kernel)) ggX7_findingOfWeighedHours_X7_within
set_option maxRecDepth 20000 in
theorem ggX7_findingOfWeighedHours_X7_tooLate : GoodIn wsX7_findingOfWeighedHours wsX7_tooLate := goodIn_r _ [10, 11, 12, 13, 14, 15, 16, 17, 18, 19, 20, 21, 22, 23, 24, 25, 26, 27, 28, 29, 30, 31, 32, 33] (by exact rfl) (by decide +kernel)
set_option maxRecDepth 20000 in
theorem gX7_findingOfWeighedHours_X7_tooLate : GoodIn wsX7_findingOfWeighedHours (wsV RX7 175 RX7 yX7_tooLate wsX7_tooLate) := goodIn_app (goodIn_of _ (by decide +kernel)) ggX7_findingOfWeighedHours_X7_tooLate
theorem dX7_findingOfWeighedHours_0 : decode cX7_findingOfWeighedHours 0 = .ok (.iload_n 1, 1) := by decide +kernel
theorem dX7_findingOfWeighedHours_1 : decode cX7_findingOfWeighedHours 1 = .ok (.iconst 1, 1) := by decide +kernel
theorem dX7_findingOfWeighedHours_2 : decode cX7_findingOfWeighedHours 2 = .ok (.bipush 60, 2) := by decide +kernel
theorem dX7_findingOfWeighedHours_4 : decode cX7_findingOfWeighedHours 4 = .ok (.invokestatic 122, 3) := by decide +kernel
theorem dX7_findingOfWeighedHours_7 : decode cX7_findingOfWeighedHours 7 = .ok (.ifCond .ne 6, 3) := by decide +kernel
theorem dX7_findingOfWeighedHours_10 : decode cX7_findingOfWeighedHours 10 = .ok (.ldc 81, 2) := by decide +kernel
theorem dX7_findingOfWeighedHours_12 : decode cX7_findingOfWeighedHours 12 = .ok (.ireturn, 1) := by decide +kernel
theorem dX7_findingOfWeighedHours_13 : decode cX7_findingOfWeighedHours 13 = .ok (.aload_n 0, 1) := by decide +kernel
theorem dX7_findingOfWeighedHours_14 : decode cX7_findingOfWeighedHours 14 = .ok (.iload_n 1, 1) := by decide +kernel
theorem dX7_findingOfWeighedHours_15 : decode cX7_findingOfWeighedHours 15 = .ok (.invokevirtual 175, 3) := by decide +kernel
theorem dX7_findingOfWeighedHours_18 : decode cX7_findingOfWeighedHours 18 = .ok (.ifCond .eq 8, 3) := by decide +kernel
theorem dX7_findingOfWeighedHours_21 : decode cX7_findingOfWeighedHours 21 = .ok (.ldc 162, 2) := by decide +kernel
theorem dX7_findingOfWeighedHours_23 : decode cX7_findingOfWeighedHours 23 = .ok (.goto 4, 3) := by decide +kernel
theorem dX7_findingOfWeighedHours_26 : decode cX7_findingOfWeighedHours 26 = .ok (.iconst 0, 1) := by decide +kernel
theorem dX7_findingOfWeighedHours_27 : decode cX7_findingOfWeighedHours 27 = .ok (.ireturn, 1) := by decide +kernel
set_option maxRecDepth 20000 in
theorem ggX7_findingOfWeighing_X7_isBasin : GoodIn wsX7_findingOfWeighing wsX7_isBasin := goodIn_r _ [6, 7, 8, 22, 23, 24, 25, 26, 27, 28, 29, 30, 31, 32, 33, 34, 35, 36, 37, 38, 39, 40, 41, 42] (by exact rfl) (by decide +kernel)
set_option maxRecDepth 20000 in
theorem gX7_findingOfWeighing_X7_isBasin : GoodIn wsX7_findingOfWeighing (wsV RX7 72 RX7 yX7_isBasin wsX7_isBasin) := goodIn_app (goodIn_of _ (by decide +kernel)) ggX7_findingOfWeighing_X7_isBasin
set_option maxRecDepth 20000 in
theorem ggX7_findingOfWeighing_X7_findingOfWeighedHours : GoodIn wsX7_findingOfWeighing wsX7_findingOfWeighedHours := goodIn_r _ [12, 1, 13, 14, 15, 5, 16, 17, 18, 19, 20, 7, 21, 22, 23, 24, 25, 26, 27, 28, 29, 30, 31, 32, 33, 34, 35, 36, 37, 38, 39, 40, 41, 42] (by exact rfl) (by decide +kernel)
set_option maxRecDepth 20000 in
theorem gX7_findingOfWeighing_X7_findingOfWeighedHours : GoodIn wsX7_findingOfWeighing (wsV RX7 221 RX7 yX7_findingOfWeighedHours wsX7_findingOfWeighedHours) := goodIn_app (goodIn_of _ (by decide +kernel)) ggX7_findingOfWeighing_X7_findingOfWeighedHours
theorem dX7_findingOfWeighing_0 : decode cX7_findingOfWeighing 0 = .ok (.aload_n 0, 1) := by decide +kernel
theorem dX7_findingOfWeighing_1 : decode cX7_findingOfWeighing 1 = .ok (.iload_n 1, 1) := by decide +kernel
theorem dX7_findingOfWeighing_2 : decode cX7_findingOfWeighing 2 = .ok (.invokevirtual 72, 3) := by decide +kernel
theorem dX7_findingOfWeighing_5 : decode cX7_findingOfWeighing 5 = .ok (.ifCond .eq 11, 3) := by decide +kernel
theorem dX7_findingOfWeighing_8 : decode cX7_findingOfWeighing 8 = .ok (.aload_n 0, 1) := by decide +kernel
theorem dX7_findingOfWeighing_9 : decode cX7_findingOfWeighing 9 = .ok (.iload_n 2, 1) := by decide +kernel
theorem dX7_findingOfWeighing_10 : decode cX7_findingOfWeighing 10 = .ok (.invokevirtual 221, 3) := by decide +kernel
theorem dX7_findingOfWeighing_13 : decode cX7_findingOfWeighing 13 = .ok (.goto 5, 3) := by decide +kernel
theorem dX7_findingOfWeighing_16 : decode cX7_findingOfWeighing 16 = .ok (.ldc 81, 2) := by decide +kernel
theorem dX7_findingOfWeighing_18 : decode cX7_findingOfWeighing 18 = .ok (.ireturn, 1) := by decide +kernel
