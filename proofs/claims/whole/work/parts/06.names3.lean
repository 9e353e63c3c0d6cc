theorem dX12_counts_60 : decode cX12_counts 60 = .ok (.goto (-29), 3) := by decide +kernel
theorem dX12_counts_63 : decode cX12_counts 63 = .ok (.aload_n 0, 1) := by decide +kernel
theorem dX12_counts_64 : decode cX12_counts 64 = .ok (.ldc 162, 2) := by decide +kernel
theorem dX12_counts_66 : decode cX12_counts 66 = .ok (.invokevirtual 164, 3) := by decide +kernel
theorem dX12_counts_69 : decode cX12_counts 69 = .ok (.ifCond .ne 8, 3) := by decide +kernel
theorem dX12_counts_72 : decode cX12_counts 72 = .ok (.aload_n 0, 1) := by decide +kernel
theorem dX12_counts_73 : decode cX12_counts 73 = .ok (.iconst 1, 1) := by decide +kernel
theorem dX12_counts_74 : decode cX12_counts 74 = .ok (.invokevirtual 155, 3) := by decide +kernel
theorem dX12_counts_77 : decode cX12_counts 77 = .ok (.aload_n 0, 1) := by decide +kernel
theorem dX12_counts_78 : decode cX12_counts 78 = .ok (.ldc 162, 2) := by decide +kernel
theorem dX12_counts_80 : decode cX12_counts 80 = .ok (.invokevirtual 164, 3) := by decide +kernel
theorem dX12_counts_83 : decode cX12_counts 83 = .ok (.ifCond .eq 11, 3) := by decide +kernel
theorem dX12_counts_86 : decode cX12_counts 86 = .ok (.aload_n 0, 1) := by decide +kernel
theorem dX12_counts_87 : decode cX12_counts 87 = .ok (.iload_n 1, 1) := by decide +kernel
theorem dX12_counts_88 : decode cX12_counts 88 = .ok (.invokevirtual 185, 3) := by decide +kernel
theorem dX12_counts_91 : decode cX12_counts 91 = .ok (.goto (-14), 3) := by decide +kernel
theorem dX12_counts_94 : decode cX12_counts 94 = .ok (.return_, 1) := by decide +kernel
set_option maxRecDepth 20000 in
theorem ggX12_window_X12_figure : GoodIn wsX12_window wsX12_figure := goodIn_r _ [7, 2, 8, 9, 10, 11, 6, 12, 13, 14, 15, 16, 17, 18, 19, 20, 21, 22, 23, 24, 25, 26, 27, 28, 29, 30, 31, 32, 33, 34, 35, 36, 37, 38, 39, 40, 41, 42, 105, 106, 107, 108, 109, 110, 111, 112, 113, 114, 115, 116, 117, 118, 119, 120, 121, 122, 123, 124, 125, 126, 127, 128, 129, 130, 131, 132, 133, 134, 135, 136] (by decide +kernel) (by decide +kernel)
set_option maxRecDepth 20000 in
theorem gX12_window_X12_figure : GoodIn wsX12_window (wsV RX12 171 RX12 yX12_figure wsX12_figure) := goodIn_app (goodIn_of _ (by decide +kernel)) ggX12_window_X12_figure
set_option maxRecDepth 20000 in
theorem ggX12_window_X12_member : GoodIn wsX12_window wsX12_member := goodIn_r _ [46, 1, 47, 48, 49, 6, 50, 2, 27, 18, 51, 28, 52, 53, 54, 55, 9, 10, 11, 12, 13, 56, 57, 58, 59, 60, 61, 62, 63, 64, 65, 66, 67, 31, 32, 33, 34, 35, 36, 68, 69, 70, 71, 72, 73, 74, 75, 76, 77, 78, 79, 80, 81, 82, 83, 84, 85, 86, 87, 88, 89, 90, 91, 92, 93, 94, 95, 96, 97, 98, 99, 100, 101, 102, 103, 104, 14, 15, 16, 17, 19, 23, 24, 25, 26, 29, 30, 8, 37, 38, 39, 40, 41, 42, 105, 106, 107, 108, 109, 110, 111, 112, 113, 114, 115, 116, 117, 118, 119, 120, 121, 122, 123, 124, 125, 126, 127, 128, 129, 130, 131, 132, 133, 134, 135, 136] (by decide +kernel) (by decide +kernel)
set_option maxRecDepth 20000 in
theorem gX12_window_X12_member : GoodIn wsX12_window (wsV RX12 182 RX12 yX12_member wsX12_member) := goodIn_app (goodIn_of _ (by decide +kernel)) ggX12_window_X12_member
set_option maxRecDepth 20000 in
theorem ggX12_window_X12_isWrong : GoodIn wsX12_window wsX12_isWrong := goodIn_r _ [12, 13, 105, 106, 107, 108, 109, 110, 111, 112, 113, 114, 115, 116, 117, 118, 119, 120, 121, 122, 123, 124, 125, 126, 127, 128, 129, 130, 131, 132, 133, 134, 135, 136] (by decide +kernel) (by decide +kernel)
set_option maxRecDepth 20000 in
theorem gX12_window_X12_isWrong : GoodIn wsX12_window (wsV RX12 141 RX12 yX12_isWrong wsX12_isWrong) := goodIn_app (goodIn_of _ (by decide +kernel)) ggX12_window_X12_isWrong
theorem dX12_window_0 : decode cX12_window 0 = .ok (.aload_n 0, 1) := by decide +kernel
theorem dX12_window_1 : decode cX12_window 1 = .ok (.getfield 13, 3) := by decide +kernel
theorem dX12_window_4 : decode cX12_window 4 = .ok (.iload_n 1, 1) := by decide +kernel
theorem dX12_window_5 : decode cX12_window 5 = .ok (.bipush 9, 2) := by decide +kernel
theorem dX12_window_7 : decode cX12_window 7 = .ok (.iadd, 1) := by decide +kernel
theorem dX12_window_8 : decode cX12_window 8 = .ok (.aload_n 0, 1) := by decide +kernel
theorem dX12_window_9 : decode cX12_window 9 = .ok (.iconst 1, 1) := by decide +kernel
theorem dX12_window_10 : decode cX12_window 10 = .ok (.iconst 4, 1) := by decide +kernel
theorem dX12_window_11 : decode cX12_window 11 = .ok (.invokevirtual 171, 3) := by decide +kernel
theorem dX12_window_14 : decode cX12_window 14 = .ok (.iastore, 1) := by decide +kernel
theorem dX12_window_15 : decode cX12_window 15 = .ok (.aload_n 0, 1) := by decide +kernel
theorem dX12_window_16 : decode cX12_window 16 = .ok (.getfield 13, 3) := by decide +kernel
theorem dX12_window_19 : decode cX12_window 19 = .ok (.iload_n 1, 1) := by decide +kernel
theorem dX12_window_20 : decode cX12_window 20 = .ok (.bipush 9, 2) := by decide +kernel
theorem dX12_window_22 : decode cX12_window 22 = .ok (.iadd, 1) := by decide +kernel
theorem dX12_window_23 : decode cX12_window 23 = .ok (.iconst 1, 1) := by decide +kernel
theorem dX12_window_24 : decode cX12_window 24 = .ok (.iadd, 1) := by decide +kernel
theorem dX12_window_25 : decode cX12_window 25 = .ok (.aload_n 0, 1) := by decide +kernel
theorem dX12_window_26 : decode cX12_window 26 = .ok (.iconst 1, 1) := by decide +kernel
theorem dX12_window_27 : decode cX12_window 27 = .ok (.bipush 31, 2) := by decide +kernel
theorem dX12_window_29 : decode cX12_window 29 = .ok (.invokevirtual 171, 3) := by decide +kernel
theorem dX12_window_32 : decode cX12_window 32 = .ok (.iastore, 1) := by decide +kernel
theorem dX12_window_33 : decode cX12_window 33 = .ok (.aload_n 0, 1) := by decide +kernel
theorem dX12_window_34 : decode cX12_window 34 = .ok (.getfield 13, 3) := by decide +kernel
theorem dX12_window_37 : decode cX12_window 37 = .ok (.iload_n 1, 1) := by decide +kernel
theorem dX12_window_38 : decode cX12_window 38 = .ok (.bipush 9, 2) := by decide +kernel
theorem dX12_window_40 : decode cX12_window 40 = .ok (.iadd, 1) := by decide +kernel
theorem dX12_window_41 : decode cX12_window 41 = .ok (.iconst 2, 1) := by decide +kernel
theorem dX12_window_42 : decode cX12_window 42 = .ok (.iadd, 1) := by decide +kernel
theorem dX12_window_43 : decode cX12_window 43 = .ok (.aload_n 0, 1) := by decide +kernel
theorem dX12_window_44 : decode cX12_window 44 = .ok (.iconst 0, 1) := by decide +kernel
theorem dX12_window_45 : decode cX12_window 45 = .ok (.aload_n 0, 1) := by decide +kernel
theorem dX12_window_46 : decode cX12_window 46 = .ok (.getfield 13, 3) := by decide +kernel
theorem dX12_window_49 : decode cX12_window 49 = .ok (.iload_n 1, 1) := by decide +kernel
theorem dX12_window_50 : decode cX12_window 50 = .ok (.bipush 9, 2) := by decide +kernel
theorem dX12_window_52 : decode cX12_window 52 = .ok (.iadd, 1) := by decide +kernel
theorem dX12_window_53 : decode cX12_window 53 = .ok (.iaload, 1) := by decide +kernel
theorem dX12_window_54 : decode cX12_window 54 = .ok (.invokevirtual 171, 3) := by decide +kernel
theorem dX12_window_57 : decode cX12_window 57 = .ok (.iastore, 1) := by decide +kernel
theorem dX12_window_58 : decode cX12_window 58 = .ok (.aload_n 0, 1) := by decide +kernel
theorem dX12_window_59 : decode cX12_window 59 = .ok (.getfield 13, 3) := by decide +kernel
theorem dX12_window_62 : decode cX12_window 62 = .ok (.iload_n 1, 1) := by decide +kernel
theorem dX12_window_63 : decode cX12_window 63 = .ok (.bipush 9, 2) := by decide +kernel
theorem dX12_window_65 : decode cX12_window 65 = .ok (.iadd, 1) := by decide +kernel
theorem dX12_window_66 : decode cX12_window 66 = .ok (.iconst 3, 1) := by decide +kernel
theorem dX12_window_67 : decode cX12_window 67 = .ok (.iadd, 1) := by decide +kernel
theorem dX12_window_68 : decode cX12_window 68 = .ok (.aload_n 0, 1) := by decide +kernel
theorem dX12_window_69 : decode cX12_window 69 = .ok (.aload_n 0, 1) := by decide +kernel
theorem dX12_window_70 : decode cX12_window 70 = .ok (.getfield 13, 3) := by decide +kernel
theorem dX12_window_73 : decode cX12_window 73 = .ok (.iload_n 1, 1) := by decide +kernel
theorem dX12_window_74 : decode cX12_window 74 = .ok (.bipush 9, 2) := by decide +kernel
theorem dX12_window_76 : decode cX12_window 76 = .ok (.iadd, 1) := by decide +kernel
theorem dX12_window_77 : decode cX12_window 77 = .ok (.iconst 2, 1) := by decide +kernel
theorem dX12_window_78 : decode cX12_window 78 = .ok (.iadd, 1) := by decide +kernel
theorem dX12_window_79 : decode cX12_window 79 = .ok (.iaload, 1) := by decide +kernel
theorem dX12_window_80 : decode cX12_window 80 = .ok (.aload_n 0, 1) := by decide +kernel
theorem dX12_window_81 : decode cX12_window 81 = .ok (.getfield 13, 3) := by decide +kernel
theorem dX12_window_84 : decode cX12_window 84 = .ok (.iload_n 1, 1) := by decide +kernel
theorem dX12_window_85 : decode cX12_window 85 = .ok (.bipush 9, 2) := by decide +kernel
theorem dX12_window_87 : decode cX12_window 87 = .ok (.iadd, 1) := by decide +kernel
theorem dX12_window_88 : decode cX12_window 88 = .ok (.iaload, 1) := by decide +kernel
theorem dX12_window_89 : decode cX12_window 89 = .ok (.invokevirtual 171, 3) := by decide +kernel
theorem dX12_window_92 : decode cX12_window 92 = .ok (.iastore, 1) := by decide +kernel
theorem dX12_window_93 : decode cX12_window 93 = .ok (.aload_n 0, 1) := by decide +kernel
theorem dX12_window_94 : decode cX12_window 94 = .ok (.iload_n 1, 1) := by decide +kernel
theorem dX12_window_95 : decode cX12_window 95 = .ok (.invokevirtual 182, 3) := by decide +kernel
theorem dX12_window_98 : decode cX12_window 98 = .ok (.aload_n 0, 1) := by decide +kernel
theorem dX12_window_99 : decode cX12_window 99 = .ok (.invokevirtual 141, 3) := by decide +kernel
theorem dX12_window_102 : decode cX12_window 102 = .ok (.ifCond .ne 19, 3) := by decide +kernel
theorem dX12_window_105 : decode cX12_window 105 = .ok (.aload_n 0, 1) := by decide +kernel
theorem dX12_window_106 : decode cX12_window 106 = .ok (.getfield 117, 3) := by decide +kernel
theorem dX12_window_109 : decode cX12_window 109 = .ok (.iconst 1, 1) := by decide +kernel
theorem dX12_window_110 : decode cX12_window 110 = .ok (.if_icmp .ne 11, 3) := by decide +kernel
theorem dX12_window_113 : decode cX12_window 113 = .ok (.aload_n 0, 1) := by decide +kernel
theorem dX12_window_114 : decode cX12_window 114 = .ok (.iload_n 1, 1) := by decide +kernel
theorem dX12_window_115 : decode cX12_window 115 = .ok (.invokevirtual 182, 3) := by decide +kernel
theorem dX12_window_118 : decode cX12_window 118 = .ok (.goto (-20), 3) := by decide +kernel
theorem dX12_window_121 : decode cX12_window 121 = .ok (.return_, 1) := by decide +kernel
set_option maxRecDepth 20000 in
theorem ggX12_constraint_X12_isWord : GoodIn wsX12_constraint wsX12_isWord := goodIn_r _ [6, 7, 8, 9, 10, 11, 12, 5, 13, 14, 15, 16, 17, 18, 19, 20, 21, 22, 23, 24, 25, 26, 27, 28, 29, 30, 31, 32, 33, 34, 35, 36, 37, 38, 39, 40, 41, 42, 43, 44, 45, 46, 47, 48, 49, 50, 51, 52, 53, 54, 55, 56, 57, 58, 59, 60, 61, 62, 63, 64, 65, 66, 67, 68, 69, 124, 125, 126, 127, 128, 129, 130, 131, 132, 133, 134, 135, 136, 137, 138, 139, 140, 141, 142, 143, 144, 145, 146, 147, 148, 149, 150, 151, 152, 153, 154, 155] (by decide +kernel) (by decide +kernel)
set_option maxRecDepth 20000 in
theorem gX12_constraint_X12_isWord : GoodIn wsX12_constraint (wsV RX12 164 RX12 yX12_isWord wsX12_isWord) := goodIn_app (goodIn_of _ (by decide +kernel)) ggX12_constraint_X12_isWord
set_option maxRecDepth 20000 in
theorem ggX12_constraint_X12_fails : GoodIn wsX12_constraint wsX12_fails := goodIn_r _ [73, 14, 9, 74, 10, 11, 12, 5, 13, 124, 125, 126, 127, 128, 129, 130, 131, 132, 133, 134, 135, 136, 137, 138, 139, 140, 141, 142, 143, 144, 145, 146, 147, 148, 149, 150, 151, 152, 153, 154, 155] (by decide +kernel) (by decide +kernel)
set_option maxRecDepth 20000 in
theorem gX12_constraint_X12_fails : GoodIn wsX12_constraint (wsV RX12 155 RX12 yX12_fails wsX12_fails) := goodIn_app (goodIn_of _ (by decide +kernel)) ggX12_constraint_X12_fails
set_option maxRecDepth 20000 in
theorem ggX12_constraint_X12_isWrong : GoodIn wsX12_constraint wsX12_isWrong := goodIn_r _ [13, 14, 124, 125, 126, 127, 128, 129, 130, 131, 132, 133, 134, 135, 136, 137, 138, 139, 140, 141, 142, 143, 144, 145, 146, 147, 148, 149, 150, 151, 152, 153, 154, 155] (by decide +kernel) (by decide +kernel)
set_option maxRecDepth 20000 in
theorem gX12_constraint_X12_isWrong : GoodIn wsX12_constraint (wsV RX12 141 RX12 yX12_isWrong wsX12_isWrong) := goodIn_app (goodIn_of _ (by decide +kernel)) ggX12_constraint_X12_isWrong
set_option maxRecDepth 20000 in
theorem ggX12_constraint_X12_token : GoodIn wsX12_constraint wsX12_token := goodIn_r _ [78, 8, 9, 7, 79, 80, 81, 82, 27, 28, 29, 5, 30, 31, 32, 83, 84, 85, 86, 87, 88, 124, 125, 126, 127, 128, 129, 130, 131, 132, 133, 134, 135, 136, 137, 138, 139, 140, 141, 142, 143, 144, 145, 146, 147, 148, 149, 150, 151, 152, 153, 154, 155] (by decide +kernel) (by decide +kernel)
set_option maxRecDepth 20000 in
theorem gX12_constraint_X12_token : GoodIn wsX12_constraint (wsV RX12 159 RX12 yX12_token wsX12_token) := goodIn_app (goodIn_of _ (by decide +kernel)) ggX12_constraint_X12_token
set_option maxRecDepth 20000 in
theorem ggX12_constraint_X12_counts : GoodIn wsX12_constraint wsX12_counts := goodIn_r _ [92, 1, 7, 93, 94, 95, 5, 96, 97, 98, 99, 100, 8, 9, 101, 79, 2, 3, 4, 6, 10, 11, 12, 13, 14, 15, 16, 17, 18, 19, 20, 21, 22, 23, 24, 25, 26, 27, 28, 29, 30, 31, 32, 33, 34, 35, 36, 37, 38, 39, 40, 41, 42, 43, 44, 45, 46, 47, 48, 49, 50, 51, 52, 53, 54, 55, 56, 57, 58, 59, 60, 61, 62, 63, 64, 65, 66, 67, 68, 69, 70, 71, 72, 73, 74, 75, 76, 77, 78, 80, 81, 82, 83, 84, 85, 86, 87, 88, 102, 103, 104, 105, 106, 107, 108, 109, 110, 111, 112, 113, 114, 115, 124, 125, 126, 127, 128, 129, 130, 131, 132, 133, 134, 135, 136, 137, 138, 139, 140, 141, 142, 143, 144, 145, 146, 147, 148, 149, 150, 151, 152, 153, 154, 155] (by decide +kernel) (by decide +kernel)
set_option maxRecDepth 20000 in
theorem gX12_constraint_X12_counts : GoodIn wsX12_constraint (wsV RX12 196 RX12 yX12_counts wsX12_counts) := goodIn_app (goodIn_of _ (by decide +kernel)) ggX12_constraint_X12_counts
set_option maxRecDepth 20000 in
theorem ggX12_constraint_X12_window : GoodIn wsX12_constraint wsX12_window := goodIn_r _ [119, 1, 7, 109, 110, 111, 5, 112, 82, 10, 11, 12, 13, 14, 70, 71, 72, 73, 9, 74, 113, 114, 115, 75, 76, 77, 78, 8, 79, 80, 81, 27, 28, 29, 30, 31, 32, 83, 84, 85, 86, 87, 88, 93, 94, 95, 96, 97, 98, 99, 100, 101, 2, 3, 4, 6, 15, 16, 17, 18, 19, 20, 21, 22, 23, 24, 25, 26, 33, 34, 35, 36, 37, 38, 39, 40, 41, 42, 43, 44, 45, 46, 47, 48, 49, 50, 51, 52, 53, 54, 55, 56, 57, 58, 59, 60, 61, 62, 63, 64, 65, 66, 67, 68, 69, 124, 125, 126, 127, 128, 129, 130, 131, 132, 133, 134, 135, 136, 137, 138, 139, 140, 141, 142, 143, 144, 145, 146, 147, 148, 149, 150, 151, 152, 153, 154, 155] (by decide +kernel) (by decide +kernel)
set_option maxRecDepth 20000 in
theorem gX12_constraint_X12_window : GoodIn wsX12_constraint (wsV RX12 198 RX12 yX12_window wsX12_window) := goodIn_app (goodIn_of _ (by decide +kernel)) ggX12_constraint_X12_window
set_option maxRecDepth 20000 in
theorem ggX12_constraint_X12_member : GoodIn wsX12_constraint wsX12_member := goodIn_r _ [96, 1, 97, 98, 99, 5, 100, 7, 8, 9, 101, 79, 2, 3, 4, 6, 10, 11, 12, 13, 14, 15, 16, 17, 18, 19, 20, 21, 22, 23, 24, 25, 26, 27, 28, 29, 30, 31, 32, 33, 34, 35, 36, 37, 38, 39, 40, 41, 42, 43, 44, 45, 46, 47, 48, 49, 50, 51, 52, 53, 54, 55, 56, 57, 58, 59, 60, 61, 62, 63, 64, 65, 66, 67, 68, 69, 70, 71, 72, 73, 74, 75, 76, 77, 78, 80, 81, 82, 83, 84, 85, 86, 87, 88, 124, 125, 126, 127, 128, 129, 130, 131, 132, 133, 134, 135, 136, 137, 138, 139, 140, 141, 142, 143, 144, 145, 146, 147, 148, 149, 150, 151, 152, 153, 154, 155] (by decide +kernel) (by decide +kernel)
set_option maxRecDepth 20000 in
theorem gX12_constraint_X12_member : GoodIn wsX12_constraint (wsV RX12 182 RX12 yX12_member wsX12_member) := goodIn_app (goodIn_of _ (by decide +kernel)) ggX12_constraint_X12_member
set_option maxRecDepth 20000 in
theorem ggX12_constraint_X12_ends : GoodIn wsX12_constraint wsX12_ends := goodIn_r _ [123, 7, 70, 71, 72, 5, 73, 14, 9, 74, 10, 11, 12, 13, 75, 76, 77, 78, 8, 79, 80, 81, 82, 27, 28, 29, 30, 31, 32, 83, 84, 85, 86, 87, 88, 124, 125, 126, 127, 128, 129, 130, 131, 132, 133, 134, 135, 136, 137, 138, 139, 140, 141, 142, 143, 144, 145, 146, 147, 148, 149, 150, 151, 152, 153, 154, 155] (by decide +kernel) (by decide +kernel)
set_option maxRecDepth 20000 in
theorem gX12_constraint_X12_ends : GoodIn wsX12_constraint (wsV RX12 175 RX12 yX12_ends wsX12_ends) := goodIn_app (goodIn_of _ (by decide +kernel)) ggX12_constraint_X12_ends
theorem dX12_constraint_0 : decode cX12_constraint 0 = .ok (.aload_n 0, 1) := by decide +kernel
theorem dX12_constraint_1 : decode cX12_constraint 1 = .ok (.ldc 188, 2) := by decide +kernel
theorem dX12_constraint_3 : decode cX12_constraint 3 = .ok (.invokevirtual 164, 3) := by decide +kernel
theorem dX12_constraint_6 : decode cX12_constraint 6 = .ok (.ifCond .eq 7, 3) := by decide +kernel
theorem dX12_constraint_9 : decode cX12_constraint 9 = .ok (.iconst 0, 1) := by decide +kernel
theorem dX12_constraint_10 : decode cX12_constraint 10 = .ok (.goto 43, 3) := by decide +kernel
theorem dX12_constraint_13 : decode cX12_constraint 13 = .ok (.aload_n 0, 1) := by decide +kernel
theorem dX12_constraint_14 : decode cX12_constraint 14 = .ok (.ldc 190, 2) := by decide +kernel
theorem dX12_constraint_16 : decode cX12_constraint 16 = .ok (.invokevirtual 164, 3) := by decide +kernel
theorem dX12_constraint_19 : decode cX12_constraint 19 = .ok (.ifCond .eq 7, 3) := by decide +kernel
theorem dX12_constraint_22 : decode cX12_constraint 22 = .ok (.iconst 1, 1) := by decide +kernel
theorem dX12_constraint_23 : decode cX12_constraint 23 = .ok (.goto 30, 3) := by decide +kernel
theorem dX12_constraint_26 : decode cX12_constraint 26 = .ok (.aload_n 0, 1) := by decide +kernel
theorem dX12_constraint_27 : decode cX12_constraint 27 = .ok (.ldc 192, 2) := by decide +kernel
theorem dX12_constraint_29 : decode cX12_constraint 29 = .ok (.invokevirtual 164, 3) := by decide +kernel
theorem dX12_constraint_32 : decode cX12_constraint 32 = .ok (.ifCond .eq 7, 3) := by decide +kernel
theorem dX12_constraint_35 : decode cX12_constraint 35 = .ok (.iconst 2, 1) := by decide +kernel
theorem dX12_constraint_36 : decode cX12_constraint 36 = .ok (.goto 17, 3) := by decide +kernel
theorem dX12_constraint_39 : decode cX12_constraint 39 = .ok (.aload_n 0, 1) := by decide +kernel
theorem dX12_constraint_40 : decode cX12_constraint 40 = .ok (.ldc 194, 2) := by decide +kernel
theorem dX12_constraint_42 : decode cX12_constraint 42 = .ok (.invokevirtual 164, 3) := by decide +kernel
theorem dX12_constraint_45 : decode cX12_constraint 45 = .ok (.ifCond .eq 7, 3) := by decide +kernel
theorem dX12_constraint_48 : decode cX12_constraint 48 = .ok (.iconst 3, 1) := by decide +kernel
theorem dX12_constraint_49 : decode cX12_constraint 49 = .ok (.goto 4, 3) := by decide +kernel
theorem dX12_constraint_52 : decode cX12_constraint 52 = .ok (.iconst (-1), 1) := by decide +kernel
theorem dX12_constraint_53 : decode cX12_constraint 53 = .ok (.istore_n 1, 1) := by decide +kernel
theorem dX12_constraint_54 : decode cX12_constraint 54 = .ok (.iload_n 1, 1) := by decide +kernel
theorem dX12_constraint_55 : decode cX12_constraint 55 = .ok (.iconst (-1), 1) := by decide +kernel
theorem dX12_constraint_56 : decode cX12_constraint 56 = .ok (.if_icmp .ne 11, 3) := by decide +kernel
theorem dX12_constraint_59 : decode cX12_constraint 59 = .ok (.aload_n 0, 1) := by decide +kernel
theorem dX12_constraint_60 : decode cX12_constraint 60 = .ok (.iconst 1, 1) := by decide +kernel
theorem dX12_constraint_61 : decode cX12_constraint 61 = .ok (.invokevirtual 155, 3) := by decide +kernel
theorem dX12_constraint_64 : decode cX12_constraint 64 = .ok (.goto 19, 3) := by decide +kernel
theorem dX12_constraint_67 : decode cX12_constraint 67 = .ok (.aload_n 0, 1) := by decide +kernel
theorem dX12_constraint_68 : decode cX12_constraint 68 = .ok (.getfield 13, 3) := by decide +kernel
theorem dX12_constraint_71 : decode cX12_constraint 71 = .ok (.iconst 1, 1) := by decide +kernel
theorem dX12_constraint_72 : decode cX12_constraint 72 = .ok (.iaload, 1) := by decide +kernel
theorem dX12_constraint_73 : decode cX12_constraint 73 = .ok (.bipush 8, 2) := by decide +kernel
theorem dX12_constraint_75 : decode cX12_constraint 75 = .ok (.if_icmp .ne 8, 3) := by decide +kernel
theorem dX12_constraint_78 : decode cX12_constraint 78 = .ok (.aload_n 0, 1) := by decide +kernel
theorem dX12_constraint_79 : decode cX12_constraint 79 = .ok (.iconst 4, 1) := by decide +kernel
theorem dX12_constraint_80 : decode cX12_constraint 80 = .ok (.invokevirtual 155, 3) := by decide +kernel
theorem dX12_constraint_83 : decode cX12_constraint 83 = .ok (.aload_n 0, 1) := by decide +kernel
theorem dX12_constraint_84 : decode cX12_constraint 84 = .ok (.invokevirtual 141, 3) := by decide +kernel
theorem dX12_constraint_87 : decode cX12_constraint 87 = .ok (.ifCond .eq 4, 3) := by decide +kernel
theorem dX12_constraint_90 : decode cX12_constraint 90 = .ok (.return_, 1) := by decide +kernel
theorem dX12_constraint_91 : decode cX12_constraint 91 = .ok (.bipush 9, 2) := by decide +kernel
theorem dX12_constraint_93 : decode cX12_constraint 93 = .ok (.bipush 20, 2) := by decide +kernel
theorem dX12_constraint_95 : decode cX12_constraint 95 = .ok (.aload_n 0, 1) := by decide +kernel
theorem dX12_constraint_96 : decode cX12_constraint 96 = .ok (.getfield 13, 3) := by decide +kernel
theorem dX12_constraint_99 : decode cX12_constraint 99 = .ok (.iconst 1, 1) := by decide +kernel
theorem dX12_constraint_100 : decode cX12_constraint 100 = .ok (.iaload, 1) := by decide +kernel
theorem dX12_constraint_101 : decode cX12_constraint 101 = .ok (.imul, 1) := by decide +kernel
theorem dX12_constraint_102 : decode cX12_constraint 102 = .ok (.iadd, 1) := by decide +kernel
theorem dX12_constraint_103 : decode cX12_constraint 103 = .ok (.istore_n 2, 1) := by decide +kernel
theorem dX12_constraint_104 : decode cX12_constraint 104 = .ok (.aload_n 0, 1) := by decide +kernel
theorem dX12_constraint_105 : decode cX12_constraint 105 = .ok (.getfield 13, 3) := by decide +kernel
theorem dX12_constraint_108 : decode cX12_constraint 108 = .ok (.iload_n 2, 1) := by decide +kernel
theorem dX12_constraint_109 : decode cX12_constraint 109 = .ok (.iconst 0, 1) := by decide +kernel
theorem dX12_constraint_110 : decode cX12_constraint 110 = .ok (.iadd, 1) := by decide +kernel
theorem dX12_constraint_111 : decode cX12_constraint 111 = .ok (.iload_n 1, 1) := by decide +kernel
theorem dX12_constraint_112 : decode cX12_constraint 112 = .ok (.iastore, 1) := by decide +kernel
theorem dX12_constraint_113 : decode cX12_constraint 113 = .ok (.aload_n 0, 1) := by decide +kernel
theorem dX12_constraint_114 : decode cX12_constraint 114 = .ok (.invokevirtual 159, 3) := by decide +kernel
theorem dX12_constraint_117 : decode cX12_constraint 117 = .ok (.iload_n 1, 1) := by decide +kernel
theorem dX12_constraint_118 : decode cX12_constraint 118 = .ok (.ifCond .ne 11, 3) := by decide +kernel
theorem dX12_constraint_121 : decode cX12_constraint 121 = .ok (.aload_n 0, 1) := by decide +kernel
theorem dX12_constraint_122 : decode cX12_constraint 122 = .ok (.iload_n 2, 1) := by decide +kernel
theorem dX12_constraint_123 : decode cX12_constraint 123 = .ok (.invokevirtual 196, 3) := by decide +kernel
theorem dX12_constraint_126 : decode cX12_constraint 126 = .ok (.goto 26, 3) := by decide +kernel
theorem dX12_constraint_129 : decode cX12_constraint 129 = .ok (.iload_n 1, 1) := by decide +kernel
theorem dX12_constraint_130 : decode cX12_constraint 130 = .ok (.iconst 1, 1) := by decide +kernel
theorem dX12_constraint_131 : decode cX12_constraint 131 = .ok (.if_icmp .ne 11, 3) := by decide +kernel
theorem dX12_constraint_134 : decode cX12_constraint 134 = .ok (.aload_n 0, 1) := by decide +kernel
theorem dX12_constraint_135 : decode cX12_constraint 135 = .ok (.iload_n 2, 1) := by decide +kernel
theorem dX12_constraint_136 : decode cX12_constraint 136 = .ok (.invokevirtual 198, 3) := by decide +kernel
theorem dX12_constraint_139 : decode cX12_constraint 139 = .ok (.goto 13, 3) := by decide +kernel
theorem dX12_constraint_142 : decode cX12_constraint 142 = .ok (.aload_n 0, 1) := by decide +kernel
theorem dX12_constraint_143 : decode cX12_constraint 143 = .ok (.iload_n 2, 1) := by decide +kernel
theorem dX12_constraint_144 : decode cX12_constraint 144 = .ok (.invokevirtual 182, 3) := by decide +kernel
theorem dX12_constraint_147 : decode cX12_constraint 147 = .ok (.aload_n 0, 1) := by decide +kernel
theorem dX12_constraint_148 : decode cX12_constraint 148 = .ok (.iload_n 2, 1) := by decide +kernel
theorem dX12_constraint_149 : decode cX12_constraint 149 = .ok (.invokevirtual 182, 3) := by decide +kernel
theorem dX12_constraint_152 : decode cX12_constraint 152 = .ok (.aload_n 0, 1) := by decide +kernel
theorem dX12_constraint_153 : decode cX12_constraint 153 = .ok (.getfield 13, 3) := by decide +kernel
theorem dX12_constraint_156 : decode cX12_constraint 156 = .ok (.iconst 1, 1) := by decide +kernel
theorem dX12_constraint_157 : decode cX12_constraint 157 = .ok (.dup2, 1) := by decide +kernel
theorem dX12_constraint_158 : decode cX12_constraint 158 = .ok (.iaload, 1) := by decide +kernel
theorem dX12_constraint_159 : decode cX12_constraint 159 = .ok (.iconst 1, 1) := by decide +kernel
theorem dX12_constraint_160 : decode cX12_constraint 160 = .ok (.iadd, 1) := by decide +kernel
theorem dX12_constraint_161 : decode cX12_constraint 161 = .ok (.iastore, 1) := by decide +kernel
theorem dX12_constraint_162 : decode cX12_constraint 162 = .ok (.aload_n 0, 1) := by decide +kernel
theorem dX12_constraint_163 : decode cX12_constraint 163 = .ok (.invokevirtual 175, 3) := by decide +kernel
theorem dX12_constraint_166 : decode cX12_constraint 166 = .ok (.return_, 1) := by decide +kernel
set_option maxRecDepth 20000 in
theorem ggX12_load_X12_token : GoodIn wsX12_load wsX12_token := goodIn_r _ [14, 4, 15, 8, 16, 17, 18, 19, 20, 21, 22, 13, 23, 3, 24, 25, 26, 27, 28, 29, 30, 210, 211, 212, 213, 214, 215, 216, 217, 218, 219, 220, 221, 222, 223, 224, 225, 226, 227, 228, 229, 230, 231, 232, 233, 234, 235, 236, 237, 238, 239, 240, 241] (by decide +kernel) (by decide +kernel)
set_option maxRecDepth 20000 in
theorem gX12_load_X12_token : GoodIn wsX12_load (wsV RX12 159 RX12 yX12_token wsX12_token) := goodIn_app (goodIn_of _ (by decide +kernel)) ggX12_load_X12_token
set_option maxRecDepth 20000 in
theorem ggX12_load_X12_isWord : GoodIn wsX12_load wsX12_isWord := goodIn_r _ [34, 8, 4, 15, 35, 36, 37, 13, 38, 5, 39, 40, 41, 42, 43, 44, 45, 46, 47, 48, 49, 50, 20, 21, 22, 23, 3, 24, 51, 52, 53, 54, 55, 56, 57, 58, 59, 60, 61, 62, 63, 64, 65, 66, 67, 68, 69, 70, 71, 72, 73, 74, 75, 76, 77, 78, 79, 80, 81, 82, 83, 84, 85, 86, 87, 210, 211, 212, 213, 214, 215, 216, 217, 218, 219, 220, 221, 222, 223, 224, 225, 226, 227, 228, 229, 230, 231, 232, 233, 234, 235, 236, 237, 238, 239, 240, 241] (by decide +kernel) (by decide +kernel)
set_option maxRecDepth 20000 in
theorem gX12_load_X12_isWord : GoodIn wsX12_load (wsV RX12 164 RX12 yX12_isWord wsX12_isWord) := goodIn_app (goodIn_of _ (by decide +kernel)) ggX12_load_X12_isWord
set_option maxRecDepth 20000 in
theorem ggX12_load_X12_variable : GoodIn wsX12_load wsX12_variable := goodIn_r _ [91, 7, 92, 16, 93, 94, 95, 13, 96, 5, 15, 6, 35, 36, 37, 38, 10, 11, 12, 14, 4, 8, 17, 18, 19, 20, 21, 22, 23, 3, 24, 25, 26, 27, 28, 29, 30, 97, 98, 99, 100, 31, 32, 33, 34, 39, 40, 41, 42, 43, 44, 45, 46, 47, 48, 49, 50, 51, 52, 53, 54, 55, 56, 57, 58, 59, 60, 61, 62, 63, 64, 65, 66, 67, 68, 69, 70, 71, 72, 73, 74, 75, 76, 77, 78, 79, 80, 81, 82, 83, 84, 85, 86, 87, 101, 102, 103, 104, 105, 106, 107, 108, 109, 110, 111, 210, 211, 212, 213, 214, 215, 216, 217, 218, 219, 220, 221, 222, 223, 224, 225, 226, 227, 228, 229, 230, 231, 232, 233, 234, 235, 236, 237, 238, 239, 240, 241] (by decide +kernel) (by decide +kernel)
set_option maxRecDepth 20000 in
theorem gX12_load_X12_variable : GoodIn wsX12_load (wsV RX12 202 RX12 yX12_variable wsX12_variable) := goodIn_app (goodIn_of _ (by decide +kernel)) ggX12_load_X12_variable
set_option maxRecDepth 20000 in
theorem ggX12_load_X12_isWrong : GoodIn wsX12_load wsX12_isWrong := goodIn_r _ [38, 5, 210, 211, 212, 213, 214, 215, 216, 217, 218, 219, 220, 221, 222, 223, 224, 225, 226, 227, 228, 229, 230, 231, 232, 233, 234, 235, 236, 237, 238, 239, 240, 241] (by decide +kernel) (by decide +kernel)
set_option maxRecDepth 20000 in
theorem gX12_load_X12_isWrong : GoodIn wsX12_load (wsV RX12 141 RX12 yX12_isWrong wsX12_isWrong) := goodIn_app (goodIn_of _ (by decide +kernel)) ggX12_load_X12_isWrong
set_option maxRecDepth 20000 in
theorem ggX12_load_X12_constraint : GoodIn wsX12_load wsX12_constraint := goodIn_r _ [115, 7, 31, 32, 33, 13, 34, 8, 4, 15, 35, 36, 37, 38, 5, 39, 40, 41, 42, 43, 44, 45, 46, 47, 48, 49, 50, 20, 21, 22, 23, 3, 24, 51, 52, 53, 54, 55, 56, 57, 58, 59, 60, 61, 62, 63, 64, 65, 66, 67, 68, 69, 70, 71, 72, 73, 74, 75, 76, 77, 78, 79, 80, 81, 82, 83, 84, 85, 86, 87, 93, 94, 95, 96, 6, 10, 11, 12, 14, 16, 17, 18, 19, 25, 26, 27, 28, 29, 30, 116, 117, 118, 119, 120, 121, 122, 123, 97, 98, 99, 100, 92, 124, 125, 126, 127, 128, 129, 130, 101, 102, 103, 104, 105, 106, 107, 131, 132, 133, 134, 108, 109, 110, 111, 210, 211, 212, 213, 214, 215, 216, 217, 218, 219, 220, 221, 222, 223, 224, 225, 226, 227, 228, 229, 230, 231, 232, 233, 234, 235, 236, 237, 238, 239, 240, 241] (by decide +kernel) (by decide +kernel)
set_option maxRecDepth 20000 in
theorem gX12_load_X12_constraint : GoodIn wsX12_load (wsV RX12 205 RX12 yX12_constraint wsX12_constraint) := goodIn_app (goodIn_of _ (by decide +kernel)) ggX12_load_X12_constraint
set_option maxRecDepth 20000 in
theorem ggX12_load_X12_may : GoodIn wsX12_load wsX12_may := goodIn_r _ [138, 1, 210, 211, 212, 213, 214, 215, 216, 217, 218, 219, 220, 221, 222, 223, 224, 225, 226, 227, 228, 229, 230, 231, 232, 233, 234, 235, 236, 237, 238, 239, 240, 241] (by decide +kernel) (by decide +kernel)
set_option maxRecDepth 20000 in
theorem gX12_load_X12_may : GoodIn wsX12_load (wsV RX12 96 RX12 yX12_may wsX12_may) := goodIn_app (goodIn_of _ (by decide +kernel)) ggX12_load_X12_may
set_option maxRecDepth 20000 in
theorem ggX12_load_X12_begins : GoodIn wsX12_load wsX12_begins := goodIn_r _ [142, 143, 7, 144, 9, 145, 146, 147, 148, 149, 150, 151, 13, 152, 153, 154, 155, 156, 157, 158, 159, 160, 161, 162, 163, 164, 165, 166, 167, 168, 169, 170, 171, 172, 128, 129, 130, 173, 174, 175, 176, 177, 178, 179, 180, 181, 182, 183, 184, 185, 186, 187, 188, 189, 190, 191, 192, 193, 194, 195, 196, 105, 106, 107, 197, 198, 199, 200, 201, 202, 203, 204, 205, 206, 207, 208, 209, 210, 211, 212, 213, 214, 215, 216, 217, 218, 219, 220, 221, 222, 223, 224, 225, 226, 227, 228, 229, 230, 231, 232, 233, 234, 235, 236, 237, 238, 239, 240, 241] (by decide +kernel) (by decide +kernel)
set_option maxRecDepth 20000 in
theorem gX12_load_X12_begins : GoodIn wsX12_load (wsV RX12 67 RX12 yX12_begins wsX12_begins) := goodIn_app (goodIn_of _ (by decide +kernel)) ggX12_load_X12_begins
theorem dX12_load_0 : decode cX12_load 0 = .ok (.aload_n 0, 1) := by decide +kernel
theorem dX12_load_1 : decode cX12_load 1 = .ok (.iconst 0, 1) := by decide +kernel
theorem dX12_load_2 : decode cX12_load 2 = .ok (.putfield 70, 3) := by decide +kernel
theorem dX12_load_5 : decode cX12_load 5 = .ok (.aload_n 0, 1) := by decide +kernel
theorem dX12_load_6 : decode cX12_load 6 = .ok (.aload_n 0, 1) := by decide +kernel
theorem dX12_load_7 : decode cX12_load 7 = .ok (.getfield 93, 3) := by decide +kernel
theorem dX12_load_10 : decode cX12_load 10 = .ok (.putfield 104, 3) := by decide +kernel
theorem dX12_load_13 : decode cX12_load 13 = .ok (.aload_n 0, 1) := by decide +kernel
theorem dX12_load_14 : decode cX12_load 14 = .ok (.iconst 0, 1) := by decide +kernel
theorem dX12_load_15 : decode cX12_load 15 = .ok (.putfield 93, 3) := by decide +kernel
theorem dX12_load_18 : decode cX12_load 18 = .ok (.aload_n 0, 1) := by decide +kernel
theorem dX12_load_19 : decode cX12_load 19 = .ok (.iconst 0, 1) := by decide +kernel
theorem dX12_load_20 : decode cX12_load 20 = .ok (.putfield 107, 3) := by decide +kernel
theorem dX12_load_23 : decode cX12_load 23 = .ok (.aload_n 0, 1) := by decide +kernel
theorem dX12_load_24 : decode cX12_load 24 = .ok (.iconst 0, 1) := by decide +kernel
theorem dX12_load_25 : decode cX12_load 25 = .ok (.putfield 138, 3) := by decide +kernel
theorem dX12_load_28 : decode cX12_load 28 = .ok (.aload_n 0, 1) := by decide +kernel
theorem dX12_load_29 : decode cX12_load 29 = .ok (.iconst (-1), 1) := by decide +kernel
theorem dX12_load_30 : decode cX12_load 30 = .ok (.putfield 31, 3) := by decide +kernel
theorem dX12_load_33 : decode cX12_load 33 = .ok (.iconst 0, 1) := by decide +kernel
theorem dX12_load_34 : decode cX12_load 34 = .ok (.istore_n 1, 1) := by decide +kernel
theorem dX12_load_35 : decode cX12_load 35 = .ok (.iload_n 1, 1) := by decide +kernel
theorem dX12_load_36 : decode cX12_load 36 = .ok (.sipush 169, 3) := by decide +kernel
theorem dX12_load_39 : decode cX12_load 39 = .ok (.if_icmp .ge 16, 3) := by decide +kernel
theorem dX12_load_42 : decode cX12_load 42 = .ok (.aload_n 0, 1) := by decide +kernel
theorem dX12_load_43 : decode cX12_load 43 = .ok (.getfield 13, 3) := by decide +kernel
theorem dX12_load_46 : decode cX12_load 46 = .ok (.iload_n 1, 1) := by decide +kernel
theorem dX12_load_47 : decode cX12_load 47 = .ok (.iconst 0, 1) := by decide +kernel
theorem dX12_load_48 : decode cX12_load 48 = .ok (.iastore, 1) := by decide +kernel
theorem dX12_load_49 : decode cX12_load 49 = .ok (.iinc 1 1, 3) := by decide +kernel
theorem dX12_load_52 : decode cX12_load 52 = .ok (.goto (-17), 3) := by decide +kernel
theorem dX12_load_55 : decode cX12_load 55 = .ok (.aload_n 0, 1) := by decide +kernel
theorem dX12_load_56 : decode cX12_load 56 = .ok (.invokevirtual 159, 3) := by decide +kernel
theorem dX12_load_59 : decode cX12_load 59 = .ok (.aload_n 0, 1) := by decide +kernel
theorem dX12_load_60 : decode cX12_load 60 = .ok (.ldc 200, 2) := by decide +kernel
theorem dX12_load_62 : decode cX12_load 62 = .ok (.invokevirtual 164, 3) := by decide +kernel
theorem dX12_load_65 : decode cX12_load 65 = .ok (.ifCond .eq 10, 3) := by decide +kernel
theorem dX12_load_68 : decode cX12_load 68 = .ok (.aload_n 0, 1) := by decide +kernel
theorem dX12_load_69 : decode cX12_load 69 = .ok (.invokevirtual 202, 3) := by decide +kernel
theorem dX12_load_72 : decode cX12_load 72 = .ok (.goto (-13), 3) := by decide +kernel
theorem dX12_load_75 : decode cX12_load 75 = .ok (.aload_n 0, 1) := by decide +kernel
theorem dX12_load_76 : decode cX12_load 76 = .ok (.invokevirtual 141, 3) := by decide +kernel
theorem dX12_load_79 : decode cX12_load 79 = .ok (.ifCond .ne 17, 3) := by decide +kernel
theorem dX12_load_82 : decode cX12_load 82 = .ok (.aload_n 0, 1) := by decide +kernel
theorem dX12_load_83 : decode cX12_load 83 = .ok (.getfield 117, 3) := by decide +kernel
theorem dX12_load_86 : decode cX12_load 86 = .ok (.ifCond .eq 10, 3) := by decide +kernel
theorem dX12_load_89 : decode cX12_load 89 = .ok (.aload_n 0, 1) := by decide +kernel
theorem dX12_load_90 : decode cX12_load 90 = .ok (.invokevirtual 205, 3) := by decide +kernel
theorem dX12_load_93 : decode cX12_load 93 = .ok (.goto (-18), 3) := by decide +kernel
theorem dX12_load_96 : decode cX12_load 96 = .ok (.aload_n 0, 1) := by decide +kernel
theorem dX12_load_97 : decode cX12_load 97 = .ok (.aload_n 0, 1) := by decide +kernel
theorem dX12_load_98 : decode cX12_load 98 = .ok (.invokevirtual 141, 3) := by decide +kernel
theorem dX12_load_101 : decode cX12_load 101 = .ok (.ifCond .ne 7, 3) := by decide +kernel
theorem dX12_load_104 : decode cX12_load 104 = .ok (.iconst 1, 1) := by decide +kernel
theorem dX12_load_105 : decode cX12_load 105 = .ok (.goto 4, 3) := by decide +kernel
theorem dX12_load_108 : decode cX12_load 108 = .ok (.iconst 0, 1) := by decide +kernel
theorem dX12_load_109 : decode cX12_load 109 = .ok (.iconst 1, 1) := by decide +kernel
theorem dX12_load_110 : decode cX12_load 110 = .ok (.invokevirtual 96, 3) := by decide +kernel
theorem dX12_load_113 : decode cX12_load 113 = .ok (.ifCond .ne 5, 3) := by decide +kernel
theorem dX12_load_116 : decode cX12_load 116 = .ok (.iconst 0, 1) := by decide +kernel
theorem dX12_load_117 : decode cX12_load 117 = .ok (.ireturn, 1) := by decide +kernel
theorem dX12_load_118 : decode cX12_load 118 = .ok (.aload_n 0, 1) := by decide +kernel
theorem dX12_load_119 : decode cX12_load 119 = .ok (.invokevirtual 67, 3) := by decide +kernel
theorem dX12_load_122 : decode cX12_load 122 = .ok (.aload_n 0, 1) := by decide +kernel
theorem dX12_load_123 : decode cX12_load 123 = .ok (.getfield 73, 3) := by decide +kernel
theorem dX12_load_126 : decode cX12_load 126 = .ok (.ireturn, 1) := by decide +kernel
theorem dX12_errorCode_0 : decode cX12_errorCode 0 = .ok (.aload_n 0, 1) := by decide +kernel
theorem dX12_errorCode_1 : decode cX12_errorCode 1 = .ok (.iconst 0, 1) := by decide +kernel
theorem dX12_errorCode_2 : decode cX12_errorCode 2 = .ok (.putfield 70, 3) := by decide +kernel
theorem dX12_errorCode_5 : decode cX12_errorCode 5 = .ok (.aload_n 0, 1) := by decide +kernel
theorem dX12_errorCode_6 : decode cX12_errorCode 6 = .ok (.getfield 138, 3) := by decide +kernel
theorem dX12_errorCode_9 : decode cX12_errorCode 9 = .ok (.ireturn, 1) := by decide +kernel
theorem dX12_errorPosition_0 : decode cX12_errorPosition 0 = .ok (.aload_n 0, 1) := by decide +kernel
theorem dX12_errorPosition_1 : decode cX12_errorPosition 1 = .ok (.iconst 0, 1) := by decide +kernel
theorem dX12_errorPosition_2 : decode cX12_errorPosition 2 = .ok (.putfield 70, 3) := by decide +kernel
theorem dX12_errorPosition_5 : decode cX12_errorPosition 5 = .ok (.aload_n 0, 1) := by decide +kernel
theorem dX12_errorPosition_6 : decode cX12_errorPosition 6 = .ok (.getfield 31, 3) := by decide +kernel
theorem dX12_errorPosition_9 : decode cX12_errorPosition 9 = .ok (.ireturn, 1) := by decide +kernel
theorem dX12_of_0 : decode cX12_of 0 = .ok (.aload_n 0, 1) := by decide +kernel
theorem dX12_of_1 : decode cX12_of 1 = .ok (.getfield 7, 3) := by decide +kernel
theorem dX12_of_4 : decode cX12_of 4 = .ok (.bipush 9, 2) := by decide +kernel
theorem dX12_of_6 : decode cX12_of 6 = .ok (.bipush 20, 2) := by decide +kernel
theorem dX12_of_8 : decode cX12_of 8 = .ok (.iload_n 1, 1) := by decide +kernel
theorem dX12_of_9 : decode cX12_of 9 = .ok (.imul, 1) := by decide +kernel
theorem dX12_of_10 : decode cX12_of 10 = .ok (.iadd, 1) := by decide +kernel
theorem dX12_of_11 : decode cX12_of 11 = .ok (.iload_n 2, 1) := by decide +kernel
theorem dX12_of_12 : decode cX12_of 12 = .ok (.iadd, 1) := by decide +kernel
theorem dX12_of_13 : decode cX12_of 13 = .ok (.iaload, 1) := by decide +kernel
theorem dX12_of_14 : decode cX12_of 14 = .ok (.ireturn, 1) := by decide +kernel
set_option maxRecDepth 20000 in
theorem ggX12_isAmong_X12_valueIn : GoodIn wsX12_isAmong wsX12_valueIn := goodIn_r _ [4] (by decide +kernel) (by decide +kernel)
set_option maxRecDepth 20000 in
theorem gX12_isAmong_X12_valueIn : GoodIn wsX12_isAmong (va_wsS RX12 208 yX12_valueIn wsX12_valueIn) := goodIn_app (goodIn_of _ (by decide +kernel)) ggX12_isAmong_X12_valueIn
set_option maxRecDepth 20000 in
theorem ggX12_isAmong_X12_of : GoodIn wsX12_isAmong wsX12_of := goodIn_r _ [8, 9, 10, 11, 12, 13, 14, 15, 16, 17, 18, 19, 20, 21, 22, 23, 24, 25, 26, 27, 28, 29, 30, 31, 32, 33, 34, 35, 36, 37, 38, 39, 40, 41] (by decide +kernel) (by decide +kernel)
set_option maxRecDepth 20000 in
theorem gX12_isAmong_X12_of : GoodIn wsX12_isAmong (wsV RX12 211 RX12 yX12_of wsX12_of) := goodIn_app (goodIn_of _ (by decide +kernel)) ggX12_isAmong_X12_of
theorem dX12_isAmong_0 : decode cX12_isAmong 0 = .ok (.iload_n 1, 1) := by decide +kernel
theorem dX12_isAmong_1 : decode cX12_isAmong 1 = .ok (.ifCond .ge 18, 3) := by decide +kernel
theorem dX12_isAmong_4 : decode cX12_isAmong 4 = .ok (.iload_n 1, 1) := by decide +kernel
theorem dX12_isAmong_5 : decode cX12_isAmong 5 = .ok (.ineg, 1) := by decide +kernel
theorem dX12_isAmong_6 : decode cX12_isAmong 6 = .ok (.iload_n 2, 1) := by decide +kernel
theorem dX12_isAmong_7 : decode cX12_isAmong 7 = .ok (.invokestatic 208, 3) := by decide +kernel
theorem dX12_isAmong_10 : decode cX12_isAmong 10 = .ok (.ifCond .lt 7, 3) := by decide +kernel
theorem dX12_isAmong_13 : decode cX12_isAmong 13 = .ok (.iconst 1, 1) := by decide +kernel
theorem dX12_isAmong_14 : decode cX12_isAmong 14 = .ok (.goto 4, 3) := by decide +kernel
theorem dX12_isAmong_17 : decode cX12_isAmong 17 = .ok (.iconst 0, 1) := by decide +kernel
theorem dX12_isAmong_18 : decode cX12_isAmong 18 = .ok (.ireturn, 1) := by decide +kernel
theorem dX12_isAmong_19 : decode cX12_isAmong 19 = .ok (.iconst 0, 1) := by decide +kernel
theorem dX12_isAmong_20 : decode cX12_isAmong 20 = .ok (.istore_n 3, 1) := by decide +kernel
theorem dX12_isAmong_21 : decode cX12_isAmong 21 = .ok (.iload_n 3, 1) := by decide +kernel
theorem dX12_isAmong_22 : decode cX12_isAmong 22 = .ok (.aload_n 0, 1) := by decide +kernel
theorem dX12_isAmong_23 : decode cX12_isAmong 23 = .ok (.iload_n 1, 1) := by decide +kernel
theorem dX12_isAmong_24 : decode cX12_isAmong 24 = .ok (.iconst 1, 1) := by decide +kernel
theorem dX12_isAmong_25 : decode cX12_isAmong 25 = .ok (.invokevirtual 211, 3) := by decide +kernel
theorem dX12_isAmong_28 : decode cX12_isAmong 28 = .ok (.if_icmp .ge 23, 3) := by decide +kernel
theorem dX12_isAmong_31 : decode cX12_isAmong 31 = .ok (.aload_n 0, 1) := by decide +kernel
theorem dX12_isAmong_32 : decode cX12_isAmong 32 = .ok (.iload_n 1, 1) := by decide +kernel
theorem dX12_isAmong_33 : decode cX12_isAmong 33 = .ok (.iconst 2, 1) := by decide +kernel
theorem dX12_isAmong_34 : decode cX12_isAmong 34 = .ok (.iload_n 3, 1) := by decide +kernel
theorem dX12_isAmong_35 : decode cX12_isAmong 35 = .ok (.iadd, 1) := by decide +kernel
theorem dX12_isAmong_36 : decode cX12_isAmong 36 = .ok (.invokevirtual 211, 3) := by decide +kernel
theorem dX12_isAmong_39 : decode cX12_isAmong 39 = .ok (.iload_n 2, 1) := by decide +kernel
theorem dX12_isAmong_40 : decode cX12_isAmong 40 = .ok (.if_icmp .ne 5, 3) := by decide +kernel
theorem dX12_isAmong_43 : decode cX12_isAmong 43 = .ok (.iconst 1, 1) := by decide +kernel
theorem dX12_isAmong_44 : decode cX12_isAmong 44 = .ok (.ireturn, 1) := by decide +kernel
theorem dX12_isAmong_45 : decode cX12_isAmong 45 = .ok (.iinc 3 1, 3) := by decide +kernel
theorem dX12_isAmong_48 : decode cX12_isAmong 48 = .ok (.goto (-27), 3) := by decide +kernel
theorem dX12_isAmong_51 : decode cX12_isAmong 51 = .ok (.iconst 0, 1) := by decide +kernel
theorem dX12_isAmong_52 : decode cX12_isAmong 52 = .ok (.ireturn, 1) := by decide +kernel
theorem dX12_valueIn_0 : decode cX12_valueIn 0 = .ok (.iload_n 0, 1) := by decide +kernel
theorem dX12_valueIn_1 : decode cX12_valueIn 1 = .ok (.iconst 3, 1) := by decide +kernel
theorem dX12_valueIn_2 : decode cX12_valueIn 2 = .ok (.iload_n 1, 1) := by decide +kernel
theorem dX12_valueIn_3 : decode cX12_valueIn 3 = .ok (.imul, 1) := by decide +kernel
theorem dX12_valueIn_4 : decode cX12_valueIn 4 = .ok (.ishr, 1) := by decide +kernel
theorem dX12_valueIn_5 : decode cX12_valueIn 5 = .ok (.bipush 7, 2) := by decide +kernel
theorem dX12_valueIn_7 : decode cX12_valueIn 7 = .ok (.iand, 1) := by decide +kernel
theorem dX12_valueIn_8 : decode cX12_valueIn 8 = .ok (.iconst 1, 1) := by decide +kernel
theorem dX12_valueIn_9 : decode cX12_valueIn 9 = .ok (.isub, 1) := by decide +kernel
theorem dX12_valueIn_10 : decode cX12_valueIn 10 = .ok (.ireturn, 1) := by decide +kernel
set_option maxRecDepth 20000 in
theorem ggX12_manyIn_X12_of : GoodIn wsX12_manyIn wsX12_of := goodIn_r _ [5, 6, 10, 11, 12, 13, 14, 15, 16, 17, 18, 19, 20, 21, 22, 23, 24, 25, 26, 27, 28, 29, 30, 31, 32, 33, 34, 35, 36, 37, 38, 39, 40, 41] (by decide +kernel) (by decide +kernel)
set_option maxRecDepth 20000 in
theorem gX12_manyIn_X12_of : GoodIn wsX12_manyIn (wsV RX12 211 RX12 yX12_of wsX12_of) := goodIn_app (goodIn_of _ (by decide +kernel)) ggX12_manyIn_X12_of
set_option maxRecDepth 20000 in
theorem ggX12_manyIn_X12_valueIn : GoodIn wsX12_manyIn wsX12_valueIn := goodIn_r _ [9] (by decide +kernel) (by decide +kernel)
set_option maxRecDepth 20000 in
theorem gX12_manyIn_X12_valueIn : GoodIn wsX12_manyIn (va_wsS RX12 208 yX12_valueIn wsX12_valueIn) := goodIn_app (goodIn_of _ (by decide +kernel)) ggX12_manyIn_X12_valueIn
theorem dX12_manyIn_0 : decode cX12_manyIn 0 = .ok (.iload_n 1, 1) := by decide +kernel
theorem dX12_manyIn_1 : decode cX12_manyIn 1 = .ok (.ifCond .lt 10, 3) := by decide +kernel
theorem dX12_manyIn_4 : decode cX12_manyIn 4 = .ok (.aload_n 0, 1) := by decide +kernel
theorem dX12_manyIn_5 : decode cX12_manyIn 5 = .ok (.iload_n 1, 1) := by decide +kernel
theorem dX12_manyIn_6 : decode cX12_manyIn 6 = .ok (.iconst 1, 1) := by decide +kernel
theorem dX12_manyIn_7 : decode cX12_manyIn 7 = .ok (.invokevirtual 211, 3) := by decide +kernel
theorem dX12_manyIn_10 : decode cX12_manyIn 10 = .ok (.ireturn, 1) := by decide +kernel
theorem dX12_manyIn_11 : decode cX12_manyIn 11 = .ok (.iconst 0, 1) := by decide +kernel
theorem dX12_manyIn_12 : decode cX12_manyIn 12 = .ok (.istore_n 2, 1) := by decide +kernel
theorem dX12_manyIn_13 : decode cX12_manyIn 13 = .ok (.iconst 0, 1) := by decide +kernel
theorem dX12_manyIn_14 : decode cX12_manyIn 14 = .ok (.istore_n 3, 1) := by decide +kernel
theorem dX12_manyIn_15 : decode cX12_manyIn 15 = .ok (.iload_n 3, 1) := by decide +kernel
theorem dX12_manyIn_16 : decode cX12_manyIn 16 = .ok (.bipush 7, 2) := by decide +kernel
theorem dX12_manyIn_18 : decode cX12_manyIn 18 = .ok (.if_icmp .ge 26, 3) := by decide +kernel
theorem dX12_manyIn_21 : decode cX12_manyIn 21 = .ok (.iload_n 2, 1) := by decide +kernel
theorem dX12_manyIn_22 : decode cX12_manyIn 22 = .ok (.iload_n 1, 1) := by decide +kernel
theorem dX12_manyIn_23 : decode cX12_manyIn 23 = .ok (.ineg, 1) := by decide +kernel
theorem dX12_manyIn_24 : decode cX12_manyIn 24 = .ok (.iload_n 3, 1) := by decide +kernel
theorem dX12_manyIn_25 : decode cX12_manyIn 25 = .ok (.invokestatic 208, 3) := by decide +kernel
theorem dX12_manyIn_28 : decode cX12_manyIn 28 = .ok (.ifCond .lt 7, 3) := by decide +kernel
theorem dX12_manyIn_31 : decode cX12_manyIn 31 = .ok (.iconst 1, 1) := by decide +kernel
theorem dX12_manyIn_32 : decode cX12_manyIn 32 = .ok (.goto 4, 3) := by decide +kernel
theorem dX12_manyIn_35 : decode cX12_manyIn 35 = .ok (.iconst 0, 1) := by decide +kernel
theorem dX12_manyIn_36 : decode cX12_manyIn 36 = .ok (.iadd, 1) := by decide +kernel
theorem dX12_manyIn_37 : decode cX12_manyIn 37 = .ok (.istore_n 2, 1) := by decide +kernel
theorem dX12_manyIn_38 : decode cX12_manyIn 38 = .ok (.iinc 3 1, 3) := by decide +kernel
theorem dX12_manyIn_41 : decode cX12_manyIn 41 = .ok (.goto (-26), 3) := by decide +kernel
theorem dX12_manyIn_44 : decode cX12_manyIn 44 = .ok (.iload_n 2, 1) := by decide +kernel
theorem dX12_manyIn_45 : decode cX12_manyIn 45 = .ok (.ireturn, 1) := by decide +kernel
set_option maxRecDepth 20000 in
theorem ggX12_memberOf_X12_of : GoodIn wsX12_memberOf wsX12_of := goodIn_r _ [5, 6, 10, 11, 12, 13, 14, 15, 16, 17, 18, 19, 20, 21, 22, 23, 24, 25, 26, 27, 28, 29, 30, 31, 32, 33, 34, 35, 36, 37, 38, 39, 40, 41] (by decide +kernel) (by decide +kernel)
set_option maxRecDepth 20000 in
theorem gX12_memberOf_X12_of : GoodIn wsX12_memberOf (wsV RX12 211 RX12 yX12_of wsX12_of) := goodIn_app (goodIn_of _ (by decide +kernel)) ggX12_memberOf_X12_of
set_option maxRecDepth 20000 in
theorem ggX12_memberOf_X12_valueIn : GoodIn wsX12_memberOf wsX12_valueIn := goodIn_r _ [9] (by decide +kernel) (by decide +kernel)
set_option maxRecDepth 20000 in
theorem gX12_memberOf_X12_valueIn : GoodIn wsX12_memberOf (va_wsS RX12 208 yX12_valueIn wsX12_valueIn) := goodIn_app (goodIn_of _ (by decide +kernel)) ggX12_memberOf_X12_valueIn
theorem dX12_memberOf_0 : decode cX12_memberOf 0 = .ok (.iload_n 1, 1) := by decide +kernel
theorem dX12_memberOf_1 : decode cX12_memberOf 1 = .ok (.ifCond .lt 12, 3) := by decide +kernel
theorem dX12_memberOf_4 : decode cX12_memberOf 4 = .ok (.aload_n 0, 1) := by decide +kernel
theorem dX12_memberOf_5 : decode cX12_memberOf 5 = .ok (.iload_n 1, 1) := by decide +kernel
theorem dX12_memberOf_6 : decode cX12_memberOf 6 = .ok (.iconst 2, 1) := by decide +kernel
theorem dX12_memberOf_7 : decode cX12_memberOf 7 = .ok (.iload_n 2, 1) := by decide +kernel
theorem dX12_memberOf_8 : decode cX12_memberOf 8 = .ok (.iadd, 1) := by decide +kernel
theorem dX12_memberOf_9 : decode cX12_memberOf 9 = .ok (.invokevirtual 211, 3) := by decide +kernel
theorem dX12_memberOf_12 : decode cX12_memberOf 12 = .ok (.ireturn, 1) := by decide +kernel
theorem dX12_memberOf_13 : decode cX12_memberOf 13 = .ok (.iconst 0, 1) := by decide +kernel
theorem dX12_memberOf_14 : decode cX12_memberOf 14 = .ok (.istore_n 3, 1) := by decide +kernel
theorem dX12_memberOf_15 : decode cX12_memberOf 15 = .ok (.iload_n 2, 1) := by decide +kernel
theorem dX12_memberOf_16 : decode cX12_memberOf 16 = .ok (.istore 4, 2) := by decide +kernel
theorem dX12_memberOf_18 : decode cX12_memberOf 18 = .ok (.iload 4, 2) := by decide +kernel
theorem dX12_memberOf_20 : decode cX12_memberOf 20 = .ok (.ifCond .gt 12, 3) := by decide +kernel
theorem dX12_memberOf_23 : decode cX12_memberOf 23 = .ok (.iload_n 1, 1) := by decide +kernel
theorem dX12_memberOf_24 : decode cX12_memberOf 24 = .ok (.ineg, 1) := by decide +kernel
theorem dX12_memberOf_25 : decode cX12_memberOf 25 = .ok (.iload_n 3, 1) := by decide +kernel
theorem dX12_memberOf_26 : decode cX12_memberOf 26 = .ok (.invokestatic 208, 3) := by decide +kernel
theorem dX12_memberOf_29 : decode cX12_memberOf 29 = .ok (.ifCond .ge 28, 3) := by decide +kernel
theorem dX12_memberOf_32 : decode cX12_memberOf 32 = .ok (.iload 4, 2) := by decide +kernel
theorem dX12_memberOf_34 : decode cX12_memberOf 34 = .ok (.iload_n 1, 1) := by decide +kernel
theorem dX12_memberOf_35 : decode cX12_memberOf 35 = .ok (.ineg, 1) := by decide +kernel
theorem dX12_memberOf_36 : decode cX12_memberOf 36 = .ok (.iload_n 3, 1) := by decide +kernel
theorem dX12_memberOf_37 : decode cX12_memberOf 37 = .ok (.invokestatic 208, 3) := by decide +kernel
theorem dX12_memberOf_40 : decode cX12_memberOf 40 = .ok (.ifCond .lt 7, 3) := by decide +kernel
theorem dX12_memberOf_43 : decode cX12_memberOf 43 = .ok (.iconst 1, 1) := by decide +kernel
theorem dX12_memberOf_44 : decode cX12_memberOf 44 = .ok (.goto 4, 3) := by decide +kernel
theorem dX12_memberOf_47 : decode cX12_memberOf 47 = .ok (.iconst 0, 1) := by decide +kernel
theorem dX12_memberOf_48 : decode cX12_memberOf 48 = .ok (.isub, 1) := by decide +kernel
theorem dX12_memberOf_49 : decode cX12_memberOf 49 = .ok (.istore 4, 2) := by decide +kernel
theorem dX12_memberOf_51 : decode cX12_memberOf 51 = .ok (.iinc 3 1, 3) := by decide +kernel
theorem dX12_memberOf_54 : decode cX12_memberOf 54 = .ok (.goto (-36), 3) := by decide +kernel
theorem dX12_memberOf_57 : decode cX12_memberOf 57 = .ok (.iload_n 3, 1) := by decide +kernel
theorem dX12_memberOf_58 : decode cX12_memberOf 58 = .ok (.ireturn, 1) := by decide +kernel
set_option maxRecDepth 20000 in
theorem ggX12_canCount_X12_of : GoodIn wsX12_canCount wsX12_of := goodIn_r _ [5, 6, 10, 11, 12, 13, 14, 15, 16, 17, 18, 19, 20, 21, 22, 23, 24, 25, 26, 27, 28, 29, 30, 31, 32, 33, 34, 35, 36, 37, 38, 39, 40, 41] (by decide +kernel) (by decide +kernel)
set_option maxRecDepth 20000 in
theorem gX12_canCount_X12_of : GoodIn wsX12_canCount (wsV RX12 211 RX12 yX12_of wsX12_of) := goodIn_app (goodIn_of _ (by decide +kernel)) ggX12_canCount_X12_of
set_option maxRecDepth 20000 in
theorem ggX12_canCount_X12_has : GoodIn wsX12_canCount wsX12_has := goodIn_r _ [9] (by decide +kernel) (by decide +kernel)
set_option maxRecDepth 20000 in
theorem gX12_canCount_X12_has : GoodIn wsX12_canCount (va_wsS RX12 178 yX12_has wsX12_has) := goodIn_app (goodIn_of _ (by decide +kernel)) ggX12_canCount_X12_has
theorem dX12_canCount_0 : decode cX12_canCount 0 = .ok (.iconst 0, 1) := by decide +kernel
theorem dX12_canCount_1 : decode cX12_canCount 1 = .ok (.istore_n 3, 1) := by decide +kernel
theorem dX12_canCount_2 : decode cX12_canCount 2 = .ok (.iload_n 3, 1) := by decide +kernel
theorem dX12_canCount_3 : decode cX12_canCount 3 = .ok (.bipush 32, 2) := by decide +kernel
theorem dX12_canCount_5 : decode cX12_canCount 5 = .ok (.if_icmp .ge 177, 3) := by decide +kernel
theorem dX12_canCount_8 : decode cX12_canCount 8 = .ok (.iconst 0, 1) := by decide +kernel
theorem dX12_canCount_9 : decode cX12_canCount 9 = .ok (.istore 4, 2) := by decide +kernel
theorem dX12_canCount_11 : decode cX12_canCount 11 = .ok (.iconst 0, 1) := by decide +kernel
theorem dX12_canCount_12 : decode cX12_canCount 12 = .ok (.istore 5, 2) := by decide +kernel
theorem dX12_canCount_14 : decode cX12_canCount 14 = .ok (.iconst 0, 1) := by decide +kernel
theorem dX12_canCount_15 : decode cX12_canCount 15 = .ok (.istore 6, 2) := by decide +kernel
theorem dX12_canCount_17 : decode cX12_canCount 17 = .ok (.iconst 0, 1) := by decide +kernel
theorem dX12_canCount_18 : decode cX12_canCount 18 = .ok (.istore 7, 2) := by decide +kernel
theorem dX12_canCount_20 : decode cX12_canCount 20 = .ok (.iconst 0, 1) := by decide +kernel
theorem dX12_canCount_21 : decode cX12_canCount 21 = .ok (.istore 8, 2) := by decide +kernel
theorem dX12_canCount_23 : decode cX12_canCount 23 = .ok (.iload 8, 2) := by decide +kernel
theorem dX12_canCount_25 : decode cX12_canCount 25 = .ok (.aload_n 0, 1) := by decide +kernel
theorem dX12_canCount_26 : decode cX12_canCount 26 = .ok (.iload_n 1, 1) := by decide +kernel
theorem dX12_canCount_27 : decode cX12_canCount 27 = .ok (.iconst 1, 1) := by decide +kernel
theorem dX12_canCount_28 : decode cX12_canCount 28 = .ok (.invokevirtual 211, 3) := by decide +kernel
theorem dX12_canCount_31 : decode cX12_canCount 31 = .ok (.if_icmp .ge 58, 3) := by decide +kernel
theorem dX12_canCount_34 : decode cX12_canCount 34 = .ok (.aload_n 2, 1) := by decide +kernel
theorem dX12_canCount_35 : decode cX12_canCount 35 = .ok (.aload_n 0, 1) := by decide +kernel
theorem dX12_canCount_36 : decode cX12_canCount 36 = .ok (.iload_n 1, 1) := by decide +kernel
theorem dX12_canCount_37 : decode cX12_canCount 37 = .ok (.iconst 2, 1) := by decide +kernel
theorem dX12_canCount_38 : decode cX12_canCount 38 = .ok (.iload 8, 2) := by decide +kernel
theorem dX12_canCount_40 : decode cX12_canCount 40 = .ok (.iadd, 1) := by decide +kernel
theorem dX12_canCount_41 : decode cX12_canCount 41 = .ok (.invokevirtual 211, 3) := by decide +kernel
theorem dX12_canCount_44 : decode cX12_canCount 44 = .ok (.iaload, 1) := by decide +kernel
theorem dX12_canCount_45 : decode cX12_canCount 45 = .ok (.istore 9, 2) := by decide +kernel
theorem dX12_canCount_47 : decode cX12_canCount 47 = .ok (.iload 4, 2) := by decide +kernel
theorem dX12_canCount_49 : decode cX12_canCount 49 = .ok (.iload 9, 2) := by decide +kernel
theorem dX12_canCount_51 : decode cX12_canCount 51 = .ok (.iload_n 3, 1) := by decide +kernel
theorem dX12_canCount_52 : decode cX12_canCount 52 = .ok (.iconst (-1), 1) := by decide +kernel
theorem dX12_canCount_53 : decode cX12_canCount 53 = .ok (.ixor, 1) := by decide +kernel
theorem dX12_canCount_54 : decode cX12_canCount 54 = .ok (.iand, 1) := by decide +kernel
theorem dX12_canCount_55 : decode cX12_canCount 55 = .ok (.ifCond .ne 7, 3) := by decide +kernel
theorem dX12_canCount_58 : decode cX12_canCount 58 = .ok (.iconst 1, 1) := by decide +kernel
theorem dX12_canCount_59 : decode cX12_canCount 59 = .ok (.goto 4, 3) := by decide +kernel
theorem dX12_canCount_62 : decode cX12_canCount 62 = .ok (.iconst 0, 1) := by decide +kernel
theorem dX12_canCount_63 : decode cX12_canCount 63 = .ok (.iadd, 1) := by decide +kernel
theorem dX12_canCount_64 : decode cX12_canCount 64 = .ok (.istore 4, 2) := by decide +kernel
theorem dX12_canCount_66 : decode cX12_canCount 66 = .ok (.iload 5, 2) := by decide +kernel
theorem dX12_canCount_68 : decode cX12_canCount 68 = .ok (.iload 9, 2) := by decide +kernel
theorem dX12_canCount_70 : decode cX12_canCount 70 = .ok (.iload_n 3, 1) := by decide +kernel
theorem dX12_canCount_71 : decode cX12_canCount 71 = .ok (.iand, 1) := by decide +kernel
theorem dX12_canCount_72 : decode cX12_canCount 72 = .ok (.ifCond .eq 7, 3) := by decide +kernel
theorem dX12_canCount_75 : decode cX12_canCount 75 = .ok (.iconst 1, 1) := by decide +kernel
theorem dX12_canCount_76 : decode cX12_canCount 76 = .ok (.goto 4, 3) := by decide +kernel
theorem dX12_canCount_79 : decode cX12_canCount 79 = .ok (.iconst 0, 1) := by decide +kernel
theorem dX12_canCount_80 : decode cX12_canCount 80 = .ok (.iadd, 1) := by decide +kernel
theorem dX12_canCount_81 : decode cX12_canCount 81 = .ok (.istore 5, 2) := by decide +kernel
theorem dX12_canCount_83 : decode cX12_canCount 83 = .ok (.iinc 8 1, 3) := by decide +kernel
theorem dX12_canCount_86 : decode cX12_canCount 86 = .ok (.goto (-63), 3) := by decide +kernel
theorem dX12_canCount_89 : decode cX12_canCount 89 = .ok (.iconst 0, 1) := by decide +kernel
theorem dX12_canCount_90 : decode cX12_canCount 90 = .ok (.istore 8, 2) := by decide +kernel
theorem dX12_canCount_92 : decode cX12_canCount 92 = .ok (.iload 8, 2) := by decide +kernel
theorem dX12_canCount_94 : decode cX12_canCount 94 = .ok (.iconst 5, 1) := by decide +kernel
theorem dX12_canCount_95 : decode cX12_canCount 95 = .ok (.if_icmp .ge 65, 3) := by decide +kernel
theorem dX12_canCount_98 : decode cX12_canCount 98 = .ok (.iload 6, 2) := by decide +kernel
theorem dX12_canCount_100 : decode cX12_canCount 100 = .ok (.iload_n 3, 1) := by decide +kernel
theorem dX12_canCount_101 : decode cX12_canCount 101 = .ok (.iload 8, 2) := by decide +kernel
theorem dX12_canCount_103 : decode cX12_canCount 103 = .ok (.invokestatic 178, 3) := by decide +kernel
theorem dX12_canCount_106 : decode cX12_canCount 106 = .ok (.ifCond .eq 16, 3) := by decide +kernel
theorem dX12_canCount_109 : decode cX12_canCount 109 = .ok (.aload_n 0, 1) := by decide +kernel
theorem dX12_canCount_110 : decode cX12_canCount 110 = .ok (.iload_n 1, 1) := by decide +kernel
theorem dX12_canCount_111 : decode cX12_canCount 111 = .ok (.bipush 9, 2) := by decide +kernel
theorem dX12_canCount_113 : decode cX12_canCount 113 = .ok (.iload 8, 2) := by decide +kernel
theorem dX12_canCount_115 : decode cX12_canCount 115 = .ok (.iadd, 1) := by decide +kernel
theorem dX12_canCount_116 : decode cX12_canCount 116 = .ok (.invokevirtual 211, 3) := by decide +kernel
theorem dX12_canCount_119 : decode cX12_canCount 119 = .ok (.goto 4, 3) := by decide +kernel
theorem dX12_canCount_122 : decode cX12_canCount 122 = .ok (.iconst 0, 1) := by decide +kernel
theorem dX12_canCount_123 : decode cX12_canCount 123 = .ok (.iadd, 1) := by decide +kernel
theorem dX12_canCount_124 : decode cX12_canCount 124 = .ok (.istore 6, 2) := by decide +kernel
theorem dX12_canCount_126 : decode cX12_canCount 126 = .ok (.iload 7, 2) := by decide +kernel
theorem dX12_canCount_128 : decode cX12_canCount 128 = .ok (.iload_n 3, 1) := by decide +kernel
theorem dX12_canCount_129 : decode cX12_canCount 129 = .ok (.iload 8, 2) := by decide +kernel
theorem dX12_canCount_131 : decode cX12_canCount 131 = .ok (.invokestatic 178, 3) := by decide +kernel
theorem dX12_canCount_134 : decode cX12_canCount 134 = .ok (.ifCond .eq 16, 3) := by decide +kernel
theorem dX12_canCount_137 : decode cX12_canCount 137 = .ok (.aload_n 0, 1) := by decide +kernel
theorem dX12_canCount_138 : decode cX12_canCount 138 = .ok (.iload_n 1, 1) := by decide +kernel
theorem dX12_canCount_139 : decode cX12_canCount 139 = .ok (.bipush 14, 2) := by decide +kernel
theorem dX12_canCount_141 : decode cX12_canCount 141 = .ok (.iload 8, 2) := by decide +kernel
theorem dX12_canCount_143 : decode cX12_canCount 143 = .ok (.iadd, 1) := by decide +kernel
theorem dX12_canCount_144 : decode cX12_canCount 144 = .ok (.invokevirtual 211, 3) := by decide +kernel
theorem dX12_canCount_147 : decode cX12_canCount 147 = .ok (.goto 4, 3) := by decide +kernel
theorem dX12_canCount_150 : decode cX12_canCount 150 = .ok (.iconst 0, 1) := by decide +kernel
theorem dX12_canCount_151 : decode cX12_canCount 151 = .ok (.iadd, 1) := by decide +kernel
theorem dX12_canCount_152 : decode cX12_canCount 152 = .ok (.istore 7, 2) := by decide +kernel
theorem dX12_canCount_154 : decode cX12_canCount 154 = .ok (.iinc 8 1, 3) := by decide +kernel
theorem dX12_canCount_157 : decode cX12_canCount 157 = .ok (.goto (-65), 3) := by decide +kernel
theorem dX12_canCount_160 : decode cX12_canCount 160 = .ok (.iload 4, 2) := by decide +kernel
theorem dX12_canCount_162 : decode cX12_canCount 162 = .ok (.iload 7, 2) := by decide +kernel
theorem dX12_canCount_164 : decode cX12_canCount 164 = .ok (.if_icmp .gt 10, 3) := by decide +kernel
theorem dX12_canCount_167 : decode cX12_canCount 167 = .ok (.iload 5, 2) := by decide +kernel
theorem dX12_canCount_169 : decode cX12_canCount 169 = .ok (.iload 6, 2) := by decide +kernel
theorem dX12_canCount_171 : decode cX12_canCount 171 = .ok (.if_icmp .ge 5, 3) := by decide +kernel
theorem dX12_canCount_174 : decode cX12_canCount 174 = .ok (.iconst 0, 1) := by decide +kernel
theorem dX12_canCount_175 : decode cX12_canCount 175 = .ok (.ireturn, 1) := by decide +kernel
theorem dX12_canCount_176 : decode cX12_canCount 176 = .ok (.iinc 3 1, 3) := by decide +kernel
theorem dX12_canCount_179 : decode cX12_canCount 179 = .ok (.goto (-177), 3) := by decide +kernel
theorem dX12_canCount_182 : decode cX12_canCount 182 = .ok (.iconst 1, 1) := by decide +kernel
theorem dX12_canCount_183 : decode cX12_canCount 183 = .ok (.ireturn, 1) := by decide +kernel
set_option maxRecDepth 20000 in
theorem ggX12_canSlide_X12_of : GoodIn wsX12_canSlide wsX12_of := goodIn_r _ [5, 6, 16, 17, 18, 19, 20, 21, 22, 23, 24, 25, 26, 27, 28, 29, 30, 31, 32, 33, 34, 35, 36, 37, 38, 39, 40, 41, 42, 43, 44, 45, 46, 47] (by decide +kernel) (by decide +kernel)
set_option maxRecDepth 20000 in
theorem gX12_canSlide_X12_of : GoodIn wsX12_canSlide (wsV RX12 211 RX12 yX12_of wsX12_of) := goodIn_app (goodIn_of _ (by decide +kernel)) ggX12_canSlide_X12_of
set_option maxRecDepth 20000 in
theorem ggX12_canSlide_X12_has : GoodIn wsX12_canSlide wsX12_has := goodIn_r _ [9] (by decide +kernel) (by decide +kernel)
set_option maxRecDepth 20000 in
theorem gX12_canSlide_X12_has : GoodIn wsX12_canSlide (va_wsS RX12 178 yX12_has wsX12_has) := goodIn_app (goodIn_of _ (by decide +kernel)) ggX12_canSlide_X12_has
set_option maxRecDepth 20000 in
theorem ggX12_canSlide_X12_sizeOf : GoodIn wsX12_canSlide wsX12_sizeOf := goodIn_r _ [12] (by decide +kernel) (by decide +kernel)
set_option maxRecDepth 20000 in
theorem gX12_canSlide_X12_sizeOf : GoodIn wsX12_canSlide (va_wsS RX12 214 yX12_sizeOf wsX12_sizeOf) := goodIn_app (goodIn_of _ (by decide +kernel)) ggX12_canSlide_X12_sizeOf
set_option maxRecDepth 20000 in
theorem ggX12_canSlide_X12_isIn : GoodIn wsX12_canSlide wsX12_isIn := goodIn_r _ [15] (by decide +kernel) (by decide +kernel)
set_option maxRecDepth 20000 in
theorem gX12_canSlide_X12_isIn : GoodIn wsX12_canSlide (va_wsS RX12 100 yX12_isIn wsX12_isIn) := goodIn_app (goodIn_of _ (by decide +kernel)) ggX12_canSlide_X12_isIn
theorem dX12_canSlide_0 : decode cX12_canSlide 0 = .ok (.aload_n 0, 1) := by decide +kernel
theorem dX12_canSlide_1 : decode cX12_canSlide 1 = .ok (.iload_n 1, 1) := by decide +kernel
theorem dX12_canSlide_2 : decode cX12_canSlide 2 = .ok (.bipush 9, 2) := by decide +kernel
theorem dX12_canSlide_4 : decode cX12_canSlide 4 = .ok (.invokevirtual 211, 3) := by decide +kernel
theorem dX12_canSlide_7 : decode cX12_canSlide 7 = .ok (.istore_n 3, 1) := by decide +kernel
theorem dX12_canSlide_8 : decode cX12_canSlide 8 = .ok (.iconst 1, 1) := by decide +kernel
theorem dX12_canSlide_9 : decode cX12_canSlide 9 = .ok (.istore 4, 2) := by decide +kernel
theorem dX12_canSlide_11 : decode cX12_canSlide 11 = .ok (.iconst 0, 1) := by decide +kernel
theorem dX12_canSlide_12 : decode cX12_canSlide 12 = .ok (.istore 5, 2) := by decide +kernel
theorem dX12_canSlide_14 : decode cX12_canSlide 14 = .ok (.iload 5, 2) := by decide +kernel
theorem dX12_canSlide_16 : decode cX12_canSlide 16 = .ok (.aload_n 0, 1) := by decide +kernel
theorem dX12_canSlide_17 : decode cX12_canSlide 17 = .ok (.iload_n 1, 1) := by decide +kernel
theorem dX12_canSlide_18 : decode cX12_canSlide 18 = .ok (.iconst 1, 1) := by decide +kernel
theorem dX12_canSlide_19 : decode cX12_canSlide 19 = .ok (.invokevirtual 211, 3) := by decide +kernel
theorem dX12_canSlide_22 : decode cX12_canSlide 22 = .ok (.if_icmp .ge 189, 3) := by decide +kernel
theorem dX12_canSlide_25 : decode cX12_canSlide 25 = .ok (.aload_n 2, 1) := by decide +kernel
theorem dX12_canSlide_26 : decode cX12_canSlide 26 = .ok (.aload_n 0, 1) := by decide +kernel
theorem dX12_canSlide_27 : decode cX12_canSlide 27 = .ok (.iload_n 1, 1) := by decide +kernel
theorem dX12_canSlide_28 : decode cX12_canSlide 28 = .ok (.iconst 2, 1) := by decide +kernel
theorem dX12_canSlide_29 : decode cX12_canSlide 29 = .ok (.iload 5, 2) := by decide +kernel
theorem dX12_canSlide_31 : decode cX12_canSlide 31 = .ok (.iadd, 1) := by decide +kernel
theorem dX12_canSlide_32 : decode cX12_canSlide 32 = .ok (.invokevirtual 211, 3) := by decide +kernel
theorem dX12_canSlide_35 : decode cX12_canSlide 35 = .ok (.iaload, 1) := by decide +kernel
theorem dX12_canSlide_36 : decode cX12_canSlide 36 = .ok (.istore 6, 2) := by decide +kernel
theorem dX12_canSlide_38 : decode cX12_canSlide 38 = .ok (.iconst 0, 1) := by decide +kernel
theorem dX12_canSlide_39 : decode cX12_canSlide 39 = .ok (.istore 7, 2) := by decide +kernel
theorem dX12_canSlide_41 : decode cX12_canSlide 41 = .ok (.iconst 0, 1) := by decide +kernel
theorem dX12_canSlide_42 : decode cX12_canSlide 42 = .ok (.istore 8, 2) := by decide +kernel
theorem dX12_canSlide_44 : decode cX12_canSlide 44 = .ok (.iload 8, 2) := by decide +kernel
theorem dX12_canSlide_46 : decode cX12_canSlide 46 = .ok (.bipush 16, 2) := by decide +kernel
theorem dX12_canSlide_48 : decode cX12_canSlide 48 = .ok (.if_icmp .ge 153, 3) := by decide +kernel
theorem dX12_canSlide_51 : decode cX12_canSlide 51 = .ok (.iload 4, 2) := by decide +kernel
theorem dX12_canSlide_53 : decode cX12_canSlide 53 = .ok (.iload 8, 2) := by decide +kernel
theorem dX12_canSlide_55 : decode cX12_canSlide 55 = .ok (.invokestatic 178, 3) := by decide +kernel
theorem dX12_canSlide_58 : decode cX12_canSlide 58 = .ok (.ifCond .ne 6, 3) := by decide +kernel
theorem dX12_canSlide_61 : decode cX12_canSlide 61 = .ok (.goto 134, 3) := by decide +kernel
theorem dX12_canSlide_64 : decode cX12_canSlide 64 = .ok (.iconst 0, 1) := by decide +kernel
theorem dX12_canSlide_65 : decode cX12_canSlide 65 = .ok (.istore 9, 2) := by decide +kernel
theorem dX12_canSlide_67 : decode cX12_canSlide 67 = .ok (.iload 9, 2) := by decide +kernel
theorem dX12_canSlide_69 : decode cX12_canSlide 69 = .ok (.iconst 2, 1) := by decide +kernel
theorem dX12_canSlide_70 : decode cX12_canSlide 70 = .ok (.if_icmp .ge 125, 3) := by decide +kernel
theorem dX12_canSlide_73 : decode cX12_canSlide 73 = .ok (.iload 8, 2) := by decide +kernel
theorem dX12_canSlide_75 : decode cX12_canSlide 75 = .ok (.iconst 1, 1) := by decide +kernel
theorem dX12_canSlide_76 : decode cX12_canSlide 76 = .ok (.ishl, 1) := by decide +kernel
theorem dX12_canSlide_77 : decode cX12_canSlide 77 = .ok (.iload 9, 2) := by decide +kernel
theorem dX12_canSlide_79 : decode cX12_canSlide 79 = .ok (.ior, 1) := by decide +kernel
theorem dX12_canSlide_80 : decode cX12_canSlide 80 = .ok (.iconst 1, 1) := by decide +kernel
theorem dX12_canSlide_81 : decode cX12_canSlide 81 = .ok (.iload_n 3, 1) := by decide +kernel
theorem dX12_canSlide_82 : decode cX12_canSlide 82 = .ok (.ishl, 1) := by decide +kernel
theorem dX12_canSlide_83 : decode cX12_canSlide 83 = .ok (.iconst 1, 1) := by decide +kernel
theorem dX12_canSlide_84 : decode cX12_canSlide 84 = .ok (.isub, 1) := by decide +kernel
theorem dX12_canSlide_85 : decode cX12_canSlide 85 = .ok (.iand, 1) := by decide +kernel
theorem dX12_canSlide_86 : decode cX12_canSlide 86 = .ok (.istore 10, 2) := by decide +kernel
theorem dX12_canSlide_88 : decode cX12_canSlide 88 = .ok (.iload 6, 2) := by decide +kernel
theorem dX12_canSlide_90 : decode cX12_canSlide 90 = .ok (.iload 9, 2) := by decide +kernel
theorem dX12_canSlide_92 : decode cX12_canSlide 92 = .ok (.iconst 1, 1) := by decide +kernel
theorem dX12_canSlide_93 : decode cX12_canSlide 93 = .ok (.if_icmp .ne 13, 3) := by decide +kernel
theorem dX12_canSlide_96 : decode cX12_canSlide 96 = .ok (.aload_n 0, 1) := by decide +kernel
theorem dX12_canSlide_97 : decode cX12_canSlide 97 = .ok (.iload_n 1, 1) := by decide +kernel
theorem dX12_canSlide_98 : decode cX12_canSlide 98 = .ok (.bipush 10, 2) := by decide +kernel
theorem dX12_canSlide_100 : decode cX12_canSlide 100 = .ok (.invokevirtual 211, 3) := by decide +kernel
theorem dX12_canSlide_103 : decode cX12_canSlide 103 = .ok (.goto 12, 3) := by decide +kernel
theorem dX12_canSlide_106 : decode cX12_canSlide 106 = .ok (.aload_n 0, 1) := by decide +kernel
theorem dX12_canSlide_107 : decode cX12_canSlide 107 = .ok (.iload_n 1, 1) := by decide +kernel
theorem dX12_canSlide_108 : decode cX12_canSlide 108 = .ok (.bipush 10, 2) := by decide +kernel
theorem dX12_canSlide_110 : decode cX12_canSlide 110 = .ok (.invokevirtual 211, 3) := by decide +kernel
theorem dX12_canSlide_113 : decode cX12_canSlide 113 = .ok (.iconst (-1), 1) := by decide +kernel
theorem dX12_canSlide_114 : decode cX12_canSlide 114 = .ok (.ixor, 1) := by decide +kernel
theorem dX12_canSlide_115 : decode cX12_canSlide 115 = .ok (.iand, 1) := by decide +kernel
theorem dX12_canSlide_116 : decode cX12_canSlide 116 = .ok (.ifCond .eq 7, 3) := by decide +kernel
theorem dX12_canSlide_119 : decode cX12_canSlide 119 = .ok (.iconst 1, 1) := by decide +kernel
theorem dX12_canSlide_120 : decode cX12_canSlide 120 = .ok (.goto 4, 3) := by decide +kernel
theorem dX12_canSlide_123 : decode cX12_canSlide 123 = .ok (.iconst 0, 1) := by decide +kernel
theorem dX12_canSlide_124 : decode cX12_canSlide 124 = .ok (.istore 11, 2) := by decide +kernel
theorem dX12_canSlide_126 : decode cX12_canSlide 126 = .ok (.iload 5, 2) := by decide +kernel
theorem dX12_canSlide_128 : decode cX12_canSlide 128 = .ok (.iconst 1, 1) := by decide +kernel
theorem dX12_canSlide_129 : decode cX12_canSlide 129 = .ok (.iadd, 1) := by decide +kernel
theorem dX12_canSlide_130 : decode cX12_canSlide 130 = .ok (.iload_n 3, 1) := by decide +kernel
theorem dX12_canSlide_131 : decode cX12_canSlide 131 = .ok (.if_icmp .lt 28, 3) := by decide +kernel
theorem dX12_canSlide_134 : decode cX12_canSlide 134 = .ok (.iload 10, 2) := by decide +kernel
theorem dX12_canSlide_136 : decode cX12_canSlide 136 = .ok (.invokestatic 214, 3) := by decide +kernel
theorem dX12_canSlide_139 : decode cX12_canSlide 139 = .ok (.aload_n 0, 1) := by decide +kernel
theorem dX12_canSlide_140 : decode cX12_canSlide 140 = .ok (.iload_n 1, 1) := by decide +kernel
theorem dX12_canSlide_141 : decode cX12_canSlide 141 = .ok (.bipush 11, 2) := by decide +kernel
theorem dX12_canSlide_143 : decode cX12_canSlide 143 = .ok (.invokevirtual 211, 3) := by decide +kernel
theorem dX12_canSlide_146 : decode cX12_canSlide 146 = .ok (.aload_n 0, 1) := by decide +kernel
theorem dX12_canSlide_147 : decode cX12_canSlide 147 = .ok (.iload_n 1, 1) := by decide +kernel
theorem dX12_canSlide_148 : decode cX12_canSlide 148 = .ok (.bipush 12, 2) := by decide +kernel
theorem dX12_canSlide_150 : decode cX12_canSlide 150 = .ok (.invokevirtual 211, 3) := by decide +kernel
theorem dX12_canSlide_153 : decode cX12_canSlide 153 = .ok (.invokestatic 100, 3) := by decide +kernel
theorem dX12_canSlide_156 : decode cX12_canSlide 156 = .ok (.ifCond .eq 7, 3) := by decide +kernel
theorem dX12_canSlide_159 : decode cX12_canSlide 159 = .ok (.iconst 1, 1) := by decide +kernel
theorem dX12_canSlide_160 : decode cX12_canSlide 160 = .ok (.goto 4, 3) := by decide +kernel
theorem dX12_canSlide_163 : decode cX12_canSlide 163 = .ok (.iconst 0, 1) := by decide +kernel
theorem dX12_canSlide_164 : decode cX12_canSlide 164 = .ok (.istore 12, 2) := by decide +kernel
theorem dX12_canSlide_166 : decode cX12_canSlide 166 = .ok (.iload 7, 2) := by decide +kernel
theorem dX12_canSlide_168 : decode cX12_canSlide 168 = .ok (.iload 11, 2) := by decide +kernel
theorem dX12_canSlide_170 : decode cX12_canSlide 170 = .ok (.ifCond .eq 15, 3) := by decide +kernel
theorem dX12_canSlide_173 : decode cX12_canSlide 173 = .ok (.iload 12, 2) := by decide +kernel
theorem dX12_canSlide_175 : decode cX12_canSlide 175 = .ok (.ifCond .eq 10, 3) := by decide +kernel
theorem dX12_canSlide_178 : decode cX12_canSlide 178 = .ok (.iconst 1, 1) := by decide +kernel
theorem dX12_canSlide_179 : decode cX12_canSlide 179 = .ok (.iload 10, 2) := by decide +kernel
theorem dX12_canSlide_181 : decode cX12_canSlide 181 = .ok (.ishl, 1) := by decide +kernel
theorem dX12_canSlide_182 : decode cX12_canSlide 182 = .ok (.goto 4, 3) := by decide +kernel
theorem dX12_canSlide_185 : decode cX12_canSlide 185 = .ok (.iconst 0, 1) := by decide +kernel
theorem dX12_canSlide_186 : decode cX12_canSlide 186 = .ok (.ior, 1) := by decide +kernel
theorem dX12_canSlide_187 : decode cX12_canSlide 187 = .ok (.istore 7, 2) := by decide +kernel
theorem dX12_canSlide_189 : decode cX12_canSlide 189 = .ok (.iinc 9 1, 3) := by decide +kernel
theorem dX12_canSlide_192 : decode cX12_canSlide 192 = .ok (.goto (-125), 3) := by decide +kernel
theorem dX12_canSlide_195 : decode cX12_canSlide 195 = .ok (.iinc 8 1, 3) := by decide +kernel
theorem dX12_canSlide_198 : decode cX12_canSlide 198 = .ok (.goto (-154), 3) := by decide +kernel
theorem dX12_canSlide_201 : decode cX12_canSlide 201 = .ok (.iload 7, 2) := by decide +kernel
theorem dX12_canSlide_203 : decode cX12_canSlide 203 = .ok (.istore 4, 2) := by decide +kernel
theorem dX12_canSlide_205 : decode cX12_canSlide 205 = .ok (.iinc 5 1, 3) := by decide +kernel
theorem dX12_canSlide_208 : decode cX12_canSlide 208 = .ok (.goto (-194), 3) := by decide +kernel
theorem dX12_canSlide_211 : decode cX12_canSlide 211 = .ok (.iload 4, 2) := by decide +kernel
theorem dX12_canSlide_213 : decode cX12_canSlide 213 = .ok (.ifCond .eq 7, 3) := by decide +kernel
theorem dX12_canSlide_216 : decode cX12_canSlide 216 = .ok (.iconst 1, 1) := by decide +kernel
theorem dX12_canSlide_217 : decode cX12_canSlide 217 = .ok (.goto 4, 3) := by decide +kernel
theorem dX12_canSlide_220 : decode cX12_canSlide 220 = .ok (.iconst 0, 1) := by decide +kernel
theorem dX12_canSlide_221 : decode cX12_canSlide 221 = .ok (.ireturn, 1) := by decide +kernel
set_option maxRecDepth 20000 in
theorem ggX12_canBeLess_X12_has : GoodIn wsX12_canBeLess wsX12_has := goodIn_r _ [4] (by decide +kernel) (by decide +kernel)
set_option maxRecDepth 20000 in
theorem gX12_canBeLess_X12_has : GoodIn wsX12_canBeLess (va_wsS RX12 178 yX12_has wsX12_has) := goodIn_app (goodIn_of _ (by decide +kernel)) ggX12_canBeLess_X12_has
theorem dX12_canBeLess_0 : decode cX12_canBeLess 0 = .ok (.iconst 0, 1) := by decide +kernel
theorem dX12_canBeLess_1 : decode cX12_canBeLess 1 = .ok (.istore_n 3, 1) := by decide +kernel
theorem dX12_canBeLess_2 : decode cX12_canBeLess 2 = .ok (.iload_n 3, 1) := by decide +kernel
theorem dX12_canBeLess_3 : decode cX12_canBeLess 3 = .ok (.iconst 5, 1) := by decide +kernel
theorem dX12_canBeLess_4 : decode cX12_canBeLess 4 = .ok (.if_icmp .ge 27, 3) := by decide +kernel
theorem dX12_canBeLess_7 : decode cX12_canBeLess 7 = .ok (.iload_n 1, 1) := by decide +kernel
theorem dX12_canBeLess_8 : decode cX12_canBeLess 8 = .ok (.iload_n 3, 1) := by decide +kernel
theorem dX12_canBeLess_9 : decode cX12_canBeLess 9 = .ok (.invokestatic 178, 3) := by decide +kernel
theorem dX12_canBeLess_12 : decode cX12_canBeLess 12 = .ok (.ifCond .eq 13, 3) := by decide +kernel
theorem dX12_canBeLess_15 : decode cX12_canBeLess 15 = .ok (.iload_n 2, 1) := by decide +kernel
theorem dX12_canBeLess_16 : decode cX12_canBeLess 16 = .ok (.iload_n 3, 1) := by decide +kernel
theorem dX12_canBeLess_17 : decode cX12_canBeLess 17 = .ok (.iconst 1, 1) := by decide +kernel
theorem dX12_canBeLess_18 : decode cX12_canBeLess 18 = .ok (.iadd, 1) := by decide +kernel
theorem dX12_canBeLess_19 : decode cX12_canBeLess 19 = .ok (.ishr, 1) := by decide +kernel
theorem dX12_canBeLess_20 : decode cX12_canBeLess 20 = .ok (.ifCond .eq 5, 3) := by decide +kernel
theorem dX12_canBeLess_23 : decode cX12_canBeLess 23 = .ok (.iconst 1, 1) := by decide +kernel
theorem dX12_canBeLess_24 : decode cX12_canBeLess 24 = .ok (.ireturn, 1) := by decide +kernel
theorem dX12_canBeLess_25 : decode cX12_canBeLess 25 = .ok (.iinc 3 1, 3) := by decide +kernel
theorem dX12_canBeLess_28 : decode cX12_canBeLess 28 = .ok (.goto (-26), 3) := by decide +kernel
theorem dX12_canBeLess_31 : decode cX12_canBeLess 31 = .ok (.iconst 0, 1) := by decide +kernel
theorem dX12_canBeLess_32 : decode cX12_canBeLess 32 = .ok (.ireturn, 1) := by decide +kernel
set_option maxRecDepth 20000 in
theorem ggX12_canDiffer_X12_sizeOf : GoodIn wsX12_canDiffer wsX12_sizeOf := goodIn_r _ [4] (by decide +kernel) (by decide +kernel)
set_option maxRecDepth 20000 in
theorem gX12_canDiffer_X12_sizeOf : GoodIn wsX12_canDiffer (va_wsS RX12 214 yX12_sizeOf wsX12_sizeOf) := goodIn_app (goodIn_of _ (by decide +kernel)) ggX12_canDiffer_X12_sizeOf
theorem dX12_canDiffer_0 : decode cX12_canDiffer 0 = .ok (.iload_n 1, 1) := by decide +kernel
theorem dX12_canDiffer_1 : decode cX12_canDiffer 1 = .ok (.ifCond .eq 24, 3) := by decide +kernel
theorem dX12_canDiffer_4 : decode cX12_canDiffer 4 = .ok (.iload_n 2, 1) := by decide +kernel
theorem dX12_canDiffer_5 : decode cX12_canDiffer 5 = .ok (.ifCond .eq 20, 3) := by decide +kernel
theorem dX12_canDiffer_8 : decode cX12_canDiffer 8 = .ok (.iload_n 1, 1) := by decide +kernel
theorem dX12_canDiffer_9 : decode cX12_canDiffer 9 = .ok (.iload_n 2, 1) := by decide +kernel
theorem dX12_canDiffer_10 : decode cX12_canDiffer 10 = .ok (.if_icmp .ne 11, 3) := by decide +kernel
theorem dX12_canDiffer_13 : decode cX12_canDiffer 13 = .ok (.iload_n 1, 1) := by decide +kernel
theorem dX12_canDiffer_14 : decode cX12_canDiffer 14 = .ok (.invokestatic 214, 3) := by decide +kernel
theorem dX12_canDiffer_17 : decode cX12_canDiffer 17 = .ok (.iconst 1, 1) := by decide +kernel
theorem dX12_canDiffer_18 : decode cX12_canDiffer 18 = .ok (.if_icmp .le 7, 3) := by decide +kernel
theorem dX12_canDiffer_21 : decode cX12_canDiffer 21 = .ok (.iconst 1, 1) := by decide +kernel
theorem dX12_canDiffer_22 : decode cX12_canDiffer 22 = .ok (.goto 4, 3) := by decide +kernel
theorem dX12_canDiffer_25 : decode cX12_canDiffer 25 = .ok (.iconst 0, 1) := by decide +kernel
theorem dX12_canDiffer_26 : decode cX12_canDiffer 26 = .ok (.ireturn, 1) := by decide +kernel
set_option maxRecDepth 20000 in
theorem ggX12_canLeave_X12_valueIn : GoodIn wsX12_canLeave wsX12_valueIn := goodIn_r _ [4] (by decide +kernel) (by decide +kernel)
set_option maxRecDepth 20000 in
theorem gX12_canLeave_X12_valueIn : GoodIn wsX12_canLeave (va_wsS RX12 208 yX12_valueIn wsX12_valueIn) := goodIn_app (goodIn_of _ (by decide +kernel)) ggX12_canLeave_X12_valueIn
theorem dX12_canLeave_0 : decode cX12_canLeave 0 = .ok (.iconst 0, 1) := by decide +kernel
theorem dX12_canLeave_1 : decode cX12_canLeave 1 = .ok (.istore_n 3, 1) := by decide +kernel
theorem dX12_canLeave_2 : decode cX12_canLeave 2 = .ok (.iconst 0, 1) := by decide +kernel
theorem dX12_canLeave_3 : decode cX12_canLeave 3 = .ok (.istore 4, 2) := by decide +kernel
theorem dX12_canLeave_5 : decode cX12_canLeave 5 = .ok (.iload 4, 2) := by decide +kernel
theorem dX12_canLeave_7 : decode cX12_canLeave 7 = .ok (.bipush 7, 2) := by decide +kernel
theorem dX12_canLeave_9 : decode cX12_canLeave 9 = .ok (.if_icmp .ge 58, 3) := by decide +kernel
theorem dX12_canLeave_12 : decode cX12_canLeave 12 = .ok (.iload_n 1, 1) := by decide +kernel
theorem dX12_canLeave_13 : decode cX12_canLeave 13 = .ok (.iload 4, 2) := by decide +kernel
theorem dX12_canLeave_15 : decode cX12_canLeave 15 = .ok (.invokestatic 208, 3) := by decide +kernel
theorem dX12_canLeave_18 : decode cX12_canLeave 18 = .ok (.istore 5, 2) := by decide +kernel
theorem dX12_canLeave_20 : decode cX12_canLeave 20 = .ok (.iload 5, 2) := by decide +kernel
theorem dX12_canLeave_22 : decode cX12_canLeave 22 = .ok (.ifCond .ge 6, 3) := by decide +kernel
theorem dX12_canLeave_25 : decode cX12_canLeave 25 = .ok (.goto 36, 3) := by decide +kernel
theorem dX12_canLeave_28 : decode cX12_canLeave 28 = .ok (.aload_n 2, 1) := by decide +kernel
theorem dX12_canLeave_29 : decode cX12_canLeave 29 = .ok (.iload 4, 2) := by decide +kernel
theorem dX12_canLeave_31 : decode cX12_canLeave 31 = .ok (.iaload, 1) := by decide +kernel
theorem dX12_canLeave_32 : decode cX12_canLeave 32 = .ok (.ifCond .ne 5, 3) := by decide +kernel
theorem dX12_canLeave_35 : decode cX12_canLeave 35 = .ok (.iconst 0, 1) := by decide +kernel
theorem dX12_canLeave_36 : decode cX12_canLeave 36 = .ok (.ireturn, 1) := by decide +kernel
theorem dX12_canLeave_37 : decode cX12_canLeave 37 = .ok (.iload_n 3, 1) := by decide +kernel
theorem dX12_canLeave_38 : decode cX12_canLeave 38 = .ok (.ifCond .ne 17, 3) := by decide +kernel
theorem dX12_canLeave_41 : decode cX12_canLeave 41 = .ok (.aload_n 2, 1) := by decide +kernel
theorem dX12_canLeave_42 : decode cX12_canLeave 42 = .ok (.iload 4, 2) := by decide +kernel
theorem dX12_canLeave_44 : decode cX12_canLeave 44 = .ok (.iaload, 1) := by decide +kernel
theorem dX12_canLeave_45 : decode cX12_canLeave 45 = .ok (.iconst 1, 1) := by decide +kernel
theorem dX12_canLeave_46 : decode cX12_canLeave 46 = .ok (.iload 5, 2) := by decide +kernel
theorem dX12_canLeave_48 : decode cX12_canLeave 48 = .ok (.ishl, 1) := by decide +kernel
theorem dX12_canLeave_49 : decode cX12_canLeave 49 = .ok (.iconst (-1), 1) := by decide +kernel
theorem dX12_canLeave_50 : decode cX12_canLeave 50 = .ok (.ixor, 1) := by decide +kernel
theorem dX12_canLeave_51 : decode cX12_canLeave 51 = .ok (.iand, 1) := by decide +kernel
theorem dX12_canLeave_52 : decode cX12_canLeave 52 = .ok (.ifCond .eq 7, 3) := by decide +kernel
theorem dX12_canLeave_55 : decode cX12_canLeave 55 = .ok (.iconst 1, 1) := by decide +kernel
theorem dX12_canLeave_56 : decode cX12_canLeave 56 = .ok (.goto 4, 3) := by decide +kernel
theorem dX12_canLeave_59 : decode cX12_canLeave 59 = .ok (.iconst 0, 1) := by decide +kernel
theorem dX12_canLeave_60 : decode cX12_canLeave 60 = .ok (.istore_n 3, 1) := by decide +kernel
theorem dX12_canLeave_61 : decode cX12_canLeave 61 = .ok (.iinc 4 1, 3) := by decide +kernel
theorem dX12_canLeave_64 : decode cX12_canLeave 64 = .ok (.goto (-59), 3) := by decide +kernel
theorem dX12_canLeave_67 : decode cX12_canLeave 67 = .ok (.iload_n 3, 1) := by decide +kernel
theorem dX12_canLeave_68 : decode cX12_canLeave 68 = .ok (.ireturn, 1) := by decide +kernel
set_option maxRecDepth 20000 in
theorem ggX12_can_X12_canLeave : GoodIn wsX12_can wsX12_canLeave := goodIn_r _ [5, 6, 7, 4, 8] (by decide +kernel) (by decide +kernel)
set_option maxRecDepth 20000 in
theorem gX12_can_X12_canLeave : GoodIn wsX12_can (wsV RX12 217 RX12 yX12_canLeave wsX12_canLeave) := goodIn_app (goodIn_of _ (by decide +kernel)) ggX12_can_X12_canLeave
set_option maxRecDepth 20000 in
theorem ggX12_can_X12_of : GoodIn wsX12_can wsX12_of := goodIn_r _ [12, 13, 39, 40, 41, 42, 43, 44, 45, 46, 47, 48, 49, 50, 51, 52, 53, 54, 55, 56, 57, 58, 59, 60, 61, 62, 63, 64, 65, 66, 67, 68, 69, 70] (by decide +kernel) (by decide +kernel)
set_option maxRecDepth 20000 in
theorem gX12_can_X12_of : GoodIn wsX12_can (wsV RX12 211 RX12 yX12_of wsX12_of) := goodIn_app (goodIn_of _ (by decide +kernel)) ggX12_can_X12_of
set_option maxRecDepth 20000 in
theorem ggX12_can_X12_canCount : GoodIn wsX12_can wsX12_canCount := goodIn_r _ [17, 9, 10, 11, 4, 12, 13, 18, 19, 20, 39, 40, 41, 42, 43, 44, 45, 46, 47, 48, 49, 50, 51, 52, 53, 54, 55, 56, 57, 58, 59, 60, 61, 62, 63, 64, 65, 66, 67, 68, 69, 70] (by decide +kernel) (by decide +kernel)
set_option maxRecDepth 20000 in
theorem gX12_can_X12_canCount : GoodIn wsX12_can (wsV RX12 221 RX12 yX12_canCount wsX12_canCount) := goodIn_app (goodIn_of _ (by decide +kernel)) ggX12_can_X12_canCount
set_option maxRecDepth 20000 in
theorem ggX12_can_X12_canSlide : GoodIn wsX12_can wsX12_canSlide := goodIn_r _ [24, 9, 10, 11, 4, 12, 13, 18, 19, 20, 25, 26, 27, 28, 29, 30, 39, 40, 41, 42, 43, 44, 45, 46, 47, 48, 49, 50, 51, 52, 53, 54, 55, 56, 57, 58, 59, 60, 61, 62, 63, 64, 65, 66, 67, 68, 69, 70] (by decide +kernel) (by decide +kernel)
set_option maxRecDepth 20000 in
theorem gX12_can_X12_canSlide : GoodIn wsX12_can (wsV RX12 224 RX12 yX12_canSlide wsX12_canSlide) := goodIn_app (goodIn_of _ (by decide +kernel)) ggX12_can_X12_canSlide
set_option maxRecDepth 20000 in
theorem ggX12_can_X12_canBeLess : GoodIn wsX12_can wsX12_canBeLess := goodIn_r _ [34, 18, 19, 4, 20] (by decide +kernel) (by decide +kernel)
set_option maxRecDepth 20000 in
theorem gX12_can_X12_canBeLess : GoodIn wsX12_can (wsV RX12 227 RX12 yX12_canBeLess wsX12_canBeLess) := goodIn_app (goodIn_of _ (by decide +kernel)) ggX12_can_X12_canBeLess
set_option maxRecDepth 20000 in
theorem ggX12_can_X12_canDiffer : GoodIn wsX12_can wsX12_canDiffer := goodIn_r _ [38, 25, 26, 4, 27] (by decide +kernel) (by decide +kernel)
set_option maxRecDepth 20000 in
theorem gX12_can_X12_canDiffer : GoodIn wsX12_can (wsV RX12 230 RX12 yX12_canDiffer wsX12_canDiffer) := goodIn_app (goodIn_of _ (by decide +kernel)) ggX12_can_X12_canDiffer
theorem dX12_can_0 : decode cX12_can 0 = .ok (.iload_n 1, 1) := by decide +kernel
theorem dX12_can_1 : decode cX12_can 1 = .ok (.ifCond .ge 11, 3) := by decide +kernel
theorem dX12_can_4 : decode cX12_can 4 = .ok (.aload_n 0, 1) := by decide +kernel
theorem dX12_can_5 : decode cX12_can 5 = .ok (.iload_n 1, 1) := by decide +kernel
theorem dX12_can_6 : decode cX12_can 6 = .ok (.ineg, 1) := by decide +kernel
theorem dX12_can_7 : decode cX12_can 7 = .ok (.aload_n 2, 1) := by decide +kernel
theorem dX12_can_8 : decode cX12_can 8 = .ok (.invokevirtual 217, 3) := by decide +kernel
theorem dX12_can_11 : decode cX12_can 11 = .ok (.ireturn, 1) := by decide +kernel
theorem dX12_can_12 : decode cX12_can 12 = .ok (.aload_n 2, 1) := by decide +kernel
theorem dX12_can_13 : decode cX12_can 13 = .ok (.aload_n 0, 1) := by decide +kernel
theorem dX12_can_14 : decode cX12_can 14 = .ok (.iload_n 1, 1) := by decide +kernel
theorem dX12_can_15 : decode cX12_can 15 = .ok (.iconst 2, 1) := by decide +kernel
theorem dX12_can_16 : decode cX12_can 16 = .ok (.invokevirtual 211, 3) := by decide +kernel
theorem dX12_can_19 : decode cX12_can 19 = .ok (.iaload, 1) := by decide +kernel
theorem dX12_can_20 : decode cX12_can 20 = .ok (.istore_n 3, 1) := by decide +kernel
theorem dX12_can_21 : decode cX12_can 21 = .ok (.aload_n 2, 1) := by decide +kernel
theorem dX12_can_22 : decode cX12_can 22 = .ok (.aload_n 0, 1) := by decide +kernel
theorem dX12_can_23 : decode cX12_can 23 = .ok (.iload_n 1, 1) := by decide +kernel
theorem dX12_can_24 : decode cX12_can 24 = .ok (.iconst 3, 1) := by decide +kernel
theorem dX12_can_25 : decode cX12_can 25 = .ok (.invokevirtual 211, 3) := by decide +kernel
theorem dX12_can_28 : decode cX12_can 28 = .ok (.iaload, 1) := by decide +kernel
theorem dX12_can_29 : decode cX12_can 29 = .ok (.istore 4, 2) := by decide +kernel
theorem dX12_can_31 : decode cX12_can 31 = .ok (.aload_n 0, 1) := by decide +kernel
theorem dX12_can_32 : decode cX12_can 32 = .ok (.iload_n 1, 1) := by decide +kernel
theorem dX12_can_33 : decode cX12_can 33 = .ok (.iconst 0, 1) := by decide +kernel
theorem dX12_can_34 : decode cX12_can 34 = .ok (.invokevirtual 211, 3) := by decide +kernel
theorem dX12_can_37 : decode cX12_can 37 = .ok (.tableswitch 49 0 2 #[27, 34, 41], 27) := by decide +kernel
theorem dX12_can_64 : decode cX12_can 64 = .ok (.aload_n 0, 1) := by decide +kernel
theorem dX12_can_65 : decode cX12_can 65 = .ok (.iload_n 1, 1) := by decide +kernel
theorem dX12_can_66 : decode cX12_can 66 = .ok (.aload_n 2, 1) := by decide +kernel
theorem dX12_can_67 : decode cX12_can 67 = .ok (.invokevirtual 221, 3) := by decide +kernel
theorem dX12_can_70 : decode cX12_can 70 = .ok (.ireturn, 1) := by decide +kernel
theorem dX12_can_71 : decode cX12_can 71 = .ok (.aload_n 0, 1) := by decide +kernel
theorem dX12_can_72 : decode cX12_can 72 = .ok (.iload_n 1, 1) := by decide +kernel
theorem dX12_can_73 : decode cX12_can 73 = .ok (.aload_n 2, 1) := by decide +kernel
theorem dX12_can_74 : decode cX12_can 74 = .ok (.invokevirtual 224, 3) := by decide +kernel
theorem dX12_can_77 : decode cX12_can 77 = .ok (.ireturn, 1) := by decide +kernel
theorem dX12_can_78 : decode cX12_can 78 = .ok (.aload_n 0, 1) := by decide +kernel
theorem dX12_can_79 : decode cX12_can 79 = .ok (.iload_n 3, 1) := by decide +kernel
theorem dX12_can_80 : decode cX12_can 80 = .ok (.iload 4, 2) := by decide +kernel
theorem dX12_can_82 : decode cX12_can 82 = .ok (.invokevirtual 227, 3) := by decide +kernel
theorem dX12_can_85 : decode cX12_can 85 = .ok (.ireturn, 1) := by decide +kernel
theorem dX12_can_86 : decode cX12_can 86 = .ok (.aload_n 0, 1) := by decide +kernel
theorem dX12_can_87 : decode cX12_can 87 = .ok (.iload_n 3, 1) := by decide +kernel
theorem dX12_can_88 : decode cX12_can 88 = .ok (.iload 4, 2) := by decide +kernel
theorem dX12_can_90 : decode cX12_can 90 = .ok (.invokevirtual 230, 3) := by decide +kernel
theorem dX12_can_93 : decode cX12_can 93 = .ok (.ireturn, 1) := by decide +kernel
set_option maxRecDepth 20000 in
theorem ggX12_hasSupport_X12_can : GoodIn wsX12_hasSupport wsX12_can := goodIn_r _ [6, 7, 8, 9, 5, 10, 11, 12, 13, 14, 15, 16, 17, 18, 19, 20, 21, 22, 23, 24, 25, 26, 27, 28, 29, 30, 31, 32, 33, 34, 35, 36, 37, 38, 39, 40, 41, 42, 43, 44, 45, 46, 47, 48, 49, 50, 51, 52, 53, 54, 55, 56, 57, 58, 59, 60, 61, 62, 63, 64, 65, 66, 67, 68, 69, 70, 71, 72, 73, 74, 75] (by decide +kernel) (by decide +kernel)
set_option maxRecDepth 20000 in
theorem gX12_hasSupport_X12_can : GoodIn wsX12_hasSupport (wsV RX12 233 RX12 yX12_can wsX12_can) := goodIn_app (goodIn_of _ (by decide +kernel)) ggX12_hasSupport_X12_can
theorem dX12_hasSupport_0 : decode cX12_hasSupport 0 = .ok (.iconst 0, 1) := by decide +kernel
theorem dX12_hasSupport_1 : decode cX12_hasSupport 1 = .ok (.istore 5, 2) := by decide +kernel
theorem dX12_hasSupport_3 : decode cX12_hasSupport 3 = .ok (.iload 5, 2) := by decide +kernel
theorem dX12_hasSupport_5 : decode cX12_hasSupport 5 = .ok (.bipush 7, 2) := by decide +kernel
theorem dX12_hasSupport_7 : decode cX12_hasSupport 7 = .ok (.if_icmp .ge 21, 3) := by decide +kernel
theorem dX12_hasSupport_10 : decode cX12_hasSupport 10 = .ok (.aload_n 0, 1) := by decide +kernel
theorem dX12_hasSupport_11 : decode cX12_hasSupport 11 = .ok (.getfield 39, 3) := by decide +kernel
theorem dX12_hasSupport_14 : decode cX12_hasSupport 14 = .ok (.iload 5, 2) := by decide +kernel
theorem dX12_hasSupport_16 : decode cX12_hasSupport 16 = .ok (.aload 4, 2) := by decide +kernel
theorem dX12_hasSupport_18 : decode cX12_hasSupport 18 = .ok (.iload 5, 2) := by decide +kernel
theorem dX12_hasSupport_20 : decode cX12_hasSupport 20 = .ok (.iaload, 1) := by decide +kernel
theorem dX12_hasSupport_21 : decode cX12_hasSupport 21 = .ok (.iastore, 1) := by decide +kernel
theorem dX12_hasSupport_22 : decode cX12_hasSupport 22 = .ok (.iinc 5 1, 3) := by decide +kernel
theorem dX12_hasSupport_25 : decode cX12_hasSupport 25 = .ok (.goto (-22), 3) := by decide +kernel
theorem dX12_hasSupport_28 : decode cX12_hasSupport 28 = .ok (.aload_n 0, 1) := by decide +kernel
theorem dX12_hasSupport_29 : decode cX12_hasSupport 29 = .ok (.getfield 39, 3) := by decide +kernel
theorem dX12_hasSupport_32 : decode cX12_hasSupport 32 = .ok (.iload_n 2, 1) := by decide +kernel
theorem dX12_hasSupport_33 : decode cX12_hasSupport 33 = .ok (.iconst 1, 1) := by decide +kernel
theorem dX12_hasSupport_34 : decode cX12_hasSupport 34 = .ok (.iload_n 3, 1) := by decide +kernel
theorem dX12_hasSupport_35 : decode cX12_hasSupport 35 = .ok (.ishl, 1) := by decide +kernel
theorem dX12_hasSupport_36 : decode cX12_hasSupport 36 = .ok (.iastore, 1) := by decide +kernel
theorem dX12_hasSupport_37 : decode cX12_hasSupport 37 = .ok (.aload_n 0, 1) := by decide +kernel
theorem dX12_hasSupport_38 : decode cX12_hasSupport 38 = .ok (.iload_n 1, 1) := by decide +kernel
theorem dX12_hasSupport_39 : decode cX12_hasSupport 39 = .ok (.aload_n 0, 1) := by decide +kernel
theorem dX12_hasSupport_40 : decode cX12_hasSupport 40 = .ok (.getfield 39, 3) := by decide +kernel
theorem dX12_hasSupport_43 : decode cX12_hasSupport 43 = .ok (.invokevirtual 233, 3) := by decide +kernel
theorem dX12_hasSupport_46 : decode cX12_hasSupport 46 = .ok (.ireturn, 1) := by decide +kernel
theorem dX12_lays_0 : decode cX12_lays 0 = .ok (.iconst 5, 1) := by decide +kernel
theorem dX12_lays_1 : decode cX12_lays 1 = .ok (.aload_n 0, 1) := by decide +kernel
theorem dX12_lays_2 : decode cX12_lays 2 = .ok (.getfield 73, 3) := by decide +kernel
theorem dX12_lays_5 : decode cX12_lays 5 = .ok (.imul, 1) := by decide +kernel
theorem dX12_lays_6 : decode cX12_lays 6 = .ok (.istore 5, 2) := by decide +kernel
theorem dX12_lays_8 : decode cX12_lays 8 = .ok (.aload_n 0, 1) := by decide +kernel
theorem dX12_lays_9 : decode cX12_lays 9 = .ok (.getfield 19, 3) := by decide +kernel
theorem dX12_lays_12 : decode cX12_lays 12 = .ok (.iload 5, 2) := by decide +kernel
theorem dX12_lays_14 : decode cX12_lays 14 = .ok (.iload_n 1, 1) := by decide +kernel
theorem dX12_lays_15 : decode cX12_lays 15 = .ok (.iastore, 1) := by decide +kernel
theorem dX12_lays_16 : decode cX12_lays 16 = .ok (.aload_n 0, 1) := by decide +kernel
theorem dX12_lays_17 : decode cX12_lays 17 = .ok (.getfield 19, 3) := by decide +kernel
theorem dX12_lays_20 : decode cX12_lays 20 = .ok (.iload 5, 2) := by decide +kernel
theorem dX12_lays_22 : decode cX12_lays 22 = .ok (.iconst 1, 1) := by decide +kernel
theorem dX12_lays_23 : decode cX12_lays 23 = .ok (.iadd, 1) := by decide +kernel
theorem dX12_lays_24 : decode cX12_lays 24 = .ok (.iload_n 2, 1) := by decide +kernel
theorem dX12_lays_25 : decode cX12_lays 25 = .ok (.iastore, 1) := by decide +kernel
theorem dX12_lays_26 : decode cX12_lays 26 = .ok (.aload_n 0, 1) := by decide +kernel
theorem dX12_lays_27 : decode cX12_lays 27 = .ok (.getfield 19, 3) := by decide +kernel
theorem dX12_lays_30 : decode cX12_lays 30 = .ok (.iload 5, 2) := by decide +kernel
theorem dX12_lays_32 : decode cX12_lays 32 = .ok (.iconst 2, 1) := by decide +kernel
theorem dX12_lays_33 : decode cX12_lays 33 = .ok (.iadd, 1) := by decide +kernel
theorem dX12_lays_34 : decode cX12_lays 34 = .ok (.iload_n 3, 1) := by decide +kernel
theorem dX12_lays_35 : decode cX12_lays 35 = .ok (.iastore, 1) := by decide +kernel
theorem dX12_lays_36 : decode cX12_lays 36 = .ok (.aload_n 0, 1) := by decide +kernel
theorem dX12_lays_37 : decode cX12_lays 37 = .ok (.getfield 19, 3) := by decide +kernel
theorem dX12_lays_40 : decode cX12_lays 40 = .ok (.iload 5, 2) := by decide +kernel
theorem dX12_lays_42 : decode cX12_lays 42 = .ok (.iconst 3, 1) := by decide +kernel
theorem dX12_lays_43 : decode cX12_lays 43 = .ok (.iadd, 1) := by decide +kernel
theorem dX12_lays_44 : decode cX12_lays 44 = .ok (.aload_n 0, 1) := by decide +kernel
theorem dX12_lays_45 : decode cX12_lays 45 = .ok (.getfield 76, 3) := by decide +kernel
theorem dX12_lays_48 : decode cX12_lays 48 = .ok (.iastore, 1) := by decide +kernel
theorem dX12_lays_49 : decode cX12_lays 49 = .ok (.aload_n 0, 1) := by decide +kernel
theorem dX12_lays_50 : decode cX12_lays 50 = .ok (.getfield 19, 3) := by decide +kernel
theorem dX12_lays_53 : decode cX12_lays 53 = .ok (.iload 5, 2) := by decide +kernel
theorem dX12_lays_55 : decode cX12_lays 55 = .ok (.iconst 4, 1) := by decide +kernel
theorem dX12_lays_56 : decode cX12_lays 56 = .ok (.iadd, 1) := by decide +kernel
theorem dX12_lays_57 : decode cX12_lays 57 = .ok (.iload 4, 2) := by decide +kernel
theorem dX12_lays_59 : decode cX12_lays 59 = .ok (.iastore, 1) := by decide +kernel
theorem dX12_lays_60 : decode cX12_lays 60 = .ok (.aload_n 0, 1) := by decide +kernel
theorem dX12_lays_61 : decode cX12_lays 61 = .ok (.dup, 1) := by decide +kernel
theorem dX12_lays_62 : decode cX12_lays 62 = .ok (.getfield 73, 3) := by decide +kernel
theorem dX12_lays_65 : decode cX12_lays 65 = .ok (.iconst 1, 1) := by decide +kernel
theorem dX12_lays_66 : decode cX12_lays 66 = .ok (.iadd, 1) := by decide +kernel
theorem dX12_lays_67 : decode cX12_lays 67 = .ok (.putfield 73, 3) := by decide +kernel
theorem dX12_lays_70 : decode cX12_lays 70 = .ok (.return_, 1) := by decide +kernel
set_option maxRecDepth 20000 in
theorem ggX12_sweepsOne_X12_manyIn : GoodIn wsX12_sweepsOne wsX12_manyIn := goodIn_r _ [5, 6, 7, 8, 4, 9, 10, 11, 12, 13, 63, 64, 65, 66, 67, 68, 69, 70, 71, 72, 73, 74, 75, 76, 77, 78, 79, 80, 81, 82, 83, 84, 85, 86, 87, 88, 89, 90, 91, 92, 93, 94] (by decide +kernel) (by decide +kernel)
set_option maxRecDepth 20000 in
theorem gX12_sweepsOne_X12_manyIn : GoodIn wsX12_sweepsOne (wsV RX12 236 RX12 yX12_manyIn wsX12_manyIn) := goodIn_app (goodIn_of _ (by decide +kernel)) ggX12_sweepsOne_X12_manyIn
set_option maxRecDepth 20000 in
theorem ggX12_sweepsOne_X12_memberOf : GoodIn wsX12_sweepsOne wsX12_memberOf := goodIn_r _ [17, 6, 7, 8, 4, 9, 10, 11, 12, 13, 63, 64, 65, 66, 67, 68, 69, 70, 71, 72, 73, 74, 75, 76, 77, 78, 79, 80, 81, 82, 83, 84, 85, 86, 87, 88, 89, 90, 91, 92, 93, 94] (by decide +kernel) (by decide +kernel)
set_option maxRecDepth 20000 in
theorem gX12_sweepsOne_X12_memberOf : GoodIn wsX12_sweepsOne (wsV RX12 239 RX12 yX12_memberOf wsX12_memberOf) := goodIn_app (goodIn_of _ (by decide +kernel)) ggX12_sweepsOne_X12_memberOf
set_option maxRecDepth 20000 in
theorem ggX12_sweepsOne_X12_has : GoodIn wsX12_sweepsOne wsX12_has := goodIn_r _ [20] (by decide +kernel) (by decide +kernel)
set_option maxRecDepth 20000 in
theorem gX12_sweepsOne_X12_has : GoodIn wsX12_sweepsOne (va_wsS RX12 178 yX12_has wsX12_has) := goodIn_app (goodIn_of _ (by decide +kernel)) ggX12_sweepsOne_X12_has
set_option maxRecDepth 20000 in
theorem ggX12_sweepsOne_X12_hasSupport : GoodIn wsX12_sweepsOne wsX12_hasSupport := goodIn_r _ [24, 25, 26, 27, 28, 4, 29, 30, 31, 32, 33, 11, 12, 13, 6, 7, 8, 9, 10, 34, 35, 36, 37, 18, 19, 20, 38, 39, 40, 41, 42, 43, 44, 45, 46, 47, 48, 49, 50, 51, 52, 53, 54, 55, 63, 64, 65, 66, 67, 68, 69, 70, 71, 72, 73, 74, 75, 76, 77, 78, 79, 80, 81, 82, 83, 84, 85, 86, 87, 88, 89, 90, 91, 92, 93, 94] (by decide +kernel) (by decide +kernel)
set_option maxRecDepth 20000 in
theorem gX12_sweepsOne_X12_hasSupport : GoodIn wsX12_sweepsOne (wsV RX12 242 RX12 yX12_hasSupport wsX12_hasSupport) := goodIn_app (goodIn_of _ (by decide +kernel)) ggX12_sweepsOne_X12_hasSupport
set_option maxRecDepth 20000 in
theorem ggX12_sweepsOne_X12_lays : GoodIn wsX12_sweepsOne wsX12_lays := goodIn_r _ [59, 60, 61, 62, 63, 64, 65, 66, 67, 68, 69, 70, 71, 72, 73, 74, 75, 76, 77, 78, 79, 80, 81, 82, 83, 84, 85, 86, 87, 88, 89, 90, 91, 92, 93, 94] (by decide +kernel) (by decide +kernel)
set_option maxRecDepth 20000 in
theorem gX12_sweepsOne_X12_lays : GoodIn wsX12_sweepsOne (wsV RX12 246 RX12 yX12_lays wsX12_lays) := goodIn_app (goodIn_of _ (by decide +kernel)) ggX12_sweepsOne_X12_lays
theorem dX12_sweepsOne_0 : decode cX12_sweepsOne 0 = .ok (.iconst 0, 1) := by decide +kernel
theorem dX12_sweepsOne_1 : decode cX12_sweepsOne 1 = .ok (.istore 4, 2) := by decide +kernel
theorem dX12_sweepsOne_3 : decode cX12_sweepsOne 3 = .ok (.iconst 0, 1) := by decide +kernel
theorem dX12_sweepsOne_4 : decode cX12_sweepsOne 4 = .ok (.istore 5, 2) := by decide +kernel
theorem dX12_sweepsOne_6 : decode cX12_sweepsOne 6 = .ok (.iload 5, 2) := by decide +kernel
theorem dX12_sweepsOne_8 : decode cX12_sweepsOne 8 = .ok (.aload_n 0, 1) := by decide +kernel
theorem dX12_sweepsOne_9 : decode cX12_sweepsOne 9 = .ok (.iload_n 1, 1) := by decide +kernel
theorem dX12_sweepsOne_10 : decode cX12_sweepsOne 10 = .ok (.invokevirtual 236, 3) := by decide +kernel
theorem dX12_sweepsOne_13 : decode cX12_sweepsOne 13 = .ok (.if_icmp .ge 118, 3) := by decide +kernel
theorem dX12_sweepsOne_16 : decode cX12_sweepsOne 16 = .ok (.aload_n 0, 1) := by decide +kernel
theorem dX12_sweepsOne_17 : decode cX12_sweepsOne 17 = .ok (.iload_n 1, 1) := by decide +kernel
theorem dX12_sweepsOne_18 : decode cX12_sweepsOne 18 = .ok (.iload 5, 2) := by decide +kernel
theorem dX12_sweepsOne_20 : decode cX12_sweepsOne 20 = .ok (.invokevirtual 239, 3) := by decide +kernel
theorem dX12_sweepsOne_23 : decode cX12_sweepsOne 23 = .ok (.istore 6, 2) := by decide +kernel
theorem dX12_sweepsOne_25 : decode cX12_sweepsOne 25 = .ok (.iconst 0, 1) := by decide +kernel
theorem dX12_sweepsOne_26 : decode cX12_sweepsOne 26 = .ok (.istore 7, 2) := by decide +kernel
theorem dX12_sweepsOne_28 : decode cX12_sweepsOne 28 = .ok (.iload 7, 2) := by decide +kernel
theorem dX12_sweepsOne_30 : decode cX12_sweepsOne 30 = .ok (.iconst 5, 1) := by decide +kernel
theorem dX12_sweepsOne_31 : decode cX12_sweepsOne 31 = .ok (.if_icmp .ge 94, 3) := by decide +kernel
theorem dX12_sweepsOne_34 : decode cX12_sweepsOne 34 = .ok (.aload_n 2, 1) := by decide +kernel
theorem dX12_sweepsOne_35 : decode cX12_sweepsOne 35 = .ok (.iload 6, 2) := by decide +kernel
theorem dX12_sweepsOne_37 : decode cX12_sweepsOne 37 = .ok (.iaload, 1) := by decide +kernel
theorem dX12_sweepsOne_38 : decode cX12_sweepsOne 38 = .ok (.iload 7, 2) := by decide +kernel
theorem dX12_sweepsOne_40 : decode cX12_sweepsOne 40 = .ok (.invokestatic 178, 3) := by decide +kernel
theorem dX12_sweepsOne_43 : decode cX12_sweepsOne 43 = .ok (.ifCond .eq 76, 3) := by decide +kernel
theorem dX12_sweepsOne_46 : decode cX12_sweepsOne 46 = .ok (.aload_n 0, 1) := by decide +kernel
theorem dX12_sweepsOne_47 : decode cX12_sweepsOne 47 = .ok (.iload_n 1, 1) := by decide +kernel
theorem dX12_sweepsOne_48 : decode cX12_sweepsOne 48 = .ok (.iload 6, 2) := by decide +kernel
theorem dX12_sweepsOne_50 : decode cX12_sweepsOne 50 = .ok (.iload 7, 2) := by decide +kernel
theorem dX12_sweepsOne_52 : decode cX12_sweepsOne 52 = .ok (.aload_n 2, 1) := by decide +kernel
theorem dX12_sweepsOne_53 : decode cX12_sweepsOne 53 = .ok (.invokevirtual 242, 3) := by decide +kernel
theorem dX12_sweepsOne_56 : decode cX12_sweepsOne 56 = .ok (.ifCond .eq 6, 3) := by decide +kernel
theorem dX12_sweepsOne_59 : decode cX12_sweepsOne 59 = .ok (.goto 60, 3) := by decide +kernel
theorem dX12_sweepsOne_62 : decode cX12_sweepsOne 62 = .ok (.aload_n 2, 1) := by decide +kernel
theorem dX12_sweepsOne_63 : decode cX12_sweepsOne 63 = .ok (.iload 6, 2) := by decide +kernel
theorem dX12_sweepsOne_65 : decode cX12_sweepsOne 65 = .ok (.dup2, 1) := by decide +kernel
theorem dX12_sweepsOne_66 : decode cX12_sweepsOne 66 = .ok (.iaload, 1) := by decide +kernel
theorem dX12_sweepsOne_67 : decode cX12_sweepsOne 67 = .ok (.iconst 1, 1) := by decide +kernel
theorem dX12_sweepsOne_68 : decode cX12_sweepsOne 68 = .ok (.iload 7, 2) := by decide +kernel
theorem dX12_sweepsOne_70 : decode cX12_sweepsOne 70 = .ok (.ishl, 1) := by decide +kernel
theorem dX12_sweepsOne_71 : decode cX12_sweepsOne 71 = .ok (.iconst (-1), 1) := by decide +kernel
theorem dX12_sweepsOne_72 : decode cX12_sweepsOne 72 = .ok (.ixor, 1) := by decide +kernel
theorem dX12_sweepsOne_73 : decode cX12_sweepsOne 73 = .ok (.iand, 1) := by decide +kernel
theorem dX12_sweepsOne_74 : decode cX12_sweepsOne 74 = .ok (.iastore, 1) := by decide +kernel
theorem dX12_sweepsOne_75 : decode cX12_sweepsOne 75 = .ok (.iinc 4 1, 3) := by decide +kernel
theorem dX12_sweepsOne_78 : decode cX12_sweepsOne 78 = .ok (.iload_n 3, 1) := by decide +kernel
theorem dX12_sweepsOne_79 : decode cX12_sweepsOne 79 = .ok (.ifCond .eq 31, 3) := by decide +kernel
theorem dX12_sweepsOne_82 : decode cX12_sweepsOne 82 = .ok (.aload_n 0, 1) := by decide +kernel
theorem dX12_sweepsOne_83 : decode cX12_sweepsOne 83 = .ok (.iload 6, 2) := by decide +kernel
theorem dX12_sweepsOne_85 : decode cX12_sweepsOne 85 = .ok (.iload 7, 2) := by decide +kernel
theorem dX12_sweepsOne_87 : decode cX12_sweepsOne 87 = .ok (.iload_n 1, 1) := by decide +kernel
theorem dX12_sweepsOne_88 : decode cX12_sweepsOne 88 = .ok (.ifCond .ge 8, 3) := by decide +kernel
theorem dX12_sweepsOne_91 : decode cX12_sweepsOne 91 = .ok (.bipush 100, 2) := by decide +kernel
theorem dX12_sweepsOne_93 : decode cX12_sweepsOne 93 = .ok (.goto 4, 3) := by decide +kernel
theorem dX12_sweepsOne_96 : decode cX12_sweepsOne 96 = .ok (.iload_n 1, 1) := by decide +kernel
theorem dX12_sweepsOne_97 : decode cX12_sweepsOne 97 = .ok (.iload_n 1, 1) := by decide +kernel
theorem dX12_sweepsOne_98 : decode cX12_sweepsOne 98 = .ok (.ifCond .ge 8, 3) := by decide +kernel
theorem dX12_sweepsOne_101 : decode cX12_sweepsOne 101 = .ok (.iload_n 1, 1) := by decide +kernel
theorem dX12_sweepsOne_102 : decode cX12_sweepsOne 102 = .ok (.ineg, 1) := by decide +kernel
theorem dX12_sweepsOne_103 : decode cX12_sweepsOne 103 = .ok (.goto 4, 3) := by decide +kernel
theorem dX12_sweepsOne_106 : decode cX12_sweepsOne 106 = .ok (.iconst 0, 1) := by decide +kernel
theorem dX12_sweepsOne_107 : decode cX12_sweepsOne 107 = .ok (.invokevirtual 246, 3) := by decide +kernel
theorem dX12_sweepsOne_110 : decode cX12_sweepsOne 110 = .ok (.aload_n 2, 1) := by decide +kernel
theorem dX12_sweepsOne_111 : decode cX12_sweepsOne 111 = .ok (.iload 6, 2) := by decide +kernel
theorem dX12_sweepsOne_113 : decode cX12_sweepsOne 113 = .ok (.iaload, 1) := by decide +kernel
theorem dX12_sweepsOne_114 : decode cX12_sweepsOne 114 = .ok (.ifCond .ne 5, 3) := by decide +kernel
theorem dX12_sweepsOne_117 : decode cX12_sweepsOne 117 = .ok (.iconst (-1), 1) := by decide +kernel
theorem dX12_sweepsOne_118 : decode cX12_sweepsOne 118 = .ok (.ireturn, 1) := by decide +kernel
theorem dX12_sweepsOne_119 : decode cX12_sweepsOne 119 = .ok (.iinc 7 1, 3) := by decide +kernel
theorem dX12_sweepsOne_122 : decode cX12_sweepsOne 122 = .ok (.goto (-94), 3) := by decide +kernel
theorem dX12_sweepsOne_125 : decode cX12_sweepsOne 125 = .ok (.iinc 5 1, 3) := by decide +kernel
theorem dX12_sweepsOne_128 : decode cX12_sweepsOne 128 = .ok (.goto (-122), 3) := by decide +kernel
theorem dX12_sweepsOne_131 : decode cX12_sweepsOne 131 = .ok (.iload 4, 2) := by decide +kernel
theorem dX12_sweepsOne_133 : decode cX12_sweepsOne 133 = .ok (.ireturn, 1) := by decide +kernel
set_option maxRecDepth 20000 in
theorem ggX12_sweeps_X12_sweepsOne : GoodIn wsX12_sweeps wsX12_sweepsOne := goodIn_r _ [8, 9, 10, 11, 7, 12, 13, 14, 15, 16, 1, 17, 18, 19, 20, 21, 22, 23, 24, 25, 26, 27, 28, 29, 30, 31, 32, 33, 34, 35, 36, 37, 38, 39, 40, 41, 42, 43, 44, 45, 46, 47, 48, 49, 50, 51, 52, 53, 54, 55, 56, 57, 58, 59, 60, 61, 62, 63, 64, 65, 66, 67, 68, 69, 70, 71, 72, 73, 74, 75, 76, 77, 78, 79, 80, 81, 82, 83, 84, 85, 86, 87, 88, 89, 90, 91, 92, 93, 94, 95, 96, 97, 98, 99, 100] (by decide +kernel) (by decide +kernel)
set_option maxRecDepth 20000 in
theorem gX12_sweeps_X12_sweepsOne : GoodIn wsX12_sweeps (wsV RX12 250 RX12 yX12_sweepsOne wsX12_sweepsOne) := goodIn_app (goodIn_of _ (by decide +kernel)) ggX12_sweeps_X12_sweepsOne
theorem dX12_sweeps_0 : decode cX12_sweeps 0 = .ok (.iconst 1, 1) := by decide +kernel
theorem dX12_sweeps_1 : decode cX12_sweeps 1 = .ok (.istore_n 3, 1) := by decide +kernel
theorem dX12_sweeps_2 : decode cX12_sweeps 2 = .ok (.iload_n 3, 1) := by decide +kernel
theorem dX12_sweeps_3 : decode cX12_sweeps 3 = .ok (.ifCond .eq 138, 3) := by decide +kernel
theorem dX12_sweeps_6 : decode cX12_sweeps 6 = .ok (.iconst 0, 1) := by decide +kernel
theorem dX12_sweeps_7 : decode cX12_sweeps 7 = .ok (.istore_n 3, 1) := by decide +kernel
theorem dX12_sweeps_8 : decode cX12_sweeps 8 = .ok (.iconst 0, 1) := by decide +kernel
theorem dX12_sweeps_9 : decode cX12_sweeps 9 = .ok (.istore 4, 2) := by decide +kernel
theorem dX12_sweeps_11 : decode cX12_sweeps 11 = .ok (.iload 4, 2) := by decide +kernel
theorem dX12_sweeps_13 : decode cX12_sweeps 13 = .ok (.aload_n 0, 1) := by decide +kernel
theorem dX12_sweeps_14 : decode cX12_sweeps 14 = .ok (.getfield 7, 3) := by decide +kernel
theorem dX12_sweeps_17 : decode cX12_sweeps 17 = .ok (.iconst 1, 1) := by decide +kernel
theorem dX12_sweeps_18 : decode cX12_sweeps 18 = .ok (.iaload, 1) := by decide +kernel
theorem dX12_sweeps_19 : decode cX12_sweeps 19 = .ok (.aload_n 0, 1) := by decide +kernel
theorem dX12_sweeps_20 : decode cX12_sweeps 20 = .ok (.getfield 79, 3) := by decide +kernel
theorem dX12_sweeps_23 : decode cX12_sweeps 23 = .ok (.iadd, 1) := by decide +kernel
theorem dX12_sweeps_24 : decode cX12_sweeps 24 = .ok (.if_icmp .ge 114, 3) := by decide +kernel
theorem dX12_sweeps_27 : decode cX12_sweeps 27 = .ok (.iload 4, 2) := by decide +kernel
theorem dX12_sweeps_29 : decode cX12_sweeps 29 = .ok (.aload_n 0, 1) := by decide +kernel
theorem dX12_sweeps_30 : decode cX12_sweeps 30 = .ok (.getfield 7, 3) := by decide +kernel
theorem dX12_sweeps_33 : decode cX12_sweeps 33 = .ok (.iconst 1, 1) := by decide +kernel
theorem dX12_sweeps_34 : decode cX12_sweeps 34 = .ok (.iaload, 1) := by decide +kernel
theorem dX12_sweeps_35 : decode cX12_sweeps 35 = .ok (.if_icmp .lt 24, 3) := by decide +kernel
theorem dX12_sweeps_38 : decode cX12_sweeps 38 = .ok (.aload_n 0, 1) := by decide +kernel
theorem dX12_sweeps_39 : decode cX12_sweeps 39 = .ok (.getfield 25, 3) := by decide +kernel
theorem dX12_sweeps_42 : decode cX12_sweeps 42 = .ok (.iload 4, 2) := by decide +kernel
theorem dX12_sweeps_44 : decode cX12_sweeps 44 = .ok (.aload_n 0, 1) := by decide +kernel
theorem dX12_sweeps_45 : decode cX12_sweeps 45 = .ok (.getfield 7, 3) := by decide +kernel
theorem dX12_sweeps_48 : decode cX12_sweeps 48 = .ok (.iconst 1, 1) := by decide +kernel
theorem dX12_sweeps_49 : decode cX12_sweeps 49 = .ok (.iaload, 1) := by decide +kernel
theorem dX12_sweeps_50 : decode cX12_sweeps 50 = .ok (.isub, 1) := by decide +kernel
theorem dX12_sweeps_51 : decode cX12_sweeps 51 = .ok (.iaload, 1) := by decide +kernel
theorem dX12_sweeps_52 : decode cX12_sweeps 52 = .ok (.ifCond .ne 7, 3) := by decide +kernel
theorem dX12_sweeps_55 : decode cX12_sweeps 55 = .ok (.iconst 1, 1) := by decide +kernel
theorem dX12_sweeps_56 : decode cX12_sweeps 56 = .ok (.goto 4, 3) := by decide +kernel
theorem dX12_sweeps_59 : decode cX12_sweeps 59 = .ok (.iconst 0, 1) := by decide +kernel
theorem dX12_sweeps_60 : decode cX12_sweeps 60 = .ok (.istore 5, 2) := by decide +kernel
theorem dX12_sweeps_62 : decode cX12_sweeps 62 = .ok (.iload 5, 2) := by decide +kernel
theorem dX12_sweeps_64 : decode cX12_sweeps 64 = .ok (.ifCond .eq 7, 3) := by decide +kernel
theorem dX12_sweeps_67 : decode cX12_sweeps 67 = .ok (.iconst 0, 1) := by decide +kernel
theorem dX12_sweeps_68 : decode cX12_sweeps 68 = .ok (.goto 40, 3) := by decide +kernel
theorem dX12_sweeps_71 : decode cX12_sweeps 71 = .ok (.aload_n 0, 1) := by decide +kernel
theorem dX12_sweeps_72 : decode cX12_sweeps 72 = .ok (.iload 4, 2) := by decide +kernel
theorem dX12_sweeps_74 : decode cX12_sweeps 74 = .ok (.aload_n 0, 1) := by decide +kernel
theorem dX12_sweeps_75 : decode cX12_sweeps 75 = .ok (.getfield 7, 3) := by decide +kernel
theorem dX12_sweeps_78 : decode cX12_sweeps 78 = .ok (.iconst 1, 1) := by decide +kernel
theorem dX12_sweeps_79 : decode cX12_sweeps 79 = .ok (.iaload, 1) := by decide +kernel
theorem dX12_sweeps_80 : decode cX12_sweeps 80 = .ok (.if_icmp .ge 8, 3) := by decide +kernel
theorem dX12_sweeps_83 : decode cX12_sweeps 83 = .ok (.iload 4, 2) := by decide +kernel
theorem dX12_sweeps_85 : decode cX12_sweeps 85 = .ok (.goto 18, 3) := by decide +kernel
theorem dX12_sweeps_88 : decode cX12_sweeps 88 = .ok (.aload_n 0, 1) := by decide +kernel
theorem dX12_sweeps_89 : decode cX12_sweeps 89 = .ok (.getfield 25, 3) := by decide +kernel
theorem dX12_sweeps_92 : decode cX12_sweeps 92 = .ok (.iload 4, 2) := by decide +kernel
theorem dX12_sweeps_94 : decode cX12_sweeps 94 = .ok (.aload_n 0, 1) := by decide +kernel
theorem dX12_sweeps_95 : decode cX12_sweeps 95 = .ok (.getfield 7, 3) := by decide +kernel
theorem dX12_sweeps_98 : decode cX12_sweeps 98 = .ok (.iconst 1, 1) := by decide +kernel
theorem dX12_sweeps_99 : decode cX12_sweeps 99 = .ok (.iaload, 1) := by decide +kernel
theorem dX12_sweeps_100 : decode cX12_sweeps 100 = .ok (.isub, 1) := by decide +kernel
theorem dX12_sweeps_101 : decode cX12_sweeps 101 = .ok (.iaload, 1) := by decide +kernel
theorem dX12_sweeps_102 : decode cX12_sweeps 102 = .ok (.ineg, 1) := by decide +kernel
theorem dX12_sweeps_103 : decode cX12_sweeps 103 = .ok (.aload_n 1, 1) := by decide +kernel
theorem dX12_sweeps_104 : decode cX12_sweeps 104 = .ok (.iload_n 2, 1) := by decide +kernel
theorem dX12_sweeps_105 : decode cX12_sweeps 105 = .ok (.invokevirtual 250, 3) := by decide +kernel
theorem dX12_sweeps_108 : decode cX12_sweeps 108 = .ok (.istore 6, 2) := by decide +kernel
theorem dX12_sweeps_110 : decode cX12_sweeps 110 = .ok (.iload 6, 2) := by decide +kernel
theorem dX12_sweeps_112 : decode cX12_sweeps 112 = .ok (.ifCond .ge 5, 3) := by decide +kernel
theorem dX12_sweeps_115 : decode cX12_sweeps 115 = .ok (.iconst 0, 1) := by decide +kernel
theorem dX12_sweeps_116 : decode cX12_sweeps 116 = .ok (.ireturn, 1) := by decide +kernel
theorem dX12_sweeps_117 : decode cX12_sweeps 117 = .ok (.iload_n 3, 1) := by decide +kernel
theorem dX12_sweeps_118 : decode cX12_sweeps 118 = .ok (.ifCond .ne 8, 3) := by decide +kernel
theorem dX12_sweeps_121 : decode cX12_sweeps 121 = .ok (.iload 6, 2) := by decide +kernel
theorem dX12_sweeps_123 : decode cX12_sweeps 123 = .ok (.ifCond .le 7, 3) := by decide +kernel
theorem dX12_sweeps_126 : decode cX12_sweeps 126 = .ok (.iconst 1, 1) := by decide +kernel
theorem dX12_sweeps_127 : decode cX12_sweeps 127 = .ok (.goto 4, 3) := by decide +kernel
theorem dX12_sweeps_130 : decode cX12_sweeps 130 = .ok (.iconst 0, 1) := by decide +kernel
theorem dX12_sweeps_131 : decode cX12_sweeps 131 = .ok (.istore_n 3, 1) := by decide +kernel
theorem dX12_sweeps_132 : decode cX12_sweeps 132 = .ok (.iinc 4 1, 3) := by decide +kernel
theorem dX12_sweeps_135 : decode cX12_sweeps 135 = .ok (.goto (-124), 3) := by decide +kernel
theorem dX12_sweeps_138 : decode cX12_sweeps 138 = .ok (.goto (-136), 3) := by decide +kernel
theorem dX12_sweeps_141 : decode cX12_sweeps 141 = .ok (.iconst 1, 1) := by decide +kernel
theorem dX12_sweeps_142 : decode cX12_sweeps 142 = .ok (.ireturn, 1) := by decide +kernel
theorem dX12_factsFrom_0 : decode cX12_factsFrom 0 = .ok (.aload_n 0, 1) := by decide +kernel
theorem dX12_factsFrom_1 : decode cX12_factsFrom 1 = .ok (.getfield 73, 3) := by decide +kernel
theorem dX12_factsFrom_4 : decode cX12_factsFrom 4 = .ok (.iload_n 1, 1) := by decide +kernel
theorem dX12_factsFrom_5 : decode cX12_factsFrom 5 = .ok (.isub, 1) := by decide +kernel
theorem dX12_factsFrom_6 : decode cX12_factsFrom 6 = .ok (.ireturn, 1) := by decide +kernel
set_option maxRecDepth 20000 in
theorem ggX12_isVariable_X12_isIn : GoodIn wsX12_isVariable wsX12_isIn := goodIn_r _ [5] (by decide +kernel) (by decide +kernel)
set_option maxRecDepth 20000 in
theorem gX12_isVariable_X12_isIn : GoodIn wsX12_isVariable (va_wsS RX12 100 yX12_isIn wsX12_isIn) := goodIn_app (goodIn_of _ (by decide +kernel)) ggX12_isVariable_X12_isIn
theorem dX12_isVariable_0 : decode cX12_isVariable 0 = .ok (.iload_n 1, 1) := by decide +kernel
theorem dX12_isVariable_1 : decode cX12_isVariable 1 = .ok (.iconst 0, 1) := by decide +kernel
theorem dX12_isVariable_2 : decode cX12_isVariable 2 = .ok (.aload_n 0, 1) := by decide +kernel
theorem dX12_isVariable_3 : decode cX12_isVariable 3 = .ok (.getfield 7, 3) := by decide +kernel
theorem dX12_isVariable_6 : decode cX12_isVariable 6 = .ok (.iconst 0, 1) := by decide +kernel
theorem dX12_isVariable_7 : decode cX12_isVariable 7 = .ok (.iaload, 1) := by decide +kernel
theorem dX12_isVariable_8 : decode cX12_isVariable 8 = .ok (.iconst 1, 1) := by decide +kernel
theorem dX12_isVariable_9 : decode cX12_isVariable 9 = .ok (.isub, 1) := by decide +kernel
theorem dX12_isVariable_10 : decode cX12_isVariable 10 = .ok (.invokestatic 100, 3) := by decide +kernel
theorem dX12_isVariable_13 : decode cX12_isVariable 13 = .ok (.ireturn, 1) := by decide +kernel
set_option maxRecDepth 20000 in
theorem ggX12_isConstraint_X12_isIn : GoodIn wsX12_isConstraint wsX12_isIn := goodIn_r _ [5] (by decide +kernel) (by decide +kernel)
set_option maxRecDepth 20000 in
theorem gX12_isConstraint_X12_isIn : GoodIn wsX12_isConstraint (va_wsS RX12 100 yX12_isIn wsX12_isIn) := goodIn_app (goodIn_of _ (by decide +kernel)) ggX12_isConstraint_X12_isIn
theorem dX12_isConstraint_0 : decode cX12_isConstraint 0 = .ok (.iload_n 1, 1) := by decide +kernel
theorem dX12_isConstraint_1 : decode cX12_isConstraint 1 = .ok (.iconst 0, 1) := by decide +kernel
theorem dX12_isConstraint_2 : decode cX12_isConstraint 2 = .ok (.aload_n 0, 1) := by decide +kernel
theorem dX12_isConstraint_3 : decode cX12_isConstraint 3 = .ok (.getfield 7, 3) := by decide +kernel
theorem dX12_isConstraint_6 : decode cX12_isConstraint 6 = .ok (.iconst 1, 1) := by decide +kernel
theorem dX12_isConstraint_7 : decode cX12_isConstraint 7 = .ok (.iaload, 1) := by decide +kernel
theorem dX12_isConstraint_8 : decode cX12_isConstraint 8 = .ok (.iconst 1, 1) := by decide +kernel
theorem dX12_isConstraint_9 : decode cX12_isConstraint 9 = .ok (.isub, 1) := by decide +kernel
theorem dX12_isConstraint_10 : decode cX12_isConstraint 10 = .ok (.invokestatic 100, 3) := by decide +kernel
theorem dX12_isConstraint_13 : decode cX12_isConstraint 13 = .ok (.ireturn, 1) := by decide +kernel
set_option maxRecDepth 20000 in
theorem ggX12_isFact_X12_isIn : GoodIn wsX12_isFact wsX12_isIn := goodIn_r _ [5] (by decide +kernel) (by decide +kernel)
set_option maxRecDepth 20000 in
theorem gX12_isFact_X12_isIn : GoodIn wsX12_isFact (va_wsS RX12 100 yX12_isIn wsX12_isIn) := goodIn_app (goodIn_of _ (by decide +kernel)) ggX12_isFact_X12_isIn
theorem dX12_isFact_0 : decode cX12_isFact 0 = .ok (.iload_n 1, 1) := by decide +kernel
theorem dX12_isFact_1 : decode cX12_isFact 1 = .ok (.iconst 0, 1) := by decide +kernel
theorem dX12_isFact_2 : decode cX12_isFact 2 = .ok (.aload_n 0, 1) := by decide +kernel
theorem dX12_isFact_3 : decode cX12_isFact 3 = .ok (.getfield 73, 3) := by decide +kernel
theorem dX12_isFact_6 : decode cX12_isFact 6 = .ok (.iconst 1, 1) := by decide +kernel
theorem dX12_isFact_7 : decode cX12_isFact 7 = .ok (.isub, 1) := by decide +kernel
theorem dX12_isFact_8 : decode cX12_isFact 8 = .ok (.invokestatic 100, 3) := by decide +kernel
theorem dX12_isFact_11 : decode cX12_isFact 11 = .ok (.ireturn, 1) := by decide +kernel
set_option maxRecDepth 20000 in
theorem ggX12_isMember_X12_isConstraint : GoodIn wsX12_isMember wsX12_isConstraint := goodIn_r _ [5, 6, 7, 8, 4, 9, 25, 26, 27, 28, 29, 30, 31, 32, 33, 34, 35, 36, 37, 38, 39, 40, 41, 42, 43, 44, 45, 46, 47, 48, 49, 50, 51, 52, 53, 54, 55, 56] (by decide +kernel) (by decide +kernel)
set_option maxRecDepth 20000 in
theorem gX12_isMember_X12_isConstraint : GoodIn wsX12_isMember (wsV RX12 254 RX12 yX12_isConstraint wsX12_isConstraint) := goodIn_app (goodIn_of _ (by decide +kernel)) ggX12_isMember_X12_isConstraint
set_option maxRecDepth 20000 in
theorem ggX12_isMember_X12_isVariable : GoodIn wsX12_isMember wsX12_isVariable := goodIn_r _ [13, 6, 7, 8, 4, 9, 25, 26, 27, 28, 29, 30, 31, 32, 33, 34, 35, 36, 37, 38, 39, 40, 41, 42, 43, 44, 45, 46, 47, 48, 49, 50, 51, 52, 53, 54, 55, 56] (by decide +kernel) (by decide +kernel)
set_option maxRecDepth 20000 in
theorem gX12_isMember_X12_isVariable : GoodIn wsX12_isMember (wsV RX12 257 RX12 yX12_isVariable wsX12_isVariable) := goodIn_app (goodIn_of _ (by decide +kernel)) ggX12_isMember_X12_isVariable
set_option maxRecDepth 20000 in
theorem ggX12_isMember_X12_isAmong : GoodIn wsX12_isMember wsX12_isAmong := goodIn_r _ [17, 18, 19, 4, 20, 21, 22, 23, 24, 6, 25, 26, 27, 28, 29, 30, 31, 32, 33, 34, 35, 36, 37, 38, 39, 40, 41, 42, 43, 44, 45, 46, 47, 48, 49, 50, 51, 52, 53, 54, 55, 56] (by decide +kernel) (by decide +kernel)
set_option maxRecDepth 20000 in
theorem gX12_isMember_X12_isAmong : GoodIn wsX12_isMember (wsV RX12 260 RX12 yX12_isAmong wsX12_isAmong) := goodIn_app (goodIn_of _ (by decide +kernel)) ggX12_isMember_X12_isAmong
theorem dX12_isMember_0 : decode cX12_isMember 0 = .ok (.aload_n 0, 1) := by decide +kernel
theorem dX12_isMember_1 : decode cX12_isMember 1 = .ok (.iload_n 1, 1) := by decide +kernel
theorem dX12_isMember_2 : decode cX12_isMember 2 = .ok (.invokevirtual 254, 3) := by decide +kernel
theorem dX12_isMember_5 : decode cX12_isMember 5 = .ok (.ifCond .eq 24, 3) := by decide +kernel
theorem dX12_isMember_8 : decode cX12_isMember 8 = .ok (.aload_n 0, 1) := by decide +kernel
theorem dX12_isMember_9 : decode cX12_isMember 9 = .ok (.iload_n 2, 1) := by decide +kernel
theorem dX12_isMember_10 : decode cX12_isMember 10 = .ok (.invokevirtual 257, 3) := by decide +kernel
theorem dX12_isMember_13 : decode cX12_isMember 13 = .ok (.ifCond .eq 16, 3) := by decide +kernel
theorem dX12_isMember_16 : decode cX12_isMember 16 = .ok (.aload_n 0, 1) := by decide +kernel
theorem dX12_isMember_17 : decode cX12_isMember 17 = .ok (.iload_n 1, 1) := by decide +kernel
theorem dX12_isMember_18 : decode cX12_isMember 18 = .ok (.iload_n 2, 1) := by decide +kernel
theorem dX12_isMember_19 : decode cX12_isMember 19 = .ok (.invokevirtual 260, 3) := by decide +kernel
theorem dX12_isMember_22 : decode cX12_isMember 22 = .ok (.ifCond .eq 7, 3) := by decide +kernel
theorem dX12_isMember_25 : decode cX12_isMember 25 = .ok (.iconst 1, 1) := by decide +kernel
theorem dX12_isMember_26 : decode cX12_isMember 26 = .ok (.goto 4, 3) := by decide +kernel
theorem dX12_isMember_29 : decode cX12_isMember 29 = .ok (.iconst 0, 1) := by decide +kernel
theorem dX12_isMember_30 : decode cX12_isMember 30 = .ok (.ireturn, 1) := by decide +kernel
set_option maxRecDepth 20000 in
theorem ggX12_fixed_X12_sizeOf : GoodIn wsX12_fixed wsX12_sizeOf := goodIn_r _ [6] (by decide +kernel) (by decide +kernel)
set_option maxRecDepth 20000 in
theorem gX12_fixed_X12_sizeOf : GoodIn wsX12_fixed (va_wsS RX12 214 yX12_sizeOf wsX12_sizeOf) := goodIn_app (goodIn_of _ (by decide +kernel)) ggX12_fixed_X12_sizeOf
theorem dX12_fixed_0 : decode cX12_fixed 0 = .ok (.iconst 0, 1) := by decide +kernel
theorem dX12_fixed_1 : decode cX12_fixed 1 = .ok (.istore_n 1, 1) := by decide +kernel
theorem dX12_fixed_2 : decode cX12_fixed 2 = .ok (.iconst 0, 1) := by decide +kernel
theorem dX12_fixed_3 : decode cX12_fixed 3 = .ok (.istore_n 2, 1) := by decide +kernel
theorem dX12_fixed_4 : decode cX12_fixed 4 = .ok (.iload_n 2, 1) := by decide +kernel
theorem dX12_fixed_5 : decode cX12_fixed 5 = .ok (.aload_n 0, 1) := by decide +kernel
theorem dX12_fixed_6 : decode cX12_fixed 6 = .ok (.getfield 7, 3) := by decide +kernel
theorem dX12_fixed_9 : decode cX12_fixed 9 = .ok (.iconst 0, 1) := by decide +kernel
theorem dX12_fixed_10 : decode cX12_fixed 10 = .ok (.iaload, 1) := by decide +kernel
theorem dX12_fixed_11 : decode cX12_fixed 11 = .ok (.if_icmp .ge 30, 3) := by decide +kernel
theorem dX12_fixed_14 : decode cX12_fixed 14 = .ok (.iload_n 1, 1) := by decide +kernel
theorem dX12_fixed_15 : decode cX12_fixed 15 = .ok (.aload_n 0, 1) := by decide +kernel
theorem dX12_fixed_16 : decode cX12_fixed 16 = .ok (.getfield 16, 3) := by decide +kernel
theorem dX12_fixed_19 : decode cX12_fixed 19 = .ok (.iload_n 2, 1) := by decide +kernel
theorem dX12_fixed_20 : decode cX12_fixed 20 = .ok (.iaload, 1) := by decide +kernel
theorem dX12_fixed_21 : decode cX12_fixed 21 = .ok (.invokestatic 214, 3) := by decide +kernel
theorem dX12_fixed_24 : decode cX12_fixed 24 = .ok (.iconst 1, 1) := by decide +kernel
theorem dX12_fixed_25 : decode cX12_fixed 25 = .ok (.if_icmp .ne 7, 3) := by decide +kernel
theorem dX12_fixed_28 : decode cX12_fixed 28 = .ok (.iconst 1, 1) := by decide +kernel
theorem dX12_fixed_29 : decode cX12_fixed 29 = .ok (.goto 4, 3) := by decide +kernel
theorem dX12_fixed_32 : decode cX12_fixed 32 = .ok (.iconst 0, 1) := by decide +kernel
theorem dX12_fixed_33 : decode cX12_fixed 33 = .ok (.iadd, 1) := by decide +kernel
theorem dX12_fixed_34 : decode cX12_fixed 34 = .ok (.istore_n 1, 1) := by decide +kernel
theorem dX12_fixed_35 : decode cX12_fixed 35 = .ok (.iinc 2 1, 3) := by decide +kernel
theorem dX12_fixed_38 : decode cX12_fixed 38 = .ok (.goto (-34), 3) := by decide +kernel
theorem dX12_fixed_41 : decode cX12_fixed 41 = .ok (.iload_n 1, 1) := by decide +kernel
theorem dX12_fixed_42 : decode cX12_fixed 42 = .ok (.ireturn, 1) := by decide +kernel
set_option maxRecDepth 20000 in
theorem ggX12_report_X12_isIn : GoodIn wsX12_report wsX12_isIn := goodIn_r _ [11] (by decide +kernel) (by decide +kernel)
set_option maxRecDepth 20000 in
theorem gX12_report_X12_isIn : GoodIn wsX12_report (va_wsS RX12 100 yX12_isIn wsX12_isIn) := goodIn_app (goodIn_of _ (by decide +kernel)) ggX12_report_X12_isIn
set_option maxRecDepth 20000 in
theorem ggX12_report_X12_may : GoodIn wsX12_report wsX12_may := goodIn_r _ [15, 1, 24, 25, 26, 27, 28, 29, 30, 31, 32, 33, 34, 35, 36, 37, 38, 39, 40, 41, 42, 43, 44, 45, 46, 47, 48, 49, 50, 51, 52, 53, 54, 55] (by decide +kernel) (by decide +kernel)
set_option maxRecDepth 20000 in
theorem gX12_report_X12_may : GoodIn wsX12_report (wsV RX12 96 RX12 yX12_may wsX12_may) := goodIn_app (goodIn_of _ (by decide +kernel)) ggX12_report_X12_may
set_option maxRecDepth 20000 in
theorem ggX12_report_X12_fixed : GoodIn wsX12_report wsX12_fixed := goodIn_r _ [19, 2, 20, 21, 22, 10, 23, 24, 25, 26, 27, 28, 29, 30, 31, 32, 33, 34, 35, 36, 37, 38, 39, 40, 41, 42, 43, 44, 45, 46, 47, 48, 49, 50, 51, 52, 53, 54, 55] (by decide +kernel) (by decide +kernel)
set_option maxRecDepth 20000 in
theorem gX12_report_X12_fixed : GoodIn wsX12_report (wsV RX12 263 RX12 yX12_fixed wsX12_fixed) := goodIn_app (goodIn_of _ (by decide +kernel)) ggX12_report_X12_fixed
theorem dX12_report_0 : decode cX12_report 0 = .ok (.aload_n 0, 1) := by decide +kernel
theorem dX12_report_1 : decode cX12_report 1 = .ok (.iconst 0, 1) := by decide +kernel
theorem dX12_report_2 : decode cX12_report 2 = .ok (.putfield 70, 3) := by decide +kernel
theorem dX12_report_5 : decode cX12_report 5 = .ok (.aload_n 0, 1) := by decide +kernel
theorem dX12_report_6 : decode cX12_report 6 = .ok (.iload_n 1, 1) := by decide +kernel
theorem dX12_report_7 : decode cX12_report 7 = .ok (.iconst 0, 1) := by decide +kernel
theorem dX12_report_8 : decode cX12_report 8 = .ok (.bipush 7, 2) := by decide +kernel
theorem dX12_report_10 : decode cX12_report 10 = .ok (.invokestatic 100, 3) := by decide +kernel
theorem dX12_report_13 : decode cX12_report 13 = .ok (.iconst 1, 1) := by decide +kernel
theorem dX12_report_14 : decode cX12_report 14 = .ok (.invokevirtual 96, 3) := by decide +kernel
theorem dX12_report_17 : decode cX12_report 17 = .ok (.ifCond .ne 5, 3) := by decide +kernel
theorem dX12_report_20 : decode cX12_report 20 = .ok (.iconst 0, 1) := by decide +kernel
theorem dX12_report_21 : decode cX12_report 21 = .ok (.ireturn, 1) := by decide +kernel
theorem dX12_report_22 : decode cX12_report 22 = .ok (.iload_n 1, 1) := by decide +kernel
theorem dX12_report_23 : decode cX12_report 23 = .ok (.tableswitch 88 0 6 #[41, 48, 55, 60, 65, 70, 83], 41) := by decide +kernel
theorem dX12_report_64 : decode cX12_report 64 = .ok (.aload_n 0, 1) := by decide +kernel
theorem dX12_report_65 : decode cX12_report 65 = .ok (.getfield 7, 3) := by decide +kernel
theorem dX12_report_68 : decode cX12_report 68 = .ok (.iconst 0, 1) := by decide +kernel
theorem dX12_report_69 : decode cX12_report 69 = .ok (.iaload, 1) := by decide +kernel
theorem dX12_report_70 : decode cX12_report 70 = .ok (.ireturn, 1) := by decide +kernel
theorem dX12_report_71 : decode cX12_report 71 = .ok (.aload_n 0, 1) := by decide +kernel
theorem dX12_report_72 : decode cX12_report 72 = .ok (.getfield 7, 3) := by decide +kernel
theorem dX12_report_75 : decode cX12_report 75 = .ok (.iconst 1, 1) := by decide +kernel
theorem dX12_report_76 : decode cX12_report 76 = .ok (.iaload, 1) := by decide +kernel
theorem dX12_report_77 : decode cX12_report 77 = .ok (.ireturn, 1) := by decide +kernel
theorem dX12_report_78 : decode cX12_report 78 = .ok (.aload_n 0, 1) := by decide +kernel
theorem dX12_report_79 : decode cX12_report 79 = .ok (.getfield 76, 3) := by decide +kernel
theorem dX12_report_82 : decode cX12_report 82 = .ok (.ireturn, 1) := by decide +kernel
theorem dX12_report_83 : decode cX12_report 83 = .ok (.aload_n 0, 1) := by decide +kernel
theorem dX12_report_84 : decode cX12_report 84 = .ok (.getfield 73, 3) := by decide +kernel
theorem dX12_report_87 : decode cX12_report 87 = .ok (.ireturn, 1) := by decide +kernel
theorem dX12_report_88 : decode cX12_report 88 = .ok (.aload_n 0, 1) := by decide +kernel
theorem dX12_report_89 : decode cX12_report 89 = .ok (.getfield 79, 3) := by decide +kernel
theorem dX12_report_92 : decode cX12_report 92 = .ok (.ireturn, 1) := by decide +kernel
theorem dX12_report_93 : decode cX12_report 93 = .ok (.aload_n 0, 1) := by decide +kernel
theorem dX12_report_94 : decode cX12_report 94 = .ok (.getfield 85, 3) := by decide +kernel
theorem dX12_report_97 : decode cX12_report 97 = .ok (.ifCond .eq 7, 3) := by decide +kernel
theorem dX12_report_100 : decode cX12_report 100 = .ok (.iconst 1, 1) := by decide +kernel
theorem dX12_report_101 : decode cX12_report 101 = .ok (.goto 4, 3) := by decide +kernel
theorem dX12_report_104 : decode cX12_report 104 = .ok (.iconst 0, 1) := by decide +kernel
theorem dX12_report_105 : decode cX12_report 105 = .ok (.ireturn, 1) := by decide +kernel
theorem dX12_report_106 : decode cX12_report 106 = .ok (.aload_n 0, 1) := by decide +kernel
theorem dX12_report_107 : decode cX12_report 107 = .ok (.invokevirtual 263, 3) := by decide +kernel
theorem dX12_report_110 : decode cX12_report 110 = .ok (.ireturn, 1) := by decide +kernel
theorem dX12_report_111 : decode cX12_report 111 = .ok (.aload_n 0, 1) := by decide +kernel
theorem dX12_report_112 : decode cX12_report 112 = .ok (.getfield 82, 3) := by decide +kernel
theorem dX12_report_115 : decode cX12_report 115 = .ok (.ireturn, 1) := by decide +kernel
set_option maxRecDepth 20000 in
theorem ggX12_domain_X12_isVariable : GoodIn wsX12_domain wsX12_isVariable := goodIn_r _ [7, 8, 9, 10, 6, 11, 16, 17, 18, 19, 20, 21, 22, 23, 24, 25, 26, 27, 28, 29, 30, 31, 32, 33, 34, 35, 36, 37, 38, 39, 40, 41, 42, 43, 44, 45, 46, 47] (by decide +kernel) (by decide +kernel)
set_option maxRecDepth 20000 in
theorem gX12_domain_X12_isVariable : GoodIn wsX12_domain (wsV RX12 257 RX12 yX12_isVariable wsX12_isVariable) := goodIn_app (goodIn_of _ (by decide +kernel)) ggX12_domain_X12_isVariable
set_option maxRecDepth 20000 in
theorem ggX12_domain_X12_may : GoodIn wsX12_domain wsX12_may := goodIn_r _ [15, 1, 16, 17, 18, 19, 20, 21, 22, 23, 24, 25, 26, 27, 28, 29, 30, 31, 32, 33, 34, 35, 36, 37, 38, 39, 40, 41, 42, 43, 44, 45, 46, 47] (by decide +kernel) (by decide +kernel)
set_option maxRecDepth 20000 in
theorem gX12_domain_X12_may : GoodIn wsX12_domain (wsV RX12 96 RX12 yX12_may wsX12_may) := goodIn_app (goodIn_of _ (by decide +kernel)) ggX12_domain_X12_may
theorem dX12_domain_0 : decode cX12_domain 0 = .ok (.aload_n 0, 1) := by decide +kernel
theorem dX12_domain_1 : decode cX12_domain 1 = .ok (.iconst 0, 1) := by decide +kernel
theorem dX12_domain_2 : decode cX12_domain 2 = .ok (.putfield 70, 3) := by decide +kernel
theorem dX12_domain_5 : decode cX12_domain 5 = .ok (.aload_n 0, 1) := by decide +kernel
theorem dX12_domain_6 : decode cX12_domain 6 = .ok (.aload_n 0, 1) := by decide +kernel
theorem dX12_domain_7 : decode cX12_domain 7 = .ok (.iload_n 1, 1) := by decide +kernel
theorem dX12_domain_8 : decode cX12_domain 8 = .ok (.invokevirtual 257, 3) := by decide +kernel
theorem dX12_domain_11 : decode cX12_domain 11 = .ok (.iconst 1, 1) := by decide +kernel
theorem dX12_domain_12 : decode cX12_domain 12 = .ok (.invokevirtual 96, 3) := by decide +kernel
theorem dX12_domain_15 : decode cX12_domain 15 = .ok (.ifCond .eq 12, 3) := by decide +kernel
theorem dX12_domain_18 : decode cX12_domain 18 = .ok (.aload_n 0, 1) := by decide +kernel
theorem dX12_domain_19 : decode cX12_domain 19 = .ok (.getfield 16, 3) := by decide +kernel
theorem dX12_domain_22 : decode cX12_domain 22 = .ok (.iload_n 1, 1) := by decide +kernel
theorem dX12_domain_23 : decode cX12_domain 23 = .ok (.iaload, 1) := by decide +kernel
theorem dX12_domain_24 : decode cX12_domain 24 = .ok (.goto 4, 3) := by decide +kernel
theorem dX12_domain_27 : decode cX12_domain 27 = .ok (.iconst 0, 1) := by decide +kernel
theorem dX12_domain_28 : decode cX12_domain 28 = .ok (.ireturn, 1) := by decide +kernel
set_option maxRecDepth 20000 in
theorem ggX12_setOf_X12_of : GoodIn wsX12_setOf wsX12_of := goodIn_r _ [5, 6, 7, 8, 9, 10, 11, 12, 13, 14, 15, 16, 17, 18, 19, 20, 21, 22, 23, 24, 25, 26, 27, 28, 29, 30, 31, 32, 33, 34, 35, 36, 37, 38] (by decide +kernel) (by decide +kernel)
set_option maxRecDepth 20000 in
theorem gX12_setOf_X12_of : GoodIn wsX12_setOf (wsV RX12 211 RX12 yX12_of wsX12_of) := goodIn_app (goodIn_of _ (by decide +kernel)) ggX12_setOf_X12_of
theorem dX12_setOf_0 : decode cX12_setOf 0 = .ok (.iconst 0, 1) := by decide +kernel
theorem dX12_setOf_1 : decode cX12_setOf 1 = .ok (.istore_n 2, 1) := by decide +kernel
theorem dX12_setOf_2 : decode cX12_setOf 2 = .ok (.iconst 0, 1) := by decide +kernel
theorem dX12_setOf_3 : decode cX12_setOf 3 = .ok (.istore_n 3, 1) := by decide +kernel
theorem dX12_setOf_4 : decode cX12_setOf 4 = .ok (.iload_n 3, 1) := by decide +kernel
theorem dX12_setOf_5 : decode cX12_setOf 5 = .ok (.aload_n 0, 1) := by decide +kernel
theorem dX12_setOf_6 : decode cX12_setOf 6 = .ok (.iload_n 1, 1) := by decide +kernel
theorem dX12_setOf_7 : decode cX12_setOf 7 = .ok (.iconst 1, 1) := by decide +kernel
theorem dX12_setOf_8 : decode cX12_setOf 8 = .ok (.invokevirtual 211, 3) := by decide +kernel
theorem dX12_setOf_11 : decode cX12_setOf 11 = .ok (.if_icmp .ge 22, 3) := by decide +kernel
theorem dX12_setOf_14 : decode cX12_setOf 14 = .ok (.iload_n 2, 1) := by decide +kernel
theorem dX12_setOf_15 : decode cX12_setOf 15 = .ok (.iconst 1, 1) := by decide +kernel
theorem dX12_setOf_16 : decode cX12_setOf 16 = .ok (.aload_n 0, 1) := by decide +kernel
theorem dX12_setOf_17 : decode cX12_setOf 17 = .ok (.iload_n 1, 1) := by decide +kernel
theorem dX12_setOf_18 : decode cX12_setOf 18 = .ok (.iconst 2, 1) := by decide +kernel
theorem dX12_setOf_19 : decode cX12_setOf 19 = .ok (.iload_n 3, 1) := by decide +kernel
theorem dX12_setOf_20 : decode cX12_setOf 20 = .ok (.iadd, 1) := by decide +kernel
theorem dX12_setOf_21 : decode cX12_setOf 21 = .ok (.invokevirtual 211, 3) := by decide +kernel
theorem dX12_setOf_24 : decode cX12_setOf 24 = .ok (.ishl, 1) := by decide +kernel
theorem dX12_setOf_25 : decode cX12_setOf 25 = .ok (.ior, 1) := by decide +kernel
theorem dX12_setOf_26 : decode cX12_setOf 26 = .ok (.istore_n 2, 1) := by decide +kernel
theorem dX12_setOf_27 : decode cX12_setOf 27 = .ok (.iinc 3 1, 3) := by decide +kernel
theorem dX12_setOf_30 : decode cX12_setOf 30 = .ok (.goto (-26), 3) := by decide +kernel
theorem dX12_setOf_33 : decode cX12_setOf 33 = .ok (.iload_n 2, 1) := by decide +kernel
theorem dX12_setOf_34 : decode cX12_setOf 34 = .ok (.ireturn, 1) := by decide +kernel
theorem dX12_factsBy_0 : decode cX12_factsBy 0 = .ok (.iconst 0, 1) := by decide +kernel
theorem dX12_factsBy_1 : decode cX12_factsBy 1 = .ok (.istore_n 2, 1) := by decide +kernel
theorem dX12_factsBy_2 : decode cX12_factsBy 2 = .ok (.iconst 0, 1) := by decide +kernel
theorem dX12_factsBy_3 : decode cX12_factsBy 3 = .ok (.istore_n 3, 1) := by decide +kernel
theorem dX12_factsBy_4 : decode cX12_factsBy 4 = .ok (.iload_n 3, 1) := by decide +kernel
theorem dX12_factsBy_5 : decode cX12_factsBy 5 = .ok (.aload_n 0, 1) := by decide +kernel
theorem dX12_factsBy_6 : decode cX12_factsBy 6 = .ok (.getfield 73, 3) := by decide +kernel
theorem dX12_factsBy_9 : decode cX12_factsBy 9 = .ok (.if_icmp .ge 31, 3) := by decide +kernel
theorem dX12_factsBy_12 : decode cX12_factsBy 12 = .ok (.iload_n 2, 1) := by decide +kernel
theorem dX12_factsBy_13 : decode cX12_factsBy 13 = .ok (.aload_n 0, 1) := by decide +kernel
theorem dX12_factsBy_14 : decode cX12_factsBy 14 = .ok (.getfield 19, 3) := by decide +kernel
theorem dX12_factsBy_17 : decode cX12_factsBy 17 = .ok (.iconst 5, 1) := by decide +kernel
theorem dX12_factsBy_18 : decode cX12_factsBy 18 = .ok (.iload_n 3, 1) := by decide +kernel
theorem dX12_factsBy_19 : decode cX12_factsBy 19 = .ok (.imul, 1) := by decide +kernel
theorem dX12_factsBy_20 : decode cX12_factsBy 20 = .ok (.iconst 2, 1) := by decide +kernel
theorem dX12_factsBy_21 : decode cX12_factsBy 21 = .ok (.iadd, 1) := by decide +kernel
theorem dX12_factsBy_22 : decode cX12_factsBy 22 = .ok (.iaload, 1) := by decide +kernel
theorem dX12_factsBy_23 : decode cX12_factsBy 23 = .ok (.iload_n 1, 1) := by decide +kernel
theorem dX12_factsBy_24 : decode cX12_factsBy 24 = .ok (.if_icmp .ne 7, 3) := by decide +kernel
theorem dX12_factsBy_27 : decode cX12_factsBy 27 = .ok (.iconst 1, 1) := by decide +kernel
theorem dX12_factsBy_28 : decode cX12_factsBy 28 = .ok (.goto 4, 3) := by decide +kernel
theorem dX12_factsBy_31 : decode cX12_factsBy 31 = .ok (.iconst 0, 1) := by decide +kernel
theorem dX12_factsBy_32 : decode cX12_factsBy 32 = .ok (.iadd, 1) := by decide +kernel
theorem dX12_factsBy_33 : decode cX12_factsBy 33 = .ok (.istore_n 2, 1) := by decide +kernel
theorem dX12_factsBy_34 : decode cX12_factsBy 34 = .ok (.iinc 3 1, 3) := by decide +kernel
theorem dX12_factsBy_37 : decode cX12_factsBy 37 = .ok (.goto (-33), 3) := by decide +kernel
theorem dX12_factsBy_40 : decode cX12_factsBy 40 = .ok (.iload_n 2, 1) := by decide +kernel
theorem dX12_factsBy_41 : decode cX12_factsBy 41 = .ok (.ireturn, 1) := by decide +kernel
set_option maxRecDepth 20000 in
theorem ggX12_constraint__X12_isConstraint : GoodIn wsX12_constraint_ wsX12_isConstraint := goodIn_r _ [6, 7, 8, 9, 5, 10, 29, 30, 31, 32, 33, 34, 35, 36, 37, 38, 39, 40, 41, 42, 43, 44, 45, 46, 47, 48, 49, 50, 51, 52, 53, 54, 55, 56, 57, 58, 59, 60] (by decide +kernel) (by decide +kernel)
set_option maxRecDepth 20000 in
theorem gX12_constraint__X12_isConstraint : GoodIn wsX12_constraint_ (wsV RX12 254 RX12 yX12_isConstraint wsX12_isConstraint) := goodIn_app (goodIn_of _ (by decide +kernel)) ggX12_constraint__X12_isConstraint
set_option maxRecDepth 20000 in
theorem ggX12_constraint__X12_may : GoodIn wsX12_constraint_ wsX12_may := goodIn_r _ [14, 1, 29, 30, 31, 32, 33, 34, 35, 36, 37, 38, 39, 40, 41, 42, 43, 44, 45, 46, 47, 48, 49, 50, 51, 52, 53, 54, 55, 56, 57, 58, 59, 60] (by decide +kernel) (by decide +kernel)
set_option maxRecDepth 20000 in
theorem gX12_constraint__X12_may : GoodIn wsX12_constraint_ (wsV RX12 96 RX12 yX12_may wsX12_may) := goodIn_app (goodIn_of _ (by decide +kernel)) ggX12_constraint__X12_may
set_option maxRecDepth 20000 in
theorem ggX12_constraint__X12_isIn : GoodIn wsX12_constraint_ wsX12_isIn := goodIn_r _ [10] (by decide +kernel) (by decide +kernel)
set_option maxRecDepth 20000 in
theorem gX12_constraint__X12_isIn : GoodIn wsX12_constraint_ (va_wsS RX12 100 yX12_isIn wsX12_isIn) := goodIn_app (goodIn_of _ (by decide +kernel)) ggX12_constraint__X12_isIn
set_option maxRecDepth 20000 in
theorem ggX12_constraint__X12_of : GoodIn wsX12_constraint_ wsX12_of := goodIn_r _ [18, 7, 29, 30, 31, 32, 33, 34, 35, 36, 37, 38, 39, 40, 41, 42, 43, 44, 45, 46, 47, 48, 49, 50, 51, 52, 53, 54, 55, 56, 57, 58, 59, 60] (by decide +kernel) (by decide +kernel)
set_option maxRecDepth 20000 in
theorem gX12_constraint__X12_of : GoodIn wsX12_constraint_ (wsV RX12 211 RX12 yX12_of wsX12_of) := goodIn_app (goodIn_of _ (by decide +kernel)) ggX12_constraint__X12_of
set_option maxRecDepth 20000 in
theorem ggX12_constraint__X12_setOf : GoodIn wsX12_constraint_ wsX12_setOf := goodIn_r _ [22, 15, 16, 17, 5, 18, 7, 29, 30, 31, 32, 33, 34, 35, 36, 37, 38, 39, 40, 41, 42, 43, 44, 45, 46, 47, 48, 49, 50, 51, 52, 53, 54, 55, 56, 57, 58, 59, 60] (by decide +kernel) (by decide +kernel)
set_option maxRecDepth 20000 in
theorem gX12_constraint__X12_setOf : GoodIn wsX12_constraint_ (wsV RX12 266 RX12 yX12_setOf wsX12_setOf) := goodIn_app (goodIn_of _ (by decide +kernel)) ggX12_constraint__X12_setOf
set_option maxRecDepth 20000 in
theorem ggX12_constraint__X12_factsBy : GoodIn wsX12_constraint_ wsX12_factsBy := goodIn_r _ [26, 27, 28, 29, 30, 31, 32, 33, 34, 35, 36, 37, 38, 39, 40, 41, 42, 43, 44, 45, 46, 47, 48, 49, 50, 51, 52, 53, 54, 55, 56, 57, 58, 59, 60] (by decide +kernel) (by decide +kernel)
set_option maxRecDepth 20000 in
theorem gX12_constraint__X12_factsBy : GoodIn wsX12_constraint_ (wsV RX12 269 RX12 yX12_factsBy wsX12_factsBy) := goodIn_app (goodIn_of _ (by decide +kernel)) ggX12_constraint__X12_factsBy
theorem dX12_constraint__0 : decode cX12_constraint_ 0 = .ok (.aload_n 0, 1) := by decide +kernel
theorem dX12_constraint__1 : decode cX12_constraint_ 1 = .ok (.iconst 0, 1) := by decide +kernel
theorem dX12_constraint__2 : decode cX12_constraint_ 2 = .ok (.putfield 70, 3) := by decide +kernel
theorem dX12_constraint__5 : decode cX12_constraint_ 5 = .ok (.aload_n 0, 1) := by decide +kernel
theorem dX12_constraint__6 : decode cX12_constraint_ 6 = .ok (.aload_n 0, 1) := by decide +kernel
theorem dX12_constraint__7 : decode cX12_constraint_ 7 = .ok (.iload_n 1, 1) := by decide +kernel
theorem dX12_constraint__8 : decode cX12_constraint_ 8 = .ok (.invokevirtual 254, 3) := by decide +kernel
theorem dX12_constraint__11 : decode cX12_constraint_ 11 = .ok (.iconst 1, 1) := by decide +kernel
theorem dX12_constraint__12 : decode cX12_constraint_ 12 = .ok (.invokevirtual 96, 3) := by decide +kernel
theorem dX12_constraint__15 : decode cX12_constraint_ 15 = .ok (.ifCond .eq 17, 3) := by decide +kernel
theorem dX12_constraint__18 : decode cX12_constraint_ 18 = .ok (.aload_n 0, 1) := by decide +kernel
theorem dX12_constraint__19 : decode cX12_constraint_ 19 = .ok (.iload_n 2, 1) := by decide +kernel
theorem dX12_constraint__20 : decode cX12_constraint_ 20 = .ok (.iconst 0, 1) := by decide +kernel
theorem dX12_constraint__21 : decode cX12_constraint_ 21 = .ok (.iconst 3, 1) := by decide +kernel
theorem dX12_constraint__22 : decode cX12_constraint_ 22 = .ok (.invokestatic 100, 3) := by decide +kernel
theorem dX12_constraint__25 : decode cX12_constraint_ 25 = .ok (.iconst 2, 1) := by decide +kernel
theorem dX12_constraint__26 : decode cX12_constraint_ 26 = .ok (.invokevirtual 96, 3) := by decide +kernel
theorem dX12_constraint__29 : decode cX12_constraint_ 29 = .ok (.ifCond .ne 5, 3) := by decide +kernel
theorem dX12_constraint__32 : decode cX12_constraint_ 32 = .ok (.iconst 0, 1) := by decide +kernel
theorem dX12_constraint__33 : decode cX12_constraint_ 33 = .ok (.ireturn, 1) := by decide +kernel
theorem dX12_constraint__34 : decode cX12_constraint_ 34 = .ok (.iload_n 2, 1) := by decide +kernel
theorem dX12_constraint__35 : decode cX12_constraint_ 35 = .ok (.iconst 2, 1) := by decide +kernel
theorem dX12_constraint__36 : decode cX12_constraint_ 36 = .ok (.if_icmp .ge 12, 3) := by decide +kernel
theorem dX12_constraint__39 : decode cX12_constraint_ 39 = .ok (.aload_n 0, 1) := by decide +kernel
theorem dX12_constraint__40 : decode cX12_constraint_ 40 = .ok (.iload_n 1, 1) := by decide +kernel
theorem dX12_constraint__41 : decode cX12_constraint_ 41 = .ok (.iload_n 2, 1) := by decide +kernel
theorem dX12_constraint__42 : decode cX12_constraint_ 42 = .ok (.invokevirtual 211, 3) := by decide +kernel
theorem dX12_constraint__45 : decode cX12_constraint_ 45 = .ok (.goto 21, 3) := by decide +kernel
theorem dX12_constraint__48 : decode cX12_constraint_ 48 = .ok (.iload_n 2, 1) := by decide +kernel
theorem dX12_constraint__49 : decode cX12_constraint_ 49 = .ok (.iconst 2, 1) := by decide +kernel
theorem dX12_constraint__50 : decode cX12_constraint_ 50 = .ok (.if_icmp .ne 11, 3) := by decide +kernel
theorem dX12_constraint__53 : decode cX12_constraint_ 53 = .ok (.aload_n 0, 1) := by decide +kernel
theorem dX12_constraint__54 : decode cX12_constraint_ 54 = .ok (.iload_n 1, 1) := by decide +kernel
theorem dX12_constraint__55 : decode cX12_constraint_ 55 = .ok (.invokevirtual 266, 3) := by decide +kernel
theorem dX12_constraint__58 : decode cX12_constraint_ 58 = .ok (.goto 8, 3) := by decide +kernel
theorem dX12_constraint__61 : decode cX12_constraint_ 61 = .ok (.aload_n 0, 1) := by decide +kernel
theorem dX12_constraint__62 : decode cX12_constraint_ 62 = .ok (.iload_n 1, 1) := by decide +kernel
theorem dX12_constraint__63 : decode cX12_constraint_ 63 = .ok (.invokevirtual 269, 3) := by decide +kernel
theorem dX12_constraint__66 : decode cX12_constraint_ 66 = .ok (.ireturn, 1) := by decide +kernel
set_option maxRecDepth 20000 in
theorem ggX12_fact_X12_isFact : GoodIn wsX12_fact wsX12_isFact := goodIn_r _ [7, 8, 9, 10, 6, 11, 16, 17, 18, 19, 20, 21, 22, 23, 24, 25, 26, 27, 28, 29, 30, 31, 32, 33, 34, 35, 36, 37, 38, 39, 40, 41, 42, 43, 44, 45, 46, 47] (by decide +kernel) (by decide +kernel)
set_option maxRecDepth 20000 in
theorem gX12_fact_X12_isFact : GoodIn wsX12_fact (wsV RX12 272 RX12 yX12_isFact wsX12_isFact) := goodIn_app (goodIn_of _ (by decide +kernel)) ggX12_fact_X12_isFact
set_option maxRecDepth 20000 in
theorem ggX12_fact_X12_may : GoodIn wsX12_fact wsX12_may := goodIn_r _ [15, 1, 16, 17, 18, 19, 20, 21, 22, 23, 24, 25, 26, 27, 28, 29, 30, 31, 32, 33, 34, 35, 36, 37, 38, 39, 40, 41, 42, 43, 44, 45, 46, 47] (by decide +kernel) (by decide +kernel)
set_option maxRecDepth 20000 in
theorem gX12_fact_X12_may : GoodIn wsX12_fact (wsV RX12 96 RX12 yX12_may wsX12_may) := goodIn_app (goodIn_of _ (by decide +kernel)) ggX12_fact_X12_may
set_option maxRecDepth 20000 in
theorem ggX12_fact_X12_isIn : GoodIn wsX12_fact wsX12_isIn := goodIn_r _ [11] (by decide +kernel) (by decide +kernel)
set_option maxRecDepth 20000 in
theorem gX12_fact_X12_isIn : GoodIn wsX12_fact (va_wsS RX12 100 yX12_isIn wsX12_isIn) := goodIn_app (goodIn_of _ (by decide +kernel)) ggX12_fact_X12_isIn
theorem dX12_fact_0 : decode cX12_fact 0 = .ok (.aload_n 0, 1) := by decide +kernel
theorem dX12_fact_1 : decode cX12_fact 1 = .ok (.iconst 0, 1) := by decide +kernel
theorem dX12_fact_2 : decode cX12_fact 2 = .ok (.putfield 70, 3) := by decide +kernel
theorem dX12_fact_5 : decode cX12_fact 5 = .ok (.aload_n 0, 1) := by decide +kernel
theorem dX12_fact_6 : decode cX12_fact 6 = .ok (.aload_n 0, 1) := by decide +kernel
theorem dX12_fact_7 : decode cX12_fact 7 = .ok (.iload_n 1, 1) := by decide +kernel
theorem dX12_fact_8 : decode cX12_fact 8 = .ok (.invokevirtual 272, 3) := by decide +kernel
theorem dX12_fact_11 : decode cX12_fact 11 = .ok (.iconst 1, 1) := by decide +kernel
theorem dX12_fact_12 : decode cX12_fact 12 = .ok (.invokevirtual 96, 3) := by decide +kernel
theorem dX12_fact_15 : decode cX12_fact 15 = .ok (.ifCond .eq 30, 3) := by decide +kernel
theorem dX12_fact_18 : decode cX12_fact 18 = .ok (.aload_n 0, 1) := by decide +kernel
theorem dX12_fact_19 : decode cX12_fact 19 = .ok (.iload_n 2, 1) := by decide +kernel
theorem dX12_fact_20 : decode cX12_fact 20 = .ok (.iconst 0, 1) := by decide +kernel
theorem dX12_fact_21 : decode cX12_fact 21 = .ok (.iconst 3, 1) := by decide +kernel
theorem dX12_fact_22 : decode cX12_fact 22 = .ok (.invokestatic 100, 3) := by decide +kernel
theorem dX12_fact_25 : decode cX12_fact 25 = .ok (.iconst 2, 1) := by decide +kernel
theorem dX12_fact_26 : decode cX12_fact 26 = .ok (.invokevirtual 96, 3) := by decide +kernel
theorem dX12_fact_29 : decode cX12_fact 29 = .ok (.ifCond .eq 16, 3) := by decide +kernel
theorem dX12_fact_32 : decode cX12_fact 32 = .ok (.aload_n 0, 1) := by decide +kernel
theorem dX12_fact_33 : decode cX12_fact 33 = .ok (.getfield 19, 3) := by decide +kernel
theorem dX12_fact_36 : decode cX12_fact 36 = .ok (.iconst 5, 1) := by decide +kernel
theorem dX12_fact_37 : decode cX12_fact 37 = .ok (.iload_n 1, 1) := by decide +kernel
theorem dX12_fact_38 : decode cX12_fact 38 = .ok (.imul, 1) := by decide +kernel
theorem dX12_fact_39 : decode cX12_fact 39 = .ok (.iload_n 2, 1) := by decide +kernel
theorem dX12_fact_40 : decode cX12_fact 40 = .ok (.iadd, 1) := by decide +kernel
theorem dX12_fact_41 : decode cX12_fact 41 = .ok (.iaload, 1) := by decide +kernel
theorem dX12_fact_42 : decode cX12_fact 42 = .ok (.goto 4, 3) := by decide +kernel
theorem dX12_fact_45 : decode cX12_fact 45 = .ok (.iconst 0, 1) := by decide +kernel
theorem dX12_fact_46 : decode cX12_fact 46 = .ok (.ireturn, 1) := by decide +kernel
set_option maxRecDepth 20000 in
theorem ggX12_factOf_X12_isVariable : GoodIn wsX12_factOf wsX12_isVariable := goodIn_r _ [8, 9, 10, 11, 7, 12, 17, 18, 19, 20, 21, 22, 23, 24, 25, 26, 27, 28, 29, 30, 31, 32, 33, 34, 35, 36, 37, 38, 39, 40, 41, 42, 43, 44, 45, 46, 47, 48] (by decide +kernel) (by decide +kernel)
set_option maxRecDepth 20000 in
theorem gX12_factOf_X12_isVariable : GoodIn wsX12_factOf (wsV RX12 257 RX12 yX12_isVariable wsX12_isVariable) := goodIn_app (goodIn_of _ (by decide +kernel)) ggX12_factOf_X12_isVariable
set_option maxRecDepth 20000 in
theorem ggX12_factOf_X12_may : GoodIn wsX12_factOf wsX12_may := goodIn_r _ [16, 1, 17, 18, 19, 20, 21, 22, 23, 24, 25, 26, 27, 28, 29, 30, 31, 32, 33, 34, 35, 36, 37, 38, 39, 40, 41, 42, 43, 44, 45, 46, 47, 48] (by decide +kernel) (by decide +kernel)
set_option maxRecDepth 20000 in
theorem gX12_factOf_X12_may : GoodIn wsX12_factOf (wsV RX12 96 RX12 yX12_may wsX12_may) := goodIn_app (goodIn_of _ (by decide +kernel)) ggX12_factOf_X12_may
set_option maxRecDepth 20000 in
theorem ggX12_factOf_X12_isIn : GoodIn wsX12_factOf wsX12_isIn := goodIn_r _ [12] (by decide +kernel) (by decide +kernel)
set_option maxRecDepth 20000 in
theorem gX12_factOf_X12_isIn : GoodIn wsX12_factOf (va_wsS RX12 100 yX12_isIn wsX12_isIn) := goodIn_app (goodIn_of _ (by decide +kernel)) ggX12_factOf_X12_isIn
theorem dX12_factOf_0 : decode cX12_factOf 0 = .ok (.aload_n 0, 1) := by decide +kernel
theorem dX12_factOf_1 : decode cX12_factOf 1 = .ok (.iconst 0, 1) := by decide +kernel
theorem dX12_factOf_2 : decode cX12_factOf 2 = .ok (.putfield 70, 3) := by decide +kernel
theorem dX12_factOf_5 : decode cX12_factOf 5 = .ok (.aload_n 0, 1) := by decide +kernel
theorem dX12_factOf_6 : decode cX12_factOf 6 = .ok (.aload_n 0, 1) := by decide +kernel
theorem dX12_factOf_7 : decode cX12_factOf 7 = .ok (.iload_n 1, 1) := by decide +kernel
theorem dX12_factOf_8 : decode cX12_factOf 8 = .ok (.invokevirtual 257, 3) := by decide +kernel
theorem dX12_factOf_11 : decode cX12_factOf 11 = .ok (.iconst 1, 1) := by decide +kernel
theorem dX12_factOf_12 : decode cX12_factOf 12 = .ok (.invokevirtual 96, 3) := by decide +kernel
theorem dX12_factOf_15 : decode cX12_factOf 15 = .ok (.ifCond .eq 17, 3) := by decide +kernel
theorem dX12_factOf_18 : decode cX12_factOf 18 = .ok (.aload_n 0, 1) := by decide +kernel
theorem dX12_factOf_19 : decode cX12_factOf 19 = .ok (.iload_n 2, 1) := by decide +kernel
theorem dX12_factOf_20 : decode cX12_factOf 20 = .ok (.iconst 0, 1) := by decide +kernel
theorem dX12_factOf_21 : decode cX12_factOf 21 = .ok (.iconst 4, 1) := by decide +kernel
theorem dX12_factOf_22 : decode cX12_factOf 22 = .ok (.invokestatic 100, 3) := by decide +kernel
theorem dX12_factOf_25 : decode cX12_factOf 25 = .ok (.iconst 2, 1) := by decide +kernel
theorem dX12_factOf_26 : decode cX12_factOf 26 = .ok (.invokevirtual 96, 3) := by decide +kernel
theorem dX12_factOf_29 : decode cX12_factOf 29 = .ok (.ifCond .ne 5, 3) := by decide +kernel
theorem dX12_factOf_32 : decode cX12_factOf 32 = .ok (.iconst 0, 1) := by decide +kernel
theorem dX12_factOf_33 : decode cX12_factOf 33 = .ok (.ireturn, 1) := by decide +kernel
theorem dX12_factOf_34 : decode cX12_factOf 34 = .ok (.iconst 0, 1) := by decide +kernel
theorem dX12_factOf_35 : decode cX12_factOf 35 = .ok (.istore_n 3, 1) := by decide +kernel
theorem dX12_factOf_36 : decode cX12_factOf 36 = .ok (.iload_n 3, 1) := by decide +kernel
theorem dX12_factOf_37 : decode cX12_factOf 37 = .ok (.aload_n 0, 1) := by decide +kernel
theorem dX12_factOf_38 : decode cX12_factOf 38 = .ok (.getfield 73, 3) := by decide +kernel
theorem dX12_factOf_41 : decode cX12_factOf 41 = .ok (.if_icmp .ge 37, 3) := by decide +kernel
theorem dX12_factOf_44 : decode cX12_factOf 44 = .ok (.aload_n 0, 1) := by decide +kernel
theorem dX12_factOf_45 : decode cX12_factOf 45 = .ok (.getfield 19, 3) := by decide +kernel
theorem dX12_factOf_48 : decode cX12_factOf 48 = .ok (.iconst 5, 1) := by decide +kernel
theorem dX12_factOf_49 : decode cX12_factOf 49 = .ok (.iload_n 3, 1) := by decide +kernel
theorem dX12_factOf_50 : decode cX12_factOf 50 = .ok (.imul, 1) := by decide +kernel
theorem dX12_factOf_51 : decode cX12_factOf 51 = .ok (.iaload, 1) := by decide +kernel
theorem dX12_factOf_52 : decode cX12_factOf 52 = .ok (.iload_n 1, 1) := by decide +kernel
theorem dX12_factOf_53 : decode cX12_factOf 53 = .ok (.if_icmp .ne 19, 3) := by decide +kernel
theorem dX12_factOf_56 : decode cX12_factOf 56 = .ok (.aload_n 0, 1) := by decide +kernel
theorem dX12_factOf_57 : decode cX12_factOf 57 = .ok (.getfield 19, 3) := by decide +kernel
theorem dX12_factOf_60 : decode cX12_factOf 60 = .ok (.iconst 5, 1) := by decide +kernel
theorem dX12_factOf_61 : decode cX12_factOf 61 = .ok (.iload_n 3, 1) := by decide +kernel
theorem dX12_factOf_62 : decode cX12_factOf 62 = .ok (.imul, 1) := by decide +kernel
theorem dX12_factOf_63 : decode cX12_factOf 63 = .ok (.iconst 1, 1) := by decide +kernel
theorem dX12_factOf_64 : decode cX12_factOf 64 = .ok (.iadd, 1) := by decide +kernel
theorem dX12_factOf_65 : decode cX12_factOf 65 = .ok (.iaload, 1) := by decide +kernel
theorem dX12_factOf_66 : decode cX12_factOf 66 = .ok (.iload_n 2, 1) := by decide +kernel
theorem dX12_factOf_67 : decode cX12_factOf 67 = .ok (.if_icmp .ne 5, 3) := by decide +kernel
theorem dX12_factOf_70 : decode cX12_factOf 70 = .ok (.iload_n 3, 1) := by decide +kernel
theorem dX12_factOf_71 : decode cX12_factOf 71 = .ok (.ireturn, 1) := by decide +kernel
theorem dX12_factOf_72 : decode cX12_factOf 72 = .ok (.iinc 3 1, 3) := by decide +kernel
theorem dX12_factOf_75 : decode cX12_factOf 75 = .ok (.goto (-39), 3) := by decide +kernel
theorem dX12_factOf_78 : decode cX12_factOf 78 = .ok (.aload_n 0, 1) := by decide +kernel
theorem dX12_factOf_79 : decode cX12_factOf 79 = .ok (.iconst 0, 1) := by decide +kernel
theorem dX12_factOf_80 : decode cX12_factOf 80 = .ok (.iconst 3, 1) := by decide +kernel
theorem dX12_factOf_81 : decode cX12_factOf 81 = .ok (.invokevirtual 96, 3) := by decide +kernel
theorem dX12_factOf_84 : decode cX12_factOf 84 = .ok (.ifCond .eq 7, 3) := by decide +kernel
theorem dX12_factOf_87 : decode cX12_factOf 87 = .ok (.iconst 0, 1) := by decide +kernel
theorem dX12_factOf_88 : decode cX12_factOf 88 = .ok (.goto 4, 3) := by decide +kernel
theorem dX12_factOf_91 : decode cX12_factOf 91 = .ok (.iconst 0, 1) := by decide +kernel
theorem dX12_factOf_92 : decode cX12_factOf 92 = .ok (.ireturn, 1) := by decide +kernel
theorem dX12_laysWithout_0 : decode cX12_laysWithout 0 = .ok (.iconst 0, 1) := by decide +kernel
theorem dX12_laysWithout_1 : decode cX12_laysWithout 1 = .ok (.istore_n 1, 1) := by decide +kernel
theorem dX12_laysWithout_2 : decode cX12_laysWithout 2 = .ok (.iload_n 1, 1) := by decide +kernel
theorem dX12_laysWithout_3 : decode cX12_laysWithout 3 = .ok (.bipush 7, 2) := by decide +kernel
theorem dX12_laysWithout_5 : decode cX12_laysWithout 5 = .ok (.if_icmp .ge 23, 3) := by decide +kernel
theorem dX12_laysWithout_8 : decode cX12_laysWithout 8 = .ok (.aload_n 0, 1) := by decide +kernel
theorem dX12_laysWithout_9 : decode cX12_laysWithout 9 = .ok (.getfield 46, 3) := by decide +kernel
theorem dX12_laysWithout_12 : decode cX12_laysWithout 12 = .ok (.iload_n 1, 1) := by decide +kernel
theorem dX12_laysWithout_13 : decode cX12_laysWithout 13 = .ok (.aload_n 0, 1) := by decide +kernel
theorem dX12_laysWithout_14 : decode cX12_laysWithout 14 = .ok (.getfield 7, 3) := by decide +kernel
theorem dX12_laysWithout_17 : decode cX12_laysWithout 17 = .ok (.iconst 2, 1) := by decide +kernel
theorem dX12_laysWithout_18 : decode cX12_laysWithout 18 = .ok (.iload_n 1, 1) := by decide +kernel
theorem dX12_laysWithout_19 : decode cX12_laysWithout 19 = .ok (.iadd, 1) := by decide +kernel
theorem dX12_laysWithout_20 : decode cX12_laysWithout 20 = .ok (.iaload, 1) := by decide +kernel
theorem dX12_laysWithout_21 : decode cX12_laysWithout 21 = .ok (.iastore, 1) := by decide +kernel
theorem dX12_laysWithout_22 : decode cX12_laysWithout 22 = .ok (.iinc 1 1, 3) := by decide +kernel
theorem dX12_laysWithout_25 : decode cX12_laysWithout 25 = .ok (.goto (-23), 3) := by decide +kernel
theorem dX12_laysWithout_28 : decode cX12_laysWithout 28 = .ok (.iconst 0, 1) := by decide +kernel
theorem dX12_laysWithout_29 : decode cX12_laysWithout 29 = .ok (.istore_n 1, 1) := by decide +kernel
theorem dX12_laysWithout_30 : decode cX12_laysWithout 30 = .ok (.iload_n 1, 1) := by decide +kernel
theorem dX12_laysWithout_31 : decode cX12_laysWithout 31 = .ok (.aload_n 0, 1) := by decide +kernel
theorem dX12_laysWithout_32 : decode cX12_laysWithout 32 = .ok (.getfield 73, 3) := by decide +kernel
theorem dX12_laysWithout_35 : decode cX12_laysWithout 35 = .ok (.if_icmp .ge 48, 3) := by decide +kernel
theorem dX12_laysWithout_38 : decode cX12_laysWithout 38 = .ok (.aload_n 0, 1) := by decide +kernel
theorem dX12_laysWithout_39 : decode cX12_laysWithout 39 = .ok (.getfield 42, 3) := by decide +kernel
theorem dX12_laysWithout_42 : decode cX12_laysWithout 42 = .ok (.iload_n 1, 1) := by decide +kernel
theorem dX12_laysWithout_43 : decode cX12_laysWithout 43 = .ok (.baload, 1) := by decide +kernel
theorem dX12_laysWithout_44 : decode cX12_laysWithout 44 = .ok (.ifCond .eq 33, 3) := by decide +kernel
theorem dX12_laysWithout_47 : decode cX12_laysWithout 47 = .ok (.aload_n 0, 1) := by decide +kernel
theorem dX12_laysWithout_48 : decode cX12_laysWithout 48 = .ok (.getfield 46, 3) := by decide +kernel
theorem dX12_laysWithout_51 : decode cX12_laysWithout 51 = .ok (.aload_n 0, 1) := by decide +kernel
theorem dX12_laysWithout_52 : decode cX12_laysWithout 52 = .ok (.getfield 19, 3) := by decide +kernel
theorem dX12_laysWithout_55 : decode cX12_laysWithout 55 = .ok (.iconst 5, 1) := by decide +kernel
theorem dX12_laysWithout_56 : decode cX12_laysWithout 56 = .ok (.iload_n 1, 1) := by decide +kernel
theorem dX12_laysWithout_57 : decode cX12_laysWithout 57 = .ok (.imul, 1) := by decide +kernel
theorem dX12_laysWithout_58 : decode cX12_laysWithout 58 = .ok (.iaload, 1) := by decide +kernel
theorem dX12_laysWithout_59 : decode cX12_laysWithout 59 = .ok (.dup2, 1) := by decide +kernel
theorem dX12_laysWithout_60 : decode cX12_laysWithout 60 = .ok (.iaload, 1) := by decide +kernel
theorem dX12_laysWithout_61 : decode cX12_laysWithout 61 = .ok (.iconst 1, 1) := by decide +kernel
theorem dX12_laysWithout_62 : decode cX12_laysWithout 62 = .ok (.aload_n 0, 1) := by decide +kernel
theorem dX12_laysWithout_63 : decode cX12_laysWithout 63 = .ok (.getfield 19, 3) := by decide +kernel
theorem dX12_laysWithout_66 : decode cX12_laysWithout 66 = .ok (.iconst 5, 1) := by decide +kernel
theorem dX12_laysWithout_67 : decode cX12_laysWithout 67 = .ok (.iload_n 1, 1) := by decide +kernel
theorem dX12_laysWithout_68 : decode cX12_laysWithout 68 = .ok (.imul, 1) := by decide +kernel
theorem dX12_laysWithout_69 : decode cX12_laysWithout 69 = .ok (.iconst 1, 1) := by decide +kernel
theorem dX12_laysWithout_70 : decode cX12_laysWithout 70 = .ok (.iadd, 1) := by decide +kernel
theorem dX12_laysWithout_71 : decode cX12_laysWithout 71 = .ok (.iaload, 1) := by decide +kernel
theorem dX12_laysWithout_72 : decode cX12_laysWithout 72 = .ok (.ishl, 1) := by decide +kernel
theorem dX12_laysWithout_73 : decode cX12_laysWithout 73 = .ok (.iconst (-1), 1) := by decide +kernel
theorem dX12_laysWithout_74 : decode cX12_laysWithout 74 = .ok (.ixor, 1) := by decide +kernel
theorem dX12_laysWithout_75 : decode cX12_laysWithout 75 = .ok (.iand, 1) := by decide +kernel
theorem dX12_laysWithout_76 : decode cX12_laysWithout 76 = .ok (.iastore, 1) := by decide +kernel
theorem dX12_laysWithout_77 : decode cX12_laysWithout 77 = .ok (.iinc 1 1, 3) := by decide +kernel
theorem dX12_laysWithout_80 : decode cX12_laysWithout 80 = .ok (.goto (-50), 3) := by decide +kernel
theorem dX12_laysWithout_83 : decode cX12_laysWithout 83 = .ok (.return_, 1) := by decide +kernel
set_option maxRecDepth 20000 in
theorem ggX12_explains_X12_isAmong : GoodIn wsX12_explains wsX12_isAmong := goodIn_r _ [9, 10, 11, 8, 12, 13, 14, 15, 16, 17, 60, 61, 62, 63, 64, 65, 66, 67, 68, 69, 70, 71, 72, 73, 74, 75, 76, 77, 78, 79, 80, 81, 82, 83, 84, 85, 86, 87, 88, 89, 90, 91] (by decide +kernel) (by decide +kernel)
set_option maxRecDepth 20000 in
theorem gX12_explains_X12_isAmong : GoodIn wsX12_explains (wsV RX12 260 RX12 yX12_isAmong wsX12_isAmong) := goodIn_app (goodIn_of _ (by decide +kernel)) ggX12_explains_X12_isAmong
set_option maxRecDepth 20000 in
theorem ggX12_explains_X12_laysWithout : GoodIn wsX12_explains wsX12_laysWithout := goodIn_r _ [21, 4, 17, 2, 3, 1, 60, 61, 62, 63, 64, 65, 66, 67, 68, 69, 70, 71, 72, 73, 74, 75, 76, 77, 78, 79, 80, 81, 82, 83, 84, 85, 86, 87, 88, 89, 90, 91] (by decide +kernel) (by decide +kernel)
set_option maxRecDepth 20000 in
theorem gX12_explains_X12_laysWithout : GoodIn wsX12_explains (wsV RX12 275 RX12 yX12_laysWithout wsX12_laysWithout) := goodIn_app (goodIn_of _ (by decide +kernel)) ggX12_explains_X12_laysWithout
set_option maxRecDepth 20000 in
theorem ggX12_explains_X12_hasSupport : GoodIn wsX12_explains wsX12_hasSupport := goodIn_r _ [25, 26, 27, 28, 29, 8, 30, 31, 32, 33, 34, 10, 11, 12, 13, 14, 15, 16, 17, 35, 36, 37, 38, 39, 40, 41, 42, 43, 44, 45, 46, 47, 48, 49, 50, 51, 52, 53, 54, 55, 56, 57, 58, 59, 60, 61, 62, 63, 64, 65, 66, 67, 68, 69, 70, 71, 72, 73, 74, 75, 76, 77, 78, 79, 80, 81, 82, 83, 84, 85, 86, 87, 88, 89, 90, 91] (by decide +kernel) (by decide +kernel)
set_option maxRecDepth 20000 in
theorem gX12_explains_X12_hasSupport : GoodIn wsX12_explains (wsV RX12 242 RX12 yX12_hasSupport wsX12_hasSupport) := goodIn_app (goodIn_of _ (by decide +kernel)) ggX12_explains_X12_hasSupport
theorem dX12_explains_0 : decode cX12_explains 0 = .ok (.aload_n 0, 1) := by decide +kernel
theorem dX12_explains_1 : decode cX12_explains 1 = .ok (.getfield 19, 3) := by decide +kernel
theorem dX12_explains_4 : decode cX12_explains 4 = .ok (.iconst 5, 1) := by decide +kernel
theorem dX12_explains_5 : decode cX12_explains 5 = .ok (.iload_n 1, 1) := by decide +kernel
theorem dX12_explains_6 : decode cX12_explains 6 = .ok (.imul, 1) := by decide +kernel
theorem dX12_explains_7 : decode cX12_explains 7 = .ok (.iconst 2, 1) := by decide +kernel
theorem dX12_explains_8 : decode cX12_explains 8 = .ok (.iadd, 1) := by decide +kernel
theorem dX12_explains_9 : decode cX12_explains 9 = .ok (.iaload, 1) := by decide +kernel
theorem dX12_explains_10 : decode cX12_explains 10 = .ok (.istore_n 2, 1) := by decide +kernel
theorem dX12_explains_11 : decode cX12_explains 11 = .ok (.iload_n 2, 1) := by decide +kernel
theorem dX12_explains_12 : decode cX12_explains 12 = .ok (.bipush 100, 2) := by decide +kernel
theorem dX12_explains_14 : decode cX12_explains 14 = .ok (.if_icmp .ne 17, 3) := by decide +kernel
theorem dX12_explains_17 : decode cX12_explains 17 = .ok (.aload_n 0, 1) := by decide +kernel
theorem dX12_explains_18 : decode cX12_explains 18 = .ok (.getfield 19, 3) := by decide +kernel
theorem dX12_explains_21 : decode cX12_explains 21 = .ok (.iconst 5, 1) := by decide +kernel
theorem dX12_explains_22 : decode cX12_explains 22 = .ok (.iload_n 1, 1) := by decide +kernel
theorem dX12_explains_23 : decode cX12_explains 23 = .ok (.imul, 1) := by decide +kernel
theorem dX12_explains_24 : decode cX12_explains 24 = .ok (.iconst 4, 1) := by decide +kernel
theorem dX12_explains_25 : decode cX12_explains 25 = .ok (.iadd, 1) := by decide +kernel
theorem dX12_explains_26 : decode cX12_explains 26 = .ok (.iaload, 1) := by decide +kernel
theorem dX12_explains_27 : decode cX12_explains 27 = .ok (.ineg, 1) := by decide +kernel
theorem dX12_explains_28 : decode cX12_explains 28 = .ok (.goto 4, 3) := by decide +kernel
theorem dX12_explains_31 : decode cX12_explains 31 = .ok (.iload_n 2, 1) := by decide +kernel
theorem dX12_explains_32 : decode cX12_explains 32 = .ok (.istore_n 3, 1) := by decide +kernel
theorem dX12_explains_33 : decode cX12_explains 33 = .ok (.iload_n 2, 1) := by decide +kernel
theorem dX12_explains_34 : decode cX12_explains 34 = .ok (.ifCond .lt 7, 3) := by decide +kernel
theorem dX12_explains_37 : decode cX12_explains 37 = .ok (.iconst 1, 1) := by decide +kernel
theorem dX12_explains_38 : decode cX12_explains 38 = .ok (.goto 4, 3) := by decide +kernel
theorem dX12_explains_41 : decode cX12_explains 41 = .ok (.iconst 0, 1) := by decide +kernel
theorem dX12_explains_42 : decode cX12_explains 42 = .ok (.istore 4, 2) := by decide +kernel
theorem dX12_explains_44 : decode cX12_explains 44 = .ok (.iconst 0, 1) := by decide +kernel
theorem dX12_explains_45 : decode cX12_explains 45 = .ok (.istore 5, 2) := by decide +kernel
theorem dX12_explains_47 : decode cX12_explains 47 = .ok (.iload 5, 2) := by decide +kernel
theorem dX12_explains_49 : decode cX12_explains 49 = .ok (.aload_n 0, 1) := by decide +kernel
theorem dX12_explains_50 : decode cX12_explains 50 = .ok (.getfield 73, 3) := by decide +kernel
theorem dX12_explains_53 : decode cX12_explains 53 = .ok (.if_icmp .ge 49, 3) := by decide +kernel
theorem dX12_explains_56 : decode cX12_explains 56 = .ok (.aload_n 0, 1) := by decide +kernel
theorem dX12_explains_57 : decode cX12_explains 57 = .ok (.getfield 42, 3) := by decide +kernel
theorem dX12_explains_60 : decode cX12_explains 60 = .ok (.iload 5, 2) := by decide +kernel
theorem dX12_explains_62 : decode cX12_explains 62 = .ok (.iload 4, 2) := by decide +kernel
theorem dX12_explains_64 : decode cX12_explains 64 = .ok (.ifCond .eq 30, 3) := by decide +kernel
theorem dX12_explains_67 : decode cX12_explains 67 = .ok (.iload 5, 2) := by decide +kernel
theorem dX12_explains_69 : decode cX12_explains 69 = .ok (.iload_n 1, 1) := by decide +kernel
theorem dX12_explains_70 : decode cX12_explains 70 = .ok (.if_icmp .ge 24, 3) := by decide +kernel
theorem dX12_explains_73 : decode cX12_explains 73 = .ok (.aload_n 0, 1) := by decide +kernel
theorem dX12_explains_74 : decode cX12_explains 74 = .ok (.iload_n 3, 1) := by decide +kernel
theorem dX12_explains_75 : decode cX12_explains 75 = .ok (.aload_n 0, 1) := by decide +kernel
theorem dX12_explains_76 : decode cX12_explains 76 = .ok (.getfield 19, 3) := by decide +kernel
theorem dX12_explains_79 : decode cX12_explains 79 = .ok (.iconst 5, 1) := by decide +kernel
theorem dX12_explains_80 : decode cX12_explains 80 = .ok (.iload 5, 2) := by decide +kernel
theorem dX12_explains_82 : decode cX12_explains 82 = .ok (.imul, 1) := by decide +kernel
theorem dX12_explains_83 : decode cX12_explains 83 = .ok (.iaload, 1) := by decide +kernel
theorem dX12_explains_84 : decode cX12_explains 84 = .ok (.invokevirtual 260, 3) := by decide +kernel
theorem dX12_explains_87 : decode cX12_explains 87 = .ok (.ifCond .eq 7, 3) := by decide +kernel
theorem dX12_explains_90 : decode cX12_explains 90 = .ok (.iconst 1, 1) := by decide +kernel
theorem dX12_explains_91 : decode cX12_explains 91 = .ok (.goto 4, 3) := by decide +kernel
theorem dX12_explains_94 : decode cX12_explains 94 = .ok (.iconst 0, 1) := by decide +kernel
theorem dX12_explains_95 : decode cX12_explains 95 = .ok (.bastore, 1) := by decide +kernel
theorem dX12_explains_96 : decode cX12_explains 96 = .ok (.iinc 5 1, 3) := by decide +kernel
theorem dX12_explains_99 : decode cX12_explains 99 = .ok (.goto (-52), 3) := by decide +kernel
theorem dX12_explains_102 : decode cX12_explains 102 = .ok (.iconst 0, 1) := by decide +kernel
theorem dX12_explains_103 : decode cX12_explains 103 = .ok (.istore 5, 2) := by decide +kernel
theorem dX12_explains_105 : decode cX12_explains 105 = .ok (.iload_n 1, 1) := by decide +kernel
theorem dX12_explains_106 : decode cX12_explains 106 = .ok (.iconst 1, 1) := by decide +kernel
theorem dX12_explains_107 : decode cX12_explains 107 = .ok (.isub, 1) := by decide +kernel
theorem dX12_explains_108 : decode cX12_explains 108 = .ok (.istore 6, 2) := by decide +kernel
theorem dX12_explains_110 : decode cX12_explains 110 = .ok (.iload 6, 2) := by decide +kernel
theorem dX12_explains_112 : decode cX12_explains 112 = .ok (.ifCond .lt 88, 3) := by decide +kernel
theorem dX12_explains_115 : decode cX12_explains 115 = .ok (.aload_n 0, 1) := by decide +kernel
theorem dX12_explains_116 : decode cX12_explains 116 = .ok (.getfield 42, 3) := by decide +kernel
theorem dX12_explains_119 : decode cX12_explains 119 = .ok (.iload 6, 2) := by decide +kernel
theorem dX12_explains_121 : decode cX12_explains 121 = .ok (.baload, 1) := by decide +kernel
theorem dX12_explains_122 : decode cX12_explains 122 = .ok (.ifCond .ne 6, 3) := by decide +kernel
theorem dX12_explains_125 : decode cX12_explains 125 = .ok (.goto 69, 3) := by decide +kernel
theorem dX12_explains_128 : decode cX12_explains 128 = .ok (.aload_n 0, 1) := by decide +kernel
theorem dX12_explains_129 : decode cX12_explains 129 = .ok (.getfield 42, 3) := by decide +kernel
theorem dX12_explains_132 : decode cX12_explains 132 = .ok (.iload 6, 2) := by decide +kernel
theorem dX12_explains_134 : decode cX12_explains 134 = .ok (.iconst 0, 1) := by decide +kernel
theorem dX12_explains_135 : decode cX12_explains 135 = .ok (.bastore, 1) := by decide +kernel
theorem dX12_explains_136 : decode cX12_explains 136 = .ok (.aload_n 0, 1) := by decide +kernel
theorem dX12_explains_137 : decode cX12_explains 137 = .ok (.invokevirtual 275, 3) := by decide +kernel
theorem dX12_explains_140 : decode cX12_explains 140 = .ok (.aload_n 0, 1) := by decide +kernel
theorem dX12_explains_141 : decode cX12_explains 141 = .ok (.getfield 42, 3) := by decide +kernel
theorem dX12_explains_144 : decode cX12_explains 144 = .ok (.iload 6, 2) := by decide +kernel
theorem dX12_explains_146 : decode cX12_explains 146 = .ok (.aload_n 0, 1) := by decide +kernel
theorem dX12_explains_147 : decode cX12_explains 147 = .ok (.iload_n 3, 1) := by decide +kernel
theorem dX12_explains_148 : decode cX12_explains 148 = .ok (.aload_n 0, 1) := by decide +kernel
theorem dX12_explains_149 : decode cX12_explains 149 = .ok (.getfield 19, 3) := by decide +kernel
theorem dX12_explains_152 : decode cX12_explains 152 = .ok (.iconst 5, 1) := by decide +kernel
theorem dX12_explains_153 : decode cX12_explains 153 = .ok (.iload_n 1, 1) := by decide +kernel
theorem dX12_explains_154 : decode cX12_explains 154 = .ok (.imul, 1) := by decide +kernel
theorem dX12_explains_155 : decode cX12_explains 155 = .ok (.iaload, 1) := by decide +kernel
theorem dX12_explains_156 : decode cX12_explains 156 = .ok (.aload_n 0, 1) := by decide +kernel
theorem dX12_explains_157 : decode cX12_explains 157 = .ok (.getfield 19, 3) := by decide +kernel
theorem dX12_explains_160 : decode cX12_explains 160 = .ok (.iconst 5, 1) := by decide +kernel
theorem dX12_explains_161 : decode cX12_explains 161 = .ok (.iload_n 1, 1) := by decide +kernel
theorem dX12_explains_162 : decode cX12_explains 162 = .ok (.imul, 1) := by decide +kernel
theorem dX12_explains_163 : decode cX12_explains 163 = .ok (.iconst 1, 1) := by decide +kernel
theorem dX12_explains_164 : decode cX12_explains 164 = .ok (.iadd, 1) := by decide +kernel
theorem dX12_explains_165 : decode cX12_explains 165 = .ok (.iaload, 1) := by decide +kernel
theorem dX12_explains_166 : decode cX12_explains 166 = .ok (.aload_n 0, 1) := by decide +kernel
theorem dX12_explains_167 : decode cX12_explains 167 = .ok (.getfield 46, 3) := by decide +kernel
theorem dX12_explains_170 : decode cX12_explains 170 = .ok (.invokevirtual 242, 3) := by decide +kernel
theorem dX12_explains_173 : decode cX12_explains 173 = .ok (.bastore, 1) := by decide +kernel
theorem dX12_explains_174 : decode cX12_explains 174 = .ok (.iload 5, 2) := by decide +kernel
theorem dX12_explains_176 : decode cX12_explains 176 = .ok (.aload_n 0, 1) := by decide +kernel
theorem dX12_explains_177 : decode cX12_explains 177 = .ok (.getfield 42, 3) := by decide +kernel
theorem dX12_explains_180 : decode cX12_explains 180 = .ok (.iload 6, 2) := by decide +kernel
theorem dX12_explains_182 : decode cX12_explains 182 = .ok (.baload, 1) := by decide +kernel
theorem dX12_explains_183 : decode cX12_explains 183 = .ok (.ifCond .eq 7, 3) := by decide +kernel
theorem dX12_explains_186 : decode cX12_explains 186 = .ok (.iconst 1, 1) := by decide +kernel
theorem dX12_explains_187 : decode cX12_explains 187 = .ok (.goto 4, 3) := by decide +kernel
theorem dX12_explains_190 : decode cX12_explains 190 = .ok (.iconst 0, 1) := by decide +kernel
theorem dX12_explains_191 : decode cX12_explains 191 = .ok (.iadd, 1) := by decide +kernel
theorem dX12_explains_192 : decode cX12_explains 192 = .ok (.istore 5, 2) := by decide +kernel
theorem dX12_explains_194 : decode cX12_explains 194 = .ok (.iinc 6 (-1), 3) := by decide +kernel
theorem dX12_explains_197 : decode cX12_explains 197 = .ok (.goto (-87), 3) := by decide +kernel
theorem dX12_explains_200 : decode cX12_explains 200 = .ok (.iload 5, 2) := by decide +kernel
theorem dX12_explains_202 : decode cX12_explains 202 = .ok (.ireturn, 1) := by decide +kernel
set_option maxRecDepth 20000 in
theorem ggX12_explanationSize_X12_isFact : GoodIn wsX12_explanationSize wsX12_isFact := goodIn_r _ [6, 7, 8, 9, 5, 10, 73, 74, 75, 76, 77, 78, 79, 80, 81, 82, 83, 84, 85, 86, 87, 88, 89, 90, 91, 92, 93, 94, 95, 96, 97, 98, 99, 100, 101, 102, 103, 104] (by decide +kernel) (by decide +kernel)
set_option maxRecDepth 20000 in
theorem gX12_explanationSize_X12_isFact : GoodIn wsX12_explanationSize (wsV RX12 272 RX12 yX12_isFact wsX12_isFact) := goodIn_app (goodIn_of _ (by decide +kernel)) ggX12_explanationSize_X12_isFact
set_option maxRecDepth 20000 in
theorem ggX12_explanationSize_X12_may : GoodIn wsX12_explanationSize wsX12_may := goodIn_r _ [14, 1, 73, 74, 75, 76, 77, 78, 79, 80, 81, 82, 83, 84, 85, 86, 87, 88, 89, 90, 91, 92, 93, 94, 95, 96, 97, 98, 99, 100, 101, 102, 103, 104] (by decide +kernel) (by decide +kernel)
set_option maxRecDepth 20000 in
theorem gX12_explanationSize_X12_may : GoodIn wsX12_explanationSize (wsV RX12 96 RX12 yX12_may wsX12_may) := goodIn_app (goodIn_of _ (by decide +kernel)) ggX12_explanationSize_X12_may
set_option maxRecDepth 20000 in
theorem ggX12_explanationSize_X12_explains : GoodIn wsX12_explanationSize wsX12_explains := goodIn_r _ [18, 19, 7, 20, 21, 22, 23, 24, 5, 25, 26, 27, 28, 29, 30, 31, 32, 33, 34, 35, 36, 37, 38, 39, 40, 41, 42, 43, 44, 45, 46, 47, 48, 49, 50, 51, 52, 53, 54, 55, 56, 57, 58, 59, 60, 61, 62, 63, 64, 8, 9, 10, 65, 66, 67, 68, 69, 70, 71, 72, 73, 74, 75, 76, 77, 78, 79, 80, 81, 82, 83, 84, 85, 86, 87, 88, 89, 90, 91, 92, 93, 94, 95, 96, 97, 98, 99, 100, 101, 102, 103, 104] (by decide +kernel) (by decide +kernel)
set_option maxRecDepth 20000 in
theorem gX12_explanationSize_X12_explains : GoodIn wsX12_explanationSize (wsV RX12 278 RX12 yX12_explains wsX12_explains) := goodIn_app (goodIn_of _ (by decide +kernel)) ggX12_explanationSize_X12_explains
theorem dX12_explanationSize_0 : decode cX12_explanationSize 0 = .ok (.aload_n 0, 1) := by decide +kernel
theorem dX12_explanationSize_1 : decode cX12_explanationSize 1 = .ok (.iconst 0, 1) := by decide +kernel
theorem dX12_explanationSize_2 : decode cX12_explanationSize 2 = .ok (.putfield 70, 3) := by decide +kernel
theorem dX12_explanationSize_5 : decode cX12_explanationSize 5 = .ok (.aload_n 0, 1) := by decide +kernel
theorem dX12_explanationSize_6 : decode cX12_explanationSize 6 = .ok (.aload_n 0, 1) := by decide +kernel
theorem dX12_explanationSize_7 : decode cX12_explanationSize 7 = .ok (.iload_n 1, 1) := by decide +kernel
theorem dX12_explanationSize_8 : decode cX12_explanationSize 8 = .ok (.invokevirtual 272, 3) := by decide +kernel
theorem dX12_explanationSize_11 : decode cX12_explanationSize 11 = .ok (.iconst 1, 1) := by decide +kernel
theorem dX12_explanationSize_12 : decode cX12_explanationSize 12 = .ok (.invokevirtual 96, 3) := by decide +kernel
theorem dX12_explanationSize_15 : decode cX12_explanationSize 15 = .ok (.ifCond .eq 11, 3) := by decide +kernel
theorem dX12_explanationSize_18 : decode cX12_explanationSize 18 = .ok (.aload_n 0, 1) := by decide +kernel
theorem dX12_explanationSize_19 : decode cX12_explanationSize 19 = .ok (.iload_n 1, 1) := by decide +kernel
theorem dX12_explanationSize_20 : decode cX12_explanationSize 20 = .ok (.invokevirtual 278, 3) := by decide +kernel
theorem dX12_explanationSize_23 : decode cX12_explanationSize 23 = .ok (.goto 4, 3) := by decide +kernel
theorem dX12_explanationSize_26 : decode cX12_explanationSize 26 = .ok (.iconst 0, 1) := by decide +kernel
theorem dX12_explanationSize_27 : decode cX12_explanationSize 27 = .ok (.ireturn, 1) := by decide +kernel
set_option maxRecDepth 20000 in
theorem ggX12_explained_X12_isFact : GoodIn wsX12_explained wsX12_isFact := goodIn_r _ [7, 8, 9, 10, 6, 11, 73, 74, 75, 76, 77, 78, 79, 80, 81, 82, 83, 84, 85, 86, 87, 88, 89, 90, 91, 92, 93, 94, 95, 96, 97, 98, 99, 100, 101, 102, 103, 104] (by decide +kernel) (by decide +kernel)
set_option maxRecDepth 20000 in
theorem gX12_explained_X12_isFact : GoodIn wsX12_explained (wsV RX12 272 RX12 yX12_isFact wsX12_isFact) := goodIn_app (goodIn_of _ (by decide +kernel)) ggX12_explained_X12_isFact
set_option maxRecDepth 20000 in
theorem ggX12_explained_X12_may : GoodIn wsX12_explained wsX12_may := goodIn_r _ [15, 1, 73, 74, 75, 76, 77, 78, 79, 80, 81, 82, 83, 84, 85, 86, 87, 88, 89, 90, 91, 92, 93, 94, 95, 96, 97, 98, 99, 100, 101, 102, 103, 104] (by decide +kernel) (by decide +kernel)
set_option maxRecDepth 20000 in
theorem gX12_explained_X12_may : GoodIn wsX12_explained (wsV RX12 96 RX12 yX12_may wsX12_may) := goodIn_app (goodIn_of _ (by decide +kernel)) ggX12_explained_X12_may
set_option maxRecDepth 20000 in
theorem ggX12_explained_X12_explains : GoodIn wsX12_explained wsX12_explains := goodIn_r _ [19, 20, 8, 2, 21, 22, 23, 24, 6, 25, 26, 27, 28, 29, 30, 31, 32, 33, 34, 35, 36, 37, 38, 39, 40, 41, 42, 43, 44, 45, 46, 47, 48, 49, 50, 51, 52, 53, 54, 55, 56, 57, 58, 59, 60, 61, 62, 63, 64, 9, 10, 11, 65, 66, 67, 68, 69, 70, 71, 72, 73, 74, 75, 76, 77, 78, 79, 80, 81, 82, 83, 84, 85, 86, 87, 88, 89, 90, 91, 92, 93, 94, 95, 96, 97, 98, 99, 100, 101, 102, 103, 104] (by decide +kernel) (by decide +kernel)
set_option maxRecDepth 20000 in
theorem gX12_explained_X12_explains : GoodIn wsX12_explained (wsV RX12 278 RX12 yX12_explains wsX12_explains) := goodIn_app (goodIn_of _ (by decide +kernel)) ggX12_explained_X12_explains
set_option maxRecDepth 20000 in
theorem ggX12_explained_X12_isIn : GoodIn wsX12_explained wsX12_isIn := goodIn_r _ [11] (by decide +kernel) (by decide +kernel)
set_option maxRecDepth 20000 in
theorem gX12_explained_X12_isIn : GoodIn wsX12_explained (va_wsS RX12 100 yX12_isIn wsX12_isIn) := goodIn_app (goodIn_of _ (by decide +kernel)) ggX12_explained_X12_isIn
theorem dX12_explained_0 : decode cX12_explained 0 = .ok (.aload_n 0, 1) := by decide +kernel
theorem dX12_explained_1 : decode cX12_explained 1 = .ok (.iconst 0, 1) := by decide +kernel
theorem dX12_explained_2 : decode cX12_explained 2 = .ok (.putfield 70, 3) := by decide +kernel
theorem dX12_explained_5 : decode cX12_explained 5 = .ok (.aload_n 0, 1) := by decide +kernel
theorem dX12_explained_6 : decode cX12_explained 6 = .ok (.aload_n 0, 1) := by decide +kernel
theorem dX12_explained_7 : decode cX12_explained 7 = .ok (.iload_n 1, 1) := by decide +kernel
theorem dX12_explained_8 : decode cX12_explained 8 = .ok (.invokevirtual 272, 3) := by decide +kernel
theorem dX12_explained_11 : decode cX12_explained 11 = .ok (.iconst 1, 1) := by decide +kernel
theorem dX12_explained_12 : decode cX12_explained 12 = .ok (.invokevirtual 96, 3) := by decide +kernel
theorem dX12_explained_15 : decode cX12_explained 15 = .ok (.ifCond .eq 23, 3) := by decide +kernel
theorem dX12_explained_18 : decode cX12_explained 18 = .ok (.aload_n 0, 1) := by decide +kernel
theorem dX12_explained_19 : decode cX12_explained 19 = .ok (.iload_n 2, 1) := by decide +kernel
theorem dX12_explained_20 : decode cX12_explained 20 = .ok (.iconst 0, 1) := by decide +kernel
theorem dX12_explained_21 : decode cX12_explained 21 = .ok (.aload_n 0, 1) := by decide +kernel
theorem dX12_explained_22 : decode cX12_explained 22 = .ok (.iload_n 1, 1) := by decide +kernel
theorem dX12_explained_23 : decode cX12_explained 23 = .ok (.invokevirtual 278, 3) := by decide +kernel
theorem dX12_explained_26 : decode cX12_explained 26 = .ok (.iconst 1, 1) := by decide +kernel
theorem dX12_explained_27 : decode cX12_explained 27 = .ok (.isub, 1) := by decide +kernel
theorem dX12_explained_28 : decode cX12_explained 28 = .ok (.invokestatic 100, 3) := by decide +kernel
theorem dX12_explained_31 : decode cX12_explained 31 = .ok (.iconst 1, 1) := by decide +kernel
theorem dX12_explained_32 : decode cX12_explained 32 = .ok (.invokevirtual 96, 3) := by decide +kernel
theorem dX12_explained_35 : decode cX12_explained 35 = .ok (.ifCond .ne 5, 3) := by decide +kernel
theorem dX12_explained_38 : decode cX12_explained 38 = .ok (.iconst 0, 1) := by decide +kernel
theorem dX12_explained_39 : decode cX12_explained 39 = .ok (.ireturn, 1) := by decide +kernel
theorem dX12_explained_40 : decode cX12_explained 40 = .ok (.iconst 0, 1) := by decide +kernel
theorem dX12_explained_41 : decode cX12_explained 41 = .ok (.istore_n 3, 1) := by decide +kernel
theorem dX12_explained_42 : decode cX12_explained 42 = .ok (.iload_n 2, 1) := by decide +kernel
theorem dX12_explained_43 : decode cX12_explained 43 = .ok (.istore 4, 2) := by decide +kernel
theorem dX12_explained_45 : decode cX12_explained 45 = .ok (.iload 4, 2) := by decide +kernel
theorem dX12_explained_47 : decode cX12_explained 47 = .ok (.ifCond .gt 12, 3) := by decide +kernel
theorem dX12_explained_50 : decode cX12_explained 50 = .ok (.aload_n 0, 1) := by decide +kernel
theorem dX12_explained_51 : decode cX12_explained 51 = .ok (.getfield 42, 3) := by decide +kernel
theorem dX12_explained_54 : decode cX12_explained 54 = .ok (.iload_n 3, 1) := by decide +kernel
theorem dX12_explained_55 : decode cX12_explained 55 = .ok (.baload, 1) := by decide +kernel
theorem dX12_explained_56 : decode cX12_explained 56 = .ok (.ifCond .ne 28, 3) := by decide +kernel
theorem dX12_explained_59 : decode cX12_explained 59 = .ok (.iload 4, 2) := by decide +kernel
theorem dX12_explained_61 : decode cX12_explained 61 = .ok (.aload_n 0, 1) := by decide +kernel
theorem dX12_explained_62 : decode cX12_explained 62 = .ok (.getfield 42, 3) := by decide +kernel
theorem dX12_explained_65 : decode cX12_explained 65 = .ok (.iload_n 3, 1) := by decide +kernel
theorem dX12_explained_66 : decode cX12_explained 66 = .ok (.baload, 1) := by decide +kernel
theorem dX12_explained_67 : decode cX12_explained 67 = .ok (.ifCond .eq 7, 3) := by decide +kernel
theorem dX12_explained_70 : decode cX12_explained 70 = .ok (.iconst 1, 1) := by decide +kernel
theorem dX12_explained_71 : decode cX12_explained 71 = .ok (.goto 4, 3) := by decide +kernel
theorem dX12_explained_74 : decode cX12_explained 74 = .ok (.iconst 0, 1) := by decide +kernel
theorem dX12_explained_75 : decode cX12_explained 75 = .ok (.isub, 1) := by decide +kernel
theorem dX12_explained_76 : decode cX12_explained 76 = .ok (.istore 4, 2) := by decide +kernel
theorem dX12_explained_78 : decode cX12_explained 78 = .ok (.iinc 3 1, 3) := by decide +kernel
theorem dX12_explained_81 : decode cX12_explained 81 = .ok (.goto (-36), 3) := by decide +kernel
theorem dX12_explained_84 : decode cX12_explained 84 = .ok (.iload_n 3, 1) := by decide +kernel
theorem dX12_explained_85 : decode cX12_explained 85 = .ok (.ireturn, 1) := by decide +kernel
set_option maxRecDepth 20000 in
theorem ggX12_depth_X12_isFact : GoodIn wsX12_depth wsX12_isFact := goodIn_r _ [8, 9, 10, 11, 7, 12, 74, 75, 76, 77, 78, 79, 80, 81, 82, 83, 84, 85, 86, 87, 88, 89, 90, 91, 92, 93, 94, 95, 96, 97, 98, 99, 100, 101, 102, 103, 104, 105] (by decide +kernel) (by decide +kernel)
set_option maxRecDepth 20000 in
theorem gX12_depth_X12_isFact : GoodIn wsX12_depth (wsV RX12 272 RX12 yX12_isFact wsX12_isFact) := goodIn_app (goodIn_of _ (by decide +kernel)) ggX12_depth_X12_isFact
set_option maxRecDepth 20000 in
theorem ggX12_depth_X12_may : GoodIn wsX12_depth wsX12_may := goodIn_r _ [16, 1, 74, 75, 76, 77, 78, 79, 80, 81, 82, 83, 84, 85, 86, 87, 88, 89, 90, 91, 92, 93, 94, 95, 96, 97, 98, 99, 100, 101, 102, 103, 104, 105] (by decide +kernel) (by decide +kernel)
set_option maxRecDepth 20000 in
theorem gX12_depth_X12_may : GoodIn wsX12_depth (wsV RX12 96 RX12 yX12_may wsX12_may) := goodIn_app (goodIn_of _ (by decide +kernel)) ggX12_depth_X12_may
set_option maxRecDepth 20000 in
theorem ggX12_depth_X12_explains : GoodIn wsX12_depth wsX12_explains := goodIn_r _ [20, 21, 9, 3, 22, 23, 24, 25, 7, 26, 27, 28, 29, 30, 31, 32, 33, 34, 35, 36, 37, 38, 39, 40, 41, 42, 43, 44, 45, 46, 47, 48, 49, 50, 51, 52, 53, 54, 55, 56, 57, 58, 59, 60, 61, 62, 63, 64, 65, 10, 11, 12, 66, 67, 68, 69, 70, 71, 72, 73, 74, 75, 76, 77, 78, 79, 80, 81, 82, 83, 84, 85, 86, 87, 88, 89, 90, 91, 92, 93, 94, 95, 96, 97, 98, 99, 100, 101, 102, 103, 104, 105] (by decide +kernel) (by decide +kernel)
set_option maxRecDepth 20000 in
theorem gX12_depth_X12_explains : GoodIn wsX12_depth (wsV RX12 278 RX12 yX12_explains wsX12_explains) := goodIn_app (goodIn_of _ (by decide +kernel)) ggX12_depth_X12_explains
theorem dX12_depth_0 : decode cX12_depth 0 = .ok (.aload_n 0, 1) := by decide +kernel
theorem dX12_depth_1 : decode cX12_depth 1 = .ok (.iconst 0, 1) := by decide +kernel
theorem dX12_depth_2 : decode cX12_depth 2 = .ok (.putfield 70, 3) := by decide +kernel
theorem dX12_depth_5 : decode cX12_depth 5 = .ok (.aload_n 0, 1) := by decide +kernel
theorem dX12_depth_6 : decode cX12_depth 6 = .ok (.aload_n 0, 1) := by decide +kernel
theorem dX12_depth_7 : decode cX12_depth 7 = .ok (.iload_n 1, 1) := by decide +kernel
theorem dX12_depth_8 : decode cX12_depth 8 = .ok (.invokevirtual 272, 3) := by decide +kernel
theorem dX12_depth_11 : decode cX12_depth 11 = .ok (.iconst 1, 1) := by decide +kernel
theorem dX12_depth_12 : decode cX12_depth 12 = .ok (.invokevirtual 96, 3) := by decide +kernel
theorem dX12_depth_15 : decode cX12_depth 15 = .ok (.ifCond .ne 5, 3) := by decide +kernel
theorem dX12_depth_18 : decode cX12_depth 18 = .ok (.iconst 0, 1) := by decide +kernel
theorem dX12_depth_19 : decode cX12_depth 19 = .ok (.ireturn, 1) := by decide +kernel
theorem dX12_depth_20 : decode cX12_depth 20 = .ok (.iconst 0, 1) := by decide +kernel
theorem dX12_depth_21 : decode cX12_depth 21 = .ok (.istore_n 2, 1) := by decide +kernel
theorem dX12_depth_22 : decode cX12_depth 22 = .ok (.iload_n 2, 1) := by decide +kernel
theorem dX12_depth_23 : decode cX12_depth 23 = .ok (.iload_n 1, 1) := by decide +kernel
theorem dX12_depth_24 : decode cX12_depth 24 = .ok (.if_icmp .gt 78, 3) := by decide +kernel
theorem dX12_depth_27 : decode cX12_depth 27 = .ok (.aload_n 0, 1) := by decide +kernel
theorem dX12_depth_28 : decode cX12_depth 28 = .ok (.getfield 49, 3) := by decide +kernel
theorem dX12_depth_31 : decode cX12_depth 31 = .ok (.iload_n 2, 1) := by decide +kernel
theorem dX12_depth_32 : decode cX12_depth 32 = .ok (.iconst 0, 1) := by decide +kernel
theorem dX12_depth_33 : decode cX12_depth 33 = .ok (.iastore, 1) := by decide +kernel
theorem dX12_depth_34 : decode cX12_depth 34 = .ok (.aload_n 0, 1) := by decide +kernel
theorem dX12_depth_35 : decode cX12_depth 35 = .ok (.iload_n 2, 1) := by decide +kernel
theorem dX12_depth_36 : decode cX12_depth 36 = .ok (.invokevirtual 278, 3) := by decide +kernel
theorem dX12_depth_39 : decode cX12_depth 39 = .ok (.ifCond .ne 6, 3) := by decide +kernel
theorem dX12_depth_42 : decode cX12_depth 42 = .ok (.goto 54, 3) := by decide +kernel
theorem dX12_depth_45 : decode cX12_depth 45 = .ok (.iconst 0, 1) := by decide +kernel
theorem dX12_depth_46 : decode cX12_depth 46 = .ok (.istore_n 3, 1) := by decide +kernel
theorem dX12_depth_47 : decode cX12_depth 47 = .ok (.iload_n 3, 1) := by decide +kernel
theorem dX12_depth_48 : decode cX12_depth 48 = .ok (.iload_n 2, 1) := by decide +kernel
theorem dX12_depth_49 : decode cX12_depth 49 = .ok (.if_icmp .ge 47, 3) := by decide +kernel
theorem dX12_depth_52 : decode cX12_depth 52 = .ok (.aload_n 0, 1) := by decide +kernel
theorem dX12_depth_53 : decode cX12_depth 53 = .ok (.getfield 42, 3) := by decide +kernel
theorem dX12_depth_56 : decode cX12_depth 56 = .ok (.iload_n 3, 1) := by decide +kernel
theorem dX12_depth_57 : decode cX12_depth 57 = .ok (.baload, 1) := by decide +kernel
theorem dX12_depth_58 : decode cX12_depth 58 = .ok (.ifCond .eq 32, 3) := by decide +kernel
theorem dX12_depth_61 : decode cX12_depth 61 = .ok (.aload_n 0, 1) := by decide +kernel
theorem dX12_depth_62 : decode cX12_depth 62 = .ok (.getfield 49, 3) := by decide +kernel
theorem dX12_depth_65 : decode cX12_depth 65 = .ok (.iload_n 3, 1) := by decide +kernel
theorem dX12_depth_66 : decode cX12_depth 66 = .ok (.iaload, 1) := by decide +kernel
theorem dX12_depth_67 : decode cX12_depth 67 = .ok (.aload_n 0, 1) := by decide +kernel
theorem dX12_depth_68 : decode cX12_depth 68 = .ok (.getfield 49, 3) := by decide +kernel
theorem dX12_depth_71 : decode cX12_depth 71 = .ok (.iload_n 2, 1) := by decide +kernel
theorem dX12_depth_72 : decode cX12_depth 72 = .ok (.iaload, 1) := by decide +kernel
theorem dX12_depth_73 : decode cX12_depth 73 = .ok (.if_icmp .lt 17, 3) := by decide +kernel
theorem dX12_depth_76 : decode cX12_depth 76 = .ok (.aload_n 0, 1) := by decide +kernel
theorem dX12_depth_77 : decode cX12_depth 77 = .ok (.getfield 49, 3) := by decide +kernel
theorem dX12_depth_80 : decode cX12_depth 80 = .ok (.iload_n 2, 1) := by decide +kernel
theorem dX12_depth_81 : decode cX12_depth 81 = .ok (.aload_n 0, 1) := by decide +kernel
theorem dX12_depth_82 : decode cX12_depth 82 = .ok (.getfield 49, 3) := by decide +kernel
theorem dX12_depth_85 : decode cX12_depth 85 = .ok (.iload_n 3, 1) := by decide +kernel
theorem dX12_depth_86 : decode cX12_depth 86 = .ok (.iaload, 1) := by decide +kernel
theorem dX12_depth_87 : decode cX12_depth 87 = .ok (.iconst 1, 1) := by decide +kernel
theorem dX12_depth_88 : decode cX12_depth 88 = .ok (.iadd, 1) := by decide +kernel
theorem dX12_depth_89 : decode cX12_depth 89 = .ok (.iastore, 1) := by decide +kernel
theorem dX12_depth_90 : decode cX12_depth 90 = .ok (.iinc 3 1, 3) := by decide +kernel
theorem dX12_depth_93 : decode cX12_depth 93 = .ok (.goto (-46), 3) := by decide +kernel
theorem dX12_depth_96 : decode cX12_depth 96 = .ok (.iinc 2 1, 3) := by decide +kernel
theorem dX12_depth_99 : decode cX12_depth 99 = .ok (.goto (-77), 3) := by decide +kernel
theorem dX12_depth_102 : decode cX12_depth 102 = .ok (.aload_n 0, 1) := by decide +kernel
theorem dX12_depth_103 : decode cX12_depth 103 = .ok (.getfield 49, 3) := by decide +kernel
theorem dX12_depth_106 : decode cX12_depth 106 = .ok (.iload_n 1, 1) := by decide +kernel
theorem dX12_depth_107 : decode cX12_depth 107 = .ok (.iaload, 1) := by decide +kernel
theorem dX12_depth_108 : decode cX12_depth 108 = .ok (.ireturn, 1) := by decide +kernel
set_option maxRecDepth 20000 in
theorem ggX12_isSupportedNow_X12_has : GoodIn wsX12_isSupportedNow wsX12_has := goodIn_r _ [5] (by decide +kernel) (by decide +kernel)
set_option maxRecDepth 20000 in
theorem gX12_isSupportedNow_X12_has : GoodIn wsX12_isSupportedNow (va_wsS RX12 178 yX12_has wsX12_has) := goodIn_app (goodIn_of _ (by decide +kernel)) ggX12_isSupportedNow_X12_has
set_option maxRecDepth 20000 in
theorem ggX12_isSupportedNow_X12_hasSupport : GoodIn wsX12_isSupportedNow wsX12_hasSupport := goodIn_r _ [9, 10, 11, 12, 13, 4, 14, 15, 16, 17, 18, 19, 20, 21, 22, 23, 24, 25, 26, 27, 28, 29, 30, 2, 3, 5, 31, 32, 33, 34, 35, 36, 37, 38, 39, 40, 41, 42, 43, 44, 45, 46, 47, 48, 49, 50, 51, 52, 53, 54, 55, 56, 57, 58, 59, 60, 61, 62, 63, 64, 65, 66, 67, 68, 69, 70, 71, 72, 73, 74, 75, 76, 77, 78, 79, 80] (by decide +kernel) (by decide +kernel)
set_option maxRecDepth 20000 in
theorem gX12_isSupportedNow_X12_hasSupport : GoodIn wsX12_isSupportedNow (wsV RX12 242 RX12 yX12_hasSupport wsX12_hasSupport) := goodIn_app (goodIn_of _ (by decide +kernel)) ggX12_isSupportedNow_X12_hasSupport
theorem dX12_isSupportedNow_0 : decode cX12_isSupportedNow 0 = .ok (.aload_n 0, 1) := by decide +kernel
theorem dX12_isSupportedNow_1 : decode cX12_isSupportedNow 1 = .ok (.getfield 16, 3) := by decide +kernel
theorem dX12_isSupportedNow_4 : decode cX12_isSupportedNow 4 = .ok (.iload_n 2, 1) := by decide +kernel
theorem dX12_isSupportedNow_5 : decode cX12_isSupportedNow 5 = .ok (.iaload, 1) := by decide +kernel
theorem dX12_isSupportedNow_6 : decode cX12_isSupportedNow 6 = .ok (.iload_n 3, 1) := by decide +kernel
theorem dX12_isSupportedNow_7 : decode cX12_isSupportedNow 7 = .ok (.invokestatic 178, 3) := by decide +kernel
theorem dX12_isSupportedNow_10 : decode cX12_isSupportedNow 10 = .ok (.ifCond .eq 21, 3) := by decide +kernel
theorem dX12_isSupportedNow_13 : decode cX12_isSupportedNow 13 = .ok (.aload_n 0, 1) := by decide +kernel
theorem dX12_isSupportedNow_14 : decode cX12_isSupportedNow 14 = .ok (.iload_n 1, 1) := by decide +kernel
theorem dX12_isSupportedNow_15 : decode cX12_isSupportedNow 15 = .ok (.iload_n 2, 1) := by decide +kernel
theorem dX12_isSupportedNow_16 : decode cX12_isSupportedNow 16 = .ok (.iload_n 3, 1) := by decide +kernel
theorem dX12_isSupportedNow_17 : decode cX12_isSupportedNow 17 = .ok (.aload_n 0, 1) := by decide +kernel
theorem dX12_isSupportedNow_18 : decode cX12_isSupportedNow 18 = .ok (.getfield 16, 3) := by decide +kernel
theorem dX12_isSupportedNow_21 : decode cX12_isSupportedNow 21 = .ok (.invokevirtual 242, 3) := by decide +kernel
theorem dX12_isSupportedNow_24 : decode cX12_isSupportedNow 24 = .ok (.ifCond .eq 7, 3) := by decide +kernel
theorem dX12_isSupportedNow_27 : decode cX12_isSupportedNow 27 = .ok (.iconst 1, 1) := by decide +kernel
theorem dX12_isSupportedNow_28 : decode cX12_isSupportedNow 28 = .ok (.goto 4, 3) := by decide +kernel
theorem dX12_isSupportedNow_31 : decode cX12_isSupportedNow 31 = .ok (.iconst 0, 1) := by decide +kernel
theorem dX12_isSupportedNow_32 : decode cX12_isSupportedNow 32 = .ok (.ireturn, 1) := by decide +kernel
set_option maxRecDepth 20000 in
theorem ggX12_isSupported_X12_isMember : GoodIn wsX12_isSupported wsX12_isMember := goodIn_r _ [6, 7, 8, 9, 5, 10, 11, 12, 13, 14, 15, 16, 17, 18, 19, 20, 21, 22, 23, 24, 25, 26, 27, 28, 29, 74, 75, 76, 77, 78, 79, 80, 81, 82, 83, 84, 85, 86, 87, 88, 89, 90, 91, 92, 93, 94, 95, 96, 97, 98, 99, 100, 101, 102, 103, 104, 105] (by decide +kernel) (by decide +kernel)
set_option maxRecDepth 20000 in
theorem gX12_isSupported_X12_isMember : GoodIn wsX12_isSupported (wsV RX12 281 RX12 yX12_isMember wsX12_isMember) := goodIn_app (goodIn_of _ (by decide +kernel)) ggX12_isSupported_X12_isMember
set_option maxRecDepth 20000 in
theorem ggX12_isSupported_X12_may : GoodIn wsX12_isSupported wsX12_may := goodIn_r _ [33, 1, 74, 75, 76, 77, 78, 79, 80, 81, 82, 83, 84, 85, 86, 87, 88, 89, 90, 91, 92, 93, 94, 95, 96, 97, 98, 99, 100, 101, 102, 103, 104, 105] (by decide +kernel) (by decide +kernel)
set_option maxRecDepth 20000 in
theorem gX12_isSupported_X12_may : GoodIn wsX12_isSupported (wsV RX12 96 RX12 yX12_may wsX12_may) := goodIn_app (goodIn_of _ (by decide +kernel)) ggX12_isSupported_X12_may
set_option maxRecDepth 20000 in
theorem ggX12_isSupported_X12_isIn : GoodIn wsX12_isSupported wsX12_isIn := goodIn_r _ [14] (by decide +kernel) (by decide +kernel)
set_option maxRecDepth 20000 in
theorem gX12_isSupported_X12_isIn : GoodIn wsX12_isSupported (va_wsS RX12 100 yX12_isIn wsX12_isIn) := goodIn_app (goodIn_of _ (by decide +kernel)) ggX12_isSupported_X12_isIn
set_option maxRecDepth 20000 in
theorem ggX12_isSupported_X12_isSupportedNow : GoodIn wsX12_isSupported wsX12_isSupportedNow := goodIn_r _ [37, 38, 39, 40, 5, 41, 42, 43, 44, 45, 46, 47, 48, 49, 50, 51, 52, 53, 54, 23, 24, 25, 26, 27, 28, 29, 11, 55, 56, 57, 58, 59, 60, 61, 62, 63, 64, 65, 12, 13, 14, 66, 67, 68, 69, 70, 71, 72, 73, 74, 75, 76, 77, 78, 79, 80, 81, 82, 83, 84, 85, 86, 87, 88, 89, 90, 91, 92, 93, 94, 95, 96, 97, 98, 99, 100, 101, 102, 103, 104, 105] (by decide +kernel) (by decide +kernel)
set_option maxRecDepth 20000 in
theorem gX12_isSupported_X12_isSupportedNow : GoodIn wsX12_isSupported (wsV RX12 284 RX12 yX12_isSupportedNow wsX12_isSupportedNow) := goodIn_app (goodIn_of _ (by decide +kernel)) ggX12_isSupported_X12_isSupportedNow
theorem dX12_isSupported_0 : decode cX12_isSupported 0 = .ok (.aload_n 0, 1) := by decide +kernel
theorem dX12_isSupported_1 : decode cX12_isSupported 1 = .ok (.iconst 0, 1) := by decide +kernel
theorem dX12_isSupported_2 : decode cX12_isSupported 2 = .ok (.putfield 70, 3) := by decide +kernel
theorem dX12_isSupported_5 : decode cX12_isSupported 5 = .ok (.aload_n 0, 1) := by decide +kernel
theorem dX12_isSupported_6 : decode cX12_isSupported 6 = .ok (.aload_n 0, 1) := by decide +kernel
theorem dX12_isSupported_7 : decode cX12_isSupported 7 = .ok (.iload_n 1, 1) := by decide +kernel
theorem dX12_isSupported_8 : decode cX12_isSupported 8 = .ok (.iload_n 2, 1) := by decide +kernel
theorem dX12_isSupported_9 : decode cX12_isSupported 9 = .ok (.invokevirtual 281, 3) := by decide +kernel
theorem dX12_isSupported_12 : decode cX12_isSupported 12 = .ok (.iconst 1, 1) := by decide +kernel
theorem dX12_isSupported_13 : decode cX12_isSupported 13 = .ok (.invokevirtual 96, 3) := by decide +kernel
theorem dX12_isSupported_16 : decode cX12_isSupported 16 = .ok (.ifCond .eq 31, 3) := by decide +kernel
theorem dX12_isSupported_19 : decode cX12_isSupported 19 = .ok (.aload_n 0, 1) := by decide +kernel
theorem dX12_isSupported_20 : decode cX12_isSupported 20 = .ok (.iload_n 3, 1) := by decide +kernel
theorem dX12_isSupported_21 : decode cX12_isSupported 21 = .ok (.iconst 0, 1) := by decide +kernel
theorem dX12_isSupported_22 : decode cX12_isSupported 22 = .ok (.iconst 4, 1) := by decide +kernel
theorem dX12_isSupported_23 : decode cX12_isSupported 23 = .ok (.invokestatic 100, 3) := by decide +kernel
theorem dX12_isSupported_26 : decode cX12_isSupported 26 = .ok (.iconst 2, 1) := by decide +kernel
theorem dX12_isSupported_27 : decode cX12_isSupported 27 = .ok (.invokevirtual 96, 3) := by decide +kernel
theorem dX12_isSupported_30 : decode cX12_isSupported 30 = .ok (.ifCond .eq 17, 3) := by decide +kernel
theorem dX12_isSupported_33 : decode cX12_isSupported 33 = .ok (.aload_n 0, 1) := by decide +kernel
theorem dX12_isSupported_34 : decode cX12_isSupported 34 = .ok (.iload_n 1, 1) := by decide +kernel
theorem dX12_isSupported_35 : decode cX12_isSupported 35 = .ok (.iload_n 2, 1) := by decide +kernel
theorem dX12_isSupported_36 : decode cX12_isSupported 36 = .ok (.iload_n 3, 1) := by decide +kernel
theorem dX12_isSupported_37 : decode cX12_isSupported 37 = .ok (.invokevirtual 284, 3) := by decide +kernel
theorem dX12_isSupported_40 : decode cX12_isSupported 40 = .ok (.ifCond .eq 7, 3) := by decide +kernel
theorem dX12_isSupported_43 : decode cX12_isSupported 43 = .ok (.iconst 1, 1) := by decide +kernel
theorem dX12_isSupported_44 : decode cX12_isSupported 44 = .ok (.goto 4, 3) := by decide +kernel
theorem dX12_isSupported_47 : decode cX12_isSupported 47 = .ok (.iconst 0, 1) := by decide +kernel
theorem dX12_isSupported_48 : decode cX12_isSupported 48 = .ok (.ireturn, 1) := by decide +kernel
set_option maxRecDepth 20000 in
theorem ggX12_laysLeast_X12_of : GoodIn wsX12_laysLeast wsX12_of := goodIn_r _ [7, 8, 50, 51, 52, 53, 54, 55, 56, 57, 58, 59, 60, 61, 62, 63, 64, 65, 66, 67, 68, 69, 70, 71, 72, 73, 74, 75, 76, 77, 78, 79, 80, 81] (by decide +kernel) (by decide +kernel)
set_option maxRecDepth 20000 in
theorem gX12_laysLeast_X12_of : GoodIn wsX12_laysLeast (wsV RX12 211 RX12 yX12_of wsX12_of) := goodIn_app (goodIn_of _ (by decide +kernel)) ggX12_laysLeast_X12_of
set_option maxRecDepth 20000 in
theorem ggX12_laysLeast_X12_has : GoodIn wsX12_laysLeast wsX12_has := goodIn_r _ [11] (by decide +kernel) (by decide +kernel)
set_option maxRecDepth 20000 in
theorem gX12_laysLeast_X12_has : GoodIn wsX12_laysLeast (va_wsS RX12 178 yX12_has wsX12_has) := goodIn_app (goodIn_of _ (by decide +kernel)) ggX12_laysLeast_X12_has
set_option maxRecDepth 20000 in
theorem ggX12_laysLeast_X12_hasSupport : GoodIn wsX12_laysLeast wsX12_hasSupport := goodIn_r _ [15, 16, 17, 18, 19, 6, 20, 21, 22, 23, 24, 25, 26, 27, 3, 4, 5, 7, 8, 28, 29, 30, 31, 9, 10, 11, 32, 33, 34, 35, 36, 37, 38, 39, 40, 41, 42, 43, 44, 45, 46, 47, 48, 49, 50, 51, 52, 53, 54, 55, 56, 57, 58, 59, 60, 61, 62, 63, 64, 65, 66, 67, 68, 69, 70, 71, 72, 73, 74, 75, 76, 77, 78, 79, 80, 81] (by decide +kernel) (by decide +kernel)
set_option maxRecDepth 20000 in
theorem gX12_laysLeast_X12_hasSupport : GoodIn wsX12_laysLeast (wsV RX12 242 RX12 yX12_hasSupport wsX12_hasSupport) := goodIn_app (goodIn_of _ (by decide +kernel)) ggX12_laysLeast_X12_hasSupport
theorem dX12_laysLeast_0 : decode cX12_laysLeast 0 = .ok (.iconst 0, 1) := by decide +kernel
theorem dX12_laysLeast_1 : decode cX12_laysLeast 1 = .ok (.istore 4, 2) := by decide +kernel
theorem dX12_laysLeast_3 : decode cX12_laysLeast 3 = .ok (.iload 4, 2) := by decide +kernel
theorem dX12_laysLeast_5 : decode cX12_laysLeast 5 = .ok (.bipush 7, 2) := by decide +kernel
theorem dX12_laysLeast_7 : decode cX12_laysLeast 7 = .ok (.if_icmp .ge 23, 3) := by decide +kernel
theorem dX12_laysLeast_10 : decode cX12_laysLeast 10 = .ok (.aload_n 0, 1) := by decide +kernel
theorem dX12_laysLeast_11 : decode cX12_laysLeast 11 = .ok (.getfield 52, 3) := by decide +kernel
theorem dX12_laysLeast_14 : decode cX12_laysLeast 14 = .ok (.iload 4, 2) := by decide +kernel
theorem dX12_laysLeast_16 : decode cX12_laysLeast 16 = .ok (.aload_n 0, 1) := by decide +kernel
theorem dX12_laysLeast_17 : decode cX12_laysLeast 17 = .ok (.getfield 16, 3) := by decide +kernel
theorem dX12_laysLeast_20 : decode cX12_laysLeast 20 = .ok (.iload 4, 2) := by decide +kernel
theorem dX12_laysLeast_22 : decode cX12_laysLeast 22 = .ok (.iaload, 1) := by decide +kernel
theorem dX12_laysLeast_23 : decode cX12_laysLeast 23 = .ok (.iastore, 1) := by decide +kernel
theorem dX12_laysLeast_24 : decode cX12_laysLeast 24 = .ok (.iinc 4 1, 3) := by decide +kernel
theorem dX12_laysLeast_27 : decode cX12_laysLeast 27 = .ok (.goto (-24), 3) := by decide +kernel
theorem dX12_laysLeast_30 : decode cX12_laysLeast 30 = .ok (.aload_n 0, 1) := by decide +kernel
theorem dX12_laysLeast_31 : decode cX12_laysLeast 31 = .ok (.getfield 52, 3) := by decide +kernel
theorem dX12_laysLeast_34 : decode cX12_laysLeast 34 = .ok (.iload_n 2, 1) := by decide +kernel
theorem dX12_laysLeast_35 : decode cX12_laysLeast 35 = .ok (.iconst 1, 1) := by decide +kernel
theorem dX12_laysLeast_36 : decode cX12_laysLeast 36 = .ok (.iload_n 3, 1) := by decide +kernel
theorem dX12_laysLeast_37 : decode cX12_laysLeast 37 = .ok (.ishl, 1) := by decide +kernel
theorem dX12_laysLeast_38 : decode cX12_laysLeast 38 = .ok (.iastore, 1) := by decide +kernel
theorem dX12_laysLeast_39 : decode cX12_laysLeast 39 = .ok (.iconst 0, 1) := by decide +kernel
theorem dX12_laysLeast_40 : decode cX12_laysLeast 40 = .ok (.istore 4, 2) := by decide +kernel
theorem dX12_laysLeast_42 : decode cX12_laysLeast 42 = .ok (.iload 4, 2) := by decide +kernel
theorem dX12_laysLeast_44 : decode cX12_laysLeast 44 = .ok (.aload_n 0, 1) := by decide +kernel
theorem dX12_laysLeast_45 : decode cX12_laysLeast 45 = .ok (.iload_n 1, 1) := by decide +kernel
theorem dX12_laysLeast_46 : decode cX12_laysLeast 46 = .ok (.iconst 1, 1) := by decide +kernel
theorem dX12_laysLeast_47 : decode cX12_laysLeast 47 = .ok (.invokevirtual 211, 3) := by decide +kernel
theorem dX12_laysLeast_50 : decode cX12_laysLeast 50 = .ok (.if_icmp .ge 71, 3) := by decide +kernel
theorem dX12_laysLeast_53 : decode cX12_laysLeast 53 = .ok (.aload_n 0, 1) := by decide +kernel
theorem dX12_laysLeast_54 : decode cX12_laysLeast 54 = .ok (.iload_n 1, 1) := by decide +kernel
theorem dX12_laysLeast_55 : decode cX12_laysLeast 55 = .ok (.iconst 2, 1) := by decide +kernel
theorem dX12_laysLeast_56 : decode cX12_laysLeast 56 = .ok (.iload 4, 2) := by decide +kernel
theorem dX12_laysLeast_58 : decode cX12_laysLeast 58 = .ok (.iadd, 1) := by decide +kernel
theorem dX12_laysLeast_59 : decode cX12_laysLeast 59 = .ok (.invokevirtual 211, 3) := by decide +kernel
theorem dX12_laysLeast_62 : decode cX12_laysLeast 62 = .ok (.istore 5, 2) := by decide +kernel
theorem dX12_laysLeast_64 : decode cX12_laysLeast 64 = .ok (.iconst 0, 1) := by decide +kernel
theorem dX12_laysLeast_65 : decode cX12_laysLeast 65 = .ok (.istore 6, 2) := by decide +kernel
theorem dX12_laysLeast_67 : decode cX12_laysLeast 67 = .ok (.aload_n 0, 1) := by decide +kernel
theorem dX12_laysLeast_68 : decode cX12_laysLeast 68 = .ok (.getfield 52, 3) := by decide +kernel
theorem dX12_laysLeast_71 : decode cX12_laysLeast 71 = .ok (.iload 5, 2) := by decide +kernel
theorem dX12_laysLeast_73 : decode cX12_laysLeast 73 = .ok (.iaload, 1) := by decide +kernel
theorem dX12_laysLeast_74 : decode cX12_laysLeast 74 = .ok (.iload 6, 2) := by decide +kernel
theorem dX12_laysLeast_76 : decode cX12_laysLeast 76 = .ok (.invokestatic 178, 3) := by decide +kernel
theorem dX12_laysLeast_79 : decode cX12_laysLeast 79 = .ok (.ifCond .eq 19, 3) := by decide +kernel
theorem dX12_laysLeast_82 : decode cX12_laysLeast 82 = .ok (.aload_n 0, 1) := by decide +kernel
theorem dX12_laysLeast_83 : decode cX12_laysLeast 83 = .ok (.iload_n 1, 1) := by decide +kernel
theorem dX12_laysLeast_84 : decode cX12_laysLeast 84 = .ok (.iload 5, 2) := by decide +kernel
theorem dX12_laysLeast_86 : decode cX12_laysLeast 86 = .ok (.iload 6, 2) := by decide +kernel
theorem dX12_laysLeast_88 : decode cX12_laysLeast 88 = .ok (.aload_n 0, 1) := by decide +kernel
theorem dX12_laysLeast_89 : decode cX12_laysLeast 89 = .ok (.getfield 52, 3) := by decide +kernel
theorem dX12_laysLeast_92 : decode cX12_laysLeast 92 = .ok (.invokevirtual 242, 3) := by decide +kernel
theorem dX12_laysLeast_95 : decode cX12_laysLeast 95 = .ok (.ifCond .ne 9, 3) := by decide +kernel
theorem dX12_laysLeast_98 : decode cX12_laysLeast 98 = .ok (.iinc 6 1, 3) := by decide +kernel
theorem dX12_laysLeast_101 : decode cX12_laysLeast 101 = .ok (.goto (-34), 3) := by decide +kernel
theorem dX12_laysLeast_104 : decode cX12_laysLeast 104 = .ok (.aload_n 0, 1) := by decide +kernel
theorem dX12_laysLeast_105 : decode cX12_laysLeast 105 = .ok (.getfield 52, 3) := by decide +kernel
theorem dX12_laysLeast_108 : decode cX12_laysLeast 108 = .ok (.iload 5, 2) := by decide +kernel
theorem dX12_laysLeast_110 : decode cX12_laysLeast 110 = .ok (.iconst 1, 1) := by decide +kernel
theorem dX12_laysLeast_111 : decode cX12_laysLeast 111 = .ok (.iload 6, 2) := by decide +kernel
theorem dX12_laysLeast_113 : decode cX12_laysLeast 113 = .ok (.ishl, 1) := by decide +kernel
theorem dX12_laysLeast_114 : decode cX12_laysLeast 114 = .ok (.iastore, 1) := by decide +kernel
theorem dX12_laysLeast_115 : decode cX12_laysLeast 115 = .ok (.iinc 4 1, 3) := by decide +kernel
theorem dX12_laysLeast_118 : decode cX12_laysLeast 118 = .ok (.goto (-76), 3) := by decide +kernel
theorem dX12_laysLeast_121 : decode cX12_laysLeast 121 = .ok (.return_, 1) := by decide +kernel
set_option maxRecDepth 20000 in
theorem ggX12_onlyOf_X12_has : GoodIn wsX12_onlyOf wsX12_has := goodIn_r _ [4] (by decide +kernel) (by decide +kernel)
set_option maxRecDepth 20000 in
theorem gX12_onlyOf_X12_has : GoodIn wsX12_onlyOf (va_wsS RX12 178 yX12_has wsX12_has) := goodIn_app (goodIn_of _ (by decide +kernel)) ggX12_onlyOf_X12_has
theorem dX12_onlyOf_0 : decode cX12_onlyOf 0 = .ok (.iconst 0, 1) := by decide +kernel
theorem dX12_onlyOf_1 : decode cX12_onlyOf 1 = .ok (.istore_n 1, 1) := by decide +kernel
theorem dX12_onlyOf_2 : decode cX12_onlyOf 2 = .ok (.iload_n 0, 1) := by decide +kernel
theorem dX12_onlyOf_3 : decode cX12_onlyOf 3 = .ok (.iload_n 1, 1) := by decide +kernel
theorem dX12_onlyOf_4 : decode cX12_onlyOf 4 = .ok (.invokestatic 178, 3) := by decide +kernel
theorem dX12_onlyOf_7 : decode cX12_onlyOf 7 = .ok (.ifCond .ne 9, 3) := by decide +kernel
theorem dX12_onlyOf_10 : decode cX12_onlyOf 10 = .ok (.iinc 1 1, 3) := by decide +kernel
theorem dX12_onlyOf_13 : decode cX12_onlyOf 13 = .ok (.goto (-11), 3) := by decide +kernel
theorem dX12_onlyOf_16 : decode cX12_onlyOf 16 = .ok (.iload_n 1, 1) := by decide +kernel
theorem dX12_onlyOf_17 : decode cX12_onlyOf 17 = .ok (.ireturn, 1) := by decide +kernel
set_option maxRecDepth 20000 in
theorem ggX12_support_X12_isMember : GoodIn wsX12_support wsX12_isMember := goodIn_r _ [7, 8, 9, 10, 6, 11, 12, 13, 14, 15, 16, 17, 18, 19, 20, 21, 22, 23, 24, 25, 26, 27, 28, 29, 30, 82, 83, 84, 85, 86, 87, 88, 89, 90, 91, 92, 93, 94, 95, 96, 97, 98, 99, 100, 101, 102, 103, 104, 105, 106, 107, 108, 109, 110, 111, 112, 113] (by decide +kernel) (by decide +kernel)
set_option maxRecDepth 20000 in
theorem gX12_support_X12_isMember : GoodIn wsX12_support (wsV RX12 281 RX12 yX12_isMember wsX12_isMember) := goodIn_app (goodIn_of _ (by decide +kernel)) ggX12_support_X12_isMember
set_option maxRecDepth 20000 in
theorem ggX12_support_X12_may : GoodIn wsX12_support wsX12_may := goodIn_r _ [34, 1, 82, 83, 84, 85, 86, 87, 88, 89, 90, 91, 92, 93, 94, 95, 96, 97, 98, 99, 100, 101, 102, 103, 104, 105, 106, 107, 108, 109, 110, 111, 112, 113] (by decide +kernel) (by decide +kernel)
set_option maxRecDepth 20000 in
theorem gX12_support_X12_may : GoodIn wsX12_support (wsV RX12 96 RX12 yX12_may wsX12_may) := goodIn_app (goodIn_of _ (by decide +kernel)) ggX12_support_X12_may
set_option maxRecDepth 20000 in
theorem ggX12_support_X12_isIn : GoodIn wsX12_support wsX12_isIn := goodIn_r _ [15] (by decide +kernel) (by decide +kernel)
set_option maxRecDepth 20000 in
theorem gX12_support_X12_isIn : GoodIn wsX12_support (va_wsS RX12 100 yX12_isIn wsX12_isIn) := goodIn_app (goodIn_of _ (by decide +kernel)) ggX12_support_X12_isIn
set_option maxRecDepth 20000 in
theorem ggX12_support_X12_isSupportedNow : GoodIn wsX12_support wsX12_isSupportedNow := goodIn_r _ [38, 39, 40, 41, 6, 42, 43, 44, 45, 46, 47, 48, 49, 50, 51, 52, 53, 54, 55, 24, 25, 26, 27, 28, 29, 30, 12, 56, 57, 58, 59, 60, 61, 62, 63, 64, 65, 66, 13, 14, 15, 67, 68, 69, 70, 71, 72, 73, 74, 82, 83, 84, 85, 86, 87, 88, 89, 90, 91, 92, 93, 94, 95, 96, 97, 98, 99, 100, 101, 102, 103, 104, 105, 106, 107, 108, 109, 110, 111, 112, 113] (by decide +kernel) (by decide +kernel)
set_option maxRecDepth 20000 in
theorem gX12_support_X12_isSupportedNow : GoodIn wsX12_support (wsV RX12 284 RX12 yX12_isSupportedNow wsX12_isSupportedNow) := goodIn_app (goodIn_of _ (by decide +kernel)) ggX12_support_X12_isSupportedNow
set_option maxRecDepth 20000 in
theorem ggX12_support_X12_laysLeast : GoodIn wsX12_support wsX12_laysLeast := goodIn_r _ [78, 2, 39, 27, 28, 29, 6, 30, 12, 40, 41, 42, 43, 44, 45, 46, 47, 48, 49, 50, 51, 52, 53, 54, 55, 24, 25, 26, 56, 57, 58, 59, 60, 61, 62, 63, 64, 65, 66, 13, 14, 15, 67, 68, 69, 70, 71, 72, 73, 74, 82, 83, 84, 85, 86, 87, 88, 89, 90, 91, 92, 93, 94, 95, 96, 97, 98, 99, 100, 101, 102, 103, 104, 105, 106, 107, 108, 109, 110, 111, 112, 113] (by decide +kernel) (by decide +kernel)
set_option maxRecDepth 20000 in
theorem gX12_support_X12_laysLeast : GoodIn wsX12_support (wsV RX12 287 RX12 yX12_laysLeast wsX12_laysLeast) := goodIn_app (goodIn_of _ (by decide +kernel)) ggX12_support_X12_laysLeast
set_option maxRecDepth 20000 in
theorem ggX12_support_X12_onlyOf : GoodIn wsX12_support wsX12_onlyOf := goodIn_r _ [81, 40, 41, 6, 42] (by decide +kernel) (by decide +kernel)
set_option maxRecDepth 20000 in
theorem gX12_support_X12_onlyOf : GoodIn wsX12_support (va_wsS RX12 291 yX12_onlyOf wsX12_onlyOf) := goodIn_app (goodIn_of _ (by decide +kernel)) ggX12_support_X12_onlyOf
theorem dX12_support_0 : decode cX12_support 0 = .ok (.aload_n 0, 1) := by decide +kernel
theorem dX12_support_1 : decode cX12_support 1 = .ok (.iconst 0, 1) := by decide +kernel
theorem dX12_support_2 : decode cX12_support 2 = .ok (.putfield 70, 3) := by decide +kernel
theorem dX12_support_5 : decode cX12_support 5 = .ok (.aload_n 0, 1) := by decide +kernel
theorem dX12_support_6 : decode cX12_support 6 = .ok (.aload_n 0, 1) := by decide +kernel
theorem dX12_support_7 : decode cX12_support 7 = .ok (.iload_n 1, 1) := by decide +kernel
theorem dX12_support_8 : decode cX12_support 8 = .ok (.iload_n 2, 1) := by decide +kernel
theorem dX12_support_9 : decode cX12_support 9 = .ok (.invokevirtual 281, 3) := by decide +kernel
theorem dX12_support_12 : decode cX12_support 12 = .ok (.ifCond .eq 17, 3) := by decide +kernel
theorem dX12_support_15 : decode cX12_support 15 = .ok (.aload_n 0, 1) := by decide +kernel
theorem dX12_support_16 : decode cX12_support 16 = .ok (.iload_n 1, 1) := by decide +kernel
theorem dX12_support_17 : decode cX12_support 17 = .ok (.iload 4, 2) := by decide +kernel
theorem dX12_support_19 : decode cX12_support 19 = .ok (.invokevirtual 281, 3) := by decide +kernel
theorem dX12_support_22 : decode cX12_support 22 = .ok (.ifCond .eq 7, 3) := by decide +kernel
theorem dX12_support_25 : decode cX12_support 25 = .ok (.iconst 1, 1) := by decide +kernel
theorem dX12_support_26 : decode cX12_support 26 = .ok (.goto 4, 3) := by decide +kernel
theorem dX12_support_29 : decode cX12_support 29 = .ok (.iconst 0, 1) := by decide +kernel
theorem dX12_support_30 : decode cX12_support 30 = .ok (.iconst 1, 1) := by decide +kernel
theorem dX12_support_31 : decode cX12_support 31 = .ok (.invokevirtual 96, 3) := by decide +kernel
theorem dX12_support_34 : decode cX12_support 34 = .ok (.ifCond .eq 32, 3) := by decide +kernel
theorem dX12_support_37 : decode cX12_support 37 = .ok (.aload_n 0, 1) := by decide +kernel
theorem dX12_support_38 : decode cX12_support 38 = .ok (.iload_n 3, 1) := by decide +kernel
theorem dX12_support_39 : decode cX12_support 39 = .ok (.iconst 0, 1) := by decide +kernel
theorem dX12_support_40 : decode cX12_support 40 = .ok (.iconst 4, 1) := by decide +kernel
theorem dX12_support_41 : decode cX12_support 41 = .ok (.invokestatic 100, 3) := by decide +kernel
theorem dX12_support_44 : decode cX12_support 44 = .ok (.iconst 2, 1) := by decide +kernel
theorem dX12_support_45 : decode cX12_support 45 = .ok (.invokevirtual 96, 3) := by decide +kernel
theorem dX12_support_48 : decode cX12_support 48 = .ok (.ifCond .eq 18, 3) := by decide +kernel
theorem dX12_support_51 : decode cX12_support 51 = .ok (.aload_n 0, 1) := by decide +kernel
theorem dX12_support_52 : decode cX12_support 52 = .ok (.aload_n 0, 1) := by decide +kernel
theorem dX12_support_53 : decode cX12_support 53 = .ok (.iload_n 1, 1) := by decide +kernel
theorem dX12_support_54 : decode cX12_support 54 = .ok (.iload_n 2, 1) := by decide +kernel
theorem dX12_support_55 : decode cX12_support 55 = .ok (.iload_n 3, 1) := by decide +kernel
theorem dX12_support_56 : decode cX12_support 56 = .ok (.invokevirtual 284, 3) := by decide +kernel
theorem dX12_support_59 : decode cX12_support 59 = .ok (.iconst 3, 1) := by decide +kernel
theorem dX12_support_60 : decode cX12_support 60 = .ok (.invokevirtual 96, 3) := by decide +kernel
theorem dX12_support_63 : decode cX12_support 63 = .ok (.ifCond .ne 5, 3) := by decide +kernel
theorem dX12_support_66 : decode cX12_support 66 = .ok (.iconst 0, 1) := by decide +kernel
theorem dX12_support_67 : decode cX12_support 67 = .ok (.ireturn, 1) := by decide +kernel
theorem dX12_support_68 : decode cX12_support 68 = .ok (.aload_n 0, 1) := by decide +kernel
theorem dX12_support_69 : decode cX12_support 69 = .ok (.iload_n 1, 1) := by decide +kernel
theorem dX12_support_70 : decode cX12_support 70 = .ok (.iload_n 2, 1) := by decide +kernel
theorem dX12_support_71 : decode cX12_support 71 = .ok (.iload_n 3, 1) := by decide +kernel
theorem dX12_support_72 : decode cX12_support 72 = .ok (.invokevirtual 287, 3) := by decide +kernel
theorem dX12_support_75 : decode cX12_support 75 = .ok (.aload_n 0, 1) := by decide +kernel
theorem dX12_support_76 : decode cX12_support 76 = .ok (.getfield 52, 3) := by decide +kernel
theorem dX12_support_79 : decode cX12_support 79 = .ok (.iload 4, 2) := by decide +kernel
theorem dX12_support_81 : decode cX12_support 81 = .ok (.iaload, 1) := by decide +kernel
theorem dX12_support_82 : decode cX12_support 82 = .ok (.invokestatic 291, 3) := by decide +kernel
theorem dX12_support_85 : decode cX12_support 85 = .ok (.ireturn, 1) := by decide +kernel
set_option maxRecDepth 20000 in
theorem ggX12_watchers_X12_isVariable : GoodIn wsX12_watchers wsX12_isVariable := goodIn_r _ [8, 2, 9, 10, 7, 11, 71, 72, 73, 74, 75, 76, 77, 78, 79, 80, 81, 82, 83, 84, 85, 86, 87, 88, 89, 90, 91, 92, 93, 94, 95, 96, 97, 98, 99, 100, 101, 102] (by decide +kernel) (by decide +kernel)
set_option maxRecDepth 20000 in
theorem gX12_watchers_X12_isVariable : GoodIn wsX12_watchers (wsV RX12 257 RX12 yX12_isVariable wsX12_isVariable) := goodIn_app (goodIn_of _ (by decide +kernel)) ggX12_watchers_X12_isVariable
set_option maxRecDepth 20000 in
theorem ggX12_watchers_X12_may : GoodIn wsX12_watchers wsX12_may := goodIn_r _ [15, 1, 71, 72, 73, 74, 75, 76, 77, 78, 79, 80, 81, 82, 83, 84, 85, 86, 87, 88, 89, 90, 91, 92, 93, 94, 95, 96, 97, 98, 99, 100, 101, 102] (by decide +kernel) (by decide +kernel)
set_option maxRecDepth 20000 in
theorem gX12_watchers_X12_may : GoodIn wsX12_watchers (wsV RX12 96 RX12 yX12_may wsX12_may) := goodIn_app (goodIn_of _ (by decide +kernel)) ggX12_watchers_X12_may
set_option maxRecDepth 20000 in
theorem ggX12_watchers_X12_isIn : GoodIn wsX12_watchers wsX12_isIn := goodIn_r _ [11] (by decide +kernel) (by decide +kernel)
set_option maxRecDepth 20000 in
theorem gX12_watchers_X12_isIn : GoodIn wsX12_watchers (va_wsS RX12 100 yX12_isIn wsX12_isIn) := goodIn_app (goodIn_of _ (by decide +kernel)) ggX12_watchers_X12_isIn
set_option maxRecDepth 20000 in
theorem ggX12_watchers_X12_of : GoodIn wsX12_watchers wsX12_of := goodIn_r _ [19, 2, 71, 72, 73, 74, 75, 76, 77, 78, 79, 80, 81, 82, 83, 84, 85, 86, 87, 88, 89, 90, 91, 92, 93, 94, 95, 96, 97, 98, 99, 100, 101, 102] (by decide +kernel) (by decide +kernel)
set_option maxRecDepth 20000 in
theorem gX12_watchers_X12_of : GoodIn wsX12_watchers (wsV RX12 211 RX12 yX12_of wsX12_of) := goodIn_app (goodIn_of _ (by decide +kernel)) ggX12_watchers_X12_of
set_option maxRecDepth 20000 in
theorem ggX12_watchers_X12_isAmong : GoodIn wsX12_watchers wsX12_isAmong := goodIn_r _ [23, 24, 25, 7, 26, 16, 17, 18, 19, 2, 71, 72, 73, 74, 75, 76, 77, 78, 79, 80, 81, 82, 83, 84, 85, 86, 87, 88, 89, 90, 91, 92, 93, 94, 95, 96, 97, 98, 99, 100, 101, 102] (by decide +kernel) (by decide +kernel)
set_option maxRecDepth 20000 in
theorem gX12_watchers_X12_isAmong : GoodIn wsX12_watchers (wsV RX12 260 RX12 yX12_isAmong wsX12_isAmong) := goodIn_app (goodIn_of _ (by decide +kernel)) ggX12_watchers_X12_isAmong
set_option maxRecDepth 20000 in
theorem ggX12_watchers_X12_isSupportedNow : GoodIn wsX12_watchers wsX12_isSupportedNow := goodIn_r _ [30, 31, 32, 33, 7, 34, 35, 36, 37, 38, 39, 40, 41, 42, 43, 44, 45, 46, 47, 24, 25, 26, 16, 17, 18, 19, 2, 48, 49, 50, 51, 52, 53, 54, 55, 56, 57, 58, 9, 10, 11, 59, 60, 61, 62, 63, 64, 65, 66, 71, 72, 73, 74, 75, 76, 77, 78, 79, 80, 81, 82, 83, 84, 85, 86, 87, 88, 89, 90, 91, 92, 93, 94, 95, 96, 97, 98, 99, 100, 101, 102] (by decide +kernel) (by decide +kernel)
set_option maxRecDepth 20000 in
theorem gX12_watchers_X12_isSupportedNow : GoodIn wsX12_watchers (wsV RX12 284 RX12 yX12_isSupportedNow wsX12_isSupportedNow) := goodIn_app (goodIn_of _ (by decide +kernel)) ggX12_watchers_X12_isSupportedNow
set_option maxRecDepth 20000 in
theorem ggX12_watchers_X12_laysLeast : GoodIn wsX12_watchers wsX12_laysLeast := goodIn_r _ [70, 3, 31, 16, 17, 18, 7, 19, 2, 32, 33, 34, 35, 36, 37, 38, 39, 40, 41, 42, 43, 44, 45, 46, 47, 24, 25, 26, 48, 49, 50, 51, 52, 53, 54, 55, 56, 57, 58, 9, 10, 11, 59, 60, 61, 62, 63, 64, 65, 66, 71, 72, 73, 74, 75, 76, 77, 78, 79, 80, 81, 82, 83, 84, 85, 86, 87, 88, 89, 90, 91, 92, 93, 94, 95, 96, 97, 98, 99, 100, 101, 102] (by decide +kernel) (by decide +kernel)
set_option maxRecDepth 20000 in
theorem gX12_watchers_X12_laysLeast : GoodIn wsX12_watchers (wsV RX12 287 RX12 yX12_laysLeast wsX12_laysLeast) := goodIn_app (goodIn_of _ (by decide +kernel)) ggX12_watchers_X12_laysLeast
theorem dX12_watchers_0 : decode cX12_watchers 0 = .ok (.aload_n 0, 1) := by decide +kernel
theorem dX12_watchers_1 : decode cX12_watchers 1 = .ok (.iconst 0, 1) := by decide +kernel
theorem dX12_watchers_2 : decode cX12_watchers 2 = .ok (.putfield 70, 3) := by decide +kernel
theorem dX12_watchers_5 : decode cX12_watchers 5 = .ok (.aload_n 0, 1) := by decide +kernel
theorem dX12_watchers_6 : decode cX12_watchers 6 = .ok (.aload_n 0, 1) := by decide +kernel
theorem dX12_watchers_7 : decode cX12_watchers 7 = .ok (.iload_n 1, 1) := by decide +kernel
theorem dX12_watchers_8 : decode cX12_watchers 8 = .ok (.invokevirtual 257, 3) := by decide +kernel
theorem dX12_watchers_11 : decode cX12_watchers 11 = .ok (.iconst 1, 1) := by decide +kernel
theorem dX12_watchers_12 : decode cX12_watchers 12 = .ok (.invokevirtual 96, 3) := by decide +kernel
theorem dX12_watchers_15 : decode cX12_watchers 15 = .ok (.ifCond .eq 17, 3) := by decide +kernel
theorem dX12_watchers_18 : decode cX12_watchers 18 = .ok (.aload_n 0, 1) := by decide +kernel
theorem dX12_watchers_19 : decode cX12_watchers 19 = .ok (.iload_n 2, 1) := by decide +kernel
theorem dX12_watchers_20 : decode cX12_watchers 20 = .ok (.iconst 0, 1) := by decide +kernel
theorem dX12_watchers_21 : decode cX12_watchers 21 = .ok (.iconst 4, 1) := by decide +kernel
theorem dX12_watchers_22 : decode cX12_watchers 22 = .ok (.invokestatic 100, 3) := by decide +kernel
theorem dX12_watchers_25 : decode cX12_watchers 25 = .ok (.iconst 2, 1) := by decide +kernel
theorem dX12_watchers_26 : decode cX12_watchers 26 = .ok (.invokevirtual 96, 3) := by decide +kernel
theorem dX12_watchers_29 : decode cX12_watchers 29 = .ok (.ifCond .ne 5, 3) := by decide +kernel
theorem dX12_watchers_32 : decode cX12_watchers 32 = .ok (.iconst 0, 1) := by decide +kernel
theorem dX12_watchers_33 : decode cX12_watchers 33 = .ok (.ireturn, 1) := by decide +kernel
theorem dX12_watchers_34 : decode cX12_watchers 34 = .ok (.iconst 0, 1) := by decide +kernel
theorem dX12_watchers_35 : decode cX12_watchers 35 = .ok (.istore_n 3, 1) := by decide +kernel
theorem dX12_watchers_36 : decode cX12_watchers 36 = .ok (.iconst 0, 1) := by decide +kernel
theorem dX12_watchers_37 : decode cX12_watchers 37 = .ok (.istore 4, 2) := by decide +kernel
theorem dX12_watchers_39 : decode cX12_watchers 39 = .ok (.iload 4, 2) := by decide +kernel
theorem dX12_watchers_41 : decode cX12_watchers 41 = .ok (.aload_n 0, 1) := by decide +kernel
theorem dX12_watchers_42 : decode cX12_watchers 42 = .ok (.getfield 7, 3) := by decide +kernel
theorem dX12_watchers_45 : decode cX12_watchers 45 = .ok (.iconst 1, 1) := by decide +kernel
theorem dX12_watchers_46 : decode cX12_watchers 46 = .ok (.iaload, 1) := by decide +kernel
theorem dX12_watchers_47 : decode cX12_watchers 47 = .ok (.if_icmp .ge 112, 3) := by decide +kernel
theorem dX12_watchers_50 : decode cX12_watchers 50 = .ok (.iconst 0, 1) := by decide +kernel
theorem dX12_watchers_51 : decode cX12_watchers 51 = .ok (.istore 5, 2) := by decide +kernel
theorem dX12_watchers_53 : decode cX12_watchers 53 = .ok (.iload 5, 2) := by decide +kernel
theorem dX12_watchers_55 : decode cX12_watchers 55 = .ok (.aload_n 0, 1) := by decide +kernel
theorem dX12_watchers_56 : decode cX12_watchers 56 = .ok (.iload 4, 2) := by decide +kernel
theorem dX12_watchers_58 : decode cX12_watchers 58 = .ok (.iconst 1, 1) := by decide +kernel
theorem dX12_watchers_59 : decode cX12_watchers 59 = .ok (.invokevirtual 211, 3) := by decide +kernel
theorem dX12_watchers_62 : decode cX12_watchers 62 = .ok (.iconst 5, 1) := by decide +kernel
theorem dX12_watchers_63 : decode cX12_watchers 63 = .ok (.imul, 1) := by decide +kernel
theorem dX12_watchers_64 : decode cX12_watchers 64 = .ok (.if_icmp .ge 89, 3) := by decide +kernel
theorem dX12_watchers_67 : decode cX12_watchers 67 = .ok (.aload_n 0, 1) := by decide +kernel
theorem dX12_watchers_68 : decode cX12_watchers 68 = .ok (.iload 4, 2) := by decide +kernel
theorem dX12_watchers_70 : decode cX12_watchers 70 = .ok (.iload_n 1, 1) := by decide +kernel
theorem dX12_watchers_71 : decode cX12_watchers 71 = .ok (.invokevirtual 260, 3) := by decide +kernel
theorem dX12_watchers_74 : decode cX12_watchers 74 = .ok (.ifCond .eq 79, 3) := by decide +kernel
theorem dX12_watchers_77 : decode cX12_watchers 77 = .ok (.aload_n 0, 1) := by decide +kernel
theorem dX12_watchers_78 : decode cX12_watchers 78 = .ok (.iload 4, 2) := by decide +kernel
theorem dX12_watchers_80 : decode cX12_watchers 80 = .ok (.iconst 2, 1) := by decide +kernel
theorem dX12_watchers_81 : decode cX12_watchers 81 = .ok (.iload 5, 2) := by decide +kernel
theorem dX12_watchers_83 : decode cX12_watchers 83 = .ok (.iconst 5, 1) := by decide +kernel
theorem dX12_watchers_84 : decode cX12_watchers 84 = .ok (.idiv, 1) := by decide +kernel
theorem dX12_watchers_85 : decode cX12_watchers 85 = .ok (.iadd, 1) := by decide +kernel
theorem dX12_watchers_86 : decode cX12_watchers 86 = .ok (.invokevirtual 211, 3) := by decide +kernel
theorem dX12_watchers_89 : decode cX12_watchers 89 = .ok (.istore 6, 2) := by decide +kernel
theorem dX12_watchers_91 : decode cX12_watchers 91 = .ok (.iload 6, 2) := by decide +kernel
theorem dX12_watchers_93 : decode cX12_watchers 93 = .ok (.iload_n 1, 1) := by decide +kernel
theorem dX12_watchers_94 : decode cX12_watchers 94 = .ok (.if_icmp .eq 53, 3) := by decide +kernel
theorem dX12_watchers_97 : decode cX12_watchers 97 = .ok (.aload_n 0, 1) := by decide +kernel
theorem dX12_watchers_98 : decode cX12_watchers 98 = .ok (.iload 4, 2) := by decide +kernel
theorem dX12_watchers_100 : decode cX12_watchers 100 = .ok (.iload 6, 2) := by decide +kernel
theorem dX12_watchers_102 : decode cX12_watchers 102 = .ok (.iload 5, 2) := by decide +kernel
theorem dX12_watchers_104 : decode cX12_watchers 104 = .ok (.iconst 5, 1) := by decide +kernel
theorem dX12_watchers_105 : decode cX12_watchers 105 = .ok (.irem, 1) := by decide +kernel
theorem dX12_watchers_106 : decode cX12_watchers 106 = .ok (.invokevirtual 284, 3) := by decide +kernel
theorem dX12_watchers_109 : decode cX12_watchers 109 = .ok (.ifCond .ne 6, 3) := by decide +kernel
theorem dX12_watchers_112 : decode cX12_watchers 112 = .ok (.goto 35, 3) := by decide +kernel
theorem dX12_watchers_115 : decode cX12_watchers 115 = .ok (.aload_n 0, 1) := by decide +kernel
theorem dX12_watchers_116 : decode cX12_watchers 116 = .ok (.iload 4, 2) := by decide +kernel
theorem dX12_watchers_118 : decode cX12_watchers 118 = .ok (.iload 6, 2) := by decide +kernel
theorem dX12_watchers_120 : decode cX12_watchers 120 = .ok (.iload 5, 2) := by decide +kernel
theorem dX12_watchers_122 : decode cX12_watchers 122 = .ok (.iconst 5, 1) := by decide +kernel
theorem dX12_watchers_123 : decode cX12_watchers 123 = .ok (.irem, 1) := by decide +kernel
theorem dX12_watchers_124 : decode cX12_watchers 124 = .ok (.invokevirtual 287, 3) := by decide +kernel
theorem dX12_watchers_127 : decode cX12_watchers 127 = .ok (.iload_n 3, 1) := by decide +kernel
theorem dX12_watchers_128 : decode cX12_watchers 128 = .ok (.aload_n 0, 1) := by decide +kernel
theorem dX12_watchers_129 : decode cX12_watchers 129 = .ok (.getfield 52, 3) := by decide +kernel
theorem dX12_watchers_132 : decode cX12_watchers 132 = .ok (.iload_n 1, 1) := by decide +kernel
theorem dX12_watchers_133 : decode cX12_watchers 133 = .ok (.iaload, 1) := by decide +kernel
theorem dX12_watchers_134 : decode cX12_watchers 134 = .ok (.iconst 1, 1) := by decide +kernel
theorem dX12_watchers_135 : decode cX12_watchers 135 = .ok (.iload_n 2, 1) := by decide +kernel
theorem dX12_watchers_136 : decode cX12_watchers 136 = .ok (.ishl, 1) := by decide +kernel
theorem dX12_watchers_137 : decode cX12_watchers 137 = .ok (.if_icmp .ne 7, 3) := by decide +kernel
theorem dX12_watchers_140 : decode cX12_watchers 140 = .ok (.iconst 1, 1) := by decide +kernel
theorem dX12_watchers_141 : decode cX12_watchers 141 = .ok (.goto 4, 3) := by decide +kernel
theorem dX12_watchers_144 : decode cX12_watchers 144 = .ok (.iconst 0, 1) := by decide +kernel
theorem dX12_watchers_145 : decode cX12_watchers 145 = .ok (.iadd, 1) := by decide +kernel
theorem dX12_watchers_146 : decode cX12_watchers 146 = .ok (.istore_n 3, 1) := by decide +kernel
theorem dX12_watchers_147 : decode cX12_watchers 147 = .ok (.iinc 5 1, 3) := by decide +kernel
theorem dX12_watchers_150 : decode cX12_watchers 150 = .ok (.goto (-97), 3) := by decide +kernel
theorem dX12_watchers_153 : decode cX12_watchers 153 = .ok (.iinc 4 1, 3) := by decide +kernel
theorem dX12_watchers_156 : decode cX12_watchers 156 = .ok (.goto (-117), 3) := by decide +kernel
theorem dX12_watchers_159 : decode cX12_watchers 159 = .ok (.iload_n 3, 1) := by decide +kernel
theorem dX12_watchers_160 : decode cX12_watchers 160 = .ok (.ireturn, 1) := by decide +kernel
set_option maxRecDepth 20000 in
theorem ggX12_givenIn_X12_of : GoodIn wsX12_givenIn wsX12_of := goodIn_r _ [6, 7, 11, 12, 13, 14, 15, 16, 17, 18, 19, 20, 21, 22, 23, 24, 25, 26, 27, 28, 29, 30, 31, 32, 33, 34, 35, 36, 37, 38, 39, 40, 41, 42] (by decide +kernel) (by decide +kernel)
set_option maxRecDepth 20000 in
theorem gX12_givenIn_X12_of : GoodIn wsX12_givenIn (wsV RX12 211 RX12 yX12_of wsX12_of) := goodIn_app (goodIn_of _ (by decide +kernel)) ggX12_givenIn_X12_of
set_option maxRecDepth 20000 in
theorem ggX12_givenIn_X12_has : GoodIn wsX12_givenIn wsX12_has := goodIn_r _ [10] (by decide +kernel) (by decide +kernel)
set_option maxRecDepth 20000 in
theorem gX12_givenIn_X12_has : GoodIn wsX12_givenIn (va_wsS RX12 178 yX12_has wsX12_has) := goodIn_app (goodIn_of _ (by decide +kernel)) ggX12_givenIn_X12_has
theorem dX12_givenIn_0 : decode cX12_givenIn 0 = .ok (.iconst 0, 1) := by decide +kernel
theorem dX12_givenIn_1 : decode cX12_givenIn 1 = .ok (.istore 5, 2) := by decide +kernel
theorem dX12_givenIn_3 : decode cX12_givenIn 3 = .ok (.iload_n 2, 1) := by decide +kernel
theorem dX12_givenIn_4 : decode cX12_givenIn 4 = .ok (.istore 6, 2) := by decide +kernel
theorem dX12_givenIn_6 : decode cX12_givenIn 6 = .ok (.iload 6, 2) := by decide +kernel
theorem dX12_givenIn_8 : decode cX12_givenIn 8 = .ok (.iload_n 3, 1) := by decide +kernel
theorem dX12_givenIn_9 : decode cX12_givenIn 9 = .ok (.if_icmp .ge 41, 3) := by decide +kernel
theorem dX12_givenIn_12 : decode cX12_givenIn 12 = .ok (.iload 5, 2) := by decide +kernel
theorem dX12_givenIn_14 : decode cX12_givenIn 14 = .ok (.iload 4, 2) := by decide +kernel
theorem dX12_givenIn_16 : decode cX12_givenIn 16 = .ok (.aload_n 0, 1) := by decide +kernel
theorem dX12_givenIn_17 : decode cX12_givenIn 17 = .ok (.getfield 55, 3) := by decide +kernel
theorem dX12_givenIn_20 : decode cX12_givenIn 20 = .ok (.aload_n 0, 1) := by decide +kernel
theorem dX12_givenIn_21 : decode cX12_givenIn 21 = .ok (.iload_n 1, 1) := by decide +kernel
theorem dX12_givenIn_22 : decode cX12_givenIn 22 = .ok (.iconst 2, 1) := by decide +kernel
theorem dX12_givenIn_23 : decode cX12_givenIn 23 = .ok (.iload 6, 2) := by decide +kernel
theorem dX12_givenIn_25 : decode cX12_givenIn 25 = .ok (.iadd, 1) := by decide +kernel
theorem dX12_givenIn_26 : decode cX12_givenIn 26 = .ok (.invokevirtual 211, 3) := by decide +kernel
theorem dX12_givenIn_29 : decode cX12_givenIn 29 = .ok (.iaload, 1) := by decide +kernel
theorem dX12_givenIn_30 : decode cX12_givenIn 30 = .ok (.invokestatic 178, 3) := by decide +kernel
theorem dX12_givenIn_33 : decode cX12_givenIn 33 = .ok (.ifCond .eq 7, 3) := by decide +kernel
theorem dX12_givenIn_36 : decode cX12_givenIn 36 = .ok (.iconst 1, 1) := by decide +kernel
theorem dX12_givenIn_37 : decode cX12_givenIn 37 = .ok (.goto 4, 3) := by decide +kernel
theorem dX12_givenIn_40 : decode cX12_givenIn 40 = .ok (.iconst 0, 1) := by decide +kernel
theorem dX12_givenIn_41 : decode cX12_givenIn 41 = .ok (.iadd, 1) := by decide +kernel
theorem dX12_givenIn_42 : decode cX12_givenIn 42 = .ok (.istore 5, 2) := by decide +kernel
theorem dX12_givenIn_44 : decode cX12_givenIn 44 = .ok (.iinc 6 1, 3) := by decide +kernel
theorem dX12_givenIn_47 : decode cX12_givenIn 47 = .ok (.goto (-41), 3) := by decide +kernel
theorem dX12_givenIn_50 : decode cX12_givenIn 50 = .ok (.iload 5, 2) := by decide +kernel
theorem dX12_givenIn_52 : decode cX12_givenIn 52 = .ok (.ireturn, 1) := by decide +kernel
set_option maxRecDepth 20000 in
theorem ggX12_isCounted_X12_of : GoodIn wsX12_isCounted wsX12_of := goodIn_r _ [5, 6, 18, 19, 20, 21, 22, 23, 24, 25, 26, 27, 28, 29, 30, 31, 32, 33, 34, 35, 36, 37, 38, 39, 40, 41, 42, 43, 44, 45, 46, 47, 48, 49] (by decide +kernel) (by decide +kernel)
set_option maxRecDepth 20000 in
theorem gX12_isCounted_X12_of : GoodIn wsX12_isCounted (wsV RX12 211 RX12 yX12_of wsX12_of) := goodIn_app (goodIn_of _ (by decide +kernel)) ggX12_isCounted_X12_of
set_option maxRecDepth 20000 in
theorem ggX12_isCounted_X12_givenIn : GoodIn wsX12_isCounted wsX12_givenIn := goodIn_r _ [10, 11, 1, 2, 3, 4, 5, 6, 12, 13, 14, 18, 19, 20, 21, 22, 23, 24, 25, 26, 27, 28, 29, 30, 31, 32, 33, 34, 35, 36, 37, 38, 39, 40, 41, 42, 43, 44, 45, 46, 47, 48, 49] (by decide +kernel) (by decide +kernel)
set_option maxRecDepth 20000 in
theorem gX12_isCounted_X12_givenIn : GoodIn wsX12_isCounted (wsV RX12 294 RX12 yX12_givenIn wsX12_givenIn) := goodIn_app (goodIn_of _ (by decide +kernel)) ggX12_isCounted_X12_givenIn
set_option maxRecDepth 20000 in
theorem ggX12_isCounted_X12_isIn : GoodIn wsX12_isCounted wsX12_isIn := goodIn_r _ [17] (by decide +kernel) (by decide +kernel)
set_option maxRecDepth 20000 in
theorem gX12_isCounted_X12_isIn : GoodIn wsX12_isCounted (va_wsS RX12 100 yX12_isIn wsX12_isIn) := goodIn_app (goodIn_of _ (by decide +kernel)) ggX12_isCounted_X12_isIn
theorem dX12_isCounted_0 : decode cX12_isCounted 0 = .ok (.iconst 0, 1) := by decide +kernel
theorem dX12_isCounted_1 : decode cX12_isCounted 1 = .ok (.istore_n 2, 1) := by decide +kernel
theorem dX12_isCounted_2 : decode cX12_isCounted 2 = .ok (.iload_n 2, 1) := by decide +kernel
theorem dX12_isCounted_3 : decode cX12_isCounted 3 = .ok (.iconst 5, 1) := by decide +kernel
theorem dX12_isCounted_4 : decode cX12_isCounted 4 = .ok (.if_icmp .ge 50, 3) := by decide +kernel
theorem dX12_isCounted_7 : decode cX12_isCounted 7 = .ok (.aload_n 0, 1) := by decide +kernel
theorem dX12_isCounted_8 : decode cX12_isCounted 8 = .ok (.iload_n 1, 1) := by decide +kernel
theorem dX12_isCounted_9 : decode cX12_isCounted 9 = .ok (.iconst 0, 1) := by decide +kernel
theorem dX12_isCounted_10 : decode cX12_isCounted 10 = .ok (.aload_n 0, 1) := by decide +kernel
theorem dX12_isCounted_11 : decode cX12_isCounted 11 = .ok (.iload_n 1, 1) := by decide +kernel
theorem dX12_isCounted_12 : decode cX12_isCounted 12 = .ok (.iconst 1, 1) := by decide +kernel
theorem dX12_isCounted_13 : decode cX12_isCounted 13 = .ok (.invokevirtual 211, 3) := by decide +kernel
theorem dX12_isCounted_16 : decode cX12_isCounted 16 = .ok (.iconst 1, 1) := by decide +kernel
theorem dX12_isCounted_17 : decode cX12_isCounted 17 = .ok (.iload_n 2, 1) := by decide +kernel
theorem dX12_isCounted_18 : decode cX12_isCounted 18 = .ok (.ishl, 1) := by decide +kernel
theorem dX12_isCounted_19 : decode cX12_isCounted 19 = .ok (.invokevirtual 294, 3) := by decide +kernel
theorem dX12_isCounted_22 : decode cX12_isCounted 22 = .ok (.aload_n 0, 1) := by decide +kernel
theorem dX12_isCounted_23 : decode cX12_isCounted 23 = .ok (.iload_n 1, 1) := by decide +kernel
theorem dX12_isCounted_24 : decode cX12_isCounted 24 = .ok (.bipush 9, 2) := by decide +kernel
theorem dX12_isCounted_26 : decode cX12_isCounted 26 = .ok (.iload_n 2, 1) := by decide +kernel
theorem dX12_isCounted_27 : decode cX12_isCounted 27 = .ok (.iadd, 1) := by decide +kernel
theorem dX12_isCounted_28 : decode cX12_isCounted 28 = .ok (.invokevirtual 211, 3) := by decide +kernel
theorem dX12_isCounted_31 : decode cX12_isCounted 31 = .ok (.aload_n 0, 1) := by decide +kernel
theorem dX12_isCounted_32 : decode cX12_isCounted 32 = .ok (.iload_n 1, 1) := by decide +kernel
theorem dX12_isCounted_33 : decode cX12_isCounted 33 = .ok (.bipush 14, 2) := by decide +kernel
theorem dX12_isCounted_35 : decode cX12_isCounted 35 = .ok (.iload_n 2, 1) := by decide +kernel
theorem dX12_isCounted_36 : decode cX12_isCounted 36 = .ok (.iadd, 1) := by decide +kernel
theorem dX12_isCounted_37 : decode cX12_isCounted 37 = .ok (.invokevirtual 211, 3) := by decide +kernel
theorem dX12_isCounted_40 : decode cX12_isCounted 40 = .ok (.invokestatic 100, 3) := by decide +kernel
theorem dX12_isCounted_43 : decode cX12_isCounted 43 = .ok (.ifCond .ne 5, 3) := by decide +kernel
theorem dX12_isCounted_46 : decode cX12_isCounted 46 = .ok (.iconst 0, 1) := by decide +kernel
theorem dX12_isCounted_47 : decode cX12_isCounted 47 = .ok (.ireturn, 1) := by decide +kernel
theorem dX12_isCounted_48 : decode cX12_isCounted 48 = .ok (.iinc 2 1, 3) := by decide +kernel
theorem dX12_isCounted_51 : decode cX12_isCounted 51 = .ok (.goto (-49), 3) := by decide +kernel
theorem dX12_isCounted_54 : decode cX12_isCounted 54 = .ok (.iconst 1, 1) := by decide +kernel
theorem dX12_isCounted_55 : decode cX12_isCounted 55 = .ok (.ireturn, 1) := by decide +kernel
set_option maxRecDepth 20000 in
theorem ggX12_isSlid_X12_of : GoodIn wsX12_isSlid wsX12_of := goodIn_r _ [5, 6, 18, 19, 20, 21, 22, 23, 24, 25, 26, 27, 28, 29, 30, 31, 32, 33, 34, 35, 36, 37, 38, 39, 40, 41, 42, 43, 44, 45, 46, 47, 48, 49] (by decide +kernel) (by decide +kernel)
set_option maxRecDepth 20000 in
theorem gX12_isSlid_X12_of : GoodIn wsX12_isSlid (wsV RX12 211 RX12 yX12_of wsX12_of) := goodIn_app (goodIn_of _ (by decide +kernel)) ggX12_isSlid_X12_of
set_option maxRecDepth 20000 in
theorem ggX12_isSlid_X12_givenIn : GoodIn wsX12_isSlid wsX12_givenIn := goodIn_r _ [10, 11, 1, 2, 3, 4, 5, 6, 12, 13, 14, 18, 19, 20, 21, 22, 23, 24, 25, 26, 27, 28, 29, 30, 31, 32, 33, 34, 35, 36, 37, 38, 39, 40, 41, 42, 43, 44, 45, 46, 47, 48, 49] (by decide +kernel) (by decide +kernel)
set_option maxRecDepth 20000 in
theorem gX12_isSlid_X12_givenIn : GoodIn wsX12_isSlid (wsV RX12 294 RX12 yX12_givenIn wsX12_givenIn) := goodIn_app (goodIn_of _ (by decide +kernel)) ggX12_isSlid_X12_givenIn
set_option maxRecDepth 20000 in
theorem ggX12_isSlid_X12_isIn : GoodIn wsX12_isSlid wsX12_isIn := goodIn_r _ [17] (by decide +kernel) (by decide +kernel)
set_option maxRecDepth 20000 in
theorem gX12_isSlid_X12_isIn : GoodIn wsX12_isSlid (va_wsS RX12 100 yX12_isIn wsX12_isIn) := goodIn_app (goodIn_of _ (by decide +kernel)) ggX12_isSlid_X12_isIn
theorem dX12_isSlid_0 : decode cX12_isSlid 0 = .ok (.aload_n 0, 1) := by decide +kernel
theorem dX12_isSlid_1 : decode cX12_isSlid 1 = .ok (.iload_n 1, 1) := by decide +kernel
theorem dX12_isSlid_2 : decode cX12_isSlid 2 = .ok (.bipush 9, 2) := by decide +kernel
theorem dX12_isSlid_4 : decode cX12_isSlid 4 = .ok (.invokevirtual 211, 3) := by decide +kernel
theorem dX12_isSlid_7 : decode cX12_isSlid 7 = .ok (.istore_n 2, 1) := by decide +kernel
theorem dX12_isSlid_8 : decode cX12_isSlid 8 = .ok (.iload_n 2, 1) := by decide +kernel
theorem dX12_isSlid_9 : decode cX12_isSlid 9 = .ok (.aload_n 0, 1) := by decide +kernel
theorem dX12_isSlid_10 : decode cX12_isSlid 10 = .ok (.iload_n 1, 1) := by decide +kernel
theorem dX12_isSlid_11 : decode cX12_isSlid 11 = .ok (.iconst 1, 1) := by decide +kernel
theorem dX12_isSlid_12 : decode cX12_isSlid 12 = .ok (.invokevirtual 211, 3) := by decide +kernel
theorem dX12_isSlid_15 : decode cX12_isSlid 15 = .ok (.if_icmp .gt 53, 3) := by decide +kernel
theorem dX12_isSlid_18 : decode cX12_isSlid 18 = .ok (.aload_n 0, 1) := by decide +kernel
theorem dX12_isSlid_19 : decode cX12_isSlid 19 = .ok (.iload_n 1, 1) := by decide +kernel
theorem dX12_isSlid_20 : decode cX12_isSlid 20 = .ok (.iload_n 2, 1) := by decide +kernel
theorem dX12_isSlid_21 : decode cX12_isSlid 21 = .ok (.aload_n 0, 1) := by decide +kernel
theorem dX12_isSlid_22 : decode cX12_isSlid 22 = .ok (.iload_n 1, 1) := by decide +kernel
theorem dX12_isSlid_23 : decode cX12_isSlid 23 = .ok (.bipush 9, 2) := by decide +kernel
theorem dX12_isSlid_25 : decode cX12_isSlid 25 = .ok (.invokevirtual 211, 3) := by decide +kernel
theorem dX12_isSlid_28 : decode cX12_isSlid 28 = .ok (.isub, 1) := by decide +kernel
theorem dX12_isSlid_29 : decode cX12_isSlid 29 = .ok (.iload_n 2, 1) := by decide +kernel
theorem dX12_isSlid_30 : decode cX12_isSlid 30 = .ok (.aload_n 0, 1) := by decide +kernel
theorem dX12_isSlid_31 : decode cX12_isSlid 31 = .ok (.iload_n 1, 1) := by decide +kernel
theorem dX12_isSlid_32 : decode cX12_isSlid 32 = .ok (.bipush 10, 2) := by decide +kernel
theorem dX12_isSlid_34 : decode cX12_isSlid 34 = .ok (.invokevirtual 211, 3) := by decide +kernel
theorem dX12_isSlid_37 : decode cX12_isSlid 37 = .ok (.invokevirtual 294, 3) := by decide +kernel
theorem dX12_isSlid_40 : decode cX12_isSlid 40 = .ok (.aload_n 0, 1) := by decide +kernel
theorem dX12_isSlid_41 : decode cX12_isSlid 41 = .ok (.iload_n 1, 1) := by decide +kernel
theorem dX12_isSlid_42 : decode cX12_isSlid 42 = .ok (.bipush 11, 2) := by decide +kernel
theorem dX12_isSlid_44 : decode cX12_isSlid 44 = .ok (.invokevirtual 211, 3) := by decide +kernel
theorem dX12_isSlid_47 : decode cX12_isSlid 47 = .ok (.aload_n 0, 1) := by decide +kernel
theorem dX12_isSlid_48 : decode cX12_isSlid 48 = .ok (.iload_n 1, 1) := by decide +kernel
theorem dX12_isSlid_49 : decode cX12_isSlid 49 = .ok (.bipush 12, 2) := by decide +kernel
theorem dX12_isSlid_51 : decode cX12_isSlid 51 = .ok (.invokevirtual 211, 3) := by decide +kernel
theorem dX12_isSlid_54 : decode cX12_isSlid 54 = .ok (.invokestatic 100, 3) := by decide +kernel
theorem dX12_isSlid_57 : decode cX12_isSlid 57 = .ok (.ifCond .ne 5, 3) := by decide +kernel
theorem dX12_isSlid_60 : decode cX12_isSlid 60 = .ok (.iconst 0, 1) := by decide +kernel
theorem dX12_isSlid_61 : decode cX12_isSlid 61 = .ok (.ireturn, 1) := by decide +kernel
theorem dX12_isSlid_62 : decode cX12_isSlid 62 = .ok (.iinc 2 1, 3) := by decide +kernel
theorem dX12_isSlid_65 : decode cX12_isSlid 65 = .ok (.goto (-57), 3) := by decide +kernel
theorem dX12_isSlid_68 : decode cX12_isSlid 68 = .ok (.iconst 1, 1) := by decide +kernel
theorem dX12_isSlid_69 : decode cX12_isSlid 69 = .ok (.ireturn, 1) := by decide +kernel
set_option maxRecDepth 20000 in
theorem ggX12_fulfils_X12_of : GoodIn wsX12_fulfils wsX12_of := goodIn_r _ [6, 7, 26, 27, 28, 29, 30, 31, 32, 33, 34, 35, 36, 37, 38, 39, 40, 41, 42, 43, 44, 45, 46, 47, 48, 49, 50, 51, 52, 53, 54, 55, 56, 57] (by decide +kernel) (by decide +kernel)
set_option maxRecDepth 20000 in
theorem gX12_fulfils_X12_of : GoodIn wsX12_fulfils (wsV RX12 211 RX12 yX12_of wsX12_of) := goodIn_app (goodIn_of _ (by decide +kernel)) ggX12_fulfils_X12_of
set_option maxRecDepth 20000 in
theorem ggX12_fulfils_X12_isCounted : GoodIn wsX12_fulfils wsX12_isCounted := goodIn_r _ [11, 2, 3, 4, 5, 6, 7, 12, 13, 14, 15, 1, 16, 17, 18, 19, 20, 21, 26, 27, 28, 29, 30, 31, 32, 33, 34, 35, 36, 37, 38, 39, 40, 41, 42, 43, 44, 45, 46, 47, 48, 49, 50, 51, 52, 53, 54, 55, 56, 57] (by decide +kernel) (by decide +kernel)
set_option maxRecDepth 20000 in
theorem gX12_fulfils_X12_isCounted : GoodIn wsX12_fulfils (wsV RX12 298 RX12 yX12_isCounted wsX12_isCounted) := goodIn_app (goodIn_of _ (by decide +kernel)) ggX12_fulfils_X12_isCounted
set_option maxRecDepth 20000 in
theorem ggX12_fulfils_X12_isSlid : GoodIn wsX12_fulfils wsX12_isSlid := goodIn_r _ [25, 2, 3, 4, 5, 6, 7, 12, 13, 14, 15, 1, 16, 17, 18, 19, 20, 21, 26, 27, 28, 29, 30, 31, 32, 33, 34, 35, 36, 37, 38, 39, 40, 41, 42, 43, 44, 45, 46, 47, 48, 49, 50, 51, 52, 53, 54, 55, 56, 57] (by decide +kernel) (by decide +kernel)
set_option maxRecDepth 20000 in
theorem gX12_fulfils_X12_isSlid : GoodIn wsX12_fulfils (wsV RX12 301 RX12 yX12_isSlid wsX12_isSlid) := goodIn_app (goodIn_of _ (by decide +kernel)) ggX12_fulfils_X12_isSlid
theorem dX12_fulfils_0 : decode cX12_fulfils 0 = .ok (.aload_n 0, 1) := by decide +kernel
theorem dX12_fulfils_1 : decode cX12_fulfils 1 = .ok (.getfield 55, 3) := by decide +kernel
theorem dX12_fulfils_4 : decode cX12_fulfils 4 = .ok (.aload_n 0, 1) := by decide +kernel
theorem dX12_fulfils_5 : decode cX12_fulfils 5 = .ok (.iload_n 1, 1) := by decide +kernel
theorem dX12_fulfils_6 : decode cX12_fulfils 6 = .ok (.iconst 2, 1) := by decide +kernel
theorem dX12_fulfils_7 : decode cX12_fulfils 7 = .ok (.invokevirtual 211, 3) := by decide +kernel
theorem dX12_fulfils_10 : decode cX12_fulfils 10 = .ok (.iaload, 1) := by decide +kernel
theorem dX12_fulfils_11 : decode cX12_fulfils 11 = .ok (.istore_n 2, 1) := by decide +kernel
theorem dX12_fulfils_12 : decode cX12_fulfils 12 = .ok (.aload_n 0, 1) := by decide +kernel
theorem dX12_fulfils_13 : decode cX12_fulfils 13 = .ok (.getfield 55, 3) := by decide +kernel
theorem dX12_fulfils_16 : decode cX12_fulfils 16 = .ok (.aload_n 0, 1) := by decide +kernel
theorem dX12_fulfils_17 : decode cX12_fulfils 17 = .ok (.iload_n 1, 1) := by decide +kernel
theorem dX12_fulfils_18 : decode cX12_fulfils 18 = .ok (.iconst 3, 1) := by decide +kernel
theorem dX12_fulfils_19 : decode cX12_fulfils 19 = .ok (.invokevirtual 211, 3) := by decide +kernel
theorem dX12_fulfils_22 : decode cX12_fulfils 22 = .ok (.iaload, 1) := by decide +kernel
theorem dX12_fulfils_23 : decode cX12_fulfils 23 = .ok (.istore_n 3, 1) := by decide +kernel
theorem dX12_fulfils_24 : decode cX12_fulfils 24 = .ok (.aload_n 0, 1) := by decide +kernel
theorem dX12_fulfils_25 : decode cX12_fulfils 25 = .ok (.iload_n 1, 1) := by decide +kernel
theorem dX12_fulfils_26 : decode cX12_fulfils 26 = .ok (.iconst 0, 1) := by decide +kernel
theorem dX12_fulfils_27 : decode cX12_fulfils 27 = .ok (.invokevirtual 211, 3) := by decide +kernel
theorem dX12_fulfils_30 : decode cX12_fulfils 30 = .ok (.tableswitch 49 0 2 #[26, 32, 38], 26) := by decide +kernel
theorem dX12_fulfils_56 : decode cX12_fulfils 56 = .ok (.aload_n 0, 1) := by decide +kernel
theorem dX12_fulfils_57 : decode cX12_fulfils 57 = .ok (.iload_n 1, 1) := by decide +kernel
theorem dX12_fulfils_58 : decode cX12_fulfils 58 = .ok (.invokevirtual 298, 3) := by decide +kernel
theorem dX12_fulfils_61 : decode cX12_fulfils 61 = .ok (.ireturn, 1) := by decide +kernel
theorem dX12_fulfils_62 : decode cX12_fulfils 62 = .ok (.aload_n 0, 1) := by decide +kernel
theorem dX12_fulfils_63 : decode cX12_fulfils 63 = .ok (.iload_n 1, 1) := by decide +kernel
theorem dX12_fulfils_64 : decode cX12_fulfils 64 = .ok (.invokevirtual 301, 3) := by decide +kernel
theorem dX12_fulfils_67 : decode cX12_fulfils 67 = .ok (.ireturn, 1) := by decide +kernel
theorem dX12_fulfils_68 : decode cX12_fulfils 68 = .ok (.iload_n 2, 1) := by decide +kernel
theorem dX12_fulfils_69 : decode cX12_fulfils 69 = .ok (.iload_n 3, 1) := by decide +kernel
theorem dX12_fulfils_70 : decode cX12_fulfils 70 = .ok (.if_icmp .ge 7, 3) := by decide +kernel
theorem dX12_fulfils_73 : decode cX12_fulfils 73 = .ok (.iconst 1, 1) := by decide +kernel
theorem dX12_fulfils_74 : decode cX12_fulfils 74 = .ok (.goto 4, 3) := by decide +kernel
theorem dX12_fulfils_77 : decode cX12_fulfils 77 = .ok (.iconst 0, 1) := by decide +kernel
theorem dX12_fulfils_78 : decode cX12_fulfils 78 = .ok (.ireturn, 1) := by decide +kernel
theorem dX12_fulfils_79 : decode cX12_fulfils 79 = .ok (.iload_n 2, 1) := by decide +kernel
theorem dX12_fulfils_80 : decode cX12_fulfils 80 = .ok (.iload_n 3, 1) := by decide +kernel
theorem dX12_fulfils_81 : decode cX12_fulfils 81 = .ok (.if_icmp .eq 7, 3) := by decide +kernel
theorem dX12_fulfils_84 : decode cX12_fulfils 84 = .ok (.iconst 1, 1) := by decide +kernel
theorem dX12_fulfils_85 : decode cX12_fulfils 85 = .ok (.goto 4, 3) := by decide +kernel
theorem dX12_fulfils_88 : decode cX12_fulfils 88 = .ok (.iconst 0, 1) := by decide +kernel
theorem dX12_fulfils_89 : decode cX12_fulfils 89 = .ok (.ireturn, 1) := by decide +kernel
set_option maxRecDepth 20000 in
theorem ggX12_nextValue_X12_has : GoodIn wsX12_nextValue wsX12_has := goodIn_r _ [5] (by decide +kernel) (by decide +kernel)
set_option maxRecDepth 20000 in
theorem gX12_nextValue_X12_has : GoodIn wsX12_nextValue (va_wsS RX12 178 yX12_has wsX12_has) := goodIn_app (goodIn_of _ (by decide +kernel)) ggX12_nextValue_X12_has
theorem dX12_nextValue_0 : decode cX12_nextValue 0 = .ok (.iload_n 2, 1) := by decide +kernel
theorem dX12_nextValue_1 : decode cX12_nextValue 1 = .ok (.iconst 1, 1) := by decide +kernel
theorem dX12_nextValue_2 : decode cX12_nextValue 2 = .ok (.iadd, 1) := by decide +kernel
theorem dX12_nextValue_3 : decode cX12_nextValue 3 = .ok (.istore_n 3, 1) := by decide +kernel
theorem dX12_nextValue_4 : decode cX12_nextValue 4 = .ok (.iload_n 3, 1) := by decide +kernel
theorem dX12_nextValue_5 : decode cX12_nextValue 5 = .ok (.iconst 5, 1) := by decide +kernel
theorem dX12_nextValue_6 : decode cX12_nextValue 6 = .ok (.if_icmp .ge 22, 3) := by decide +kernel
theorem dX12_nextValue_9 : decode cX12_nextValue 9 = .ok (.aload_n 0, 1) := by decide +kernel
theorem dX12_nextValue_10 : decode cX12_nextValue 10 = .ok (.getfield 16, 3) := by decide +kernel
theorem dX12_nextValue_13 : decode cX12_nextValue 13 = .ok (.iload_n 1, 1) := by decide +kernel
theorem dX12_nextValue_14 : decode cX12_nextValue 14 = .ok (.iaload, 1) := by decide +kernel
theorem dX12_nextValue_15 : decode cX12_nextValue 15 = .ok (.iload_n 3, 1) := by decide +kernel
theorem dX12_nextValue_16 : decode cX12_nextValue 16 = .ok (.invokestatic 178, 3) := by decide +kernel
theorem dX12_nextValue_19 : decode cX12_nextValue 19 = .ok (.ifCond .ne 9, 3) := by decide +kernel
theorem dX12_nextValue_22 : decode cX12_nextValue 22 = .ok (.iinc 3 1, 3) := by decide +kernel
theorem dX12_nextValue_25 : decode cX12_nextValue 25 = .ok (.goto (-21), 3) := by decide +kernel
theorem dX12_nextValue_28 : decode cX12_nextValue 28 = .ok (.iload_n 3, 1) := by decide +kernel
theorem dX12_nextValue_29 : decode cX12_nextValue 29 = .ok (.iconst 5, 1) := by decide +kernel
theorem dX12_nextValue_30 : decode cX12_nextValue 30 = .ok (.if_icmp .ge 7, 3) := by decide +kernel
theorem dX12_nextValue_33 : decode cX12_nextValue 33 = .ok (.iload_n 3, 1) := by decide +kernel
theorem dX12_nextValue_34 : decode cX12_nextValue 34 = .ok (.goto 4, 3) := by decide +kernel
theorem dX12_nextValue_37 : decode cX12_nextValue 37 = .ok (.iconst (-1), 1) := by decide +kernel
theorem dX12_nextValue_38 : decode cX12_nextValue 38 = .ok (.ireturn, 1) := by decide +kernel
set_option maxRecDepth 20000 in
theorem ggX12_tuplesOf_X12_of : GoodIn wsX12_tuplesOf wsX12_of := goodIn_r _ [6, 7, 35, 36, 37, 38, 39, 40, 41, 42, 43, 44, 45, 46, 47, 48, 49, 50, 51, 52, 53, 54, 55, 56, 57, 58, 59, 60, 61, 62, 63, 64, 65, 66] (by decide +kernel) (by decide +kernel)
set_option maxRecDepth 20000 in
theorem gX12_tuplesOf_X12_of : GoodIn wsX12_tuplesOf (wsV RX12 211 RX12 yX12_of wsX12_of) := goodIn_app (goodIn_of _ (by decide +kernel)) ggX12_tuplesOf_X12_of
set_option maxRecDepth 20000 in
theorem ggX12_tuplesOf_X12_nextValue : GoodIn wsX12_tuplesOf wsX12_nextValue := goodIn_r _ [11, 12, 13, 14, 5, 15, 35, 36, 37, 38, 39, 40, 41, 42, 43, 44, 45, 46, 47, 48, 49, 50, 51, 52, 53, 54, 55, 56, 57, 58, 59, 60, 61, 62, 63, 64, 65, 66] (by decide +kernel) (by decide +kernel)
set_option maxRecDepth 20000 in
theorem gX12_tuplesOf_X12_nextValue : GoodIn wsX12_tuplesOf (wsV RX12 304 RX12 yX12_nextValue wsX12_nextValue) := goodIn_app (goodIn_of _ (by decide +kernel)) ggX12_tuplesOf_X12_nextValue
set_option maxRecDepth 20000 in
theorem ggX12_tuplesOf_X12_fulfils : GoodIn wsX12_tuplesOf wsX12_fulfils := goodIn_r _ [19, 1, 2, 3, 4, 5, 6, 7, 20, 21, 22, 23, 24, 25, 26, 27, 13, 14, 15, 28, 29, 30, 31, 32, 33, 34, 35, 36, 37, 38, 39, 40, 41, 42, 43, 44, 45, 46, 47, 48, 49, 50, 51, 52, 53, 54, 55, 56, 57, 58, 59, 60, 61, 62, 63, 64, 65, 66] (by decide +kernel) (by decide +kernel)
set_option maxRecDepth 20000 in
theorem gX12_tuplesOf_X12_fulfils : GoodIn wsX12_tuplesOf (wsV RX12 307 RX12 yX12_fulfils wsX12_fulfils) := goodIn_app (goodIn_of _ (by decide +kernel)) ggX12_tuplesOf_X12_fulfils
theorem dX12_tuplesOf_0 : decode cX12_tuplesOf 0 = .ok (.aload_n 0, 1) := by decide +kernel
theorem dX12_tuplesOf_1 : decode cX12_tuplesOf 1 = .ok (.iload_n 1, 1) := by decide +kernel
theorem dX12_tuplesOf_2 : decode cX12_tuplesOf 2 = .ok (.iconst 1, 1) := by decide +kernel
theorem dX12_tuplesOf_3 : decode cX12_tuplesOf 3 = .ok (.invokevirtual 211, 3) := by decide +kernel
theorem dX12_tuplesOf_6 : decode cX12_tuplesOf 6 = .ok (.istore_n 2, 1) := by decide +kernel
theorem dX12_tuplesOf_7 : decode cX12_tuplesOf 7 = .ok (.iconst 0, 1) := by decide +kernel
theorem dX12_tuplesOf_8 : decode cX12_tuplesOf 8 = .ok (.istore_n 3, 1) := by decide +kernel
theorem dX12_tuplesOf_9 : decode cX12_tuplesOf 9 = .ok (.iconst 0, 1) := by decide +kernel
theorem dX12_tuplesOf_10 : decode cX12_tuplesOf 10 = .ok (.istore 4, 2) := by decide +kernel
theorem dX12_tuplesOf_12 : decode cX12_tuplesOf 12 = .ok (.aload_n 0, 1) := by decide +kernel
theorem dX12_tuplesOf_13 : decode cX12_tuplesOf 13 = .ok (.getfield 55, 3) := by decide +kernel
theorem dX12_tuplesOf_16 : decode cX12_tuplesOf 16 = .ok (.aload_n 0, 1) := by decide +kernel
theorem dX12_tuplesOf_17 : decode cX12_tuplesOf 17 = .ok (.iload_n 1, 1) := by decide +kernel
theorem dX12_tuplesOf_18 : decode cX12_tuplesOf 18 = .ok (.iconst 2, 1) := by decide +kernel
theorem dX12_tuplesOf_19 : decode cX12_tuplesOf 19 = .ok (.invokevirtual 211, 3) := by decide +kernel
theorem dX12_tuplesOf_22 : decode cX12_tuplesOf 22 = .ok (.iconst (-1), 1) := by decide +kernel
theorem dX12_tuplesOf_23 : decode cX12_tuplesOf 23 = .ok (.iastore, 1) := by decide +kernel
theorem dX12_tuplesOf_24 : decode cX12_tuplesOf 24 = .ok (.iload 4, 2) := by decide +kernel
theorem dX12_tuplesOf_26 : decode cX12_tuplesOf 26 = .ok (.ifCond .lt 99, 3) := by decide +kernel
theorem dX12_tuplesOf_29 : decode cX12_tuplesOf 29 = .ok (.aload_n 0, 1) := by decide +kernel
theorem dX12_tuplesOf_30 : decode cX12_tuplesOf 30 = .ok (.iload_n 1, 1) := by decide +kernel
theorem dX12_tuplesOf_31 : decode cX12_tuplesOf 31 = .ok (.iconst 2, 1) := by decide +kernel
theorem dX12_tuplesOf_32 : decode cX12_tuplesOf 32 = .ok (.iload 4, 2) := by decide +kernel
theorem dX12_tuplesOf_34 : decode cX12_tuplesOf 34 = .ok (.iadd, 1) := by decide +kernel
theorem dX12_tuplesOf_35 : decode cX12_tuplesOf 35 = .ok (.invokevirtual 211, 3) := by decide +kernel
theorem dX12_tuplesOf_38 : decode cX12_tuplesOf 38 = .ok (.istore 5, 2) := by decide +kernel
theorem dX12_tuplesOf_40 : decode cX12_tuplesOf 40 = .ok (.aload_n 0, 1) := by decide +kernel
theorem dX12_tuplesOf_41 : decode cX12_tuplesOf 41 = .ok (.getfield 55, 3) := by decide +kernel
theorem dX12_tuplesOf_44 : decode cX12_tuplesOf 44 = .ok (.iload 5, 2) := by decide +kernel
theorem dX12_tuplesOf_46 : decode cX12_tuplesOf 46 = .ok (.aload_n 0, 1) := by decide +kernel
theorem dX12_tuplesOf_47 : decode cX12_tuplesOf 47 = .ok (.iload 5, 2) := by decide +kernel
theorem dX12_tuplesOf_49 : decode cX12_tuplesOf 49 = .ok (.aload_n 0, 1) := by decide +kernel
theorem dX12_tuplesOf_50 : decode cX12_tuplesOf 50 = .ok (.getfield 55, 3) := by decide +kernel
theorem dX12_tuplesOf_53 : decode cX12_tuplesOf 53 = .ok (.iload 5, 2) := by decide +kernel
theorem dX12_tuplesOf_55 : decode cX12_tuplesOf 55 = .ok (.iaload, 1) := by decide +kernel
theorem dX12_tuplesOf_56 : decode cX12_tuplesOf 56 = .ok (.invokevirtual 304, 3) := by decide +kernel
theorem dX12_tuplesOf_59 : decode cX12_tuplesOf 59 = .ok (.iastore, 1) := by decide +kernel
theorem dX12_tuplesOf_60 : decode cX12_tuplesOf 60 = .ok (.aload_n 0, 1) := by decide +kernel
theorem dX12_tuplesOf_61 : decode cX12_tuplesOf 61 = .ok (.getfield 55, 3) := by decide +kernel
theorem dX12_tuplesOf_64 : decode cX12_tuplesOf 64 = .ok (.iload 5, 2) := by decide +kernel
theorem dX12_tuplesOf_66 : decode cX12_tuplesOf 66 = .ok (.iaload, 1) := by decide +kernel
theorem dX12_tuplesOf_67 : decode cX12_tuplesOf 67 = .ok (.iconst (-1), 1) := by decide +kernel
theorem dX12_tuplesOf_68 : decode cX12_tuplesOf 68 = .ok (.if_icmp .ne 9, 3) := by decide +kernel
theorem dX12_tuplesOf_71 : decode cX12_tuplesOf 71 = .ok (.iinc 4 (-1), 3) := by decide +kernel
theorem dX12_tuplesOf_74 : decode cX12_tuplesOf 74 = .ok (.goto 48, 3) := by decide +kernel
theorem dX12_tuplesOf_77 : decode cX12_tuplesOf 77 = .ok (.iload 4, 2) := by decide +kernel
theorem dX12_tuplesOf_79 : decode cX12_tuplesOf 79 = .ok (.iconst 1, 1) := by decide +kernel
theorem dX12_tuplesOf_80 : decode cX12_tuplesOf 80 = .ok (.iadd, 1) := by decide +kernel
theorem dX12_tuplesOf_81 : decode cX12_tuplesOf 81 = .ok (.iload_n 2, 1) := by decide +kernel
theorem dX12_tuplesOf_82 : decode cX12_tuplesOf 82 = .ok (.if_icmp .ge 24, 3) := by decide +kernel
theorem dX12_tuplesOf_85 : decode cX12_tuplesOf 85 = .ok (.iinc 4 1, 3) := by decide +kernel
theorem dX12_tuplesOf_88 : decode cX12_tuplesOf 88 = .ok (.aload_n 0, 1) := by decide +kernel
theorem dX12_tuplesOf_89 : decode cX12_tuplesOf 89 = .ok (.getfield 55, 3) := by decide +kernel
theorem dX12_tuplesOf_92 : decode cX12_tuplesOf 92 = .ok (.aload_n 0, 1) := by decide +kernel
theorem dX12_tuplesOf_93 : decode cX12_tuplesOf 93 = .ok (.iload_n 1, 1) := by decide +kernel
theorem dX12_tuplesOf_94 : decode cX12_tuplesOf 94 = .ok (.iconst 2, 1) := by decide +kernel
theorem dX12_tuplesOf_95 : decode cX12_tuplesOf 95 = .ok (.iload 4, 2) := by decide +kernel
theorem dX12_tuplesOf_97 : decode cX12_tuplesOf 97 = .ok (.iadd, 1) := by decide +kernel
theorem dX12_tuplesOf_98 : decode cX12_tuplesOf 98 = .ok (.invokevirtual 211, 3) := by decide +kernel
theorem dX12_tuplesOf_101 : decode cX12_tuplesOf 101 = .ok (.iconst (-1), 1) := by decide +kernel
theorem dX12_tuplesOf_102 : decode cX12_tuplesOf 102 = .ok (.iastore, 1) := by decide +kernel
theorem dX12_tuplesOf_103 : decode cX12_tuplesOf 103 = .ok (.goto 19, 3) := by decide +kernel
theorem dX12_tuplesOf_106 : decode cX12_tuplesOf 106 = .ok (.iload_n 3, 1) := by decide +kernel
theorem dX12_tuplesOf_107 : decode cX12_tuplesOf 107 = .ok (.aload_n 0, 1) := by decide +kernel
theorem dX12_tuplesOf_108 : decode cX12_tuplesOf 108 = .ok (.iload_n 1, 1) := by decide +kernel
theorem dX12_tuplesOf_109 : decode cX12_tuplesOf 109 = .ok (.invokevirtual 307, 3) := by decide +kernel
theorem dX12_tuplesOf_112 : decode cX12_tuplesOf 112 = .ok (.ifCond .eq 7, 3) := by decide +kernel
theorem dX12_tuplesOf_115 : decode cX12_tuplesOf 115 = .ok (.iconst 1, 1) := by decide +kernel
theorem dX12_tuplesOf_116 : decode cX12_tuplesOf 116 = .ok (.goto 4, 3) := by decide +kernel
theorem dX12_tuplesOf_119 : decode cX12_tuplesOf 119 = .ok (.iconst 0, 1) := by decide +kernel
theorem dX12_tuplesOf_120 : decode cX12_tuplesOf 120 = .ok (.iadd, 1) := by decide +kernel
theorem dX12_tuplesOf_121 : decode cX12_tuplesOf 121 = .ok (.istore_n 3, 1) := by decide +kernel
theorem dX12_tuplesOf_122 : decode cX12_tuplesOf 122 = .ok (.goto (-98), 3) := by decide +kernel
theorem dX12_tuplesOf_125 : decode cX12_tuplesOf 125 = .ok (.iload_n 3, 1) := by decide +kernel
theorem dX12_tuplesOf_126 : decode cX12_tuplesOf 126 = .ok (.ireturn, 1) := by decide +kernel
set_option maxRecDepth 20000 in
theorem ggX12_tuples_X12_isConstraint : GoodIn wsX12_tuples wsX12_isConstraint := goodIn_r _ [6, 7, 8, 9, 5, 10, 48, 49, 50, 51, 52, 53, 54, 55, 56, 57, 58, 59, 60, 61, 62, 63, 64, 65, 66, 67, 68, 69, 70, 71, 72, 73, 74, 75, 76, 77, 78, 79] (by decide +kernel) (by decide +kernel)
set_option maxRecDepth 20000 in
theorem gX12_tuples_X12_isConstraint : GoodIn wsX12_tuples (wsV RX12 254 RX12 yX12_isConstraint wsX12_isConstraint) := goodIn_app (goodIn_of _ (by decide +kernel)) ggX12_tuples_X12_isConstraint
set_option maxRecDepth 20000 in
theorem ggX12_tuples_X12_may : GoodIn wsX12_tuples wsX12_may := goodIn_r _ [14, 1, 48, 49, 50, 51, 52, 53, 54, 55, 56, 57, 58, 59, 60, 61, 62, 63, 64, 65, 66, 67, 68, 69, 70, 71, 72, 73, 74, 75, 76, 77, 78, 79] (by decide +kernel) (by decide +kernel)
set_option maxRecDepth 20000 in
theorem gX12_tuples_X12_may : GoodIn wsX12_tuples (wsV RX12 96 RX12 yX12_may wsX12_may) := goodIn_app (goodIn_of _ (by decide +kernel)) ggX12_tuples_X12_may
set_option maxRecDepth 20000 in
theorem ggX12_tuples_X12_tuplesOf : GoodIn wsX12_tuples wsX12_tuplesOf := goodIn_r _ [18, 19, 20, 21, 22, 5, 23, 7, 24, 25, 26, 27, 28, 29, 30, 31, 32, 33, 34, 35, 36, 37, 38, 39, 40, 41, 42, 43, 8, 9, 10, 44, 45, 46, 47, 48, 49, 50, 51, 52, 53, 54, 55, 56, 57, 58, 59, 60, 61, 62, 63, 64, 65, 66, 67, 68, 69, 70, 71, 72, 73, 74, 75, 76, 77, 78, 79] (by decide +kernel) (by decide +kernel)
set_option maxRecDepth 20000 in
theorem gX12_tuples_X12_tuplesOf : GoodIn wsX12_tuples (wsV RX12 310 RX12 yX12_tuplesOf wsX12_tuplesOf) := goodIn_app (goodIn_of _ (by decide +kernel)) ggX12_tuples_X12_tuplesOf
theorem dX12_tuples_0 : decode cX12_tuples 0 = .ok (.aload_n 0, 1) := by decide +kernel
theorem dX12_tuples_1 : decode cX12_tuples 1 = .ok (.iconst 0, 1) := by decide +kernel
theorem dX12_tuples_2 : decode cX12_tuples 2 = .ok (.putfield 70, 3) := by decide +kernel
theorem dX12_tuples_5 : decode cX12_tuples 5 = .ok (.aload_n 0, 1) := by decide +kernel
theorem dX12_tuples_6 : decode cX12_tuples 6 = .ok (.aload_n 0, 1) := by decide +kernel
theorem dX12_tuples_7 : decode cX12_tuples 7 = .ok (.iload_n 1, 1) := by decide +kernel
theorem dX12_tuples_8 : decode cX12_tuples 8 = .ok (.invokevirtual 254, 3) := by decide +kernel
theorem dX12_tuples_11 : decode cX12_tuples 11 = .ok (.iconst 1, 1) := by decide +kernel
theorem dX12_tuples_12 : decode cX12_tuples 12 = .ok (.invokevirtual 96, 3) := by decide +kernel
theorem dX12_tuples_15 : decode cX12_tuples 15 = .ok (.ifCond .eq 11, 3) := by decide +kernel
theorem dX12_tuples_18 : decode cX12_tuples 18 = .ok (.aload_n 0, 1) := by decide +kernel
theorem dX12_tuples_19 : decode cX12_tuples 19 = .ok (.iload_n 1, 1) := by decide +kernel
theorem dX12_tuples_20 : decode cX12_tuples 20 = .ok (.invokevirtual 310, 3) := by decide +kernel
theorem dX12_tuples_23 : decode cX12_tuples 23 = .ok (.goto 4, 3) := by decide +kernel
theorem dX12_tuples_26 : decode cX12_tuples 26 = .ok (.iconst 0, 1) := by decide +kernel
theorem dX12_tuples_27 : decode cX12_tuples 27 = .ok (.ireturn, 1) := by decide +kernel
set_option maxRecDepth 20000 in
theorem ggX12_tightness_X12_isConstraint : GoodIn wsX12_tightness wsX12_isConstraint := goodIn_r _ [7, 8, 9, 10, 6, 11, 51, 52, 53, 54, 55, 56, 57, 58, 59, 60, 61, 62, 63, 64, 65, 66, 67, 68, 69, 70, 71, 72, 73, 74, 75, 76, 77, 78, 79, 80, 81, 82] (by decide +kernel) (by decide +kernel)
set_option maxRecDepth 20000 in
theorem gX12_tightness_X12_isConstraint : GoodIn wsX12_tightness (wsV RX12 254 RX12 yX12_isConstraint wsX12_isConstraint) := goodIn_app (goodIn_of _ (by decide +kernel)) ggX12_tightness_X12_isConstraint
set_option maxRecDepth 20000 in
theorem ggX12_tightness_X12_may : GoodIn wsX12_tightness wsX12_may := goodIn_r _ [15, 1, 51, 52, 53, 54, 55, 56, 57, 58, 59, 60, 61, 62, 63, 64, 65, 66, 67, 68, 69, 70, 71, 72, 73, 74, 75, 76, 77, 78, 79, 80, 81, 82] (by decide +kernel) (by decide +kernel)
set_option maxRecDepth 20000 in
theorem gX12_tightness_X12_may : GoodIn wsX12_tightness (wsV RX12 96 RX12 yX12_may wsX12_may) := goodIn_app (goodIn_of _ (by decide +kernel)) ggX12_tightness_X12_may
set_option maxRecDepth 20000 in
theorem ggX12_tightness_X12_of : GoodIn wsX12_tightness wsX12_of := goodIn_r _ [19, 8, 51, 52, 53, 54, 55, 56, 57, 58, 59, 60, 61, 62, 63, 64, 65, 66, 67, 68, 69, 70, 71, 72, 73, 74, 75, 76, 77, 78, 79, 80, 81, 82] (by decide +kernel) (by decide +kernel)
set_option maxRecDepth 20000 in
theorem gX12_tightness_X12_of : GoodIn wsX12_tightness (wsV RX12 211 RX12 yX12_of wsX12_of) := goodIn_app (goodIn_of _ (by decide +kernel)) ggX12_tightness_X12_of
set_option maxRecDepth 20000 in
theorem ggX12_tightness_X12_sizeOf : GoodIn wsX12_tightness wsX12_sizeOf := goodIn_r _ [22] (by decide +kernel) (by decide +kernel)
set_option maxRecDepth 20000 in
theorem gX12_tightness_X12_sizeOf : GoodIn wsX12_tightness (va_wsS RX12 214 yX12_sizeOf wsX12_sizeOf) := goodIn_app (goodIn_of _ (by decide +kernel)) ggX12_tightness_X12_sizeOf
set_option maxRecDepth 20000 in
theorem ggX12_tightness_X12_tuplesOf : GoodIn wsX12_tightness wsX12_tuplesOf := goodIn_r _ [26, 27, 16, 17, 18, 6, 19, 8, 28, 29, 30, 31, 2, 32, 33, 34, 35, 36, 37, 38, 39, 40, 41, 42, 43, 44, 45, 46, 9, 10, 11, 47, 48, 49, 50, 51, 52, 53, 54, 55, 56, 57, 58, 59, 60, 61, 62, 63, 64, 65, 66, 67, 68, 69, 70, 71, 72, 73, 74, 75, 76, 77, 78, 79, 80, 81, 82] (by decide +kernel) (by decide +kernel)
set_option maxRecDepth 20000 in
theorem gX12_tightness_X12_tuplesOf : GoodIn wsX12_tightness (wsV RX12 310 RX12 yX12_tuplesOf wsX12_tuplesOf) := goodIn_app (goodIn_of _ (by decide +kernel)) ggX12_tightness_X12_tuplesOf
theorem dX12_tightness_0 : decode cX12_tightness 0 = .ok (.aload_n 0, 1) := by decide +kernel
theorem dX12_tightness_1 : decode cX12_tightness 1 = .ok (.iconst 0, 1) := by decide +kernel
theorem dX12_tightness_2 : decode cX12_tightness 2 = .ok (.putfield 70, 3) := by decide +kernel
theorem dX12_tightness_5 : decode cX12_tightness 5 = .ok (.aload_n 0, 1) := by decide +kernel
theorem dX12_tightness_6 : decode cX12_tightness 6 = .ok (.aload_n 0, 1) := by decide +kernel
theorem dX12_tightness_7 : decode cX12_tightness 7 = .ok (.iload_n 1, 1) := by decide +kernel
theorem dX12_tightness_8 : decode cX12_tightness 8 = .ok (.invokevirtual 254, 3) := by decide +kernel
theorem dX12_tightness_11 : decode cX12_tightness 11 = .ok (.iconst 1, 1) := by decide +kernel
theorem dX12_tightness_12 : decode cX12_tightness 12 = .ok (.invokevirtual 96, 3) := by decide +kernel
theorem dX12_tightness_15 : decode cX12_tightness 15 = .ok (.ifCond .ne 5, 3) := by decide +kernel
theorem dX12_tightness_18 : decode cX12_tightness 18 = .ok (.dconst 0, 1) := by decide +kernel
theorem dX12_tightness_19 : decode cX12_tightness 19 = .ok (.dreturn, 1) := by decide +kernel
theorem dX12_tightness_20 : decode cX12_tightness 20 = .ok (.iconst 1, 1) := by decide +kernel
theorem dX12_tightness_21 : decode cX12_tightness 21 = .ok (.istore_n 2, 1) := by decide +kernel
theorem dX12_tightness_22 : decode cX12_tightness 22 = .ok (.iconst 0, 1) := by decide +kernel
theorem dX12_tightness_23 : decode cX12_tightness 23 = .ok (.istore_n 3, 1) := by decide +kernel
theorem dX12_tightness_24 : decode cX12_tightness 24 = .ok (.iload_n 3, 1) := by decide +kernel
theorem dX12_tightness_25 : decode cX12_tightness 25 = .ok (.aload_n 0, 1) := by decide +kernel
theorem dX12_tightness_26 : decode cX12_tightness 26 = .ok (.iload_n 1, 1) := by decide +kernel
theorem dX12_tightness_27 : decode cX12_tightness 27 = .ok (.iconst 1, 1) := by decide +kernel
theorem dX12_tightness_28 : decode cX12_tightness 28 = .ok (.invokevirtual 211, 3) := by decide +kernel
theorem dX12_tightness_31 : decode cX12_tightness 31 = .ok (.if_icmp .ge 28, 3) := by decide +kernel
theorem dX12_tightness_34 : decode cX12_tightness 34 = .ok (.iload_n 2, 1) := by decide +kernel
theorem dX12_tightness_35 : decode cX12_tightness 35 = .ok (.aload_n 0, 1) := by decide +kernel
theorem dX12_tightness_36 : decode cX12_tightness 36 = .ok (.getfield 16, 3) := by decide +kernel
theorem dX12_tightness_39 : decode cX12_tightness 39 = .ok (.aload_n 0, 1) := by decide +kernel
theorem dX12_tightness_40 : decode cX12_tightness 40 = .ok (.iload_n 1, 1) := by decide +kernel
theorem dX12_tightness_41 : decode cX12_tightness 41 = .ok (.iconst 2, 1) := by decide +kernel
theorem dX12_tightness_42 : decode cX12_tightness 42 = .ok (.iload_n 3, 1) := by decide +kernel
theorem dX12_tightness_43 : decode cX12_tightness 43 = .ok (.iadd, 1) := by decide +kernel
theorem dX12_tightness_44 : decode cX12_tightness 44 = .ok (.invokevirtual 211, 3) := by decide +kernel
theorem dX12_tightness_47 : decode cX12_tightness 47 = .ok (.iaload, 1) := by decide +kernel
theorem dX12_tightness_48 : decode cX12_tightness 48 = .ok (.invokestatic 214, 3) := by decide +kernel
theorem dX12_tightness_51 : decode cX12_tightness 51 = .ok (.imul, 1) := by decide +kernel
theorem dX12_tightness_52 : decode cX12_tightness 52 = .ok (.istore_n 2, 1) := by decide +kernel
theorem dX12_tightness_53 : decode cX12_tightness 53 = .ok (.iinc 3 1, 3) := by decide +kernel
theorem dX12_tightness_56 : decode cX12_tightness 56 = .ok (.goto (-32), 3) := by decide +kernel
theorem dX12_tightness_59 : decode cX12_tightness 59 = .ok (.aload_n 0, 1) := by decide +kernel
theorem dX12_tightness_60 : decode cX12_tightness 60 = .ok (.iload_n 2, 1) := by decide +kernel
theorem dX12_tightness_61 : decode cX12_tightness 61 = .ok (.ifCond .le 7, 3) := by decide +kernel
theorem dX12_tightness_64 : decode cX12_tightness 64 = .ok (.iconst 1, 1) := by decide +kernel
theorem dX12_tightness_65 : decode cX12_tightness 65 = .ok (.goto 4, 3) := by decide +kernel
theorem dX12_tightness_68 : decode cX12_tightness 68 = .ok (.iconst 0, 1) := by decide +kernel
theorem dX12_tightness_69 : decode cX12_tightness 69 = .ok (.iconst 2, 1) := by decide +kernel
theorem dX12_tightness_70 : decode cX12_tightness 70 = .ok (.invokevirtual 96, 3) := by decide +kernel
theorem dX12_tightness_73 : decode cX12_tightness 73 = .ok (.ifCond .eq 17, 3) := by decide +kernel
theorem dX12_tightness_76 : decode cX12_tightness 76 = .ok (.iload_n 2, 1) := by decide +kernel
theorem dX12_tightness_77 : decode cX12_tightness 77 = .ok (.aload_n 0, 1) := by decide +kernel
theorem dX12_tightness_78 : decode cX12_tightness 78 = .ok (.iload_n 1, 1) := by decide +kernel
theorem dX12_tightness_79 : decode cX12_tightness 79 = .ok (.invokevirtual 310, 3) := by decide +kernel
theorem dX12_tightness_82 : decode cX12_tightness 82 = .ok (.isub, 1) := by decide +kernel
theorem dX12_tightness_83 : decode cX12_tightness 83 = .ok (.i2d, 1) := by decide +kernel
theorem dX12_tightness_84 : decode cX12_tightness 84 = .ok (.iload_n 2, 1) := by decide +kernel
theorem dX12_tightness_85 : decode cX12_tightness 85 = .ok (.i2d, 1) := by decide +kernel
theorem dX12_tightness_86 : decode cX12_tightness 86 = .ok (.ddiv, 1) := by decide +kernel
theorem dX12_tightness_87 : decode cX12_tightness 87 = .ok (.goto 4, 3) := by decide +kernel
theorem dX12_tightness_90 : decode cX12_tightness 90 = .ok (.dconst 0, 1) := by decide +kernel
theorem dX12_tightness_91 : decode cX12_tightness 91 = .ok (.dreturn, 1) := by decide +kernel
set_option maxRecDepth 20000 in
theorem ggX12_fits_X12_setOf : GoodIn wsX12_fits wsX12_setOf := goodIn_r _ [6, 7, 8, 9, 5, 10, 1, 34, 35, 36, 37, 38, 39, 40, 41, 42, 43, 44, 45, 46, 47, 48, 49, 50, 51, 52, 53, 54, 55, 56, 57, 58, 59, 60, 61, 62, 63, 64, 65] (by decide +kernel) (by decide +kernel)
set_option maxRecDepth 20000 in
theorem gX12_fits_X12_setOf : GoodIn wsX12_fits (wsV RX12 266 RX12 yX12_setOf wsX12_setOf) := goodIn_app (goodIn_of _ (by decide +kernel)) ggX12_fits_X12_setOf
set_option maxRecDepth 20000 in
theorem ggX12_fits_X12_fulfils : GoodIn wsX12_fits wsX12_fulfils := goodIn_r _ [14, 15, 7, 8, 9, 5, 10, 1, 16, 17, 18, 19, 20, 21, 22, 23, 24, 25, 26, 27, 28, 29, 30, 31, 32, 33, 34, 35, 36, 37, 38, 39, 40, 41, 42, 43, 44, 45, 46, 47, 48, 49, 50, 51, 52, 53, 54, 55, 56, 57, 58, 59, 60, 61, 62, 63, 64, 65] (by decide +kernel) (by decide +kernel)
set_option maxRecDepth 20000 in
theorem gX12_fits_X12_fulfils : GoodIn wsX12_fits (wsV RX12 307 RX12 yX12_fulfils wsX12_fulfils) := goodIn_app (goodIn_of _ (by decide +kernel)) ggX12_fits_X12_fulfils
theorem dX12_fits_0 : decode cX12_fits 0 = .ok (.iconst 0, 1) := by decide +kernel
theorem dX12_fits_1 : decode cX12_fits 1 = .ok (.istore_n 2, 1) := by decide +kernel
theorem dX12_fits_2 : decode cX12_fits 2 = .ok (.iload_n 2, 1) := by decide +kernel
theorem dX12_fits_3 : decode cX12_fits 3 = .ok (.aload_n 0, 1) := by decide +kernel
theorem dX12_fits_4 : decode cX12_fits 4 = .ok (.getfield 7, 3) := by decide +kernel
theorem dX12_fits_7 : decode cX12_fits 7 = .ok (.iconst 1, 1) := by decide +kernel
theorem dX12_fits_8 : decode cX12_fits 8 = .ok (.iaload, 1) := by decide +kernel
theorem dX12_fits_9 : decode cX12_fits 9 = .ok (.if_icmp .ge 30, 3) := by decide +kernel
theorem dX12_fits_12 : decode cX12_fits 12 = .ok (.aload_n 0, 1) := by decide +kernel
theorem dX12_fits_13 : decode cX12_fits 13 = .ok (.iload_n 2, 1) := by decide +kernel
theorem dX12_fits_14 : decode cX12_fits 14 = .ok (.invokevirtual 266, 3) := by decide +kernel
theorem dX12_fits_17 : decode cX12_fits 17 = .ok (.iload_n 1, 1) := by decide +kernel
theorem dX12_fits_18 : decode cX12_fits 18 = .ok (.ishr, 1) := by decide +kernel
theorem dX12_fits_19 : decode cX12_fits 19 = .ok (.iconst 1, 1) := by decide +kernel
theorem dX12_fits_20 : decode cX12_fits 20 = .ok (.if_icmp .ne 13, 3) := by decide +kernel
theorem dX12_fits_23 : decode cX12_fits 23 = .ok (.aload_n 0, 1) := by decide +kernel
theorem dX12_fits_24 : decode cX12_fits 24 = .ok (.iload_n 2, 1) := by decide +kernel
theorem dX12_fits_25 : decode cX12_fits 25 = .ok (.invokevirtual 307, 3) := by decide +kernel
theorem dX12_fits_28 : decode cX12_fits 28 = .ok (.ifCond .ne 5, 3) := by decide +kernel
theorem dX12_fits_31 : decode cX12_fits 31 = .ok (.iconst 0, 1) := by decide +kernel
theorem dX12_fits_32 : decode cX12_fits 32 = .ok (.ireturn, 1) := by decide +kernel
theorem dX12_fits_33 : decode cX12_fits 33 = .ok (.iinc 2 1, 3) := by decide +kernel
theorem dX12_fits_36 : decode cX12_fits 36 = .ok (.goto (-34), 3) := by decide +kernel
theorem dX12_fits_39 : decode cX12_fits 39 = .ok (.iconst 1, 1) := by decide +kernel
theorem dX12_fits_40 : decode cX12_fits 40 = .ok (.ireturn, 1) := by decide +kernel
theorem dX12_meets_0 : decode cX12_meets 0 = .ok (.iconst 0, 1) := by decide +kernel
theorem dX12_meets_1 : decode cX12_meets 1 = .ok (.istore_n 2, 1) := by decide +kernel
theorem dX12_meets_2 : decode cX12_meets 2 = .ok (.iload_n 2, 1) := by decide +kernel
theorem dX12_meets_3 : decode cX12_meets 3 = .ok (.aload_n 0, 1) := by decide +kernel
theorem dX12_meets_4 : decode cX12_meets 4 = .ok (.getfield 7, 3) := by decide +kernel
theorem dX12_meets_7 : decode cX12_meets 7 = .ok (.iconst 0, 1) := by decide +kernel
theorem dX12_meets_8 : decode cX12_meets 8 = .ok (.iaload, 1) := by decide +kernel
theorem dX12_meets_9 : decode cX12_meets 9 = .ok (.if_icmp .ge 51, 3) := by decide +kernel
theorem dX12_meets_12 : decode cX12_meets 12 = .ok (.aload_n 0, 1) := by decide +kernel
theorem dX12_meets_13 : decode cX12_meets 13 = .ok (.getfield 58, 3) := by decide +kernel
theorem dX12_meets_16 : decode cX12_meets 16 = .ok (.iload_n 2, 1) := by decide +kernel
theorem dX12_meets_17 : decode cX12_meets 17 = .ok (.iload_n 1, 1) := by decide +kernel
theorem dX12_meets_18 : decode cX12_meets 18 = .ok (.ifCond .ne 12, 3) := by decide +kernel
theorem dX12_meets_21 : decode cX12_meets 21 = .ok (.aload_n 0, 1) := by decide +kernel
theorem dX12_meets_22 : decode cX12_meets 22 = .ok (.getfield 55, 3) := by decide +kernel
theorem dX12_meets_25 : decode cX12_meets 25 = .ok (.iload_n 2, 1) := by decide +kernel
theorem dX12_meets_26 : decode cX12_meets 26 = .ok (.iaload, 1) := by decide +kernel
theorem dX12_meets_27 : decode cX12_meets 27 = .ok (.goto 9, 3) := by decide +kernel
theorem dX12_meets_30 : decode cX12_meets 30 = .ok (.aload_n 0, 1) := by decide +kernel
theorem dX12_meets_31 : decode cX12_meets 31 = .ok (.getfield 58, 3) := by decide +kernel
theorem dX12_meets_34 : decode cX12_meets 34 = .ok (.iload_n 2, 1) := by decide +kernel
theorem dX12_meets_35 : decode cX12_meets 35 = .ok (.iaload, 1) := by decide +kernel
theorem dX12_meets_36 : decode cX12_meets 36 = .ok (.iastore, 1) := by decide +kernel
theorem dX12_meets_37 : decode cX12_meets 37 = .ok (.aload_n 0, 1) := by decide +kernel
theorem dX12_meets_38 : decode cX12_meets 38 = .ok (.getfield 61, 3) := by decide +kernel
theorem dX12_meets_41 : decode cX12_meets 41 = .ok (.iload_n 2, 1) := by decide +kernel
theorem dX12_meets_42 : decode cX12_meets 42 = .ok (.dup2, 1) := by decide +kernel
theorem dX12_meets_43 : decode cX12_meets 43 = .ok (.iaload, 1) := by decide +kernel
theorem dX12_meets_44 : decode cX12_meets 44 = .ok (.iconst 1, 1) := by decide +kernel
theorem dX12_meets_45 : decode cX12_meets 45 = .ok (.aload_n 0, 1) := by decide +kernel
theorem dX12_meets_46 : decode cX12_meets 46 = .ok (.getfield 55, 3) := by decide +kernel
theorem dX12_meets_49 : decode cX12_meets 49 = .ok (.iload_n 2, 1) := by decide +kernel
theorem dX12_meets_50 : decode cX12_meets 50 = .ok (.iaload, 1) := by decide +kernel
theorem dX12_meets_51 : decode cX12_meets 51 = .ok (.ishl, 1) := by decide +kernel
theorem dX12_meets_52 : decode cX12_meets 52 = .ok (.ior, 1) := by decide +kernel
theorem dX12_meets_53 : decode cX12_meets 53 = .ok (.iastore, 1) := by decide +kernel
theorem dX12_meets_54 : decode cX12_meets 54 = .ok (.iinc 2 1, 3) := by decide +kernel
theorem dX12_meets_57 : decode cX12_meets 57 = .ok (.goto (-55), 3) := by decide +kernel
theorem dX12_meets_60 : decode cX12_meets 60 = .ok (.return_, 1) := by decide +kernel
set_option maxRecDepth 20000 in
theorem ggX12_solves_X12_nextValue : GoodIn wsX12_solves wsX12_nextValue := goodIn_r _ [8, 9, 10, 11, 7, 12, 49, 50, 51, 52, 53, 54, 55, 56, 57, 58, 59, 60, 61, 62, 63, 64, 65, 66, 67, 68, 69, 70, 71, 72, 73, 74, 75, 76, 77, 78, 79, 80] (by decide +kernel) (by decide +kernel)
set_option maxRecDepth 20000 in
theorem gX12_solves_X12_nextValue : GoodIn wsX12_solves (wsV RX12 304 RX12 yX12_nextValue wsX12_nextValue) := goodIn_app (goodIn_of _ (by decide +kernel)) ggX12_solves_X12_nextValue
set_option maxRecDepth 20000 in
theorem ggX12_solves_X12_fits : GoodIn wsX12_solves wsX12_fits := goodIn_r _ [16, 3, 17, 18, 19, 7, 20, 21, 22, 23, 24, 25, 26, 27, 28, 1, 29, 30, 31, 32, 33, 34, 35, 36, 10, 11, 12, 37, 38, 39, 40, 41, 42, 43, 49, 50, 51, 52, 53, 54, 55, 56, 57, 58, 59, 60, 61, 62, 63, 64, 65, 66, 67, 68, 69, 70, 71, 72, 73, 74, 75, 76, 77, 78, 79, 80] (by decide +kernel) (by decide +kernel)
set_option maxRecDepth 20000 in
theorem gX12_solves_X12_fits : GoodIn wsX12_solves (wsV RX12 313 RX12 yX12_fits wsX12_fits) := goodIn_app (goodIn_of _ (by decide +kernel)) ggX12_solves_X12_fits
set_option maxRecDepth 20000 in
theorem ggX12_solves_X12_meets : GoodIn wsX12_solves wsX12_meets := goodIn_r _ [47, 3, 48, 1, 2, 49, 50, 51, 52, 53, 54, 55, 56, 57, 58, 59, 60, 61, 62, 63, 64, 65, 66, 67, 68, 69, 70, 71, 72, 73, 74, 75, 76, 77, 78, 79, 80] (by decide +kernel) (by decide +kernel)
set_option maxRecDepth 20000 in
theorem gX12_solves_X12_meets : GoodIn wsX12_solves (wsV RX12 316 RX12 yX12_meets wsX12_meets) := goodIn_app (goodIn_of _ (by decide +kernel)) ggX12_solves_X12_meets
theorem dX12_solves_0 : decode cX12_solves 0 = .ok (.iconst 0, 1) := by decide +kernel
theorem dX12_solves_1 : decode cX12_solves 1 = .ok (.istore_n 1, 1) := by decide +kernel
theorem dX12_solves_2 : decode cX12_solves 2 = .ok (.iload_n 1, 1) := by decide +kernel
theorem dX12_solves_3 : decode cX12_solves 3 = .ok (.bipush 7, 2) := by decide +kernel
theorem dX12_solves_5 : decode cX12_solves 5 = .ok (.if_icmp .ge 23, 3) := by decide +kernel
theorem dX12_solves_8 : decode cX12_solves 8 = .ok (.aload_n 0, 1) := by decide +kernel
theorem dX12_solves_9 : decode cX12_solves 9 = .ok (.getfield 55, 3) := by decide +kernel
theorem dX12_solves_12 : decode cX12_solves 12 = .ok (.iload_n 1, 1) := by decide +kernel
theorem dX12_solves_13 : decode cX12_solves 13 = .ok (.iconst (-1), 1) := by decide +kernel
theorem dX12_solves_14 : decode cX12_solves 14 = .ok (.iastore, 1) := by decide +kernel
theorem dX12_solves_15 : decode cX12_solves 15 = .ok (.aload_n 0, 1) := by decide +kernel
theorem dX12_solves_16 : decode cX12_solves 16 = .ok (.getfield 61, 3) := by decide +kernel
theorem dX12_solves_19 : decode cX12_solves 19 = .ok (.iload_n 1, 1) := by decide +kernel
theorem dX12_solves_20 : decode cX12_solves 20 = .ok (.iconst 0, 1) := by decide +kernel
theorem dX12_solves_21 : decode cX12_solves 21 = .ok (.iastore, 1) := by decide +kernel
theorem dX12_solves_22 : decode cX12_solves 22 = .ok (.iinc 1 1, 3) := by decide +kernel
theorem dX12_solves_25 : decode cX12_solves 25 = .ok (.goto (-23), 3) := by decide +kernel
theorem dX12_solves_28 : decode cX12_solves 28 = .ok (.aload_n 0, 1) := by decide +kernel
theorem dX12_solves_29 : decode cX12_solves 29 = .ok (.getfield 7, 3) := by decide +kernel
theorem dX12_solves_32 : decode cX12_solves 32 = .ok (.iconst 0, 1) := by decide +kernel
theorem dX12_solves_33 : decode cX12_solves 33 = .ok (.iaload, 1) := by decide +kernel
theorem dX12_solves_34 : decode cX12_solves 34 = .ok (.ifCond .ne 5, 3) := by decide +kernel
theorem dX12_solves_37 : decode cX12_solves 37 = .ok (.iconst 1, 1) := by decide +kernel
theorem dX12_solves_38 : decode cX12_solves 38 = .ok (.ireturn, 1) := by decide +kernel
theorem dX12_solves_39 : decode cX12_solves 39 = .ok (.iconst 0, 1) := by decide +kernel
theorem dX12_solves_40 : decode cX12_solves 40 = .ok (.istore_n 1, 1) := by decide +kernel
theorem dX12_solves_41 : decode cX12_solves 41 = .ok (.iconst 0, 1) := by decide +kernel
theorem dX12_solves_42 : decode cX12_solves 42 = .ok (.istore_n 2, 1) := by decide +kernel
theorem dX12_solves_43 : decode cX12_solves 43 = .ok (.iload_n 2, 1) := by decide +kernel
theorem dX12_solves_44 : decode cX12_solves 44 = .ok (.ifCond .lt 80, 3) := by decide +kernel
theorem dX12_solves_47 : decode cX12_solves 47 = .ok (.aload_n 0, 1) := by decide +kernel
theorem dX12_solves_48 : decode cX12_solves 48 = .ok (.getfield 55, 3) := by decide +kernel
theorem dX12_solves_51 : decode cX12_solves 51 = .ok (.iload_n 2, 1) := by decide +kernel
theorem dX12_solves_52 : decode cX12_solves 52 = .ok (.aload_n 0, 1) := by decide +kernel
theorem dX12_solves_53 : decode cX12_solves 53 = .ok (.iload_n 2, 1) := by decide +kernel
theorem dX12_solves_54 : decode cX12_solves 54 = .ok (.aload_n 0, 1) := by decide +kernel
theorem dX12_solves_55 : decode cX12_solves 55 = .ok (.getfield 55, 3) := by decide +kernel
theorem dX12_solves_58 : decode cX12_solves 58 = .ok (.iload_n 2, 1) := by decide +kernel
theorem dX12_solves_59 : decode cX12_solves 59 = .ok (.iaload, 1) := by decide +kernel
theorem dX12_solves_60 : decode cX12_solves 60 = .ok (.invokevirtual 304, 3) := by decide +kernel
theorem dX12_solves_63 : decode cX12_solves 63 = .ok (.iastore, 1) := by decide +kernel
theorem dX12_solves_64 : decode cX12_solves 64 = .ok (.aload_n 0, 1) := by decide +kernel
theorem dX12_solves_65 : decode cX12_solves 65 = .ok (.getfield 55, 3) := by decide +kernel
theorem dX12_solves_68 : decode cX12_solves 68 = .ok (.iload_n 2, 1) := by decide +kernel
theorem dX12_solves_69 : decode cX12_solves 69 = .ok (.iaload, 1) := by decide +kernel
theorem dX12_solves_70 : decode cX12_solves 70 = .ok (.iconst (-1), 1) := by decide +kernel
theorem dX12_solves_71 : decode cX12_solves 71 = .ok (.if_icmp .ne 9, 3) := by decide +kernel
theorem dX12_solves_74 : decode cX12_solves 74 = .ok (.iinc 2 (-1), 3) := by decide +kernel
theorem dX12_solves_77 : decode cX12_solves 77 = .ok (.goto (-34), 3) := by decide +kernel
theorem dX12_solves_80 : decode cX12_solves 80 = .ok (.aload_n 0, 1) := by decide +kernel
theorem dX12_solves_81 : decode cX12_solves 81 = .ok (.iload_n 2, 1) := by decide +kernel
theorem dX12_solves_82 : decode cX12_solves 82 = .ok (.invokevirtual 313, 3) := by decide +kernel
theorem dX12_solves_85 : decode cX12_solves 85 = .ok (.ifCond .eq (-42), 3) := by decide +kernel
theorem dX12_solves_88 : decode cX12_solves 88 = .ok (.iload_n 2, 1) := by decide +kernel
theorem dX12_solves_89 : decode cX12_solves 89 = .ok (.iconst 1, 1) := by decide +kernel
theorem dX12_solves_90 : decode cX12_solves 90 = .ok (.iadd, 1) := by decide +kernel
theorem dX12_solves_91 : decode cX12_solves 91 = .ok (.aload_n 0, 1) := by decide +kernel
theorem dX12_solves_92 : decode cX12_solves 92 = .ok (.getfield 7, 3) := by decide +kernel
theorem dX12_solves_95 : decode cX12_solves 95 = .ok (.iconst 0, 1) := by decide +kernel
theorem dX12_solves_96 : decode cX12_solves 96 = .ok (.iaload, 1) := by decide +kernel
theorem dX12_solves_97 : decode cX12_solves 97 = .ok (.if_icmp .ne 14, 3) := by decide +kernel
theorem dX12_solves_100 : decode cX12_solves 100 = .ok (.aload_n 0, 1) := by decide +kernel
theorem dX12_solves_101 : decode cX12_solves 101 = .ok (.iload_n 1, 1) := by decide +kernel
theorem dX12_solves_102 : decode cX12_solves 102 = .ok (.invokevirtual 316, 3) := by decide +kernel
theorem dX12_solves_105 : decode cX12_solves 105 = .ok (.iinc 1 1, 3) := by decide +kernel
theorem dX12_solves_108 : decode cX12_solves 108 = .ok (.goto (-65), 3) := by decide +kernel
theorem dX12_solves_111 : decode cX12_solves 111 = .ok (.iinc 2 1, 3) := by decide +kernel
theorem dX12_solves_114 : decode cX12_solves 114 = .ok (.aload_n 0, 1) := by decide +kernel
theorem dX12_solves_115 : decode cX12_solves 115 = .ok (.getfield 55, 3) := by decide +kernel
theorem dX12_solves_118 : decode cX12_solves 118 = .ok (.iload_n 2, 1) := by decide +kernel
theorem dX12_solves_119 : decode cX12_solves 119 = .ok (.iconst (-1), 1) := by decide +kernel
theorem dX12_solves_120 : decode cX12_solves 120 = .ok (.iastore, 1) := by decide +kernel
theorem dX12_solves_121 : decode cX12_solves 121 = .ok (.goto (-78), 3) := by decide +kernel
theorem dX12_solves_124 : decode cX12_solves 124 = .ok (.iload_n 1, 1) := by decide +kernel
theorem dX12_solves_125 : decode cX12_solves 125 = .ok (.ireturn, 1) := by decide +kernel
set_option maxRecDepth 20000 in
theorem ggX12_solutions_X12_solves : GoodIn wsX12_solutions wsX12_solves := goodIn_r _ [6, 7, 8, 9, 10, 11, 12, 5, 13, 14, 15, 16, 17, 18, 19, 20, 21, 22, 23, 24, 25, 26, 27, 28, 29, 30, 31, 32, 33, 34, 35, 36, 37, 38, 39, 40, 41, 42, 43, 44, 45, 46, 47, 48, 49, 50, 51, 52, 53, 54, 55, 56, 57, 58, 59, 60, 61, 62, 63, 64, 65, 66, 67, 68, 69, 70, 71, 72, 73, 74, 75, 76, 77, 78, 79, 80, 81, 82, 83, 84, 85] (by decide +kernel) (by decide +kernel)
set_option maxRecDepth 20000 in
theorem gX12_solutions_X12_solves : GoodIn wsX12_solutions (wsV RX12 319 RX12 yX12_solves wsX12_solves) := goodIn_app (goodIn_of _ (by decide +kernel)) ggX12_solutions_X12_solves
theorem dX12_solutions_0 : decode cX12_solutions 0 = .ok (.aload_n 0, 1) := by decide +kernel
theorem dX12_solutions_1 : decode cX12_solutions 1 = .ok (.iconst 0, 1) := by decide +kernel
theorem dX12_solutions_2 : decode cX12_solutions 2 = .ok (.putfield 70, 3) := by decide +kernel
theorem dX12_solutions_5 : decode cX12_solutions 5 = .ok (.aload_n 0, 1) := by decide +kernel
theorem dX12_solutions_6 : decode cX12_solutions 6 = .ok (.invokevirtual 319, 3) := by decide +kernel
theorem dX12_solutions_9 : decode cX12_solutions 9 = .ok (.ireturn, 1) := by decide +kernel
set_option maxRecDepth 20000 in
theorem ggX12_first_X12_isVariable : GoodIn wsX12_first wsX12_isVariable := goodIn_r _ [7, 8, 9, 10, 6, 11, 62, 63, 64, 65, 66, 67, 68, 69, 70, 71, 72, 73, 74, 75, 76, 77, 78, 79, 80, 81, 82, 83, 84, 85, 86, 87, 88, 89, 90, 91, 92, 93] (by decide +kernel) (by decide +kernel)
set_option maxRecDepth 20000 in
theorem gX12_first_X12_isVariable : GoodIn wsX12_first (wsV RX12 257 RX12 yX12_isVariable wsX12_isVariable) := goodIn_app (goodIn_of _ (by decide +kernel)) ggX12_first_X12_isVariable
set_option maxRecDepth 20000 in
theorem ggX12_first_X12_may : GoodIn wsX12_first wsX12_may := goodIn_r _ [15, 1, 62, 63, 64, 65, 66, 67, 68, 69, 70, 71, 72, 73, 74, 75, 76, 77, 78, 79, 80, 81, 82, 83, 84, 85, 86, 87, 88, 89, 90, 91, 92, 93] (by decide +kernel) (by decide +kernel)
set_option maxRecDepth 20000 in
theorem gX12_first_X12_may : GoodIn wsX12_first (wsV RX12 96 RX12 yX12_may wsX12_may) := goodIn_app (goodIn_of _ (by decide +kernel)) ggX12_first_X12_may
set_option maxRecDepth 20000 in
theorem ggX12_first_X12_solves : GoodIn wsX12_first wsX12_solves := goodIn_r _ [19, 20, 21, 8, 22, 23, 24, 6, 25, 26, 27, 28, 29, 30, 31, 32, 33, 34, 35, 36, 37, 38, 39, 40, 41, 42, 43, 44, 45, 46, 47, 48, 49, 50, 51, 52, 53, 9, 10, 11, 54, 55, 56, 57, 58, 59, 60, 61, 2, 62, 63, 64, 65, 66, 67, 68, 69, 70, 71, 72, 73, 74, 75, 76, 77, 78, 79, 80, 81, 82, 83, 84, 85, 86, 87, 88, 89, 90, 91, 92, 93] (by decide +kernel) (by decide +kernel)
set_option maxRecDepth 20000 in
theorem gX12_first_X12_solves : GoodIn wsX12_first (wsV RX12 319 RX12 yX12_solves wsX12_solves) := goodIn_app (goodIn_of _ (by decide +kernel)) ggX12_first_X12_solves
theorem dX12_first_0 : decode cX12_first 0 = .ok (.aload_n 0, 1) := by decide +kernel
theorem dX12_first_1 : decode cX12_first 1 = .ok (.iconst 0, 1) := by decide +kernel
theorem dX12_first_2 : decode cX12_first 2 = .ok (.putfield 70, 3) := by decide +kernel
theorem dX12_first_5 : decode cX12_first 5 = .ok (.aload_n 0, 1) := by decide +kernel
theorem dX12_first_6 : decode cX12_first 6 = .ok (.aload_n 0, 1) := by decide +kernel
theorem dX12_first_7 : decode cX12_first 7 = .ok (.iload_n 1, 1) := by decide +kernel
theorem dX12_first_8 : decode cX12_first 8 = .ok (.invokevirtual 257, 3) := by decide +kernel
theorem dX12_first_11 : decode cX12_first 11 = .ok (.iconst 1, 1) := by decide +kernel
theorem dX12_first_12 : decode cX12_first 12 = .ok (.invokevirtual 96, 3) := by decide +kernel
theorem dX12_first_15 : decode cX12_first 15 = .ok (.ifCond .eq 32, 3) := by decide +kernel
theorem dX12_first_18 : decode cX12_first 18 = .ok (.aload_n 0, 1) := by decide +kernel
theorem dX12_first_19 : decode cX12_first 19 = .ok (.aload_n 0, 1) := by decide +kernel
theorem dX12_first_20 : decode cX12_first 20 = .ok (.invokevirtual 319, 3) := by decide +kernel
theorem dX12_first_23 : decode cX12_first 23 = .ok (.ifCond .le 7, 3) := by decide +kernel
theorem dX12_first_26 : decode cX12_first 26 = .ok (.iconst 1, 1) := by decide +kernel
theorem dX12_first_27 : decode cX12_first 27 = .ok (.goto 4, 3) := by decide +kernel
theorem dX12_first_30 : decode cX12_first 30 = .ok (.iconst 0, 1) := by decide +kernel
theorem dX12_first_31 : decode cX12_first 31 = .ok (.iconst 2, 1) := by decide +kernel
theorem dX12_first_32 : decode cX12_first 32 = .ok (.invokevirtual 96, 3) := by decide +kernel
theorem dX12_first_35 : decode cX12_first 35 = .ok (.ifCond .eq 12, 3) := by decide +kernel
theorem dX12_first_38 : decode cX12_first 38 = .ok (.aload_n 0, 1) := by decide +kernel
theorem dX12_first_39 : decode cX12_first 39 = .ok (.getfield 58, 3) := by decide +kernel
theorem dX12_first_42 : decode cX12_first 42 = .ok (.iload_n 1, 1) := by decide +kernel
theorem dX12_first_43 : decode cX12_first 43 = .ok (.iaload, 1) := by decide +kernel
theorem dX12_first_44 : decode cX12_first 44 = .ok (.goto 4, 3) := by decide +kernel
theorem dX12_first_47 : decode cX12_first 47 = .ok (.iconst 0, 1) := by decide +kernel
theorem dX12_first_48 : decode cX12_first 48 = .ok (.ireturn, 1) := by decide +kernel
set_option maxRecDepth 20000 in
theorem ggX12_possible_X12_isVariable : GoodIn wsX12_possible wsX12_isVariable := goodIn_r _ [7, 8, 9, 10, 6, 11, 62, 63, 64, 65, 66, 67, 68, 69, 70, 71, 72, 73, 74, 75, 76, 77, 78, 79, 80, 81, 82, 83, 84, 85, 86, 87, 88, 89, 90, 91, 92, 93] (by decide +kernel) (by decide +kernel)
set_option maxRecDepth 20000 in
theorem gX12_possible_X12_isVariable : GoodIn wsX12_possible (wsV RX12 257 RX12 yX12_isVariable wsX12_isVariable) := goodIn_app (goodIn_of _ (by decide +kernel)) ggX12_possible_X12_isVariable
set_option maxRecDepth 20000 in
theorem ggX12_possible_X12_may : GoodIn wsX12_possible wsX12_may := goodIn_r _ [15, 1, 62, 63, 64, 65, 66, 67, 68, 69, 70, 71, 72, 73, 74, 75, 76, 77, 78, 79, 80, 81, 82, 83, 84, 85, 86, 87, 88, 89, 90, 91, 92, 93] (by decide +kernel) (by decide +kernel)
set_option maxRecDepth 20000 in
theorem gX12_possible_X12_may : GoodIn wsX12_possible (wsV RX12 96 RX12 yX12_may wsX12_may) := goodIn_app (goodIn_of _ (by decide +kernel)) ggX12_possible_X12_may
set_option maxRecDepth 20000 in
theorem ggX12_possible_X12_solves : GoodIn wsX12_possible wsX12_solves := goodIn_r _ [19, 20, 2, 8, 21, 22, 23, 6, 24, 25, 26, 27, 28, 29, 30, 31, 32, 33, 34, 35, 36, 37, 38, 39, 40, 41, 42, 43, 44, 45, 46, 47, 48, 49, 50, 51, 52, 9, 10, 11, 53, 54, 55, 56, 57, 58, 59, 60, 61, 62, 63, 64, 65, 66, 67, 68, 69, 70, 71, 72, 73, 74, 75, 76, 77, 78, 79, 80, 81, 82, 83, 84, 85, 86, 87, 88, 89, 90, 91, 92, 93] (by decide +kernel) (by decide +kernel)
set_option maxRecDepth 20000 in
theorem gX12_possible_X12_solves : GoodIn wsX12_possible (wsV RX12 319 RX12 yX12_solves wsX12_solves) := goodIn_app (goodIn_of _ (by decide +kernel)) ggX12_possible_X12_solves
theorem dX12_possible_0 : decode cX12_possible 0 = .ok (.aload_n 0, 1) := by decide +kernel
theorem dX12_possible_1 : decode cX12_possible 1 = .ok (.iconst 0, 1) := by decide +kernel
theorem dX12_possible_2 : decode cX12_possible 2 = .ok (.putfield 70, 3) := by decide +kernel
theorem dX12_possible_5 : decode cX12_possible 5 = .ok (.aload_n 0, 1) := by decide +kernel
theorem dX12_possible_6 : decode cX12_possible 6 = .ok (.aload_n 0, 1) := by decide +kernel
theorem dX12_possible_7 : decode cX12_possible 7 = .ok (.iload_n 1, 1) := by decide +kernel
theorem dX12_possible_8 : decode cX12_possible 8 = .ok (.invokevirtual 257, 3) := by decide +kernel
theorem dX12_possible_11 : decode cX12_possible 11 = .ok (.iconst 1, 1) := by decide +kernel
theorem dX12_possible_12 : decode cX12_possible 12 = .ok (.invokevirtual 96, 3) := by decide +kernel
theorem dX12_possible_15 : decode cX12_possible 15 = .ok (.ifCond .ne 5, 3) := by decide +kernel
theorem dX12_possible_18 : decode cX12_possible 18 = .ok (.iconst 0, 1) := by decide +kernel
theorem dX12_possible_19 : decode cX12_possible 19 = .ok (.ireturn, 1) := by decide +kernel
theorem dX12_possible_20 : decode cX12_possible 20 = .ok (.aload_n 0, 1) := by decide +kernel
theorem dX12_possible_21 : decode cX12_possible 21 = .ok (.invokevirtual 319, 3) := by decide +kernel
theorem dX12_possible_24 : decode cX12_possible 24 = .ok (.ifCond .le 12, 3) := by decide +kernel
theorem dX12_possible_27 : decode cX12_possible 27 = .ok (.aload_n 0, 1) := by decide +kernel
theorem dX12_possible_28 : decode cX12_possible 28 = .ok (.getfield 61, 3) := by decide +kernel
theorem dX12_possible_31 : decode cX12_possible 31 = .ok (.iload_n 1, 1) := by decide +kernel
theorem dX12_possible_32 : decode cX12_possible 32 = .ok (.iaload, 1) := by decide +kernel
theorem dX12_possible_33 : decode cX12_possible 33 = .ok (.goto 4, 3) := by decide +kernel
theorem dX12_possible_36 : decode cX12_possible 36 = .ok (.iconst 0, 1) := by decide +kernel
theorem dX12_possible_37 : decode cX12_possible 37 = .ok (.ireturn, 1) := by decide +kernel
set_option maxRecDepth 20000 in
theorem ggX12_overlooked_X12_solves : GoodIn wsX12_overlooked wsX12_solves := goodIn_r _ [9, 10, 4, 2, 11, 12, 13, 8, 14, 3, 15, 16, 17, 18, 19, 20, 21, 22, 23, 24, 25, 26, 27, 28, 29, 30, 31, 32, 33, 34, 35, 36, 37, 38, 39, 40, 41, 42, 43, 44, 45, 46, 47, 48, 49, 50, 51, 52, 53, 57, 58, 59, 60, 61, 62, 63, 64, 65, 66, 67, 68, 69, 70, 71, 72, 73, 74, 75, 76, 77, 78, 79, 80, 81, 82, 83, 84, 85, 86, 87, 88] (by decide +kernel) (by decide +kernel)
set_option maxRecDepth 20000 in
theorem gX12_overlooked_X12_solves : GoodIn wsX12_overlooked (wsV RX12 319 RX12 yX12_solves wsX12_solves) := goodIn_app (goodIn_of _ (by decide +kernel)) ggX12_overlooked_X12_solves
set_option maxRecDepth 20000 in
theorem ggX12_overlooked_X12_sizeOf : GoodIn wsX12_overlooked wsX12_sizeOf := goodIn_r _ [56] (by decide +kernel) (by decide +kernel)
set_option maxRecDepth 20000 in
theorem gX12_overlooked_X12_sizeOf : GoodIn wsX12_overlooked (va_wsS RX12 214 yX12_sizeOf wsX12_sizeOf) := goodIn_app (goodIn_of _ (by decide +kernel)) ggX12_overlooked_X12_sizeOf
theorem dX12_overlooked_0 : decode cX12_overlooked 0 = .ok (.aload_n 0, 1) := by decide +kernel
theorem dX12_overlooked_1 : decode cX12_overlooked 1 = .ok (.iconst 0, 1) := by decide +kernel
theorem dX12_overlooked_2 : decode cX12_overlooked 2 = .ok (.putfield 70, 3) := by decide +kernel
theorem dX12_overlooked_5 : decode cX12_overlooked 5 = .ok (.aload_n 0, 1) := by decide +kernel
theorem dX12_overlooked_6 : decode cX12_overlooked 6 = .ok (.invokevirtual 319, 3) := by decide +kernel
theorem dX12_overlooked_9 : decode cX12_overlooked 9 = .ok (.istore_n 1, 1) := by decide +kernel
theorem dX12_overlooked_10 : decode cX12_overlooked 10 = .ok (.iconst 0, 1) := by decide +kernel
theorem dX12_overlooked_11 : decode cX12_overlooked 11 = .ok (.istore_n 2, 1) := by decide +kernel
theorem dX12_overlooked_12 : decode cX12_overlooked 12 = .ok (.iconst 0, 1) := by decide +kernel
theorem dX12_overlooked_13 : decode cX12_overlooked 13 = .ok (.istore_n 3, 1) := by decide +kernel
theorem dX12_overlooked_14 : decode cX12_overlooked 14 = .ok (.iload_n 3, 1) := by decide +kernel
theorem dX12_overlooked_15 : decode cX12_overlooked 15 = .ok (.aload_n 0, 1) := by decide +kernel
theorem dX12_overlooked_16 : decode cX12_overlooked 16 = .ok (.getfield 7, 3) := by decide +kernel
theorem dX12_overlooked_19 : decode cX12_overlooked 19 = .ok (.iconst 0, 1) := by decide +kernel
theorem dX12_overlooked_20 : decode cX12_overlooked 20 = .ok (.iaload, 1) := by decide +kernel
theorem dX12_overlooked_21 : decode cX12_overlooked 21 = .ok (.if_icmp .ge 38, 3) := by decide +kernel
theorem dX12_overlooked_24 : decode cX12_overlooked 24 = .ok (.iload_n 2, 1) := by decide +kernel
theorem dX12_overlooked_25 : decode cX12_overlooked 25 = .ok (.aload_n 0, 1) := by decide +kernel
theorem dX12_overlooked_26 : decode cX12_overlooked 26 = .ok (.getfield 16, 3) := by decide +kernel
theorem dX12_overlooked_29 : decode cX12_overlooked 29 = .ok (.iload_n 3, 1) := by decide +kernel
theorem dX12_overlooked_30 : decode cX12_overlooked 30 = .ok (.iaload, 1) := by decide +kernel
theorem dX12_overlooked_31 : decode cX12_overlooked 31 = .ok (.iload_n 1, 1) := by decide +kernel
theorem dX12_overlooked_32 : decode cX12_overlooked 32 = .ok (.ifCond .le 12, 3) := by decide +kernel
theorem dX12_overlooked_35 : decode cX12_overlooked 35 = .ok (.aload_n 0, 1) := by decide +kernel
theorem dX12_overlooked_36 : decode cX12_overlooked 36 = .ok (.getfield 61, 3) := by decide +kernel
theorem dX12_overlooked_39 : decode cX12_overlooked 39 = .ok (.iload_n 3, 1) := by decide +kernel
theorem dX12_overlooked_40 : decode cX12_overlooked 40 = .ok (.iaload, 1) := by decide +kernel
theorem dX12_overlooked_41 : decode cX12_overlooked 41 = .ok (.goto 4, 3) := by decide +kernel
theorem dX12_overlooked_44 : decode cX12_overlooked 44 = .ok (.iconst 0, 1) := by decide +kernel
theorem dX12_overlooked_45 : decode cX12_overlooked 45 = .ok (.iconst (-1), 1) := by decide +kernel
theorem dX12_overlooked_46 : decode cX12_overlooked 46 = .ok (.ixor, 1) := by decide +kernel
theorem dX12_overlooked_47 : decode cX12_overlooked 47 = .ok (.iand, 1) := by decide +kernel
theorem dX12_overlooked_48 : decode cX12_overlooked 48 = .ok (.invokestatic 214, 3) := by decide +kernel
theorem dX12_overlooked_51 : decode cX12_overlooked 51 = .ok (.iadd, 1) := by decide +kernel
theorem dX12_overlooked_52 : decode cX12_overlooked 52 = .ok (.istore_n 2, 1) := by decide +kernel
theorem dX12_overlooked_53 : decode cX12_overlooked 53 = .ok (.iinc 3 1, 3) := by decide +kernel
theorem dX12_overlooked_56 : decode cX12_overlooked 56 = .ok (.goto (-42), 3) := by decide +kernel
theorem dX12_overlooked_59 : decode cX12_overlooked 59 = .ok (.iload_n 2, 1) := by decide +kernel
theorem dX12_overlooked_60 : decode cX12_overlooked 60 = .ok (.ireturn, 1) := by decide +kernel
set_option maxRecDepth 20000 in
theorem ggX12_isValue_X12_isIn : GoodIn wsX12_isValue wsX12_isIn := goodIn_r _ [5] (by decide +kernel) (by decide +kernel)
set_option maxRecDepth 20000 in
theorem gX12_isValue_X12_isIn : GoodIn wsX12_isValue (va_wsS RX12 100 yX12_isIn wsX12_isIn) := goodIn_app (goodIn_of _ (by decide +kernel)) ggX12_isValue_X12_isIn
set_option maxRecDepth 20000 in
theorem ggX12_isValue_X12_has : GoodIn wsX12_isValue wsX12_has := goodIn_r _ [8] (by decide +kernel) (by decide +kernel)
set_option maxRecDepth 20000 in
theorem gX12_isValue_X12_has : GoodIn wsX12_isValue (va_wsS RX12 178 yX12_has wsX12_has) := goodIn_app (goodIn_of _ (by decide +kernel)) ggX12_isValue_X12_has
theorem dX12_isValue_0 : decode cX12_isValue 0 = .ok (.iload_n 2, 1) := by decide +kernel
theorem dX12_isValue_1 : decode cX12_isValue 1 = .ok (.iconst 0, 1) := by decide +kernel
theorem dX12_isValue_2 : decode cX12_isValue 2 = .ok (.iconst 4, 1) := by decide +kernel
theorem dX12_isValue_3 : decode cX12_isValue 3 = .ok (.invokestatic 100, 3) := by decide +kernel
theorem dX12_isValue_6 : decode cX12_isValue 6 = .ok (.ifCond .eq 20, 3) := by decide +kernel
theorem dX12_isValue_9 : decode cX12_isValue 9 = .ok (.aload_n 0, 1) := by decide +kernel
theorem dX12_isValue_10 : decode cX12_isValue 10 = .ok (.getfield 16, 3) := by decide +kernel
theorem dX12_isValue_13 : decode cX12_isValue 13 = .ok (.iload_n 1, 1) := by decide +kernel
theorem dX12_isValue_14 : decode cX12_isValue 14 = .ok (.iaload, 1) := by decide +kernel
theorem dX12_isValue_15 : decode cX12_isValue 15 = .ok (.iload_n 2, 1) := by decide +kernel
theorem dX12_isValue_16 : decode cX12_isValue 16 = .ok (.invokestatic 178, 3) := by decide +kernel
