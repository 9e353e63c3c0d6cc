theorem dX12_isValue_19 : decode cX12_isValue 19 = .ok (.ifCond .eq 7, 3) := by decide +kernel
theorem dX12_isValue_22 : decode cX12_isValue 22 = .ok (.iconst 1, 1) := by decide +kernel
theorem dX12_isValue_23 : decode cX12_isValue 23 = .ok (.goto 4, 3) := by decide +kernel
theorem dX12_isValue_26 : decode cX12_isValue 26 = .ok (.iconst 0, 1) := by decide +kernel
theorem dX12_isValue_27 : decode cX12_isValue 27 = .ok (.ireturn, 1) := by decide +kernel
set_option maxRecDepth 20000 in
theorem ggX12_forbid_X12_isVariable : GoodIn wsX12_forbid wsX12_isVariable := goodIn_r _ [10, 11, 12, 13, 9, 14, 92, 93, 94, 95, 96, 97, 98, 99, 100, 101, 102, 103, 104, 105, 106, 107, 108, 109, 110, 111, 112, 113, 114, 115, 116, 117, 118, 119, 120, 121, 122, 123] (by decide +kernel) (by decide +kernel)
set_option maxRecDepth 20000 in
theorem gX12_forbid_X12_isVariable : GoodIn wsX12_forbid (wsV RX12 257 RX12 yX12_isVariable wsX12_isVariable) := goodIn_app (goodIn_of _ (by decide +kernel)) ggX12_forbid_X12_isVariable
set_option maxRecDepth 20000 in
theorem ggX12_forbid_X12_may : GoodIn wsX12_forbid wsX12_may := goodIn_r _ [18, 1, 92, 93, 94, 95, 96, 97, 98, 99, 100, 101, 102, 103, 104, 105, 106, 107, 108, 109, 110, 111, 112, 113, 114, 115, 116, 117, 118, 119, 120, 121, 122, 123] (by decide +kernel) (by decide +kernel)
set_option maxRecDepth 20000 in
theorem gX12_forbid_X12_may : GoodIn wsX12_forbid (wsV RX12 96 RX12 yX12_may wsX12_may) := goodIn_app (goodIn_of _ (by decide +kernel)) ggX12_forbid_X12_may
set_option maxRecDepth 20000 in
theorem ggX12_forbid_X12_isValue : GoodIn wsX12_forbid wsX12_isValue := goodIn_r _ [22, 5, 12, 13, 9, 14, 23, 24, 25, 92, 93, 94, 95, 96, 97, 98, 99, 100, 101, 102, 103, 104, 105, 106, 107, 108, 109, 110, 111, 112, 113, 114, 115, 116, 117, 118, 119, 120, 121, 122, 123] (by decide +kernel) (by decide +kernel)
set_option maxRecDepth 20000 in
theorem gX12_forbid_X12_isValue : GoodIn wsX12_forbid (wsV RX12 322 RX12 yX12_isValue wsX12_isValue) := goodIn_app (goodIn_of _ (by decide +kernel)) ggX12_forbid_X12_isValue
set_option maxRecDepth 20000 in
theorem ggX12_forbid_X12_lays : GoodIn wsX12_forbid wsX12_lays := goodIn_r _ [29, 4, 30, 2, 92, 93, 94, 95, 96, 97, 98, 99, 100, 101, 102, 103, 104, 105, 106, 107, 108, 109, 110, 111, 112, 113, 114, 115, 116, 117, 118, 119, 120, 121, 122, 123] (by decide +kernel) (by decide +kernel)
set_option maxRecDepth 20000 in
theorem gX12_forbid_X12_lays : GoodIn wsX12_forbid (wsV RX12 246 RX12 yX12_lays wsX12_lays) := goodIn_app (goodIn_of _ (by decide +kernel)) ggX12_forbid_X12_lays
set_option maxRecDepth 20000 in
theorem ggX12_forbid_X12_sweeps : GoodIn wsX12_forbid wsX12_sweeps := goodIn_r _ [34, 11, 35, 36, 37, 38, 39, 9, 40, 41, 42, 43, 44, 45, 46, 47, 48, 49, 50, 51, 52, 53, 54, 55, 23, 24, 25, 56, 57, 58, 59, 60, 61, 62, 63, 64, 65, 66, 67, 68, 69, 70, 71, 72, 73, 74, 75, 76, 77, 78, 79, 12, 13, 14, 80, 81, 82, 83, 84, 85, 86, 87, 26, 27, 28, 29, 4, 30, 2, 92, 93, 94, 95, 96, 97, 98, 99, 100, 101, 102, 103, 104, 105, 106, 107, 108, 109, 110, 111, 112, 113, 114, 115, 116, 117, 118, 119, 120, 121, 122, 123] (by decide +kernel) (by decide +kernel)
set_option maxRecDepth 20000 in
theorem gX12_forbid_X12_sweeps : GoodIn wsX12_forbid (wsV RX12 89 RX12 yX12_sweeps wsX12_sweeps) := goodIn_app (goodIn_of _ (by decide +kernel)) ggX12_forbid_X12_sweeps
set_option maxRecDepth 20000 in
theorem ggX12_forbid_X12_factsFrom : GoodIn wsX12_forbid wsX12_factsFrom := goodIn_r _ [91, 4, 92, 93, 94, 95, 96, 97, 98, 99, 100, 101, 102, 103, 104, 105, 106, 107, 108, 109, 110, 111, 112, 113, 114, 115, 116, 117, 118, 119, 120, 121, 122, 123] (by decide +kernel) (by decide +kernel)
set_option maxRecDepth 20000 in
theorem gX12_forbid_X12_factsFrom : GoodIn wsX12_forbid (wsV RX12 325 RX12 yX12_factsFrom wsX12_factsFrom) := goodIn_app (goodIn_of _ (by decide +kernel)) ggX12_forbid_X12_factsFrom
theorem dX12_forbid_0 : decode cX12_forbid 0 = .ok (.aload_n 0, 1) := by decide +kernel
theorem dX12_forbid_1 : decode cX12_forbid 1 = .ok (.iconst 0, 1) := by decide +kernel
theorem dX12_forbid_2 : decode cX12_forbid 2 = .ok (.putfield 70, 3) := by decide +kernel
theorem dX12_forbid_5 : decode cX12_forbid 5 = .ok (.aload_n 0, 1) := by decide +kernel
theorem dX12_forbid_6 : decode cX12_forbid 6 = .ok (.aload_n 0, 1) := by decide +kernel
theorem dX12_forbid_7 : decode cX12_forbid 7 = .ok (.iload_n 1, 1) := by decide +kernel
theorem dX12_forbid_8 : decode cX12_forbid 8 = .ok (.invokevirtual 257, 3) := by decide +kernel
theorem dX12_forbid_11 : decode cX12_forbid 11 = .ok (.iconst 1, 1) := by decide +kernel
theorem dX12_forbid_12 : decode cX12_forbid 12 = .ok (.invokevirtual 96, 3) := by decide +kernel
theorem dX12_forbid_15 : decode cX12_forbid 15 = .ok (.ifCond .eq 44, 3) := by decide +kernel
theorem dX12_forbid_18 : decode cX12_forbid 18 = .ok (.aload_n 0, 1) := by decide +kernel
theorem dX12_forbid_19 : decode cX12_forbid 19 = .ok (.aload_n 0, 1) := by decide +kernel
theorem dX12_forbid_20 : decode cX12_forbid 20 = .ok (.iload_n 1, 1) := by decide +kernel
theorem dX12_forbid_21 : decode cX12_forbid 21 = .ok (.iload_n 2, 1) := by decide +kernel
theorem dX12_forbid_22 : decode cX12_forbid 22 = .ok (.invokevirtual 322, 3) := by decide +kernel
theorem dX12_forbid_25 : decode cX12_forbid 25 = .ok (.iconst 2, 1) := by decide +kernel
theorem dX12_forbid_26 : decode cX12_forbid 26 = .ok (.invokevirtual 96, 3) := by decide +kernel
theorem dX12_forbid_29 : decode cX12_forbid 29 = .ok (.ifCond .eq 30, 3) := by decide +kernel
theorem dX12_forbid_32 : decode cX12_forbid 32 = .ok (.aload_n 0, 1) := by decide +kernel
theorem dX12_forbid_33 : decode cX12_forbid 33 = .ok (.aload_n 0, 1) := by decide +kernel
theorem dX12_forbid_34 : decode cX12_forbid 34 = .ok (.getfield 76, 3) := by decide +kernel
theorem dX12_forbid_37 : decode cX12_forbid 37 = .ok (.ifCond .ne 14, 3) := by decide +kernel
theorem dX12_forbid_40 : decode cX12_forbid 40 = .ok (.aload_n 0, 1) := by decide +kernel
theorem dX12_forbid_41 : decode cX12_forbid 41 = .ok (.getfield 85, 3) := by decide +kernel
theorem dX12_forbid_44 : decode cX12_forbid 44 = .ok (.ifCond .ne 7, 3) := by decide +kernel
theorem dX12_forbid_47 : decode cX12_forbid 47 = .ok (.iconst 1, 1) := by decide +kernel
theorem dX12_forbid_48 : decode cX12_forbid 48 = .ok (.goto 4, 3) := by decide +kernel
theorem dX12_forbid_51 : decode cX12_forbid 51 = .ok (.iconst 0, 1) := by decide +kernel
theorem dX12_forbid_52 : decode cX12_forbid 52 = .ok (.iconst 3, 1) := by decide +kernel
theorem dX12_forbid_53 : decode cX12_forbid 53 = .ok (.invokevirtual 96, 3) := by decide +kernel
theorem dX12_forbid_56 : decode cX12_forbid 56 = .ok (.ifCond .ne 5, 3) := by decide +kernel
theorem dX12_forbid_59 : decode cX12_forbid 59 = .ok (.iconst 0, 1) := by decide +kernel
theorem dX12_forbid_60 : decode cX12_forbid 60 = .ok (.ireturn, 1) := by decide +kernel
theorem dX12_forbid_61 : decode cX12_forbid 61 = .ok (.aload_n 0, 1) := by decide +kernel
theorem dX12_forbid_62 : decode cX12_forbid 62 = .ok (.getfield 73, 3) := by decide +kernel
theorem dX12_forbid_65 : decode cX12_forbid 65 = .ok (.istore_n 3, 1) := by decide +kernel
theorem dX12_forbid_66 : decode cX12_forbid 66 = .ok (.aload_n 0, 1) := by decide +kernel
theorem dX12_forbid_67 : decode cX12_forbid 67 = .ok (.getfield 16, 3) := by decide +kernel
theorem dX12_forbid_70 : decode cX12_forbid 70 = .ok (.iload_n 1, 1) := by decide +kernel
theorem dX12_forbid_71 : decode cX12_forbid 71 = .ok (.dup2, 1) := by decide +kernel
theorem dX12_forbid_72 : decode cX12_forbid 72 = .ok (.iaload, 1) := by decide +kernel
theorem dX12_forbid_73 : decode cX12_forbid 73 = .ok (.iconst 1, 1) := by decide +kernel
theorem dX12_forbid_74 : decode cX12_forbid 74 = .ok (.iload_n 2, 1) := by decide +kernel
theorem dX12_forbid_75 : decode cX12_forbid 75 = .ok (.ishl, 1) := by decide +kernel
theorem dX12_forbid_76 : decode cX12_forbid 76 = .ok (.iconst (-1), 1) := by decide +kernel
theorem dX12_forbid_77 : decode cX12_forbid 77 = .ok (.ixor, 1) := by decide +kernel
theorem dX12_forbid_78 : decode cX12_forbid 78 = .ok (.iand, 1) := by decide +kernel
theorem dX12_forbid_79 : decode cX12_forbid 79 = .ok (.iastore, 1) := by decide +kernel
theorem dX12_forbid_80 : decode cX12_forbid 80 = .ok (.aload_n 0, 1) := by decide +kernel
theorem dX12_forbid_81 : decode cX12_forbid 81 = .ok (.iload_n 1, 1) := by decide +kernel
theorem dX12_forbid_82 : decode cX12_forbid 82 = .ok (.iload_n 2, 1) := by decide +kernel
theorem dX12_forbid_83 : decode cX12_forbid 83 = .ok (.bipush (-2), 2) := by decide +kernel
theorem dX12_forbid_85 : decode cX12_forbid 85 = .ok (.iconst 0, 1) := by decide +kernel
theorem dX12_forbid_86 : decode cX12_forbid 86 = .ok (.invokevirtual 246, 3) := by decide +kernel
theorem dX12_forbid_89 : decode cX12_forbid 89 = .ok (.aload_n 0, 1) := by decide +kernel
theorem dX12_forbid_90 : decode cX12_forbid 90 = .ok (.aload_n 0, 1) := by decide +kernel
theorem dX12_forbid_91 : decode cX12_forbid 91 = .ok (.getfield 16, 3) := by decide +kernel
theorem dX12_forbid_94 : decode cX12_forbid 94 = .ok (.iload_n 1, 1) := by decide +kernel
theorem dX12_forbid_95 : decode cX12_forbid 95 = .ok (.iaload, 1) := by decide +kernel
theorem dX12_forbid_96 : decode cX12_forbid 96 = .ok (.ifCond .eq 15, 3) := by decide +kernel
theorem dX12_forbid_99 : decode cX12_forbid 99 = .ok (.aload_n 0, 1) := by decide +kernel
theorem dX12_forbid_100 : decode cX12_forbid 100 = .ok (.aload_n 0, 1) := by decide +kernel
theorem dX12_forbid_101 : decode cX12_forbid 101 = .ok (.getfield 16, 3) := by decide +kernel
theorem dX12_forbid_104 : decode cX12_forbid 104 = .ok (.iconst 1, 1) := by decide +kernel
theorem dX12_forbid_105 : decode cX12_forbid 105 = .ok (.invokevirtual 89, 3) := by decide +kernel
theorem dX12_forbid_108 : decode cX12_forbid 108 = .ok (.ifCond .ne 7, 3) := by decide +kernel
theorem dX12_forbid_111 : decode cX12_forbid 111 = .ok (.iconst 1, 1) := by decide +kernel
theorem dX12_forbid_112 : decode cX12_forbid 112 = .ok (.goto 4, 3) := by decide +kernel
theorem dX12_forbid_115 : decode cX12_forbid 115 = .ok (.iconst 0, 1) := by decide +kernel
theorem dX12_forbid_116 : decode cX12_forbid 116 = .ok (.putfield 85, 3) := by decide +kernel
theorem dX12_forbid_119 : decode cX12_forbid 119 = .ok (.aload_n 0, 1) := by decide +kernel
theorem dX12_forbid_120 : decode cX12_forbid 120 = .ok (.iload_n 3, 1) := by decide +kernel
theorem dX12_forbid_121 : decode cX12_forbid 121 = .ok (.invokevirtual 325, 3) := by decide +kernel
theorem dX12_forbid_124 : decode cX12_forbid 124 = .ok (.ireturn, 1) := by decide +kernel
set_option maxRecDepth 20000 in
theorem ggX12_decides_X12_has : GoodIn wsX12_decides wsX12_has := goodIn_r _ [9] (by decide +kernel) (by decide +kernel)
set_option maxRecDepth 20000 in
theorem gX12_decides_X12_has : GoodIn wsX12_decides (va_wsS RX12 178 yX12_has wsX12_has) := goodIn_app (goodIn_of _ (by decide +kernel)) ggX12_decides_X12_has
set_option maxRecDepth 20000 in
theorem ggX12_decides_X12_lays : GoodIn wsX12_decides wsX12_lays := goodIn_r _ [13, 1, 14, 3, 80, 81, 82, 83, 84, 85, 86, 87, 88, 89, 90, 91, 92, 93, 94, 95, 96, 97, 98, 99, 100, 101, 102, 103, 104, 105, 106, 107, 108, 109, 110, 111] (by decide +kernel) (by decide +kernel)
set_option maxRecDepth 20000 in
theorem gX12_decides_X12_lays : GoodIn wsX12_decides (wsV RX12 246 RX12 yX12_lays wsX12_lays) := goodIn_app (goodIn_of _ (by decide +kernel)) ggX12_decides_X12_lays
set_option maxRecDepth 20000 in
theorem ggX12_decides_X12_sweeps : GoodIn wsX12_decides wsX12_sweeps := goodIn_r _ [18, 19, 20, 21, 22, 23, 24, 8, 25, 26, 27, 28, 29, 30, 31, 32, 33, 34, 35, 36, 37, 38, 39, 40, 6, 7, 9, 41, 42, 43, 44, 45, 46, 47, 48, 49, 50, 51, 52, 53, 54, 55, 56, 57, 58, 59, 60, 61, 62, 63, 64, 65, 66, 67, 68, 69, 70, 71, 72, 73, 74, 75, 10, 11, 12, 13, 1, 14, 3, 80, 81, 82, 83, 84, 85, 86, 87, 88, 89, 90, 91, 92, 93, 94, 95, 96, 97, 98, 99, 100, 101, 102, 103, 104, 105, 106, 107, 108, 109, 110, 111] (by decide +kernel) (by decide +kernel)
set_option maxRecDepth 20000 in
theorem gX12_decides_X12_sweeps : GoodIn wsX12_decides (wsV RX12 89 RX12 yX12_sweeps wsX12_sweeps) := goodIn_app (goodIn_of _ (by decide +kernel)) ggX12_decides_X12_sweeps
set_option maxRecDepth 20000 in
theorem ggX12_decides_X12_factsFrom : GoodIn wsX12_decides wsX12_factsFrom := goodIn_r _ [79, 1, 80, 81, 82, 83, 84, 85, 86, 87, 88, 89, 90, 91, 92, 93, 94, 95, 96, 97, 98, 99, 100, 101, 102, 103, 104, 105, 106, 107, 108, 109, 110, 111] (by decide +kernel) (by decide +kernel)
set_option maxRecDepth 20000 in
theorem gX12_decides_X12_factsFrom : GoodIn wsX12_decides (wsV RX12 325 RX12 yX12_factsFrom wsX12_factsFrom) := goodIn_app (goodIn_of _ (by decide +kernel)) ggX12_decides_X12_factsFrom
theorem dX12_decides_0 : decode cX12_decides 0 = .ok (.aload_n 0, 1) := by decide +kernel
theorem dX12_decides_1 : decode cX12_decides 1 = .ok (.getfield 73, 3) := by decide +kernel
theorem dX12_decides_4 : decode cX12_decides 4 = .ok (.istore_n 3, 1) := by decide +kernel
theorem dX12_decides_5 : decode cX12_decides 5 = .ok (.aload_n 0, 1) := by decide +kernel
theorem dX12_decides_6 : decode cX12_decides 6 = .ok (.getfield 22, 3) := by decide +kernel
theorem dX12_decides_9 : decode cX12_decides 9 = .ok (.iconst 2, 1) := by decide +kernel
theorem dX12_decides_10 : decode cX12_decides 10 = .ok (.aload_n 0, 1) := by decide +kernel
theorem dX12_decides_11 : decode cX12_decides 11 = .ok (.getfield 76, 3) := by decide +kernel
theorem dX12_decides_14 : decode cX12_decides 14 = .ok (.imul, 1) := by decide +kernel
theorem dX12_decides_15 : decode cX12_decides 15 = .ok (.iload_n 1, 1) := by decide +kernel
theorem dX12_decides_16 : decode cX12_decides 16 = .ok (.iastore, 1) := by decide +kernel
theorem dX12_decides_17 : decode cX12_decides 17 = .ok (.aload_n 0, 1) := by decide +kernel
theorem dX12_decides_18 : decode cX12_decides 18 = .ok (.getfield 22, 3) := by decide +kernel
theorem dX12_decides_21 : decode cX12_decides 21 = .ok (.iconst 2, 1) := by decide +kernel
theorem dX12_decides_22 : decode cX12_decides 22 = .ok (.aload_n 0, 1) := by decide +kernel
theorem dX12_decides_23 : decode cX12_decides 23 = .ok (.getfield 76, 3) := by decide +kernel
theorem dX12_decides_26 : decode cX12_decides 26 = .ok (.imul, 1) := by decide +kernel
theorem dX12_decides_27 : decode cX12_decides 27 = .ok (.iconst 1, 1) := by decide +kernel
theorem dX12_decides_28 : decode cX12_decides 28 = .ok (.iadd, 1) := by decide +kernel
theorem dX12_decides_29 : decode cX12_decides 29 = .ok (.iload_n 2, 1) := by decide +kernel
theorem dX12_decides_30 : decode cX12_decides 30 = .ok (.iastore, 1) := by decide +kernel
theorem dX12_decides_31 : decode cX12_decides 31 = .ok (.aload_n 0, 1) := by decide +kernel
theorem dX12_decides_32 : decode cX12_decides 32 = .ok (.dup, 1) := by decide +kernel
theorem dX12_decides_33 : decode cX12_decides 33 = .ok (.getfield 76, 3) := by decide +kernel
theorem dX12_decides_36 : decode cX12_decides 36 = .ok (.iconst 1, 1) := by decide +kernel
theorem dX12_decides_37 : decode cX12_decides 37 = .ok (.iadd, 1) := by decide +kernel
theorem dX12_decides_38 : decode cX12_decides 38 = .ok (.putfield 76, 3) := by decide +kernel
theorem dX12_decides_41 : decode cX12_decides 41 = .ok (.iconst 0, 1) := by decide +kernel
theorem dX12_decides_42 : decode cX12_decides 42 = .ok (.istore 4, 2) := by decide +kernel
theorem dX12_decides_44 : decode cX12_decides 44 = .ok (.iload 4, 2) := by decide +kernel
theorem dX12_decides_46 : decode cX12_decides 46 = .ok (.iconst 5, 1) := by decide +kernel
theorem dX12_decides_47 : decode cX12_decides 47 = .ok (.if_icmp .ge 38, 3) := by decide +kernel
theorem dX12_decides_50 : decode cX12_decides 50 = .ok (.iload 4, 2) := by decide +kernel
theorem dX12_decides_52 : decode cX12_decides 52 = .ok (.iload_n 2, 1) := by decide +kernel
theorem dX12_decides_53 : decode cX12_decides 53 = .ok (.if_icmp .eq 26, 3) := by decide +kernel
theorem dX12_decides_56 : decode cX12_decides 56 = .ok (.aload_n 0, 1) := by decide +kernel
theorem dX12_decides_57 : decode cX12_decides 57 = .ok (.getfield 16, 3) := by decide +kernel
theorem dX12_decides_60 : decode cX12_decides 60 = .ok (.iload_n 1, 1) := by decide +kernel
theorem dX12_decides_61 : decode cX12_decides 61 = .ok (.iaload, 1) := by decide +kernel
theorem dX12_decides_62 : decode cX12_decides 62 = .ok (.iload 4, 2) := by decide +kernel
theorem dX12_decides_64 : decode cX12_decides 64 = .ok (.invokestatic 178, 3) := by decide +kernel
theorem dX12_decides_67 : decode cX12_decides 67 = .ok (.ifCond .eq 12, 3) := by decide +kernel
theorem dX12_decides_70 : decode cX12_decides 70 = .ok (.aload_n 0, 1) := by decide +kernel
theorem dX12_decides_71 : decode cX12_decides 71 = .ok (.iload_n 1, 1) := by decide +kernel
theorem dX12_decides_72 : decode cX12_decides 72 = .ok (.iload 4, 2) := by decide +kernel
theorem dX12_decides_74 : decode cX12_decides 74 = .ok (.iconst (-1), 1) := by decide +kernel
theorem dX12_decides_75 : decode cX12_decides 75 = .ok (.iconst 0, 1) := by decide +kernel
theorem dX12_decides_76 : decode cX12_decides 76 = .ok (.invokevirtual 246, 3) := by decide +kernel
theorem dX12_decides_79 : decode cX12_decides 79 = .ok (.iinc 4 1, 3) := by decide +kernel
theorem dX12_decides_82 : decode cX12_decides 82 = .ok (.goto (-38), 3) := by decide +kernel
theorem dX12_decides_85 : decode cX12_decides 85 = .ok (.aload_n 0, 1) := by decide +kernel
theorem dX12_decides_86 : decode cX12_decides 86 = .ok (.getfield 16, 3) := by decide +kernel
theorem dX12_decides_89 : decode cX12_decides 89 = .ok (.iload_n 1, 1) := by decide +kernel
theorem dX12_decides_90 : decode cX12_decides 90 = .ok (.iconst 1, 1) := by decide +kernel
theorem dX12_decides_91 : decode cX12_decides 91 = .ok (.iload_n 2, 1) := by decide +kernel
theorem dX12_decides_92 : decode cX12_decides 92 = .ok (.ishl, 1) := by decide +kernel
theorem dX12_decides_93 : decode cX12_decides 93 = .ok (.iastore, 1) := by decide +kernel
theorem dX12_decides_94 : decode cX12_decides 94 = .ok (.aload_n 0, 1) := by decide +kernel
theorem dX12_decides_95 : decode cX12_decides 95 = .ok (.aload_n 0, 1) := by decide +kernel
theorem dX12_decides_96 : decode cX12_decides 96 = .ok (.aload_n 0, 1) := by decide +kernel
theorem dX12_decides_97 : decode cX12_decides 97 = .ok (.getfield 16, 3) := by decide +kernel
theorem dX12_decides_100 : decode cX12_decides 100 = .ok (.iconst 1, 1) := by decide +kernel
theorem dX12_decides_101 : decode cX12_decides 101 = .ok (.invokevirtual 89, 3) := by decide +kernel
theorem dX12_decides_104 : decode cX12_decides 104 = .ok (.ifCond .ne 7, 3) := by decide +kernel
theorem dX12_decides_107 : decode cX12_decides 107 = .ok (.iconst 1, 1) := by decide +kernel
theorem dX12_decides_108 : decode cX12_decides 108 = .ok (.goto 4, 3) := by decide +kernel
theorem dX12_decides_111 : decode cX12_decides 111 = .ok (.iconst 0, 1) := by decide +kernel
theorem dX12_decides_112 : decode cX12_decides 112 = .ok (.putfield 85, 3) := by decide +kernel
theorem dX12_decides_115 : decode cX12_decides 115 = .ok (.aload_n 0, 1) := by decide +kernel
theorem dX12_decides_116 : decode cX12_decides 116 = .ok (.iload_n 3, 1) := by decide +kernel
theorem dX12_decides_117 : decode cX12_decides 117 = .ok (.invokevirtual 325, 3) := by decide +kernel
theorem dX12_decides_120 : decode cX12_decides 120 = .ok (.ireturn, 1) := by decide +kernel
theorem dX12_takesBack_0 : decode cX12_takesBack 0 = .ok (.aload_n 0, 1) := by decide +kernel
theorem dX12_takesBack_1 : decode cX12_takesBack 1 = .ok (.getfield 73, 3) := by decide +kernel
theorem dX12_takesBack_4 : decode cX12_takesBack 4 = .ok (.istore_n 1, 1) := by decide +kernel
theorem dX12_takesBack_5 : decode cX12_takesBack 5 = .ok (.aload_n 0, 1) := by decide +kernel
theorem dX12_takesBack_6 : decode cX12_takesBack 6 = .ok (.getfield 73, 3) := by decide +kernel
theorem dX12_takesBack_9 : decode cX12_takesBack 9 = .ok (.ifCond .le 70, 3) := by decide +kernel
theorem dX12_takesBack_12 : decode cX12_takesBack 12 = .ok (.aload_n 0, 1) := by decide +kernel
theorem dX12_takesBack_13 : decode cX12_takesBack 13 = .ok (.getfield 19, 3) := by decide +kernel
theorem dX12_takesBack_16 : decode cX12_takesBack 16 = .ok (.iconst 5, 1) := by decide +kernel
theorem dX12_takesBack_17 : decode cX12_takesBack 17 = .ok (.aload_n 0, 1) := by decide +kernel
theorem dX12_takesBack_18 : decode cX12_takesBack 18 = .ok (.getfield 73, 3) := by decide +kernel
theorem dX12_takesBack_21 : decode cX12_takesBack 21 = .ok (.imul, 1) := by decide +kernel
theorem dX12_takesBack_22 : decode cX12_takesBack 22 = .ok (.iconst 2, 1) := by decide +kernel
theorem dX12_takesBack_23 : decode cX12_takesBack 23 = .ok (.isub, 1) := by decide +kernel
theorem dX12_takesBack_24 : decode cX12_takesBack 24 = .ok (.iaload, 1) := by decide +kernel
theorem dX12_takesBack_25 : decode cX12_takesBack 25 = .ok (.aload_n 0, 1) := by decide +kernel
theorem dX12_takesBack_26 : decode cX12_takesBack 26 = .ok (.getfield 76, 3) := by decide +kernel
theorem dX12_takesBack_29 : decode cX12_takesBack 29 = .ok (.if_icmp .ne 50, 3) := by decide +kernel
theorem dX12_takesBack_32 : decode cX12_takesBack 32 = .ok (.aload_n 0, 1) := by decide +kernel
theorem dX12_takesBack_33 : decode cX12_takesBack 33 = .ok (.dup, 1) := by decide +kernel
theorem dX12_takesBack_34 : decode cX12_takesBack 34 = .ok (.getfield 73, 3) := by decide +kernel
theorem dX12_takesBack_37 : decode cX12_takesBack 37 = .ok (.iconst 1, 1) := by decide +kernel
theorem dX12_takesBack_38 : decode cX12_takesBack 38 = .ok (.isub, 1) := by decide +kernel
theorem dX12_takesBack_39 : decode cX12_takesBack 39 = .ok (.putfield 73, 3) := by decide +kernel
theorem dX12_takesBack_42 : decode cX12_takesBack 42 = .ok (.aload_n 0, 1) := by decide +kernel
theorem dX12_takesBack_43 : decode cX12_takesBack 43 = .ok (.getfield 16, 3) := by decide +kernel
theorem dX12_takesBack_46 : decode cX12_takesBack 46 = .ok (.aload_n 0, 1) := by decide +kernel
theorem dX12_takesBack_47 : decode cX12_takesBack 47 = .ok (.getfield 19, 3) := by decide +kernel
theorem dX12_takesBack_50 : decode cX12_takesBack 50 = .ok (.iconst 5, 1) := by decide +kernel
theorem dX12_takesBack_51 : decode cX12_takesBack 51 = .ok (.aload_n 0, 1) := by decide +kernel
theorem dX12_takesBack_52 : decode cX12_takesBack 52 = .ok (.getfield 73, 3) := by decide +kernel
theorem dX12_takesBack_55 : decode cX12_takesBack 55 = .ok (.imul, 1) := by decide +kernel
theorem dX12_takesBack_56 : decode cX12_takesBack 56 = .ok (.iaload, 1) := by decide +kernel
theorem dX12_takesBack_57 : decode cX12_takesBack 57 = .ok (.dup2, 1) := by decide +kernel
theorem dX12_takesBack_58 : decode cX12_takesBack 58 = .ok (.iaload, 1) := by decide +kernel
theorem dX12_takesBack_59 : decode cX12_takesBack 59 = .ok (.iconst 1, 1) := by decide +kernel
theorem dX12_takesBack_60 : decode cX12_takesBack 60 = .ok (.aload_n 0, 1) := by decide +kernel
theorem dX12_takesBack_61 : decode cX12_takesBack 61 = .ok (.getfield 19, 3) := by decide +kernel
theorem dX12_takesBack_64 : decode cX12_takesBack 64 = .ok (.iconst 5, 1) := by decide +kernel
theorem dX12_takesBack_65 : decode cX12_takesBack 65 = .ok (.aload_n 0, 1) := by decide +kernel
theorem dX12_takesBack_66 : decode cX12_takesBack 66 = .ok (.getfield 73, 3) := by decide +kernel
theorem dX12_takesBack_69 : decode cX12_takesBack 69 = .ok (.imul, 1) := by decide +kernel
theorem dX12_takesBack_70 : decode cX12_takesBack 70 = .ok (.iconst 1, 1) := by decide +kernel
theorem dX12_takesBack_71 : decode cX12_takesBack 71 = .ok (.iadd, 1) := by decide +kernel
theorem dX12_takesBack_72 : decode cX12_takesBack 72 = .ok (.iaload, 1) := by decide +kernel
theorem dX12_takesBack_73 : decode cX12_takesBack 73 = .ok (.ishl, 1) := by decide +kernel
theorem dX12_takesBack_74 : decode cX12_takesBack 74 = .ok (.ior, 1) := by decide +kernel
theorem dX12_takesBack_75 : decode cX12_takesBack 75 = .ok (.iastore, 1) := by decide +kernel
theorem dX12_takesBack_76 : decode cX12_takesBack 76 = .ok (.goto (-71), 3) := by decide +kernel
theorem dX12_takesBack_79 : decode cX12_takesBack 79 = .ok (.aload_n 0, 1) := by decide +kernel
theorem dX12_takesBack_80 : decode cX12_takesBack 80 = .ok (.dup, 1) := by decide +kernel
theorem dX12_takesBack_81 : decode cX12_takesBack 81 = .ok (.getfield 76, 3) := by decide +kernel
theorem dX12_takesBack_84 : decode cX12_takesBack 84 = .ok (.iconst 1, 1) := by decide +kernel
theorem dX12_takesBack_85 : decode cX12_takesBack 85 = .ok (.isub, 1) := by decide +kernel
theorem dX12_takesBack_86 : decode cX12_takesBack 86 = .ok (.putfield 76, 3) := by decide +kernel
theorem dX12_takesBack_89 : decode cX12_takesBack 89 = .ok (.aload_n 0, 1) := by decide +kernel
theorem dX12_takesBack_90 : decode cX12_takesBack 90 = .ok (.iconst 0, 1) := by decide +kernel
theorem dX12_takesBack_91 : decode cX12_takesBack 91 = .ok (.putfield 85, 3) := by decide +kernel
theorem dX12_takesBack_94 : decode cX12_takesBack 94 = .ok (.iload_n 1, 1) := by decide +kernel
theorem dX12_takesBack_95 : decode cX12_takesBack 95 = .ok (.aload_n 0, 1) := by decide +kernel
theorem dX12_takesBack_96 : decode cX12_takesBack 96 = .ok (.getfield 73, 3) := by decide +kernel
theorem dX12_takesBack_99 : decode cX12_takesBack 99 = .ok (.isub, 1) := by decide +kernel
theorem dX12_takesBack_100 : decode cX12_takesBack 100 = .ok (.ireturn, 1) := by decide +kernel
set_option maxRecDepth 20000 in
theorem ggX12_mayDecide_X12_isVariable : GoodIn wsX12_mayDecide wsX12_isVariable := goodIn_r _ [7, 8, 9, 10, 6, 11, 27, 28, 29, 30, 31, 32, 33, 34, 35, 36, 37, 38, 39, 40, 41, 42, 43, 44, 45, 46, 47, 48, 49, 50, 51, 52, 53, 54, 55, 56, 57, 58] (by decide +kernel) (by decide +kernel)
set_option maxRecDepth 20000 in
theorem gX12_mayDecide_X12_isVariable : GoodIn wsX12_mayDecide (wsV RX12 257 RX12 yX12_isVariable wsX12_isVariable) := goodIn_app (goodIn_of _ (by decide +kernel)) ggX12_mayDecide_X12_isVariable
set_option maxRecDepth 20000 in
theorem ggX12_mayDecide_X12_may : GoodIn wsX12_mayDecide wsX12_may := goodIn_r _ [15, 16, 27, 28, 29, 30, 31, 32, 33, 34, 35, 36, 37, 38, 39, 40, 41, 42, 43, 44, 45, 46, 47, 48, 49, 50, 51, 52, 53, 54, 55, 56, 57, 58] (by decide +kernel) (by decide +kernel)
set_option maxRecDepth 20000 in
theorem gX12_mayDecide_X12_may : GoodIn wsX12_mayDecide (wsV RX12 96 RX12 yX12_may wsX12_may) := goodIn_app (goodIn_of _ (by decide +kernel)) ggX12_mayDecide_X12_may
set_option maxRecDepth 20000 in
theorem ggX12_mayDecide_X12_isValue : GoodIn wsX12_mayDecide wsX12_isValue := goodIn_r _ [20, 1, 9, 10, 6, 11, 21, 22, 23, 27, 28, 29, 30, 31, 32, 33, 34, 35, 36, 37, 38, 39, 40, 41, 42, 43, 44, 45, 46, 47, 48, 49, 50, 51, 52, 53, 54, 55, 56, 57, 58] (by decide +kernel) (by decide +kernel)
set_option maxRecDepth 20000 in
theorem gX12_mayDecide_X12_isValue : GoodIn wsX12_mayDecide (wsV RX12 322 RX12 yX12_isValue wsX12_isValue) := goodIn_app (goodIn_of _ (by decide +kernel)) ggX12_mayDecide_X12_isValue
set_option maxRecDepth 20000 in
theorem ggX12_mayDecide_X12_sizeOf : GoodIn wsX12_mayDecide wsX12_sizeOf := goodIn_r _ [26] (by decide +kernel) (by decide +kernel)
set_option maxRecDepth 20000 in
theorem gX12_mayDecide_X12_sizeOf : GoodIn wsX12_mayDecide (va_wsS RX12 214 yX12_sizeOf wsX12_sizeOf) := goodIn_app (goodIn_of _ (by decide +kernel)) ggX12_mayDecide_X12_sizeOf
theorem dX12_mayDecide_0 : decode cX12_mayDecide 0 = .ok (.aload_n 0, 1) := by decide +kernel
theorem dX12_mayDecide_1 : decode cX12_mayDecide 1 = .ok (.aload_n 0, 1) := by decide +kernel
theorem dX12_mayDecide_2 : decode cX12_mayDecide 2 = .ok (.iload_n 1, 1) := by decide +kernel
theorem dX12_mayDecide_3 : decode cX12_mayDecide 3 = .ok (.invokevirtual 257, 3) := by decide +kernel
theorem dX12_mayDecide_6 : decode cX12_mayDecide 6 = .ok (.iconst 1, 1) := by decide +kernel
theorem dX12_mayDecide_7 : decode cX12_mayDecide 7 = .ok (.invokevirtual 96, 3) := by decide +kernel
theorem dX12_mayDecide_10 : decode cX12_mayDecide 10 = .ok (.ifCond .eq 54, 3) := by decide +kernel
theorem dX12_mayDecide_13 : decode cX12_mayDecide 13 = .ok (.aload_n 0, 1) := by decide +kernel
theorem dX12_mayDecide_14 : decode cX12_mayDecide 14 = .ok (.aload_n 0, 1) := by decide +kernel
theorem dX12_mayDecide_15 : decode cX12_mayDecide 15 = .ok (.iload_n 1, 1) := by decide +kernel
theorem dX12_mayDecide_16 : decode cX12_mayDecide 16 = .ok (.iload_n 2, 1) := by decide +kernel
theorem dX12_mayDecide_17 : decode cX12_mayDecide 17 = .ok (.invokevirtual 322, 3) := by decide +kernel
theorem dX12_mayDecide_20 : decode cX12_mayDecide 20 = .ok (.iconst 2, 1) := by decide +kernel
theorem dX12_mayDecide_21 : decode cX12_mayDecide 21 = .ok (.invokevirtual 96, 3) := by decide +kernel
theorem dX12_mayDecide_24 : decode cX12_mayDecide 24 = .ok (.ifCond .eq 40, 3) := by decide +kernel
theorem dX12_mayDecide_27 : decode cX12_mayDecide 27 = .ok (.aload_n 0, 1) := by decide +kernel
theorem dX12_mayDecide_28 : decode cX12_mayDecide 28 = .ok (.aload_n 0, 1) := by decide +kernel
theorem dX12_mayDecide_29 : decode cX12_mayDecide 29 = .ok (.getfield 16, 3) := by decide +kernel
theorem dX12_mayDecide_32 : decode cX12_mayDecide 32 = .ok (.iload_n 1, 1) := by decide +kernel
theorem dX12_mayDecide_33 : decode cX12_mayDecide 33 = .ok (.iaload, 1) := by decide +kernel
theorem dX12_mayDecide_34 : decode cX12_mayDecide 34 = .ok (.invokestatic 214, 3) := by decide +kernel
theorem dX12_mayDecide_37 : decode cX12_mayDecide 37 = .ok (.iconst 1, 1) := by decide +kernel
theorem dX12_mayDecide_38 : decode cX12_mayDecide 38 = .ok (.if_icmp .le 14, 3) := by decide +kernel
theorem dX12_mayDecide_41 : decode cX12_mayDecide 41 = .ok (.aload_n 0, 1) := by decide +kernel
theorem dX12_mayDecide_42 : decode cX12_mayDecide 42 = .ok (.getfield 85, 3) := by decide +kernel
theorem dX12_mayDecide_45 : decode cX12_mayDecide 45 = .ok (.ifCond .ne 7, 3) := by decide +kernel
theorem dX12_mayDecide_48 : decode cX12_mayDecide 48 = .ok (.iconst 1, 1) := by decide +kernel
theorem dX12_mayDecide_49 : decode cX12_mayDecide 49 = .ok (.goto 4, 3) := by decide +kernel
theorem dX12_mayDecide_52 : decode cX12_mayDecide 52 = .ok (.iconst 0, 1) := by decide +kernel
theorem dX12_mayDecide_53 : decode cX12_mayDecide 53 = .ok (.iconst 3, 1) := by decide +kernel
theorem dX12_mayDecide_54 : decode cX12_mayDecide 54 = .ok (.invokevirtual 96, 3) := by decide +kernel
theorem dX12_mayDecide_57 : decode cX12_mayDecide 57 = .ok (.ifCond .eq 7, 3) := by decide +kernel
theorem dX12_mayDecide_60 : decode cX12_mayDecide 60 = .ok (.iconst 1, 1) := by decide +kernel
theorem dX12_mayDecide_61 : decode cX12_mayDecide 61 = .ok (.goto 4, 3) := by decide +kernel
theorem dX12_mayDecide_64 : decode cX12_mayDecide 64 = .ok (.iconst 0, 1) := by decide +kernel
theorem dX12_mayDecide_65 : decode cX12_mayDecide 65 = .ok (.ireturn, 1) := by decide +kernel
set_option maxRecDepth 20000 in
theorem ggX12_decide_X12_mayDecide : GoodIn wsX12_decide wsX12_mayDecide := goodIn_r _ [7, 8, 9, 10, 11, 12, 6, 13, 14, 15, 16, 17, 18, 19, 20, 21, 1, 22, 23, 24, 25, 26, 27, 28, 29, 30, 31, 102, 103, 104, 105, 106, 107, 108, 109, 110, 111, 112, 113, 114, 115, 116, 117, 118, 119, 120, 121, 122, 123, 124, 125, 126, 127, 128, 129, 130, 131, 132, 133] (by decide +kernel) (by decide +kernel)
set_option maxRecDepth 20000 in
theorem gX12_decide_X12_mayDecide : GoodIn wsX12_decide (wsV RX12 328 RX12 yX12_mayDecide wsX12_mayDecide) := goodIn_app (goodIn_of _ (by decide +kernel)) ggX12_decide_X12_mayDecide
set_option maxRecDepth 20000 in
theorem ggX12_decide_X12_decides : GoodIn wsX12_decide wsX12_decides := goodIn_r _ [35, 36, 37, 38, 8, 9, 26, 27, 6, 28, 39, 40, 41, 42, 43, 44, 45, 46, 47, 14, 48, 49, 50, 51, 52, 53, 54, 55, 56, 57, 58, 59, 60, 61, 62, 63, 64, 65, 66, 67, 68, 69, 70, 71, 72, 73, 74, 75, 76, 77, 78, 79, 80, 81, 82, 83, 84, 85, 86, 87, 88, 89, 29, 30, 31, 15, 16, 17, 90, 91, 92, 93, 94, 95, 96, 97, 98, 99, 100, 101, 102, 103, 104, 105, 106, 107, 108, 109, 110, 111, 112, 113, 114, 115, 116, 117, 118, 119, 120, 121, 122, 123, 124, 125, 126, 127, 128, 129, 130, 131, 132, 133] (by decide +kernel) (by decide +kernel)
set_option maxRecDepth 20000 in
theorem gX12_decide_X12_decides : GoodIn wsX12_decide (wsV RX12 331 RX12 yX12_decides wsX12_decides) := goodIn_app (goodIn_of _ (by decide +kernel)) ggX12_decide_X12_decides
theorem dX12_decide_0 : decode cX12_decide 0 = .ok (.aload_n 0, 1) := by decide +kernel
theorem dX12_decide_1 : decode cX12_decide 1 = .ok (.iconst 0, 1) := by decide +kernel
theorem dX12_decide_2 : decode cX12_decide 2 = .ok (.putfield 70, 3) := by decide +kernel
theorem dX12_decide_5 : decode cX12_decide 5 = .ok (.aload_n 0, 1) := by decide +kernel
theorem dX12_decide_6 : decode cX12_decide 6 = .ok (.iload_n 1, 1) := by decide +kernel
theorem dX12_decide_7 : decode cX12_decide 7 = .ok (.iload_n 2, 1) := by decide +kernel
theorem dX12_decide_8 : decode cX12_decide 8 = .ok (.invokevirtual 328, 3) := by decide +kernel
theorem dX12_decide_11 : decode cX12_decide 11 = .ok (.ifCond .ne 5, 3) := by decide +kernel
theorem dX12_decide_14 : decode cX12_decide 14 = .ok (.iconst 0, 1) := by decide +kernel
theorem dX12_decide_15 : decode cX12_decide 15 = .ok (.ireturn, 1) := by decide +kernel
theorem dX12_decide_16 : decode cX12_decide 16 = .ok (.aload_n 0, 1) := by decide +kernel
theorem dX12_decide_17 : decode cX12_decide 17 = .ok (.dup, 1) := by decide +kernel
theorem dX12_decide_18 : decode cX12_decide 18 = .ok (.getfield 82, 3) := by decide +kernel
theorem dX12_decide_21 : decode cX12_decide 21 = .ok (.iconst 1, 1) := by decide +kernel
theorem dX12_decide_22 : decode cX12_decide 22 = .ok (.iadd, 1) := by decide +kernel
theorem dX12_decide_23 : decode cX12_decide 23 = .ok (.putfield 82, 3) := by decide +kernel
theorem dX12_decide_26 : decode cX12_decide 26 = .ok (.aload_n 0, 1) := by decide +kernel
theorem dX12_decide_27 : decode cX12_decide 27 = .ok (.iload_n 1, 1) := by decide +kernel
theorem dX12_decide_28 : decode cX12_decide 28 = .ok (.iload_n 2, 1) := by decide +kernel
theorem dX12_decide_29 : decode cX12_decide 29 = .ok (.invokevirtual 331, 3) := by decide +kernel
theorem dX12_decide_32 : decode cX12_decide 32 = .ok (.ireturn, 1) := by decide +kernel
set_option maxRecDepth 20000 in
theorem ggX12_back_X12_may : GoodIn wsX12_back wsX12_may := goodIn_r _ [7, 1, 16, 17, 18, 19, 20, 21, 22, 23, 24, 25, 26, 27, 28, 29, 30, 31, 32, 33, 34, 35, 36, 37, 38, 39, 40, 41, 42, 43, 44, 45, 46, 47] (by decide +kernel) (by decide +kernel)
set_option maxRecDepth 20000 in
theorem gX12_back_X12_may : GoodIn wsX12_back (wsV RX12 96 RX12 yX12_may wsX12_may) := goodIn_app (goodIn_of _ (by decide +kernel)) ggX12_back_X12_may
set_option maxRecDepth 20000 in
theorem ggX12_back_X12_takesBack : GoodIn wsX12_back wsX12_takesBack := goodIn_r _ [11, 12, 13, 2, 14, 15, 16, 17, 18, 19, 20, 21, 22, 23, 24, 25, 26, 27, 28, 29, 30, 31, 32, 33, 34, 35, 36, 37, 38, 39, 40, 41, 42, 43, 44, 45, 46, 47] (by decide +kernel) (by decide +kernel)
set_option maxRecDepth 20000 in
theorem gX12_back_X12_takesBack : GoodIn wsX12_back (wsV RX12 334 RX12 yX12_takesBack wsX12_takesBack) := goodIn_app (goodIn_of _ (by decide +kernel)) ggX12_back_X12_takesBack
theorem dX12_back_0 : decode cX12_back 0 = .ok (.aload_n 0, 1) := by decide +kernel
theorem dX12_back_1 : decode cX12_back 1 = .ok (.iconst 0, 1) := by decide +kernel
theorem dX12_back_2 : decode cX12_back 2 = .ok (.putfield 70, 3) := by decide +kernel
theorem dX12_back_5 : decode cX12_back 5 = .ok (.aload_n 0, 1) := by decide +kernel
theorem dX12_back_6 : decode cX12_back 6 = .ok (.aload_n 0, 1) := by decide +kernel
theorem dX12_back_7 : decode cX12_back 7 = .ok (.getfield 76, 3) := by decide +kernel
theorem dX12_back_10 : decode cX12_back 10 = .ok (.ifCond .le 7, 3) := by decide +kernel
theorem dX12_back_13 : decode cX12_back 13 = .ok (.iconst 1, 1) := by decide +kernel
theorem dX12_back_14 : decode cX12_back 14 = .ok (.goto 4, 3) := by decide +kernel
theorem dX12_back_17 : decode cX12_back 17 = .ok (.iconst 0, 1) := by decide +kernel
theorem dX12_back_18 : decode cX12_back 18 = .ok (.iconst 1, 1) := by decide +kernel
theorem dX12_back_19 : decode cX12_back 19 = .ok (.invokevirtual 96, 3) := by decide +kernel
theorem dX12_back_22 : decode cX12_back 22 = .ok (.ifCond .eq 10, 3) := by decide +kernel
theorem dX12_back_25 : decode cX12_back 25 = .ok (.aload_n 0, 1) := by decide +kernel
theorem dX12_back_26 : decode cX12_back 26 = .ok (.invokevirtual 334, 3) := by decide +kernel
theorem dX12_back_29 : decode cX12_back 29 = .ok (.goto 4, 3) := by decide +kernel
theorem dX12_back_32 : decode cX12_back 32 = .ok (.iconst 0, 1) := by decide +kernel
theorem dX12_back_33 : decode cX12_back 33 = .ok (.ireturn, 1) := by decide +kernel
set_option maxRecDepth 20000 in
theorem ggX12_decision_X12_isIn : GoodIn wsX12_decision wsX12_isIn := goodIn_r _ [7] (by decide +kernel) (by decide +kernel)
set_option maxRecDepth 20000 in
theorem gX12_decision_X12_isIn : GoodIn wsX12_decision (va_wsS RX12 100 yX12_isIn wsX12_isIn) := goodIn_app (goodIn_of _ (by decide +kernel)) ggX12_decision_X12_isIn
set_option maxRecDepth 20000 in
theorem ggX12_decision_X12_may : GoodIn wsX12_decision wsX12_may := goodIn_r _ [11, 1, 12, 13, 14, 15, 16, 17, 18, 19, 20, 21, 22, 23, 24, 25, 26, 27, 28, 29, 30, 31, 32, 33, 34, 35, 36, 37, 38, 39, 40, 41, 42, 43] (by decide +kernel) (by decide +kernel)
set_option maxRecDepth 20000 in
theorem gX12_decision_X12_may : GoodIn wsX12_decision (wsV RX12 96 RX12 yX12_may wsX12_may) := goodIn_app (goodIn_of _ (by decide +kernel)) ggX12_decision_X12_may
theorem dX12_decision_0 : decode cX12_decision 0 = .ok (.aload_n 0, 1) := by decide +kernel
theorem dX12_decision_1 : decode cX12_decision 1 = .ok (.iconst 0, 1) := by decide +kernel
theorem dX12_decision_2 : decode cX12_decision 2 = .ok (.putfield 70, 3) := by decide +kernel
theorem dX12_decision_5 : decode cX12_decision 5 = .ok (.aload_n 0, 1) := by decide +kernel
theorem dX12_decision_6 : decode cX12_decision 6 = .ok (.iload_n 1, 1) := by decide +kernel
theorem dX12_decision_7 : decode cX12_decision 7 = .ok (.iconst 0, 1) := by decide +kernel
theorem dX12_decision_8 : decode cX12_decision 8 = .ok (.aload_n 0, 1) := by decide +kernel
theorem dX12_decision_9 : decode cX12_decision 9 = .ok (.getfield 76, 3) := by decide +kernel
theorem dX12_decision_12 : decode cX12_decision 12 = .ok (.iconst 1, 1) := by decide +kernel
theorem dX12_decision_13 : decode cX12_decision 13 = .ok (.isub, 1) := by decide +kernel
theorem dX12_decision_14 : decode cX12_decision 14 = .ok (.invokestatic 100, 3) := by decide +kernel
theorem dX12_decision_17 : decode cX12_decision 17 = .ok (.iconst 1, 1) := by decide +kernel
theorem dX12_decision_18 : decode cX12_decision 18 = .ok (.invokevirtual 96, 3) := by decide +kernel
theorem dX12_decision_21 : decode cX12_decision 21 = .ok (.ifCond .eq 28, 3) := by decide +kernel
theorem dX12_decision_24 : decode cX12_decision 24 = .ok (.bipush 10, 2) := by decide +kernel
theorem dX12_decision_26 : decode cX12_decision 26 = .ok (.aload_n 0, 1) := by decide +kernel
theorem dX12_decision_27 : decode cX12_decision 27 = .ok (.getfield 22, 3) := by decide +kernel
theorem dX12_decision_30 : decode cX12_decision 30 = .ok (.iconst 2, 1) := by decide +kernel
theorem dX12_decision_31 : decode cX12_decision 31 = .ok (.iload_n 1, 1) := by decide +kernel
theorem dX12_decision_32 : decode cX12_decision 32 = .ok (.imul, 1) := by decide +kernel
theorem dX12_decision_33 : decode cX12_decision 33 = .ok (.iaload, 1) := by decide +kernel
theorem dX12_decision_34 : decode cX12_decision 34 = .ok (.imul, 1) := by decide +kernel
theorem dX12_decision_35 : decode cX12_decision 35 = .ok (.aload_n 0, 1) := by decide +kernel
theorem dX12_decision_36 : decode cX12_decision 36 = .ok (.getfield 22, 3) := by decide +kernel
theorem dX12_decision_39 : decode cX12_decision 39 = .ok (.iconst 2, 1) := by decide +kernel
theorem dX12_decision_40 : decode cX12_decision 40 = .ok (.iload_n 1, 1) := by decide +kernel
theorem dX12_decision_41 : decode cX12_decision 41 = .ok (.imul, 1) := by decide +kernel
theorem dX12_decision_42 : decode cX12_decision 42 = .ok (.iconst 1, 1) := by decide +kernel
theorem dX12_decision_43 : decode cX12_decision 43 = .ok (.iadd, 1) := by decide +kernel
theorem dX12_decision_44 : decode cX12_decision 44 = .ok (.iaload, 1) := by decide +kernel
theorem dX12_decision_45 : decode cX12_decision 45 = .ok (.iadd, 1) := by decide +kernel
theorem dX12_decision_46 : decode cX12_decision 46 = .ok (.goto 4, 3) := by decide +kernel
theorem dX12_decision_49 : decode cX12_decision 49 = .ok (.iconst 0, 1) := by decide +kernel
theorem dX12_decision_50 : decode cX12_decision 50 = .ok (.ireturn, 1) := by decide +kernel
set_option maxRecDepth 20000 in
theorem ggX12_probe_X12_mayDecide : GoodIn wsX12_probe wsX12_mayDecide := goodIn_r _ [7, 8, 2, 9, 10, 11, 6, 12, 13, 14, 15, 16, 17, 18, 19, 20, 1, 21, 22, 23, 24, 25, 26, 27, 28, 29, 30, 105, 106, 107, 108, 109, 110, 111, 112, 113, 114, 115, 116, 117, 118, 119, 120, 121, 122, 123, 124, 125, 126, 127, 128, 129, 130, 131, 132, 133, 134, 135, 136] (by decide +kernel) (by decide +kernel)
set_option maxRecDepth 20000 in
theorem gX12_probe_X12_mayDecide : GoodIn wsX12_probe (wsV RX12 328 RX12 yX12_mayDecide wsX12_mayDecide) := goodIn_app (goodIn_of _ (by decide +kernel)) ggX12_probe_X12_mayDecide
set_option maxRecDepth 20000 in
theorem ggX12_probe_X12_decides : GoodIn wsX12_probe wsX12_decides := goodIn_r _ [34, 35, 36, 37, 8, 2, 25, 26, 6, 27, 38, 39, 40, 41, 42, 43, 44, 45, 46, 13, 47, 48, 49, 50, 51, 52, 53, 54, 55, 56, 57, 58, 59, 60, 61, 62, 63, 64, 65, 66, 67, 68, 69, 70, 71, 72, 73, 74, 75, 76, 77, 78, 79, 80, 81, 82, 83, 84, 85, 86, 87, 88, 28, 29, 30, 14, 15, 16, 89, 90, 91, 92, 93, 94, 95, 96, 97, 98, 99, 100, 105, 106, 107, 108, 109, 110, 111, 112, 113, 114, 115, 116, 117, 118, 119, 120, 121, 122, 123, 124, 125, 126, 127, 128, 129, 130, 131, 132, 133, 134, 135, 136] (by decide +kernel) (by decide +kernel)
set_option maxRecDepth 20000 in
theorem gX12_probe_X12_decides : GoodIn wsX12_probe (wsV RX12 331 RX12 yX12_decides wsX12_decides) := goodIn_app (goodIn_of _ (by decide +kernel)) ggX12_probe_X12_decides
set_option maxRecDepth 20000 in
theorem ggX12_probe_X12_takesBack : GoodIn wsX12_probe wsX12_takesBack := goodIn_r _ [104, 35, 42, 37, 8, 2, 105, 106, 107, 108, 109, 110, 111, 112, 113, 114, 115, 116, 117, 118, 119, 120, 121, 122, 123, 124, 125, 126, 127, 128, 129, 130, 131, 132, 133, 134, 135, 136] (by decide +kernel) (by decide +kernel)
set_option maxRecDepth 20000 in
theorem gX12_probe_X12_takesBack : GoodIn wsX12_probe (wsV RX12 334 RX12 yX12_takesBack wsX12_takesBack) := goodIn_app (goodIn_of _ (by decide +kernel)) ggX12_probe_X12_takesBack
theorem dX12_probe_0 : decode cX12_probe 0 = .ok (.aload_n 0, 1) := by decide +kernel
theorem dX12_probe_1 : decode cX12_probe 1 = .ok (.iconst 0, 1) := by decide +kernel
theorem dX12_probe_2 : decode cX12_probe 2 = .ok (.putfield 70, 3) := by decide +kernel
theorem dX12_probe_5 : decode cX12_probe 5 = .ok (.aload_n 0, 1) := by decide +kernel
theorem dX12_probe_6 : decode cX12_probe 6 = .ok (.iload_n 1, 1) := by decide +kernel
theorem dX12_probe_7 : decode cX12_probe 7 = .ok (.iload_n 2, 1) := by decide +kernel
theorem dX12_probe_8 : decode cX12_probe 8 = .ok (.invokevirtual 328, 3) := by decide +kernel
theorem dX12_probe_11 : decode cX12_probe 11 = .ok (.ifCond .ne 5, 3) := by decide +kernel
theorem dX12_probe_14 : decode cX12_probe 14 = .ok (.iconst 0, 1) := by decide +kernel
theorem dX12_probe_15 : decode cX12_probe 15 = .ok (.ireturn, 1) := by decide +kernel
theorem dX12_probe_16 : decode cX12_probe 16 = .ok (.aload_n 0, 1) := by decide +kernel
theorem dX12_probe_17 : decode cX12_probe 17 = .ok (.iload_n 1, 1) := by decide +kernel
theorem dX12_probe_18 : decode cX12_probe 18 = .ok (.iload_n 2, 1) := by decide +kernel
theorem dX12_probe_19 : decode cX12_probe 19 = .ok (.invokevirtual 331, 3) := by decide +kernel
theorem dX12_probe_22 : decode cX12_probe 22 = .ok (.istore_n 3, 1) := by decide +kernel
theorem dX12_probe_23 : decode cX12_probe 23 = .ok (.aload_n 0, 1) := by decide +kernel
theorem dX12_probe_24 : decode cX12_probe 24 = .ok (.getfield 85, 3) := by decide +kernel
theorem dX12_probe_27 : decode cX12_probe 27 = .ok (.istore 4, 2) := by decide +kernel
theorem dX12_probe_29 : decode cX12_probe 29 = .ok (.aload_n 0, 1) := by decide +kernel
theorem dX12_probe_30 : decode cX12_probe 30 = .ok (.invokevirtual 334, 3) := by decide +kernel
theorem dX12_probe_33 : decode cX12_probe 33 = .ok (.istore 5, 2) := by decide +kernel
theorem dX12_probe_35 : decode cX12_probe 35 = .ok (.iload 4, 2) := by decide +kernel
theorem dX12_probe_37 : decode cX12_probe 37 = .ok (.ifCond .eq 7, 3) := by decide +kernel
theorem dX12_probe_40 : decode cX12_probe 40 = .ok (.iconst (-1), 1) := by decide +kernel
theorem dX12_probe_41 : decode cX12_probe 41 = .ok (.goto 5, 3) := by decide +kernel
theorem dX12_probe_44 : decode cX12_probe 44 = .ok (.iload 5, 2) := by decide +kernel
theorem dX12_probe_46 : decode cX12_probe 46 = .ok (.ireturn, 1) := by decide +kernel
set_option maxRecDepth 20000 in
theorem ggX12_makeFail_X12_has : GoodIn wsX12_makeFail wsX12_has := goodIn_r _ [10] (by decide +kernel) (by decide +kernel)
set_option maxRecDepth 20000 in
theorem gX12_makeFail_X12_has : GoodIn wsX12_makeFail (va_wsS RX12 178 yX12_has wsX12_has) := goodIn_app (goodIn_of _ (by decide +kernel)) ggX12_makeFail_X12_has
set_option maxRecDepth 20000 in
theorem ggX12_makeFail_X12_sweeps : GoodIn wsX12_makeFail wsX12_sweeps := goodIn_r _ [14, 2, 15, 16, 17, 18, 19, 9, 20, 21, 22, 23, 24, 25, 26, 27, 28, 29, 30, 31, 32, 33, 34, 35, 7, 8, 10, 36, 37, 38, 39, 40, 41, 42, 43, 44, 45, 46, 47, 48, 49, 50, 51, 52, 53, 54, 55, 56, 57, 58, 59, 60, 61, 62, 63, 64, 65, 66, 67, 68, 69, 70, 71, 72, 73, 74, 3, 4, 5, 75, 76, 77, 78, 79, 80, 81, 82, 83, 84, 85, 86, 87, 88, 89, 90, 91, 92, 93, 94, 95, 96, 97, 98, 99, 100, 101, 102, 103, 104, 105, 106] (by decide +kernel) (by decide +kernel)
set_option maxRecDepth 20000 in
theorem gX12_makeFail_X12_sweeps : GoodIn wsX12_makeFail (wsV RX12 89 RX12 yX12_sweeps wsX12_sweeps) := goodIn_app (goodIn_of _ (by decide +kernel)) ggX12_makeFail_X12_sweeps
theorem dX12_makeFail_0 : decode cX12_makeFail 0 = .ok (.iconst 0, 1) := by decide +kernel
theorem dX12_makeFail_1 : decode cX12_makeFail 1 = .ok (.istore_n 2, 1) := by decide +kernel
theorem dX12_makeFail_2 : decode cX12_makeFail 2 = .ok (.iload_n 2, 1) := by decide +kernel
theorem dX12_makeFail_3 : decode cX12_makeFail 3 = .ok (.bipush 7, 2) := by decide +kernel
theorem dX12_makeFail_5 : decode cX12_makeFail 5 = .ok (.if_icmp .ge 23, 3) := by decide +kernel
theorem dX12_makeFail_8 : decode cX12_makeFail 8 = .ok (.aload_n 0, 1) := by decide +kernel
theorem dX12_makeFail_9 : decode cX12_makeFail 9 = .ok (.getfield 64, 3) := by decide +kernel
theorem dX12_makeFail_12 : decode cX12_makeFail 12 = .ok (.iload_n 2, 1) := by decide +kernel
theorem dX12_makeFail_13 : decode cX12_makeFail 13 = .ok (.aload_n 0, 1) := by decide +kernel
theorem dX12_makeFail_14 : decode cX12_makeFail 14 = .ok (.getfield 7, 3) := by decide +kernel
theorem dX12_makeFail_17 : decode cX12_makeFail 17 = .ok (.iconst 2, 1) := by decide +kernel
theorem dX12_makeFail_18 : decode cX12_makeFail 18 = .ok (.iload_n 2, 1) := by decide +kernel
theorem dX12_makeFail_19 : decode cX12_makeFail 19 = .ok (.iadd, 1) := by decide +kernel
theorem dX12_makeFail_20 : decode cX12_makeFail 20 = .ok (.iaload, 1) := by decide +kernel
theorem dX12_makeFail_21 : decode cX12_makeFail 21 = .ok (.iastore, 1) := by decide +kernel
theorem dX12_makeFail_22 : decode cX12_makeFail 22 = .ok (.iinc 2 1, 3) := by decide +kernel
theorem dX12_makeFail_25 : decode cX12_makeFail 25 = .ok (.goto (-23), 3) := by decide +kernel
theorem dX12_makeFail_28 : decode cX12_makeFail 28 = .ok (.iconst 0, 1) := by decide +kernel
theorem dX12_makeFail_29 : decode cX12_makeFail 29 = .ok (.istore_n 2, 1) := by decide +kernel
theorem dX12_makeFail_30 : decode cX12_makeFail 30 = .ok (.iload_n 2, 1) := by decide +kernel
theorem dX12_makeFail_31 : decode cX12_makeFail 31 = .ok (.aload_n 0, 1) := by decide +kernel
theorem dX12_makeFail_32 : decode cX12_makeFail 32 = .ok (.getfield 73, 3) := by decide +kernel
theorem dX12_makeFail_35 : decode cX12_makeFail 35 = .ok (.if_icmp .ge 52, 3) := by decide +kernel
theorem dX12_makeFail_38 : decode cX12_makeFail 38 = .ok (.aload_n 0, 1) := by decide +kernel
theorem dX12_makeFail_39 : decode cX12_makeFail 39 = .ok (.getfield 19, 3) := by decide +kernel
theorem dX12_makeFail_42 : decode cX12_makeFail 42 = .ok (.iconst 5, 1) := by decide +kernel
theorem dX12_makeFail_43 : decode cX12_makeFail 43 = .ok (.iload_n 2, 1) := by decide +kernel
theorem dX12_makeFail_44 : decode cX12_makeFail 44 = .ok (.imul, 1) := by decide +kernel
theorem dX12_makeFail_45 : decode cX12_makeFail 45 = .ok (.iconst 3, 1) := by decide +kernel
theorem dX12_makeFail_46 : decode cX12_makeFail 46 = .ok (.iadd, 1) := by decide +kernel
theorem dX12_makeFail_47 : decode cX12_makeFail 47 = .ok (.iaload, 1) := by decide +kernel
theorem dX12_makeFail_48 : decode cX12_makeFail 48 = .ok (.ifCond .ne 39, 3) := by decide +kernel
theorem dX12_makeFail_51 : decode cX12_makeFail 51 = .ok (.aload_n 0, 1) := by decide +kernel
theorem dX12_makeFail_52 : decode cX12_makeFail 52 = .ok (.getfield 64, 3) := by decide +kernel
theorem dX12_makeFail_55 : decode cX12_makeFail 55 = .ok (.aload_n 0, 1) := by decide +kernel
theorem dX12_makeFail_56 : decode cX12_makeFail 56 = .ok (.getfield 19, 3) := by decide +kernel
theorem dX12_makeFail_59 : decode cX12_makeFail 59 = .ok (.iconst 5, 1) := by decide +kernel
theorem dX12_makeFail_60 : decode cX12_makeFail 60 = .ok (.iload_n 2, 1) := by decide +kernel
theorem dX12_makeFail_61 : decode cX12_makeFail 61 = .ok (.imul, 1) := by decide +kernel
theorem dX12_makeFail_62 : decode cX12_makeFail 62 = .ok (.iaload, 1) := by decide +kernel
theorem dX12_makeFail_63 : decode cX12_makeFail 63 = .ok (.dup2, 1) := by decide +kernel
theorem dX12_makeFail_64 : decode cX12_makeFail 64 = .ok (.iaload, 1) := by decide +kernel
theorem dX12_makeFail_65 : decode cX12_makeFail 65 = .ok (.iconst 1, 1) := by decide +kernel
theorem dX12_makeFail_66 : decode cX12_makeFail 66 = .ok (.aload_n 0, 1) := by decide +kernel
theorem dX12_makeFail_67 : decode cX12_makeFail 67 = .ok (.getfield 19, 3) := by decide +kernel
theorem dX12_makeFail_70 : decode cX12_makeFail 70 = .ok (.iconst 5, 1) := by decide +kernel
theorem dX12_makeFail_71 : decode cX12_makeFail 71 = .ok (.iload_n 2, 1) := by decide +kernel
theorem dX12_makeFail_72 : decode cX12_makeFail 72 = .ok (.imul, 1) := by decide +kernel
theorem dX12_makeFail_73 : decode cX12_makeFail 73 = .ok (.iconst 1, 1) := by decide +kernel
theorem dX12_makeFail_74 : decode cX12_makeFail 74 = .ok (.iadd, 1) := by decide +kernel
theorem dX12_makeFail_75 : decode cX12_makeFail 75 = .ok (.iaload, 1) := by decide +kernel
theorem dX12_makeFail_76 : decode cX12_makeFail 76 = .ok (.ishl, 1) := by decide +kernel
theorem dX12_makeFail_77 : decode cX12_makeFail 77 = .ok (.iconst (-1), 1) := by decide +kernel
theorem dX12_makeFail_78 : decode cX12_makeFail 78 = .ok (.ixor, 1) := by decide +kernel
theorem dX12_makeFail_79 : decode cX12_makeFail 79 = .ok (.iand, 1) := by decide +kernel
theorem dX12_makeFail_80 : decode cX12_makeFail 80 = .ok (.iastore, 1) := by decide +kernel
theorem dX12_makeFail_81 : decode cX12_makeFail 81 = .ok (.iinc 2 1, 3) := by decide +kernel
theorem dX12_makeFail_84 : decode cX12_makeFail 84 = .ok (.goto (-54), 3) := by decide +kernel
theorem dX12_makeFail_87 : decode cX12_makeFail 87 = .ok (.iconst 0, 1) := by decide +kernel
theorem dX12_makeFail_88 : decode cX12_makeFail 88 = .ok (.istore_n 2, 1) := by decide +kernel
theorem dX12_makeFail_89 : decode cX12_makeFail 89 = .ok (.iload_n 2, 1) := by decide +kernel
theorem dX12_makeFail_90 : decode cX12_makeFail 90 = .ok (.aload_n 0, 1) := by decide +kernel
theorem dX12_makeFail_91 : decode cX12_makeFail 91 = .ok (.getfield 76, 3) := by decide +kernel
theorem dX12_makeFail_94 : decode cX12_makeFail 94 = .ok (.if_icmp .ge 42, 3) := by decide +kernel
theorem dX12_makeFail_97 : decode cX12_makeFail 97 = .ok (.iload_n 1, 1) := by decide +kernel
theorem dX12_makeFail_98 : decode cX12_makeFail 98 = .ok (.iload_n 2, 1) := by decide +kernel
theorem dX12_makeFail_99 : decode cX12_makeFail 99 = .ok (.invokestatic 178, 3) := by decide +kernel
theorem dX12_makeFail_102 : decode cX12_makeFail 102 = .ok (.ifCond .eq 28, 3) := by decide +kernel
theorem dX12_makeFail_105 : decode cX12_makeFail 105 = .ok (.aload_n 0, 1) := by decide +kernel
theorem dX12_makeFail_106 : decode cX12_makeFail 106 = .ok (.getfield 64, 3) := by decide +kernel
theorem dX12_makeFail_109 : decode cX12_makeFail 109 = .ok (.aload_n 0, 1) := by decide +kernel
theorem dX12_makeFail_110 : decode cX12_makeFail 110 = .ok (.getfield 22, 3) := by decide +kernel
theorem dX12_makeFail_113 : decode cX12_makeFail 113 = .ok (.iconst 2, 1) := by decide +kernel
theorem dX12_makeFail_114 : decode cX12_makeFail 114 = .ok (.iload_n 2, 1) := by decide +kernel
theorem dX12_makeFail_115 : decode cX12_makeFail 115 = .ok (.imul, 1) := by decide +kernel
theorem dX12_makeFail_116 : decode cX12_makeFail 116 = .ok (.iaload, 1) := by decide +kernel
theorem dX12_makeFail_117 : decode cX12_makeFail 117 = .ok (.iconst 1, 1) := by decide +kernel
theorem dX12_makeFail_118 : decode cX12_makeFail 118 = .ok (.aload_n 0, 1) := by decide +kernel
theorem dX12_makeFail_119 : decode cX12_makeFail 119 = .ok (.getfield 22, 3) := by decide +kernel
theorem dX12_makeFail_122 : decode cX12_makeFail 122 = .ok (.iconst 2, 1) := by decide +kernel
theorem dX12_makeFail_123 : decode cX12_makeFail 123 = .ok (.iload_n 2, 1) := by decide +kernel
theorem dX12_makeFail_124 : decode cX12_makeFail 124 = .ok (.imul, 1) := by decide +kernel
theorem dX12_makeFail_125 : decode cX12_makeFail 125 = .ok (.iconst 1, 1) := by decide +kernel
theorem dX12_makeFail_126 : decode cX12_makeFail 126 = .ok (.iadd, 1) := by decide +kernel
theorem dX12_makeFail_127 : decode cX12_makeFail 127 = .ok (.iaload, 1) := by decide +kernel
theorem dX12_makeFail_128 : decode cX12_makeFail 128 = .ok (.ishl, 1) := by decide +kernel
theorem dX12_makeFail_129 : decode cX12_makeFail 129 = .ok (.iastore, 1) := by decide +kernel
theorem dX12_makeFail_130 : decode cX12_makeFail 130 = .ok (.iinc 2 1, 3) := by decide +kernel
theorem dX12_makeFail_133 : decode cX12_makeFail 133 = .ok (.goto (-44), 3) := by decide +kernel
theorem dX12_makeFail_136 : decode cX12_makeFail 136 = .ok (.aload_n 0, 1) := by decide +kernel
theorem dX12_makeFail_137 : decode cX12_makeFail 137 = .ok (.aload_n 0, 1) := by decide +kernel
theorem dX12_makeFail_138 : decode cX12_makeFail 138 = .ok (.getfield 64, 3) := by decide +kernel
theorem dX12_makeFail_141 : decode cX12_makeFail 141 = .ok (.iconst 0, 1) := by decide +kernel
theorem dX12_makeFail_142 : decode cX12_makeFail 142 = .ok (.invokevirtual 89, 3) := by decide +kernel
theorem dX12_makeFail_145 : decode cX12_makeFail 145 = .ok (.ifCond .ne 7, 3) := by decide +kernel
theorem dX12_makeFail_148 : decode cX12_makeFail 148 = .ok (.iconst 1, 1) := by decide +kernel
theorem dX12_makeFail_149 : decode cX12_makeFail 149 = .ok (.goto 4, 3) := by decide +kernel
theorem dX12_makeFail_152 : decode cX12_makeFail 152 = .ok (.iconst 0, 1) := by decide +kernel
theorem dX12_makeFail_153 : decode cX12_makeFail 153 = .ok (.ireturn, 1) := by decide +kernel
set_option maxRecDepth 20000 in
theorem ggX12_learns_X12_makeFail : GoodIn wsX12_learns wsX12_makeFail := goodIn_r _ [11, 12, 13, 14, 15, 1, 2, 16, 17, 10, 18, 19, 20, 21, 22, 3, 4, 23, 24, 25, 26, 27, 28, 29, 30, 31, 32, 33, 34, 35, 36, 37, 38, 39, 40, 41, 42, 43, 44, 45, 46, 47, 48, 49, 50, 51, 52, 53, 54, 55, 56, 57, 58, 59, 60, 61, 62, 63, 64, 65, 66, 67, 68, 69, 70, 71, 72, 73, 74, 75, 76, 77, 78, 79, 80, 85, 86, 87, 88, 89, 90, 91, 92, 93, 94, 95, 96, 97, 98, 99, 100, 101, 102, 103, 104, 105, 106, 107, 108, 109, 110, 111, 112, 113, 114, 115, 116] (by decide +kernel) (by decide +kernel)
set_option maxRecDepth 20000 in
theorem gX12_learns_X12_makeFail : GoodIn wsX12_learns (wsV RX12 337 RX12 yX12_makeFail wsX12_makeFail) := goodIn_app (goodIn_of _ (by decide +kernel)) ggX12_learns_X12_makeFail
set_option maxRecDepth 20000 in
theorem ggX12_learns_X12_has : GoodIn wsX12_learns wsX12_has := goodIn_r _ [18] (by decide +kernel) (by decide +kernel)
set_option maxRecDepth 20000 in
theorem gX12_learns_X12_has : GoodIn wsX12_learns (va_wsS RX12 178 yX12_has wsX12_has) := goodIn_app (goodIn_of _ (by decide +kernel)) ggX12_learns_X12_has
set_option maxRecDepth 20000 in
theorem ggX12_learns_X12_takesBack : GoodIn wsX12_learns wsX12_takesBack := goodIn_r _ [84, 14, 15, 1, 5, 6, 85, 86, 87, 88, 89, 90, 91, 92, 93, 94, 95, 96, 97, 98, 99, 100, 101, 102, 103, 104, 105, 106, 107, 108, 109, 110, 111, 112, 113, 114, 115, 116] (by decide +kernel) (by decide +kernel)
set_option maxRecDepth 20000 in
theorem gX12_learns_X12_takesBack : GoodIn wsX12_learns (wsV RX12 334 RX12 yX12_takesBack wsX12_takesBack) := goodIn_app (goodIn_of _ (by decide +kernel)) ggX12_learns_X12_takesBack
set_option maxRecDepth 20000 in
theorem ggX12_learns_X12_sweeps : GoodIn wsX12_learns wsX12_sweeps := goodIn_r _ [22, 13, 3, 4, 23, 24, 25, 10, 26, 27, 28, 29, 30, 31, 32, 33, 34, 35, 36, 37, 38, 39, 40, 41, 16, 17, 18, 42, 43, 44, 45, 46, 47, 48, 49, 50, 51, 52, 53, 54, 55, 56, 57, 58, 59, 60, 61, 62, 63, 64, 65, 66, 67, 68, 69, 70, 71, 72, 73, 74, 75, 76, 77, 78, 79, 80, 14, 15, 1, 85, 86, 87, 88, 89, 90, 91, 92, 93, 94, 95, 96, 97, 98, 99, 100, 101, 102, 103, 104, 105, 106, 107, 108, 109, 110, 111, 112, 113, 114, 115, 116] (by decide +kernel) (by decide +kernel)
set_option maxRecDepth 20000 in
theorem gX12_learns_X12_sweeps : GoodIn wsX12_learns (wsV RX12 89 RX12 yX12_sweeps wsX12_sweeps) := goodIn_app (goodIn_of _ (by decide +kernel)) ggX12_learns_X12_sweeps
set_option maxRecDepth 20000 in
theorem ggX12_learns_X12_sizeOf : GoodIn wsX12_learns wsX12_sizeOf := goodIn_r _ [65] (by decide +kernel) (by decide +kernel)
set_option maxRecDepth 20000 in
theorem gX12_learns_X12_sizeOf : GoodIn wsX12_learns (va_wsS RX12 214 yX12_sizeOf wsX12_sizeOf) := goodIn_app (goodIn_of _ (by decide +kernel)) ggX12_learns_X12_sizeOf
theorem dX12_learns_0 : decode cX12_learns 0 = .ok (.iconst 1, 1) := by decide +kernel
theorem dX12_learns_1 : decode cX12_learns 1 = .ok (.aload_n 0, 1) := by decide +kernel
theorem dX12_learns_2 : decode cX12_learns 2 = .ok (.getfield 76, 3) := by decide +kernel
theorem dX12_learns_5 : decode cX12_learns 5 = .ok (.ishl, 1) := by decide +kernel
theorem dX12_learns_6 : decode cX12_learns 6 = .ok (.iconst 1, 1) := by decide +kernel
theorem dX12_learns_7 : decode cX12_learns 7 = .ok (.isub, 1) := by decide +kernel
theorem dX12_learns_8 : decode cX12_learns 8 = .ok (.istore_n 1, 1) := by decide +kernel
theorem dX12_learns_9 : decode cX12_learns 9 = .ok (.iconst 0, 1) := by decide +kernel
theorem dX12_learns_10 : decode cX12_learns 10 = .ok (.istore_n 2, 1) := by decide +kernel
theorem dX12_learns_11 : decode cX12_learns 11 = .ok (.iload_n 2, 1) := by decide +kernel
theorem dX12_learns_12 : decode cX12_learns 12 = .ok (.aload_n 0, 1) := by decide +kernel
theorem dX12_learns_13 : decode cX12_learns 13 = .ok (.getfield 76, 3) := by decide +kernel
theorem dX12_learns_16 : decode cX12_learns 16 = .ok (.if_icmp .ge 35, 3) := by decide +kernel
theorem dX12_learns_19 : decode cX12_learns 19 = .ok (.iload_n 1, 1) := by decide +kernel
theorem dX12_learns_20 : decode cX12_learns 20 = .ok (.aload_n 0, 1) := by decide +kernel
theorem dX12_learns_21 : decode cX12_learns 21 = .ok (.iload_n 1, 1) := by decide +kernel
theorem dX12_learns_22 : decode cX12_learns 22 = .ok (.iconst 1, 1) := by decide +kernel
theorem dX12_learns_23 : decode cX12_learns 23 = .ok (.iload_n 2, 1) := by decide +kernel
theorem dX12_learns_24 : decode cX12_learns 24 = .ok (.ishl, 1) := by decide +kernel
theorem dX12_learns_25 : decode cX12_learns 25 = .ok (.iconst (-1), 1) := by decide +kernel
theorem dX12_learns_26 : decode cX12_learns 26 = .ok (.ixor, 1) := by decide +kernel
theorem dX12_learns_27 : decode cX12_learns 27 = .ok (.iand, 1) := by decide +kernel
theorem dX12_learns_28 : decode cX12_learns 28 = .ok (.invokevirtual 337, 3) := by decide +kernel
theorem dX12_learns_31 : decode cX12_learns 31 = .ok (.ifCond .eq 11, 3) := by decide +kernel
theorem dX12_learns_34 : decode cX12_learns 34 = .ok (.iconst 1, 1) := by decide +kernel
theorem dX12_learns_35 : decode cX12_learns 35 = .ok (.iload_n 2, 1) := by decide +kernel
theorem dX12_learns_36 : decode cX12_learns 36 = .ok (.ishl, 1) := by decide +kernel
theorem dX12_learns_37 : decode cX12_learns 37 = .ok (.iconst (-1), 1) := by decide +kernel
theorem dX12_learns_38 : decode cX12_learns 38 = .ok (.ixor, 1) := by decide +kernel
theorem dX12_learns_39 : decode cX12_learns 39 = .ok (.goto 4, 3) := by decide +kernel
theorem dX12_learns_42 : decode cX12_learns 42 = .ok (.iconst (-1), 1) := by decide +kernel
theorem dX12_learns_43 : decode cX12_learns 43 = .ok (.iand, 1) := by decide +kernel
theorem dX12_learns_44 : decode cX12_learns 44 = .ok (.istore_n 1, 1) := by decide +kernel
theorem dX12_learns_45 : decode cX12_learns 45 = .ok (.iinc 2 1, 3) := by decide +kernel
theorem dX12_learns_48 : decode cX12_learns 48 = .ok (.goto (-37), 3) := by decide +kernel
theorem dX12_learns_51 : decode cX12_learns 51 = .ok (.iconst 0, 1) := by decide +kernel
theorem dX12_learns_52 : decode cX12_learns 52 = .ok (.istore_n 2, 1) := by decide +kernel
theorem dX12_learns_53 : decode cX12_learns 53 = .ok (.iconst 0, 1) := by decide +kernel
theorem dX12_learns_54 : decode cX12_learns 54 = .ok (.istore_n 3, 1) := by decide +kernel
theorem dX12_learns_55 : decode cX12_learns 55 = .ok (.iload_n 3, 1) := by decide +kernel
theorem dX12_learns_56 : decode cX12_learns 56 = .ok (.aload_n 0, 1) := by decide +kernel
theorem dX12_learns_57 : decode cX12_learns 57 = .ok (.getfield 76, 3) := by decide +kernel
theorem dX12_learns_60 : decode cX12_learns 60 = .ok (.if_icmp .ge 47, 3) := by decide +kernel
theorem dX12_learns_63 : decode cX12_learns 63 = .ok (.iload_n 2, 1) := by decide +kernel
theorem dX12_learns_64 : decode cX12_learns 64 = .ok (.iload_n 1, 1) := by decide +kernel
theorem dX12_learns_65 : decode cX12_learns 65 = .ok (.iload_n 3, 1) := by decide +kernel
theorem dX12_learns_66 : decode cX12_learns 66 = .ok (.invokestatic 178, 3) := by decide +kernel
theorem dX12_learns_69 : decode cX12_learns 69 = .ok (.ifCond .eq 29, 3) := by decide +kernel
theorem dX12_learns_72 : decode cX12_learns 72 = .ok (.aload_n 0, 1) := by decide +kernel
theorem dX12_learns_73 : decode cX12_learns 73 = .ok (.getfield 22, 3) := by decide +kernel
theorem dX12_learns_76 : decode cX12_learns 76 = .ok (.iconst 2, 1) := by decide +kernel
theorem dX12_learns_77 : decode cX12_learns 77 = .ok (.iload_n 3, 1) := by decide +kernel
theorem dX12_learns_78 : decode cX12_learns 78 = .ok (.imul, 1) := by decide +kernel
theorem dX12_learns_79 : decode cX12_learns 79 = .ok (.iconst 1, 1) := by decide +kernel
theorem dX12_learns_80 : decode cX12_learns 80 = .ok (.iadd, 1) := by decide +kernel
theorem dX12_learns_81 : decode cX12_learns 81 = .ok (.iaload, 1) := by decide +kernel
theorem dX12_learns_82 : decode cX12_learns 82 = .ok (.iconst 1, 1) := by decide +kernel
theorem dX12_learns_83 : decode cX12_learns 83 = .ok (.iadd, 1) := by decide +kernel
theorem dX12_learns_84 : decode cX12_learns 84 = .ok (.iconst 3, 1) := by decide +kernel
theorem dX12_learns_85 : decode cX12_learns 85 = .ok (.aload_n 0, 1) := by decide +kernel
theorem dX12_learns_86 : decode cX12_learns 86 = .ok (.getfield 22, 3) := by decide +kernel
theorem dX12_learns_89 : decode cX12_learns 89 = .ok (.iconst 2, 1) := by decide +kernel
theorem dX12_learns_90 : decode cX12_learns 90 = .ok (.iload_n 3, 1) := by decide +kernel
theorem dX12_learns_91 : decode cX12_learns 91 = .ok (.imul, 1) := by decide +kernel
theorem dX12_learns_92 : decode cX12_learns 92 = .ok (.iaload, 1) := by decide +kernel
theorem dX12_learns_93 : decode cX12_learns 93 = .ok (.imul, 1) := by decide +kernel
theorem dX12_learns_94 : decode cX12_learns 94 = .ok (.ishl, 1) := by decide +kernel
theorem dX12_learns_95 : decode cX12_learns 95 = .ok (.goto 4, 3) := by decide +kernel
theorem dX12_learns_98 : decode cX12_learns 98 = .ok (.iconst 0, 1) := by decide +kernel
theorem dX12_learns_99 : decode cX12_learns 99 = .ok (.ior, 1) := by decide +kernel
theorem dX12_learns_100 : decode cX12_learns 100 = .ok (.istore_n 2, 1) := by decide +kernel
theorem dX12_learns_101 : decode cX12_learns 101 = .ok (.iinc 3 1, 3) := by decide +kernel
theorem dX12_learns_104 : decode cX12_learns 104 = .ok (.goto (-49), 3) := by decide +kernel
theorem dX12_learns_107 : decode cX12_learns 107 = .ok (.aload_n 0, 1) := by decide +kernel
theorem dX12_learns_108 : decode cX12_learns 108 = .ok (.getfield 79, 3) := by decide +kernel
theorem dX12_learns_111 : decode cX12_learns 111 = .ok (.bipush 12, 2) := by decide +kernel
theorem dX12_learns_113 : decode cX12_learns 113 = .ok (.if_icmp .ne 43, 3) := by decide +kernel
theorem dX12_learns_116 : decode cX12_learns 116 = .ok (.aload_n 0, 1) := by decide +kernel
theorem dX12_learns_117 : decode cX12_learns 117 = .ok (.dup, 1) := by decide +kernel
theorem dX12_learns_118 : decode cX12_learns 118 = .ok (.getfield 79, 3) := by decide +kernel
theorem dX12_learns_121 : decode cX12_learns 121 = .ok (.iconst 1, 1) := by decide +kernel
theorem dX12_learns_122 : decode cX12_learns 122 = .ok (.isub, 1) := by decide +kernel
theorem dX12_learns_123 : decode cX12_learns 123 = .ok (.putfield 79, 3) := by decide +kernel
theorem dX12_learns_126 : decode cX12_learns 126 = .ok (.iconst 0, 1) := by decide +kernel
theorem dX12_learns_127 : decode cX12_learns 127 = .ok (.istore_n 3, 1) := by decide +kernel
theorem dX12_learns_128 : decode cX12_learns 128 = .ok (.iload_n 3, 1) := by decide +kernel
theorem dX12_learns_129 : decode cX12_learns 129 = .ok (.aload_n 0, 1) := by decide +kernel
theorem dX12_learns_130 : decode cX12_learns 130 = .ok (.getfield 79, 3) := by decide +kernel
theorem dX12_learns_133 : decode cX12_learns 133 = .ok (.if_icmp .ge 23, 3) := by decide +kernel
theorem dX12_learns_136 : decode cX12_learns 136 = .ok (.aload_n 0, 1) := by decide +kernel
theorem dX12_learns_137 : decode cX12_learns 137 = .ok (.getfield 25, 3) := by decide +kernel
theorem dX12_learns_140 : decode cX12_learns 140 = .ok (.iload_n 3, 1) := by decide +kernel
theorem dX12_learns_141 : decode cX12_learns 141 = .ok (.aload_n 0, 1) := by decide +kernel
theorem dX12_learns_142 : decode cX12_learns 142 = .ok (.getfield 25, 3) := by decide +kernel
theorem dX12_learns_145 : decode cX12_learns 145 = .ok (.iload_n 3, 1) := by decide +kernel
theorem dX12_learns_146 : decode cX12_learns 146 = .ok (.iconst 1, 1) := by decide +kernel
theorem dX12_learns_147 : decode cX12_learns 147 = .ok (.iadd, 1) := by decide +kernel
theorem dX12_learns_148 : decode cX12_learns 148 = .ok (.iaload, 1) := by decide +kernel
theorem dX12_learns_149 : decode cX12_learns 149 = .ok (.iastore, 1) := by decide +kernel
theorem dX12_learns_150 : decode cX12_learns 150 = .ok (.iinc 3 1, 3) := by decide +kernel
theorem dX12_learns_153 : decode cX12_learns 153 = .ok (.goto (-25), 3) := by decide +kernel
theorem dX12_learns_156 : decode cX12_learns 156 = .ok (.aload_n 0, 1) := by decide +kernel
theorem dX12_learns_157 : decode cX12_learns 157 = .ok (.getfield 25, 3) := by decide +kernel
theorem dX12_learns_160 : decode cX12_learns 160 = .ok (.aload_n 0, 1) := by decide +kernel
theorem dX12_learns_161 : decode cX12_learns 161 = .ok (.getfield 79, 3) := by decide +kernel
theorem dX12_learns_164 : decode cX12_learns 164 = .ok (.iload_n 2, 1) := by decide +kernel
theorem dX12_learns_165 : decode cX12_learns 165 = .ok (.iastore, 1) := by decide +kernel
theorem dX12_learns_166 : decode cX12_learns 166 = .ok (.aload_n 0, 1) := by decide +kernel
theorem dX12_learns_167 : decode cX12_learns 167 = .ok (.dup, 1) := by decide +kernel
theorem dX12_learns_168 : decode cX12_learns 168 = .ok (.getfield 79, 3) := by decide +kernel
theorem dX12_learns_171 : decode cX12_learns 171 = .ok (.iconst 1, 1) := by decide +kernel
theorem dX12_learns_172 : decode cX12_learns 172 = .ok (.iadd, 1) := by decide +kernel
theorem dX12_learns_173 : decode cX12_learns 173 = .ok (.putfield 79, 3) := by decide +kernel
theorem dX12_learns_176 : decode cX12_learns 176 = .ok (.aload_n 0, 1) := by decide +kernel
theorem dX12_learns_177 : decode cX12_learns 177 = .ok (.invokevirtual 334, 3) := by decide +kernel
theorem dX12_learns_180 : decode cX12_learns 180 = .ok (.istore_n 3, 1) := by decide +kernel
theorem dX12_learns_181 : decode cX12_learns 181 = .ok (.aload_n 0, 1) := by decide +kernel
theorem dX12_learns_182 : decode cX12_learns 182 = .ok (.aload_n 0, 1) := by decide +kernel
theorem dX12_learns_183 : decode cX12_learns 183 = .ok (.aload_n 0, 1) := by decide +kernel
theorem dX12_learns_184 : decode cX12_learns 184 = .ok (.getfield 16, 3) := by decide +kernel
theorem dX12_learns_187 : decode cX12_learns 187 = .ok (.iconst 1, 1) := by decide +kernel
theorem dX12_learns_188 : decode cX12_learns 188 = .ok (.invokevirtual 89, 3) := by decide +kernel
theorem dX12_learns_191 : decode cX12_learns 191 = .ok (.ifCond .ne 7, 3) := by decide +kernel
theorem dX12_learns_194 : decode cX12_learns 194 = .ok (.iconst 1, 1) := by decide +kernel
theorem dX12_learns_195 : decode cX12_learns 195 = .ok (.goto 4, 3) := by decide +kernel
theorem dX12_learns_198 : decode cX12_learns 198 = .ok (.iconst 0, 1) := by decide +kernel
theorem dX12_learns_199 : decode cX12_learns 199 = .ok (.putfield 85, 3) := by decide +kernel
theorem dX12_learns_202 : decode cX12_learns 202 = .ok (.iload_n 3, 1) := by decide +kernel
theorem dX12_learns_203 : decode cX12_learns 203 = .ok (.ifCond .ge 7, 3) := by decide +kernel
theorem dX12_learns_206 : decode cX12_learns 206 = .ok (.iconst (-1), 1) := by decide +kernel
theorem dX12_learns_207 : decode cX12_learns 207 = .ok (.goto 7, 3) := by decide +kernel
theorem dX12_learns_210 : decode cX12_learns 210 = .ok (.iload_n 1, 1) := by decide +kernel
theorem dX12_learns_211 : decode cX12_learns 211 = .ok (.invokestatic 214, 3) := by decide +kernel
theorem dX12_learns_214 : decode cX12_learns 214 = .ok (.ireturn, 1) := by decide +kernel
set_option maxRecDepth 20000 in
theorem ggX12_learn_X12_may : GoodIn wsX12_learn wsX12_may := goodIn_r _ [8, 1, 94, 95, 96, 97, 98, 99, 100, 101, 102, 103, 104, 105, 106, 107, 108, 109, 110, 111, 112, 113, 114, 115, 116, 117, 118, 119, 120, 121, 122, 123, 124, 125] (by decide +kernel) (by decide +kernel)
set_option maxRecDepth 20000 in
theorem gX12_learn_X12_may : GoodIn wsX12_learn (wsV RX12 96 RX12 yX12_may wsX12_may) := goodIn_app (goodIn_of _ (by decide +kernel)) ggX12_learn_X12_may
set_option maxRecDepth 20000 in
theorem ggX12_learn_X12_learns : GoodIn wsX12_learn wsX12_learns := goodIn_r _ [12, 3, 13, 14, 15, 16, 2, 17, 18, 19, 7, 20, 21, 22, 23, 24, 25, 26, 27, 28, 29, 30, 31, 32, 33, 34, 35, 36, 37, 38, 39, 40, 41, 42, 43, 44, 45, 46, 47, 48, 49, 50, 51, 52, 53, 54, 55, 56, 57, 58, 59, 60, 61, 62, 63, 64, 65, 66, 67, 68, 69, 70, 71, 72, 73, 74, 75, 76, 77, 78, 79, 80, 81, 82, 83, 84, 85, 86, 87, 88, 89, 90, 91, 92, 93, 94, 95, 96, 97, 98, 99, 100, 101, 102, 103, 104, 105, 106, 107, 108, 109, 110, 111, 112, 113, 114, 115, 116, 117, 118, 119, 120, 121, 122, 123, 124, 125] (by decide +kernel) (by decide +kernel)
set_option maxRecDepth 20000 in
theorem gX12_learn_X12_learns : GoodIn wsX12_learn (wsV RX12 340 RX12 yX12_learns wsX12_learns) := goodIn_app (goodIn_of _ (by decide +kernel)) ggX12_learn_X12_learns
theorem dX12_learn_0 : decode cX12_learn 0 = .ok (.aload_n 0, 1) := by decide +kernel
theorem dX12_learn_1 : decode cX12_learn 1 = .ok (.iconst 0, 1) := by decide +kernel
theorem dX12_learn_2 : decode cX12_learn 2 = .ok (.putfield 70, 3) := by decide +kernel
theorem dX12_learn_5 : decode cX12_learn 5 = .ok (.aload_n 0, 1) := by decide +kernel
theorem dX12_learn_6 : decode cX12_learn 6 = .ok (.aload_n 0, 1) := by decide +kernel
theorem dX12_learn_7 : decode cX12_learn 7 = .ok (.getfield 85, 3) := by decide +kernel
theorem dX12_learn_10 : decode cX12_learn 10 = .ok (.ifCond .eq 14, 3) := by decide +kernel
theorem dX12_learn_13 : decode cX12_learn 13 = .ok (.aload_n 0, 1) := by decide +kernel
theorem dX12_learn_14 : decode cX12_learn 14 = .ok (.getfield 76, 3) := by decide +kernel
theorem dX12_learn_17 : decode cX12_learn 17 = .ok (.ifCond .le 7, 3) := by decide +kernel
theorem dX12_learn_20 : decode cX12_learn 20 = .ok (.iconst 1, 1) := by decide +kernel
theorem dX12_learn_21 : decode cX12_learn 21 = .ok (.goto 4, 3) := by decide +kernel
theorem dX12_learn_24 : decode cX12_learn 24 = .ok (.iconst 0, 1) := by decide +kernel
theorem dX12_learn_25 : decode cX12_learn 25 = .ok (.iconst 1, 1) := by decide +kernel
theorem dX12_learn_26 : decode cX12_learn 26 = .ok (.invokevirtual 96, 3) := by decide +kernel
theorem dX12_learn_29 : decode cX12_learn 29 = .ok (.ifCond .eq 10, 3) := by decide +kernel
theorem dX12_learn_32 : decode cX12_learn 32 = .ok (.aload_n 0, 1) := by decide +kernel
theorem dX12_learn_33 : decode cX12_learn 33 = .ok (.invokevirtual 340, 3) := by decide +kernel
theorem dX12_learn_36 : decode cX12_learn 36 = .ok (.goto 4, 3) := by decide +kernel
theorem dX12_learn_39 : decode cX12_learn 39 = .ok (.iconst 0, 1) := by decide +kernel
theorem dX12_learn_40 : decode cX12_learn 40 = .ok (.ireturn, 1) := by decide +kernel
set_option maxRecDepth 20000 in
theorem ggX12_learnt_X12_isIn : GoodIn wsX12_learnt wsX12_isIn := goodIn_r _ [7] (by decide +kernel) (by decide +kernel)
set_option maxRecDepth 20000 in
theorem gX12_learnt_X12_isIn : GoodIn wsX12_learnt (va_wsS RX12 100 yX12_isIn wsX12_isIn) := goodIn_app (goodIn_of _ (by decide +kernel)) ggX12_learnt_X12_isIn
set_option maxRecDepth 20000 in
theorem ggX12_learnt_X12_may : GoodIn wsX12_learnt wsX12_may := goodIn_r _ [11, 1, 28, 29, 30, 31, 32, 33, 34, 35, 36, 37, 38, 39, 40, 41, 42, 43, 44, 45, 46, 47, 48, 49, 50, 51, 52, 53, 54, 55, 56, 57, 58, 59] (by decide +kernel) (by decide +kernel)
set_option maxRecDepth 20000 in
theorem gX12_learnt_X12_may : GoodIn wsX12_learnt (wsV RX12 96 RX12 yX12_may wsX12_may) := goodIn_app (goodIn_of _ (by decide +kernel)) ggX12_learnt_X12_may
set_option maxRecDepth 20000 in
theorem ggX12_learnt_X12_manyIn : GoodIn wsX12_learnt wsX12_manyIn := goodIn_r _ [15, 16, 17, 18, 6, 19, 20, 21, 22, 23, 28, 29, 30, 31, 32, 33, 34, 35, 36, 37, 38, 39, 40, 41, 42, 43, 44, 45, 46, 47, 48, 49, 50, 51, 52, 53, 54, 55, 56, 57, 58, 59] (by decide +kernel) (by decide +kernel)
set_option maxRecDepth 20000 in
theorem gX12_learnt_X12_manyIn : GoodIn wsX12_learnt (wsV RX12 236 RX12 yX12_manyIn wsX12_manyIn) := goodIn_app (goodIn_of _ (by decide +kernel)) ggX12_learnt_X12_manyIn
set_option maxRecDepth 20000 in
theorem ggX12_learnt_X12_memberOf : GoodIn wsX12_learnt wsX12_memberOf := goodIn_r _ [27, 16, 17, 18, 6, 19, 20, 21, 22, 23, 28, 29, 30, 31, 32, 33, 34, 35, 36, 37, 38, 39, 40, 41, 42, 43, 44, 45, 46, 47, 48, 49, 50, 51, 52, 53, 54, 55, 56, 57, 58, 59] (by decide +kernel) (by decide +kernel)
set_option maxRecDepth 20000 in
theorem gX12_learnt_X12_memberOf : GoodIn wsX12_learnt (wsV RX12 239 RX12 yX12_memberOf wsX12_memberOf) := goodIn_app (goodIn_of _ (by decide +kernel)) ggX12_learnt_X12_memberOf
set_option maxRecDepth 20000 in
theorem ggX12_learnt_X12_valueIn : GoodIn wsX12_learnt wsX12_valueIn := goodIn_r _ [23] (by decide +kernel) (by decide +kernel)
set_option maxRecDepth 20000 in
theorem gX12_learnt_X12_valueIn : GoodIn wsX12_learnt (va_wsS RX12 208 yX12_valueIn wsX12_valueIn) := goodIn_app (goodIn_of _ (by decide +kernel)) ggX12_learnt_X12_valueIn
theorem dX12_learnt_0 : decode cX12_learnt 0 = .ok (.aload_n 0, 1) := by decide +kernel
theorem dX12_learnt_1 : decode cX12_learnt 1 = .ok (.iconst 0, 1) := by decide +kernel
theorem dX12_learnt_2 : decode cX12_learnt 2 = .ok (.putfield 70, 3) := by decide +kernel
theorem dX12_learnt_5 : decode cX12_learnt 5 = .ok (.aload_n 0, 1) := by decide +kernel
theorem dX12_learnt_6 : decode cX12_learnt 6 = .ok (.iload_n 1, 1) := by decide +kernel
theorem dX12_learnt_7 : decode cX12_learnt 7 = .ok (.iconst 0, 1) := by decide +kernel
theorem dX12_learnt_8 : decode cX12_learnt 8 = .ok (.aload_n 0, 1) := by decide +kernel
theorem dX12_learnt_9 : decode cX12_learnt 9 = .ok (.getfield 79, 3) := by decide +kernel
theorem dX12_learnt_12 : decode cX12_learnt 12 = .ok (.iconst 1, 1) := by decide +kernel
theorem dX12_learnt_13 : decode cX12_learnt 13 = .ok (.isub, 1) := by decide +kernel
theorem dX12_learnt_14 : decode cX12_learnt 14 = .ok (.invokestatic 100, 3) := by decide +kernel
theorem dX12_learnt_17 : decode cX12_learnt 17 = .ok (.iconst 1, 1) := by decide +kernel
theorem dX12_learnt_18 : decode cX12_learnt 18 = .ok (.invokevirtual 96, 3) := by decide +kernel
theorem dX12_learnt_21 : decode cX12_learnt 21 = .ok (.ifCond .eq 46, 3) := by decide +kernel
theorem dX12_learnt_24 : decode cX12_learnt 24 = .ok (.aload_n 0, 1) := by decide +kernel
theorem dX12_learnt_25 : decode cX12_learnt 25 = .ok (.aload_n 0, 1) := by decide +kernel
theorem dX12_learnt_26 : decode cX12_learnt 26 = .ok (.getfield 25, 3) := by decide +kernel
theorem dX12_learnt_29 : decode cX12_learnt 29 = .ok (.iload_n 1, 1) := by decide +kernel
theorem dX12_learnt_30 : decode cX12_learnt 30 = .ok (.iaload, 1) := by decide +kernel
theorem dX12_learnt_31 : decode cX12_learnt 31 = .ok (.ifCond .le 28, 3) := by decide +kernel
theorem dX12_learnt_34 : decode cX12_learnt 34 = .ok (.iload_n 2, 1) := by decide +kernel
theorem dX12_learnt_35 : decode cX12_learnt 35 = .ok (.iconst 0, 1) := by decide +kernel
theorem dX12_learnt_36 : decode cX12_learnt 36 = .ok (.aload_n 0, 1) := by decide +kernel
theorem dX12_learnt_37 : decode cX12_learnt 37 = .ok (.aload_n 0, 1) := by decide +kernel
theorem dX12_learnt_38 : decode cX12_learnt 38 = .ok (.getfield 25, 3) := by decide +kernel
theorem dX12_learnt_41 : decode cX12_learnt 41 = .ok (.iload_n 1, 1) := by decide +kernel
theorem dX12_learnt_42 : decode cX12_learnt 42 = .ok (.iaload, 1) := by decide +kernel
theorem dX12_learnt_43 : decode cX12_learnt 43 = .ok (.ineg, 1) := by decide +kernel
theorem dX12_learnt_44 : decode cX12_learnt 44 = .ok (.invokevirtual 236, 3) := by decide +kernel
theorem dX12_learnt_47 : decode cX12_learnt 47 = .ok (.iconst 1, 1) := by decide +kernel
theorem dX12_learnt_48 : decode cX12_learnt 48 = .ok (.isub, 1) := by decide +kernel
theorem dX12_learnt_49 : decode cX12_learnt 49 = .ok (.invokestatic 100, 3) := by decide +kernel
theorem dX12_learnt_52 : decode cX12_learnt 52 = .ok (.ifCond .eq 7, 3) := by decide +kernel
theorem dX12_learnt_55 : decode cX12_learnt 55 = .ok (.iconst 1, 1) := by decide +kernel
theorem dX12_learnt_56 : decode cX12_learnt 56 = .ok (.goto 4, 3) := by decide +kernel
theorem dX12_learnt_59 : decode cX12_learnt 59 = .ok (.iconst 0, 1) := by decide +kernel
theorem dX12_learnt_60 : decode cX12_learnt 60 = .ok (.iconst 1, 1) := by decide +kernel
theorem dX12_learnt_61 : decode cX12_learnt 61 = .ok (.invokevirtual 96, 3) := by decide +kernel
theorem dX12_learnt_64 : decode cX12_learnt 64 = .ok (.ifCond .ne 5, 3) := by decide +kernel
theorem dX12_learnt_67 : decode cX12_learnt 67 = .ok (.iconst 0, 1) := by decide +kernel
theorem dX12_learnt_68 : decode cX12_learnt 68 = .ok (.ireturn, 1) := by decide +kernel
theorem dX12_learnt_69 : decode cX12_learnt 69 = .ok (.aload_n 0, 1) := by decide +kernel
theorem dX12_learnt_70 : decode cX12_learnt 70 = .ok (.aload_n 0, 1) := by decide +kernel
theorem dX12_learnt_71 : decode cX12_learnt 71 = .ok (.getfield 25, 3) := by decide +kernel
theorem dX12_learnt_74 : decode cX12_learnt 74 = .ok (.iload_n 1, 1) := by decide +kernel
theorem dX12_learnt_75 : decode cX12_learnt 75 = .ok (.iaload, 1) := by decide +kernel
theorem dX12_learnt_76 : decode cX12_learnt 76 = .ok (.ineg, 1) := by decide +kernel
theorem dX12_learnt_77 : decode cX12_learnt 77 = .ok (.iload_n 2, 1) := by decide +kernel
theorem dX12_learnt_78 : decode cX12_learnt 78 = .ok (.invokevirtual 239, 3) := by decide +kernel
theorem dX12_learnt_81 : decode cX12_learnt 81 = .ok (.istore_n 3, 1) := by decide +kernel
theorem dX12_learnt_82 : decode cX12_learnt 82 = .ok (.bipush 10, 2) := by decide +kernel
theorem dX12_learnt_84 : decode cX12_learnt 84 = .ok (.iload_n 3, 1) := by decide +kernel
theorem dX12_learnt_85 : decode cX12_learnt 85 = .ok (.imul, 1) := by decide +kernel
theorem dX12_learnt_86 : decode cX12_learnt 86 = .ok (.aload_n 0, 1) := by decide +kernel
theorem dX12_learnt_87 : decode cX12_learnt 87 = .ok (.getfield 25, 3) := by decide +kernel
theorem dX12_learnt_90 : decode cX12_learnt 90 = .ok (.iload_n 1, 1) := by decide +kernel
theorem dX12_learnt_91 : decode cX12_learnt 91 = .ok (.iaload, 1) := by decide +kernel
theorem dX12_learnt_92 : decode cX12_learnt 92 = .ok (.iload_n 3, 1) := by decide +kernel
theorem dX12_learnt_93 : decode cX12_learnt 93 = .ok (.invokestatic 208, 3) := by decide +kernel
theorem dX12_learnt_96 : decode cX12_learnt 96 = .ok (.iadd, 1) := by decide +kernel
theorem dX12_learnt_97 : decode cX12_learnt 97 = .ok (.ireturn, 1) := by decide +kernel
set_option maxRecDepth 20000 in
theorem ggX12_chosen_X12_sizeOf : GoodIn wsX12_chosen wsX12_sizeOf := goodIn_r _ [6] (by decide +kernel) (by decide +kernel)
set_option maxRecDepth 20000 in
theorem gX12_chosen_X12_sizeOf : GoodIn wsX12_chosen (va_wsS RX12 214 yX12_sizeOf wsX12_sizeOf) := goodIn_app (goodIn_of _ (by decide +kernel)) ggX12_chosen_X12_sizeOf
theorem dX12_chosen_0 : decode cX12_chosen 0 = .ok (.iconst (-1), 1) := by decide +kernel
theorem dX12_chosen_1 : decode cX12_chosen 1 = .ok (.istore_n 1, 1) := by decide +kernel
theorem dX12_chosen_2 : decode cX12_chosen 2 = .ok (.iconst 0, 1) := by decide +kernel
theorem dX12_chosen_3 : decode cX12_chosen 3 = .ok (.istore_n 2, 1) := by decide +kernel
theorem dX12_chosen_4 : decode cX12_chosen 4 = .ok (.iload_n 2, 1) := by decide +kernel
theorem dX12_chosen_5 : decode cX12_chosen 5 = .ok (.aload_n 0, 1) := by decide +kernel
theorem dX12_chosen_6 : decode cX12_chosen 6 = .ok (.getfield 7, 3) := by decide +kernel
theorem dX12_chosen_9 : decode cX12_chosen 9 = .ok (.iconst 0, 1) := by decide +kernel
theorem dX12_chosen_10 : decode cX12_chosen 10 = .ok (.iaload, 1) := by decide +kernel
theorem dX12_chosen_11 : decode cX12_chosen 11 = .ok (.if_icmp .ge 44, 3) := by decide +kernel
theorem dX12_chosen_14 : decode cX12_chosen 14 = .ok (.aload_n 0, 1) := by decide +kernel
theorem dX12_chosen_15 : decode cX12_chosen 15 = .ok (.getfield 16, 3) := by decide +kernel
theorem dX12_chosen_18 : decode cX12_chosen 18 = .ok (.iload_n 2, 1) := by decide +kernel
theorem dX12_chosen_19 : decode cX12_chosen 19 = .ok (.iaload, 1) := by decide +kernel
theorem dX12_chosen_20 : decode cX12_chosen 20 = .ok (.invokestatic 214, 3) := by decide +kernel
theorem dX12_chosen_23 : decode cX12_chosen 23 = .ok (.istore_n 3, 1) := by decide +kernel
theorem dX12_chosen_24 : decode cX12_chosen 24 = .ok (.iload_n 3, 1) := by decide +kernel
theorem dX12_chosen_25 : decode cX12_chosen 25 = .ok (.iconst 1, 1) := by decide +kernel
theorem dX12_chosen_26 : decode cX12_chosen 26 = .ok (.if_icmp .le 23, 3) := by decide +kernel
theorem dX12_chosen_29 : decode cX12_chosen 29 = .ok (.iload_n 1, 1) := by decide +kernel
theorem dX12_chosen_30 : decode cX12_chosen 30 = .ok (.iconst (-1), 1) := by decide +kernel
theorem dX12_chosen_31 : decode cX12_chosen 31 = .ok (.if_icmp .eq 16, 3) := by decide +kernel
theorem dX12_chosen_34 : decode cX12_chosen 34 = .ok (.iload_n 3, 1) := by decide +kernel
theorem dX12_chosen_35 : decode cX12_chosen 35 = .ok (.aload_n 0, 1) := by decide +kernel
theorem dX12_chosen_36 : decode cX12_chosen 36 = .ok (.getfield 16, 3) := by decide +kernel
theorem dX12_chosen_39 : decode cX12_chosen 39 = .ok (.iload_n 1, 1) := by decide +kernel
theorem dX12_chosen_40 : decode cX12_chosen 40 = .ok (.iaload, 1) := by decide +kernel
theorem dX12_chosen_41 : decode cX12_chosen 41 = .ok (.invokestatic 214, 3) := by decide +kernel
theorem dX12_chosen_44 : decode cX12_chosen 44 = .ok (.if_icmp .ge 5, 3) := by decide +kernel
theorem dX12_chosen_47 : decode cX12_chosen 47 = .ok (.iload_n 2, 1) := by decide +kernel
theorem dX12_chosen_48 : decode cX12_chosen 48 = .ok (.istore_n 1, 1) := by decide +kernel
theorem dX12_chosen_49 : decode cX12_chosen 49 = .ok (.iinc 2 1, 3) := by decide +kernel
theorem dX12_chosen_52 : decode cX12_chosen 52 = .ok (.goto (-48), 3) := by decide +kernel
theorem dX12_chosen_55 : decode cX12_chosen 55 = .ok (.iload_n 1, 1) := by decide +kernel
theorem dX12_chosen_56 : decode cX12_chosen 56 = .ok (.ireturn, 1) := by decide +kernel
set_option maxRecDepth 20000 in
theorem ggX12_search_X12_isIn : GoodIn wsX12_search wsX12_isIn := goodIn_r _ [9] (by decide +kernel) (by decide +kernel)
set_option maxRecDepth 20000 in
theorem gX12_search_X12_isIn : GoodIn wsX12_search (va_wsS RX12 100 yX12_isIn wsX12_isIn) := goodIn_app (goodIn_of _ (by decide +kernel)) ggX12_search_X12_isIn
set_option maxRecDepth 20000 in
theorem ggX12_search_X12_may : GoodIn wsX12_search wsX12_may := goodIn_r _ [13, 1, 110, 111, 112, 113, 114, 115, 116, 117, 118, 119, 120, 121, 122, 123, 124, 125, 126, 127, 128, 129, 130, 131, 132, 133, 134, 135, 136, 137, 138, 139, 140, 141] (by decide +kernel) (by decide +kernel)
set_option maxRecDepth 20000 in
theorem gX12_search_X12_may : GoodIn wsX12_search (wsV RX12 96 RX12 yX12_may wsX12_may) := goodIn_app (goodIn_of _ (by decide +kernel)) ggX12_search_X12_may
set_option maxRecDepth 20000 in
theorem ggX12_search_X12_learns : GoodIn wsX12_search wsX12_learns := goodIn_r _ [17, 3, 18, 19, 20, 5, 2, 21, 22, 23, 8, 24, 25, 26, 27, 28, 29, 30, 31, 32, 33, 34, 35, 36, 37, 38, 39, 40, 41, 42, 43, 44, 45, 46, 47, 48, 49, 50, 51, 52, 53, 54, 55, 56, 57, 58, 59, 60, 61, 62, 63, 64, 65, 66, 67, 68, 69, 70, 71, 72, 73, 74, 75, 76, 77, 78, 6, 7, 9, 79, 80, 81, 82, 83, 84, 85, 86, 87, 88, 89, 90, 91, 92, 93, 94, 110, 111, 112, 113, 114, 115, 116, 117, 118, 119, 120, 121, 122, 123, 124, 125, 126, 127, 128, 129, 130, 131, 132, 133, 134, 135, 136, 137, 138, 139, 140, 141] (by decide +kernel) (by decide +kernel)
set_option maxRecDepth 20000 in
theorem gX12_search_X12_learns : GoodIn wsX12_search (wsV RX12 340 RX12 yX12_learns wsX12_learns) := goodIn_app (goodIn_of _ (by decide +kernel)) ggX12_search_X12_learns
set_option maxRecDepth 20000 in
theorem ggX12_search_X12_chosen : GoodIn wsX12_search wsX12_chosen := goodIn_r _ [98, 26, 5, 76, 77, 8, 78, 110, 111, 112, 113, 114, 115, 116, 117, 118, 119, 120, 121, 122, 123, 124, 125, 126, 127, 128, 129, 130, 131, 132, 133, 134, 135, 136, 137, 138, 139, 140, 141] (by decide +kernel) (by decide +kernel)
set_option maxRecDepth 20000 in
theorem gX12_search_X12_chosen : GoodIn wsX12_search (wsV RX12 343 RX12 yX12_chosen wsX12_chosen) := goodIn_app (goodIn_of _ (by decide +kernel)) ggX12_search_X12_chosen
set_option maxRecDepth 20000 in
theorem ggX12_search_X12_onlyOf : GoodIn wsX12_search wsX12_onlyOf := goodIn_r _ [101, 29, 30, 8, 31] (by decide +kernel) (by decide +kernel)
set_option maxRecDepth 20000 in
theorem gX12_search_X12_onlyOf : GoodIn wsX12_search (va_wsS RX12 291 yX12_onlyOf wsX12_onlyOf) := goodIn_app (goodIn_of _ (by decide +kernel)) ggX12_search_X12_onlyOf
set_option maxRecDepth 20000 in
theorem ggX12_search_X12_decides : GoodIn wsX12_search wsX12_decides := goodIn_r _ [105, 27, 18, 3, 5, 2, 29, 30, 8, 31, 87, 88, 89, 90, 28, 32, 33, 34, 35, 26, 19, 20, 36, 37, 38, 39, 40, 41, 42, 43, 44, 45, 46, 47, 48, 49, 50, 51, 52, 53, 54, 55, 56, 57, 58, 59, 60, 61, 62, 63, 64, 65, 66, 67, 68, 69, 70, 71, 72, 73, 74, 75, 76, 77, 78, 6, 7, 9, 79, 80, 81, 82, 83, 84, 85, 86, 106, 107, 108, 109, 110, 111, 112, 113, 114, 115, 116, 117, 118, 119, 120, 121, 122, 123, 124, 125, 126, 127, 128, 129, 130, 131, 132, 133, 134, 135, 136, 137, 138, 139, 140, 141] (by decide +kernel) (by decide +kernel)
set_option maxRecDepth 20000 in
theorem gX12_search_X12_decides : GoodIn wsX12_search (wsV RX12 331 RX12 yX12_decides wsX12_decides) := goodIn_app (goodIn_of _ (by decide +kernel)) ggX12_search_X12_decides
theorem dX12_search_0 : decode cX12_search 0 = .ok (.aload_n 0, 1) := by decide +kernel
theorem dX12_search_1 : decode cX12_search 1 = .ok (.iconst 0, 1) := by decide +kernel
theorem dX12_search_2 : decode cX12_search 2 = .ok (.putfield 70, 3) := by decide +kernel
theorem dX12_search_5 : decode cX12_search 5 = .ok (.aload_n 0, 1) := by decide +kernel
theorem dX12_search_6 : decode cX12_search 6 = .ok (.iload_n 1, 1) := by decide +kernel
theorem dX12_search_7 : decode cX12_search 7 = .ok (.iconst 1, 1) := by decide +kernel
theorem dX12_search_8 : decode cX12_search 8 = .ok (.bipush 100, 2) := by decide +kernel
theorem dX12_search_10 : decode cX12_search 10 = .ok (.invokestatic 100, 3) := by decide +kernel
theorem dX12_search_13 : decode cX12_search 13 = .ok (.iconst 1, 1) := by decide +kernel
theorem dX12_search_14 : decode cX12_search 14 = .ok (.invokevirtual 96, 3) := by decide +kernel
theorem dX12_search_17 : decode cX12_search 17 = .ok (.ifCond .ne 5, 3) := by decide +kernel
theorem dX12_search_20 : decode cX12_search 20 = .ok (.iconst 0, 1) := by decide +kernel
theorem dX12_search_21 : decode cX12_search 21 = .ok (.ireturn, 1) := by decide +kernel
theorem dX12_search_22 : decode cX12_search 22 = .ok (.iconst 0, 1) := by decide +kernel
theorem dX12_search_23 : decode cX12_search 23 = .ok (.istore_n 2, 1) := by decide +kernel
theorem dX12_search_24 : decode cX12_search 24 = .ok (.aload_n 0, 1) := by decide +kernel
theorem dX12_search_25 : decode cX12_search 25 = .ok (.getfield 85, 3) := by decide +kernel
theorem dX12_search_28 : decode cX12_search 28 = .ok (.ifCond .eq 20, 3) := by decide +kernel
theorem dX12_search_31 : decode cX12_search 31 = .ok (.aload_n 0, 1) := by decide +kernel
theorem dX12_search_32 : decode cX12_search 32 = .ok (.getfield 76, 3) := by decide +kernel
theorem dX12_search_35 : decode cX12_search 35 = .ok (.ifCond .ne 5, 3) := by decide +kernel
theorem dX12_search_38 : decode cX12_search 38 = .ok (.iconst (-1), 1) := by decide +kernel
theorem dX12_search_39 : decode cX12_search 39 = .ok (.ireturn, 1) := by decide +kernel
theorem dX12_search_40 : decode cX12_search 40 = .ok (.aload_n 0, 1) := by decide +kernel
theorem dX12_search_41 : decode cX12_search 41 = .ok (.invokevirtual 340, 3) := by decide +kernel
theorem dX12_search_44 : decode cX12_search 44 = .ok (.istore_n 3, 1) := by decide +kernel
theorem dX12_search_45 : decode cX12_search 45 = .ok (.goto (-21), 3) := by decide +kernel
theorem dX12_search_48 : decode cX12_search 48 = .ok (.aload_n 0, 1) := by decide +kernel
theorem dX12_search_49 : decode cX12_search 49 = .ok (.invokevirtual 343, 3) := by decide +kernel
theorem dX12_search_52 : decode cX12_search 52 = .ok (.istore_n 3, 1) := by decide +kernel
theorem dX12_search_53 : decode cX12_search 53 = .ok (.iload_n 3, 1) := by decide +kernel
theorem dX12_search_54 : decode cX12_search 54 = .ok (.iconst (-1), 1) := by decide +kernel
theorem dX12_search_55 : decode cX12_search 55 = .ok (.if_icmp .ne 5, 3) := by decide +kernel
theorem dX12_search_58 : decode cX12_search 58 = .ok (.iconst 1, 1) := by decide +kernel
theorem dX12_search_59 : decode cX12_search 59 = .ok (.ireturn, 1) := by decide +kernel
theorem dX12_search_60 : decode cX12_search 60 = .ok (.iload_n 2, 1) := by decide +kernel
theorem dX12_search_61 : decode cX12_search 61 = .ok (.iload_n 1, 1) := by decide +kernel
theorem dX12_search_62 : decode cX12_search 62 = .ok (.if_icmp .ne 5, 3) := by decide +kernel
theorem dX12_search_65 : decode cX12_search 65 = .ok (.iconst 0, 1) := by decide +kernel
theorem dX12_search_66 : decode cX12_search 66 = .ok (.ireturn, 1) := by decide +kernel
theorem dX12_search_67 : decode cX12_search 67 = .ok (.iinc 2 1, 3) := by decide +kernel
theorem dX12_search_70 : decode cX12_search 70 = .ok (.aload_n 0, 1) := by decide +kernel
theorem dX12_search_71 : decode cX12_search 71 = .ok (.dup, 1) := by decide +kernel
theorem dX12_search_72 : decode cX12_search 72 = .ok (.getfield 82, 3) := by decide +kernel
theorem dX12_search_75 : decode cX12_search 75 = .ok (.iconst 1, 1) := by decide +kernel
theorem dX12_search_76 : decode cX12_search 76 = .ok (.iadd, 1) := by decide +kernel
theorem dX12_search_77 : decode cX12_search 77 = .ok (.putfield 82, 3) := by decide +kernel
theorem dX12_search_80 : decode cX12_search 80 = .ok (.aload_n 0, 1) := by decide +kernel
theorem dX12_search_81 : decode cX12_search 81 = .ok (.iload_n 3, 1) := by decide +kernel
theorem dX12_search_82 : decode cX12_search 82 = .ok (.aload_n 0, 1) := by decide +kernel
theorem dX12_search_83 : decode cX12_search 83 = .ok (.getfield 16, 3) := by decide +kernel
theorem dX12_search_86 : decode cX12_search 86 = .ok (.iload_n 3, 1) := by decide +kernel
theorem dX12_search_87 : decode cX12_search 87 = .ok (.iaload, 1) := by decide +kernel
theorem dX12_search_88 : decode cX12_search 88 = .ok (.invokestatic 291, 3) := by decide +kernel
theorem dX12_search_91 : decode cX12_search 91 = .ok (.invokevirtual 331, 3) := by decide +kernel
theorem dX12_search_94 : decode cX12_search 94 = .ok (.istore 4, 2) := by decide +kernel
theorem dX12_search_96 : decode cX12_search 96 = .ok (.goto (-72), 3) := by decide +kernel
set_option maxRecDepth 20000 in
theorem ggX12_restart_X12_takesBack : GoodIn wsX12_restart wsX12_takesBack := goodIn_r _ [8, 9, 10, 2, 11, 12, 13, 14, 15, 16, 17, 18, 19, 20, 21, 22, 23, 24, 25, 26, 27, 28, 29, 30, 31, 32, 33, 34, 35, 36, 37, 38, 39, 40, 41, 42, 43, 44] (by decide +kernel) (by decide +kernel)
set_option maxRecDepth 20000 in
theorem gX12_restart_X12_takesBack : GoodIn wsX12_restart (wsV RX12 334 RX12 yX12_takesBack wsX12_takesBack) := goodIn_app (goodIn_of _ (by decide +kernel)) ggX12_restart_X12_takesBack
theorem dX12_restart_0 : decode cX12_restart 0 = .ok (.aload_n 0, 1) := by decide +kernel
theorem dX12_restart_1 : decode cX12_restart 1 = .ok (.iconst 0, 1) := by decide +kernel
theorem dX12_restart_2 : decode cX12_restart 2 = .ok (.putfield 70, 3) := by decide +kernel
theorem dX12_restart_5 : decode cX12_restart 5 = .ok (.aload_n 0, 1) := by decide +kernel
theorem dX12_restart_6 : decode cX12_restart 6 = .ok (.getfield 76, 3) := by decide +kernel
theorem dX12_restart_9 : decode cX12_restart 9 = .ok (.istore_n 1, 1) := by decide +kernel
theorem dX12_restart_10 : decode cX12_restart 10 = .ok (.aload_n 0, 1) := by decide +kernel
theorem dX12_restart_11 : decode cX12_restart 11 = .ok (.getfield 76, 3) := by decide +kernel
theorem dX12_restart_14 : decode cX12_restart 14 = .ok (.ifCond .le 11, 3) := by decide +kernel
theorem dX12_restart_17 : decode cX12_restart 17 = .ok (.aload_n 0, 1) := by decide +kernel
theorem dX12_restart_18 : decode cX12_restart 18 = .ok (.invokevirtual 334, 3) := by decide +kernel
theorem dX12_restart_21 : decode cX12_restart 21 = .ok (.istore_n 2, 1) := by decide +kernel
theorem dX12_restart_22 : decode cX12_restart 22 = .ok (.goto (-12), 3) := by decide +kernel
theorem dX12_restart_25 : decode cX12_restart 25 = .ok (.aload_n 0, 1) := by decide +kernel
theorem dX12_restart_26 : decode cX12_restart 26 = .ok (.iconst 0, 1) := by decide +kernel
theorem dX12_restart_27 : decode cX12_restart 27 = .ok (.putfield 79, 3) := by decide +kernel
theorem dX12_restart_30 : decode cX12_restart 30 = .ok (.iload_n 1, 1) := by decide +kernel
theorem dX12_restart_31 : decode cX12_restart 31 = .ok (.ireturn, 1) := by decide +kernel
theorem dJ6_bitCount_0f7a4_0 : decode cJ6_bitCount_0f7a4 0 = .ok (.iload_n 0, 1) := by decide +kernel
theorem dJ6_bitCount_0f7a4_1 : decode cJ6_bitCount_0f7a4 1 = .ok (.iload_n 0, 1) := by decide +kernel
theorem dJ6_bitCount_0f7a4_2 : decode cJ6_bitCount_0f7a4 2 = .ok (.iconst 1, 1) := by decide +kernel
theorem dJ6_bitCount_0f7a4_3 : decode cJ6_bitCount_0f7a4 3 = .ok (.iushr, 1) := by decide +kernel
theorem dJ6_bitCount_0f7a4_4 : decode cJ6_bitCount_0f7a4 4 = .ok (.ldc_w 265, 3) := by decide +kernel
theorem dJ6_bitCount_0f7a4_7 : decode cJ6_bitCount_0f7a4 7 = .ok (.iand, 1) := by decide +kernel
theorem dJ6_bitCount_0f7a4_8 : decode cJ6_bitCount_0f7a4 8 = .ok (.isub, 1) := by decide +kernel
theorem dJ6_bitCount_0f7a4_9 : decode cJ6_bitCount_0f7a4 9 = .ok (.istore_n 0, 1) := by decide +kernel
theorem dJ6_bitCount_0f7a4_10 : decode cJ6_bitCount_0f7a4 10 = .ok (.iload_n 0, 1) := by decide +kernel
theorem dJ6_bitCount_0f7a4_11 : decode cJ6_bitCount_0f7a4 11 = .ok (.ldc_w 266, 3) := by decide +kernel
theorem dJ6_bitCount_0f7a4_14 : decode cJ6_bitCount_0f7a4 14 = .ok (.iand, 1) := by decide +kernel
theorem dJ6_bitCount_0f7a4_15 : decode cJ6_bitCount_0f7a4 15 = .ok (.iload_n 0, 1) := by decide +kernel
theorem dJ6_bitCount_0f7a4_16 : decode cJ6_bitCount_0f7a4 16 = .ok (.iconst 2, 1) := by decide +kernel
theorem dJ6_bitCount_0f7a4_17 : decode cJ6_bitCount_0f7a4 17 = .ok (.iushr, 1) := by decide +kernel
theorem dJ6_bitCount_0f7a4_18 : decode cJ6_bitCount_0f7a4 18 = .ok (.ldc_w 266, 3) := by decide +kernel
theorem dJ6_bitCount_0f7a4_21 : decode cJ6_bitCount_0f7a4 21 = .ok (.iand, 1) := by decide +kernel
theorem dJ6_bitCount_0f7a4_22 : decode cJ6_bitCount_0f7a4 22 = .ok (.iadd, 1) := by decide +kernel
theorem dJ6_bitCount_0f7a4_23 : decode cJ6_bitCount_0f7a4 23 = .ok (.istore_n 0, 1) := by decide +kernel
theorem dJ6_bitCount_0f7a4_24 : decode cJ6_bitCount_0f7a4 24 = .ok (.iload_n 0, 1) := by decide +kernel
theorem dJ6_bitCount_0f7a4_25 : decode cJ6_bitCount_0f7a4 25 = .ok (.iload_n 0, 1) := by decide +kernel
theorem dJ6_bitCount_0f7a4_26 : decode cJ6_bitCount_0f7a4 26 = .ok (.iconst 4, 1) := by decide +kernel
theorem dJ6_bitCount_0f7a4_27 : decode cJ6_bitCount_0f7a4 27 = .ok (.iushr, 1) := by decide +kernel
theorem dJ6_bitCount_0f7a4_28 : decode cJ6_bitCount_0f7a4 28 = .ok (.iadd, 1) := by decide +kernel
theorem dJ6_bitCount_0f7a4_29 : decode cJ6_bitCount_0f7a4 29 = .ok (.ldc_w 267, 3) := by decide +kernel
theorem dJ6_bitCount_0f7a4_32 : decode cJ6_bitCount_0f7a4 32 = .ok (.iand, 1) := by decide +kernel
theorem dJ6_bitCount_0f7a4_33 : decode cJ6_bitCount_0f7a4 33 = .ok (.istore_n 0, 1) := by decide +kernel
theorem dJ6_bitCount_0f7a4_34 : decode cJ6_bitCount_0f7a4 34 = .ok (.iload_n 0, 1) := by decide +kernel
theorem dJ6_bitCount_0f7a4_35 : decode cJ6_bitCount_0f7a4 35 = .ok (.iload_n 0, 1) := by decide +kernel
theorem dJ6_bitCount_0f7a4_36 : decode cJ6_bitCount_0f7a4 36 = .ok (.bipush 8, 2) := by decide +kernel
theorem dJ6_bitCount_0f7a4_38 : decode cJ6_bitCount_0f7a4 38 = .ok (.iushr, 1) := by decide +kernel
theorem dJ6_bitCount_0f7a4_39 : decode cJ6_bitCount_0f7a4 39 = .ok (.iadd, 1) := by decide +kernel
theorem dJ6_bitCount_0f7a4_40 : decode cJ6_bitCount_0f7a4 40 = .ok (.istore_n 0, 1) := by decide +kernel
theorem dJ6_bitCount_0f7a4_41 : decode cJ6_bitCount_0f7a4 41 = .ok (.iload_n 0, 1) := by decide +kernel
theorem dJ6_bitCount_0f7a4_42 : decode cJ6_bitCount_0f7a4 42 = .ok (.iload_n 0, 1) := by decide +kernel
theorem dJ6_bitCount_0f7a4_43 : decode cJ6_bitCount_0f7a4 43 = .ok (.bipush 16, 2) := by decide +kernel
theorem dJ6_bitCount_0f7a4_45 : decode cJ6_bitCount_0f7a4 45 = .ok (.iushr, 1) := by decide +kernel
theorem dJ6_bitCount_0f7a4_46 : decode cJ6_bitCount_0f7a4 46 = .ok (.iadd, 1) := by decide +kernel
theorem dJ6_bitCount_0f7a4_47 : decode cJ6_bitCount_0f7a4 47 = .ok (.istore_n 0, 1) := by decide +kernel
theorem dJ6_bitCount_0f7a4_48 : decode cJ6_bitCount_0f7a4 48 = .ok (.iload_n 0, 1) := by decide +kernel
theorem dJ6_bitCount_0f7a4_49 : decode cJ6_bitCount_0f7a4 49 = .ok (.bipush 63, 2) := by decide +kernel
theorem dJ6_bitCount_0f7a4_51 : decode cJ6_bitCount_0f7a4 51 = .ok (.iand, 1) := by decide +kernel
theorem dJ6_bitCount_0f7a4_52 : decode cJ6_bitCount_0f7a4 52 = .ok (.ireturn, 1) := by decide +kernel
theorem dJ13_bitCount_95d88_0 : decode cJ13_bitCount_95d88 0 = .ok (.lload_n 0, 1) := by decide +kernel
theorem dJ13_bitCount_95d88_1 : decode cJ13_bitCount_95d88 1 = .ok (.lload_n 0, 1) := by decide +kernel
theorem dJ13_bitCount_95d88_2 : decode cJ13_bitCount_95d88 2 = .ok (.iconst 1, 1) := by decide +kernel
theorem dJ13_bitCount_95d88_3 : decode cJ13_bitCount_95d88 3 = .ok (.lushr, 1) := by decide +kernel
theorem dJ13_bitCount_95d88_4 : decode cJ13_bitCount_95d88 4 = .ok (.ldc2_w 314, 3) := by decide +kernel
theorem dJ13_bitCount_95d88_7 : decode cJ13_bitCount_95d88 7 = .ok (.land, 1) := by decide +kernel
theorem dJ13_bitCount_95d88_8 : decode cJ13_bitCount_95d88 8 = .ok (.lsub, 1) := by decide +kernel
theorem dJ13_bitCount_95d88_9 : decode cJ13_bitCount_95d88 9 = .ok (.lstore_n 0, 1) := by decide +kernel
theorem dJ13_bitCount_95d88_10 : decode cJ13_bitCount_95d88 10 = .ok (.lload_n 0, 1) := by decide +kernel
theorem dJ13_bitCount_95d88_11 : decode cJ13_bitCount_95d88 11 = .ok (.ldc2_w 316, 3) := by decide +kernel
theorem dJ13_bitCount_95d88_14 : decode cJ13_bitCount_95d88 14 = .ok (.land, 1) := by decide +kernel
theorem dJ13_bitCount_95d88_15 : decode cJ13_bitCount_95d88 15 = .ok (.lload_n 0, 1) := by decide +kernel
theorem dJ13_bitCount_95d88_16 : decode cJ13_bitCount_95d88 16 = .ok (.iconst 2, 1) := by decide +kernel
theorem dJ13_bitCount_95d88_17 : decode cJ13_bitCount_95d88 17 = .ok (.lushr, 1) := by decide +kernel
theorem dJ13_bitCount_95d88_18 : decode cJ13_bitCount_95d88 18 = .ok (.ldc2_w 316, 3) := by decide +kernel
theorem dJ13_bitCount_95d88_21 : decode cJ13_bitCount_95d88 21 = .ok (.land, 1) := by decide +kernel
theorem dJ13_bitCount_95d88_22 : decode cJ13_bitCount_95d88 22 = .ok (.ladd, 1) := by decide +kernel
theorem dJ13_bitCount_95d88_23 : decode cJ13_bitCount_95d88 23 = .ok (.lstore_n 0, 1) := by decide +kernel
theorem dJ13_bitCount_95d88_24 : decode cJ13_bitCount_95d88 24 = .ok (.lload_n 0, 1) := by decide +kernel
theorem dJ13_bitCount_95d88_25 : decode cJ13_bitCount_95d88 25 = .ok (.lload_n 0, 1) := by decide +kernel
theorem dJ13_bitCount_95d88_26 : decode cJ13_bitCount_95d88 26 = .ok (.iconst 4, 1) := by decide +kernel
theorem dJ13_bitCount_95d88_27 : decode cJ13_bitCount_95d88 27 = .ok (.lushr, 1) := by decide +kernel
theorem dJ13_bitCount_95d88_28 : decode cJ13_bitCount_95d88 28 = .ok (.ladd, 1) := by decide +kernel
theorem dJ13_bitCount_95d88_29 : decode cJ13_bitCount_95d88 29 = .ok (.ldc2_w 318, 3) := by decide +kernel
theorem dJ13_bitCount_95d88_32 : decode cJ13_bitCount_95d88 32 = .ok (.land, 1) := by decide +kernel
theorem dJ13_bitCount_95d88_33 : decode cJ13_bitCount_95d88 33 = .ok (.lstore_n 0, 1) := by decide +kernel
theorem dJ13_bitCount_95d88_34 : decode cJ13_bitCount_95d88 34 = .ok (.lload_n 0, 1) := by decide +kernel
theorem dJ13_bitCount_95d88_35 : decode cJ13_bitCount_95d88 35 = .ok (.lload_n 0, 1) := by decide +kernel
theorem dJ13_bitCount_95d88_36 : decode cJ13_bitCount_95d88 36 = .ok (.bipush 8, 2) := by decide +kernel
theorem dJ13_bitCount_95d88_38 : decode cJ13_bitCount_95d88 38 = .ok (.lushr, 1) := by decide +kernel
theorem dJ13_bitCount_95d88_39 : decode cJ13_bitCount_95d88 39 = .ok (.ladd, 1) := by decide +kernel
theorem dJ13_bitCount_95d88_40 : decode cJ13_bitCount_95d88 40 = .ok (.lstore_n 0, 1) := by decide +kernel
theorem dJ13_bitCount_95d88_41 : decode cJ13_bitCount_95d88 41 = .ok (.lload_n 0, 1) := by decide +kernel
theorem dJ13_bitCount_95d88_42 : decode cJ13_bitCount_95d88 42 = .ok (.lload_n 0, 1) := by decide +kernel
theorem dJ13_bitCount_95d88_43 : decode cJ13_bitCount_95d88 43 = .ok (.bipush 16, 2) := by decide +kernel
theorem dJ13_bitCount_95d88_45 : decode cJ13_bitCount_95d88 45 = .ok (.lushr, 1) := by decide +kernel
theorem dJ13_bitCount_95d88_46 : decode cJ13_bitCount_95d88 46 = .ok (.ladd, 1) := by decide +kernel
theorem dJ13_bitCount_95d88_47 : decode cJ13_bitCount_95d88 47 = .ok (.lstore_n 0, 1) := by decide +kernel
theorem dJ13_bitCount_95d88_48 : decode cJ13_bitCount_95d88 48 = .ok (.lload_n 0, 1) := by decide +kernel
theorem dJ13_bitCount_95d88_49 : decode cJ13_bitCount_95d88 49 = .ok (.lload_n 0, 1) := by decide +kernel
theorem dJ13_bitCount_95d88_50 : decode cJ13_bitCount_95d88 50 = .ok (.bipush 32, 2) := by decide +kernel
theorem dJ13_bitCount_95d88_52 : decode cJ13_bitCount_95d88 52 = .ok (.lushr, 1) := by decide +kernel
theorem dJ13_bitCount_95d88_53 : decode cJ13_bitCount_95d88 53 = .ok (.ladd, 1) := by decide +kernel
theorem dJ13_bitCount_95d88_54 : decode cJ13_bitCount_95d88 54 = .ok (.lstore_n 0, 1) := by decide +kernel
theorem dJ13_bitCount_95d88_55 : decode cJ13_bitCount_95d88 55 = .ok (.lload_n 0, 1) := by decide +kernel
theorem dJ13_bitCount_95d88_56 : decode cJ13_bitCount_95d88 56 = .ok (.l2i, 1) := by decide +kernel
theorem dJ13_bitCount_95d88_57 : decode cJ13_bitCount_95d88 57 = .ok (.bipush 127, 2) := by decide +kernel
theorem dJ13_bitCount_95d88_59 : decode cJ13_bitCount_95d88 59 = .ok (.iand, 1) := by decide +kernel
theorem dJ13_bitCount_95d88_60 : decode cJ13_bitCount_95d88 60 = .ok (.ireturn, 1) := by decide +kernel
theorem dJ9_max_7cf53_0 : decode cJ9_max_7cf53 0 = .ok (.iload_n 0, 1) := by decide +kernel
theorem dJ9_max_7cf53_1 : decode cJ9_max_7cf53 1 = .ok (.iload_n 1, 1) := by decide +kernel
theorem dJ9_max_7cf53_2 : decode cJ9_max_7cf53 2 = .ok (.if_icmp .lt 7, 3) := by decide +kernel
theorem dJ9_max_7cf53_5 : decode cJ9_max_7cf53 5 = .ok (.iload_n 0, 1) := by decide +kernel
theorem dJ9_max_7cf53_6 : decode cJ9_max_7cf53 6 = .ok (.goto 4, 3) := by decide +kernel
theorem dJ9_max_7cf53_9 : decode cJ9_max_7cf53 9 = .ok (.iload_n 1, 1) := by decide +kernel
theorem dJ9_max_7cf53_10 : decode cJ9_max_7cf53 10 = .ok (.ireturn, 1) := by decide +kernel
theorem dJ9_min_7cf53_0 : decode cJ9_min_7cf53 0 = .ok (.iload_n 0, 1) := by decide +kernel
theorem dJ9_min_7cf53_1 : decode cJ9_min_7cf53 1 = .ok (.iload_n 1, 1) := by decide +kernel
theorem dJ9_min_7cf53_2 : decode cJ9_min_7cf53 2 = .ok (.if_icmp .gt 7, 3) := by decide +kernel
theorem dJ9_min_7cf53_5 : decode cJ9_min_7cf53 5 = .ok (.iload_n 0, 1) := by decide +kernel
theorem dJ9_min_7cf53_6 : decode cJ9_min_7cf53 6 = .ok (.goto 4, 3) := by decide +kernel
theorem dJ9_min_7cf53_9 : decode cJ9_min_7cf53 9 = .ok (.iload_n 1, 1) := by decide +kernel
theorem dJ9_min_7cf53_10 : decode cJ9_min_7cf53 10 = .ok (.ireturn, 1) := by decide +kernel
set_option maxRecDepth 20000 in
theorem ggJ0_length_8abf5_J0_coder_7d493 : GoodIn wsJ0_length_8abf5 wsJ0_coder_7d493 := goodIn_r _ [6, 7, 8] (by decide +kernel) (by decide +kernel)
set_option maxRecDepth 20000 in
theorem gJ0_length_8abf5_J0_coder_7d493 : GoodIn wsJ0_length_8abf5 (wsV RJ0 335 RJ0 yJ0_coder_7d493 wsJ0_coder_7d493) := goodIn_app (goodIn_of _ (by decide +kernel)) ggJ0_length_8abf5_J0_coder_7d493
theorem dJ0_length_8abf5_0 : decode cJ0_length_8abf5 0 = .ok (.aload_n 0, 1) := by decide +kernel
theorem dJ0_length_8abf5_1 : decode cJ0_length_8abf5 1 = .ok (.getfield 9, 3) := by decide +kernel
theorem dJ0_length_8abf5_4 : decode cJ0_length_8abf5 4 = .ok (.arraylength, 1) := by decide +kernel
theorem dJ0_length_8abf5_5 : decode cJ0_length_8abf5 5 = .ok (.aload_n 0, 1) := by decide +kernel
theorem dJ0_length_8abf5_6 : decode cJ0_length_8abf5 6 = .ok (.invokevirtual 335, 3) := by decide +kernel
theorem dJ0_length_8abf5_9 : decode cJ0_length_8abf5 9 = .ok (.ishr, 1) := by decide +kernel
theorem dJ0_length_8abf5_10 : decode cJ0_length_8abf5 10 = .ok (.ireturn, 1) := by decide +kernel
set_option maxRecDepth 20000 in
theorem ggJ0_charAt_5068e_J0_isLatin1_aae02 : GoodIn wsJ0_charAt_5068e wsJ0_isLatin1_aae02 := goodIn_r _ [6, 7, 8] (by decide +kernel) (by decide +kernel)
set_option maxRecDepth 20000 in
theorem gJ0_charAt_5068e_J0_isLatin1_aae02 : GoodIn wsJ0_charAt_5068e (wsV RJ0 492 RJ0 yJ0_isLatin1_aae02 wsJ0_isLatin1_aae02) := goodIn_app (goodIn_of _ (by decide +kernel)) ggJ0_charAt_5068e_J0_isLatin1_aae02
set_option maxRecDepth 20000 in
theorem ggJ0_charAt_5068e_J1_charAt_3b067 : GoodIn wsJ0_charAt_5068e wsJ1_charAt_3b067 := goodIn_r _ [12, 13, 14, 5, 15, 16, 17, 18, 19, 20] (by decide +kernel) (by decide +kernel)
set_option maxRecDepth 20000 in
theorem gJ0_charAt_5068e_J1_charAt_3b067 : GoodIn wsJ0_charAt_5068e (va_wsS RJ0 495 yJ1_charAt_3b067 wsJ1_charAt_3b067) := goodIn_app (goodIn_of _ (by decide +kernel)) ggJ0_charAt_5068e_J1_charAt_3b067
set_option maxRecDepth 20000 in
theorem ggJ0_charAt_5068e_J2_charAt_3b067 : GoodIn wsJ0_charAt_5068e wsJ2_charAt_3b067 := goodIn_r _ [24, 25, 26, 23, 27, 28, 29, 30, 31, 14, 5, 15, 16, 17, 18, 19, 20, 32, 33, 34, 35, 36, 37] (by decide +kernel) (by decide +kernel)
set_option maxRecDepth 20000 in
theorem gJ0_charAt_5068e_J2_charAt_3b067 : GoodIn wsJ0_charAt_5068e (va_wsS RJ0 498 yJ2_charAt_3b067 wsJ2_charAt_3b067) := goodIn_app (goodIn_of _ (by decide +kernel)) ggJ0_charAt_5068e_J2_charAt_3b067
theorem dJ0_charAt_5068e_0 : decode cJ0_charAt_5068e 0 = .ok (.aload_n 0, 1) := by decide +kernel
theorem dJ0_charAt_5068e_1 : decode cJ0_charAt_5068e 1 = .ok (.invokevirtual 492, 3) := by decide +kernel
theorem dJ0_charAt_5068e_4 : decode cJ0_charAt_5068e 4 = .ok (.ifCond .eq 12, 3) := by decide +kernel
theorem dJ0_charAt_5068e_7 : decode cJ0_charAt_5068e 7 = .ok (.aload_n 0, 1) := by decide +kernel
theorem dJ0_charAt_5068e_8 : decode cJ0_charAt_5068e 8 = .ok (.getfield 9, 3) := by decide +kernel
theorem dJ0_charAt_5068e_11 : decode cJ0_charAt_5068e 11 = .ok (.iload_n 1, 1) := by decide +kernel
theorem dJ0_charAt_5068e_12 : decode cJ0_charAt_5068e 12 = .ok (.invokestatic 495, 3) := by decide +kernel
theorem dJ0_charAt_5068e_15 : decode cJ0_charAt_5068e 15 = .ok (.ireturn, 1) := by decide +kernel
theorem dJ0_charAt_5068e_16 : decode cJ0_charAt_5068e 16 = .ok (.aload_n 0, 1) := by decide +kernel
theorem dJ0_charAt_5068e_17 : decode cJ0_charAt_5068e 17 = .ok (.getfield 9, 3) := by decide +kernel
theorem dJ0_charAt_5068e_20 : decode cJ0_charAt_5068e 20 = .ok (.iload_n 1, 1) := by decide +kernel
theorem dJ0_charAt_5068e_21 : decode cJ0_charAt_5068e 21 = .ok (.invokestatic 498, 3) := by decide +kernel
theorem dJ0_charAt_5068e_24 : decode cJ0_charAt_5068e 24 = .ok (.ireturn, 1) := by decide +kernel
theorem dJ0_coder_7d493_0 : decode cJ0_coder_7d493 0 = .ok (.getstatic 38, 3) := by decide +kernel
theorem dJ0_coder_7d493_3 : decode cJ0_coder_7d493 3 = .ok (.ifCond .eq 10, 3) := by decide +kernel
theorem dJ0_coder_7d493_6 : decode cJ0_coder_7d493 6 = .ok (.aload_n 0, 1) := by decide +kernel
theorem dJ0_coder_7d493_7 : decode cJ0_coder_7d493 7 = .ok (.getfield 15, 3) := by decide +kernel
theorem dJ0_coder_7d493_10 : decode cJ0_coder_7d493 10 = .ok (.goto 4, 3) := by decide +kernel
theorem dJ0_coder_7d493_13 : decode cJ0_coder_7d493 13 = .ok (.iconst 1, 1) := by decide +kernel
theorem dJ0_coder_7d493_14 : decode cJ0_coder_7d493 14 = .ok (.ireturn, 1) := by decide +kernel
theorem dJ0_isLatin1_aae02_0 : decode cJ0_isLatin1_aae02 0 = .ok (.getstatic 38, 3) := by decide +kernel
theorem dJ0_isLatin1_aae02_3 : decode cJ0_isLatin1_aae02 3 = .ok (.ifCond .eq 14, 3) := by decide +kernel
theorem dJ0_isLatin1_aae02_6 : decode cJ0_isLatin1_aae02 6 = .ok (.aload_n 0, 1) := by decide +kernel
theorem dJ0_isLatin1_aae02_7 : decode cJ0_isLatin1_aae02 7 = .ok (.getfield 15, 3) := by decide +kernel
theorem dJ0_isLatin1_aae02_10 : decode cJ0_isLatin1_aae02 10 = .ok (.ifCond .ne 7, 3) := by decide +kernel
theorem dJ0_isLatin1_aae02_13 : decode cJ0_isLatin1_aae02 13 = .ok (.iconst 1, 1) := by decide +kernel
theorem dJ0_isLatin1_aae02_14 : decode cJ0_isLatin1_aae02 14 = .ok (.goto 4, 3) := by decide +kernel
theorem dJ0_isLatin1_aae02_17 : decode cJ0_isLatin1_aae02 17 = .ok (.iconst 0, 1) := by decide +kernel
theorem dJ0_isLatin1_aae02_18 : decode cJ0_isLatin1_aae02 18 = .ok (.ireturn, 1) := by decide +kernel
set_option maxRecDepth 20000 in
theorem ggJ0_checkIndex_df160_J3_checkIndex_8e157 : GoodIn wsJ0_checkIndex_df160 wsJ3_checkIndex_8e157 := goodIn_r _ [5] (by decide +kernel) (by decide +kernel)
set_option maxRecDepth 20000 in
theorem gJ0_checkIndex_df160_J3_checkIndex_8e157 : GoodIn wsJ0_checkIndex_df160 (va_wsS RJ0 1059 yJ3_checkIndex_8e157 wsJ3_checkIndex_8e157) := goodIn_app (goodIn_of _ (by decide +kernel)) ggJ0_checkIndex_df160_J3_checkIndex_8e157
theorem dJ0_checkIndex_df160_0 : decode cJ0_checkIndex_df160 0 = .ok (.iload_n 0, 1) := by decide +kernel
theorem dJ0_checkIndex_df160_1 : decode cJ0_checkIndex_df160 1 = .ok (.iload_n 1, 1) := by decide +kernel
theorem dJ0_checkIndex_df160_2 : decode cJ0_checkIndex_df160 2 = .ok (.getstatic 1053, 3) := by decide +kernel
theorem dJ0_checkIndex_df160_5 : decode cJ0_checkIndex_df160 5 = .ok (.invokestatic 1059, 3) := by decide +kernel
theorem dJ0_checkIndex_df160_8 : decode cJ0_checkIndex_df160 8 = .ok (.pop, 1) := by decide +kernel
theorem dJ0_checkIndex_df160_9 : decode cJ0_checkIndex_df160 9 = .ok (.return_, 1) := by decide +kernel
set_option maxRecDepth 20000 in
theorem ggJ1_charAt_3b067_J0_checkIndex_df160 : GoodIn wsJ1_charAt_3b067 wsJ0_checkIndex_df160 := goodIn_r _ [4, 5, 6, 7, 8, 9] (by decide +kernel) (by decide +kernel)
set_option maxRecDepth 20000 in
theorem gJ1_charAt_3b067_J0_checkIndex_df160 : GoodIn wsJ1_charAt_3b067 (va_wsS RJ1 9 yJ0_checkIndex_df160 wsJ0_checkIndex_df160) := goodIn_app (goodIn_of _ (by decide +kernel)) ggJ1_charAt_3b067_J0_checkIndex_df160
theorem dJ1_charAt_3b067_0 : decode cJ1_charAt_3b067 0 = .ok (.iload_n 1, 1) := by decide +kernel
theorem dJ1_charAt_3b067_1 : decode cJ1_charAt_3b067 1 = .ok (.aload_n 0, 1) := by decide +kernel
theorem dJ1_charAt_3b067_2 : decode cJ1_charAt_3b067 2 = .ok (.arraylength, 1) := by decide +kernel
theorem dJ1_charAt_3b067_3 : decode cJ1_charAt_3b067 3 = .ok (.invokestatic 9, 3) := by decide +kernel
theorem dJ1_charAt_3b067_6 : decode cJ1_charAt_3b067 6 = .ok (.aload_n 0, 1) := by decide +kernel
theorem dJ1_charAt_3b067_7 : decode cJ1_charAt_3b067 7 = .ok (.iload_n 1, 1) := by decide +kernel
theorem dJ1_charAt_3b067_8 : decode cJ1_charAt_3b067 8 = .ok (.baload, 1) := by decide +kernel
theorem dJ1_charAt_3b067_9 : decode cJ1_charAt_3b067 9 = .ok (.sipush 255, 3) := by decide +kernel
theorem dJ1_charAt_3b067_12 : decode cJ1_charAt_3b067 12 = .ok (.iand, 1) := by decide +kernel
theorem dJ1_charAt_3b067_13 : decode cJ1_charAt_3b067 13 = .ok (.i2c, 1) := by decide +kernel
theorem dJ1_charAt_3b067_14 : decode cJ1_charAt_3b067 14 = .ok (.ireturn, 1) := by decide +kernel
set_option maxRecDepth 20000 in
theorem ggJ2_getChar_3b067_J2_length_9d52b : GoodIn wsJ2_getChar_3b067 wsJ2_length_9d52b := goodIn_r _ [7] (by decide +kernel) (by decide +kernel)
set_option maxRecDepth 20000 in
theorem gJ2_getChar_3b067_J2_length_9d52b : GoodIn wsJ2_getChar_3b067 (va_wsS RJ2 48 yJ2_length_9d52b wsJ2_length_9d52b) := goodIn_app (goodIn_of _ (by decide +kernel)) ggJ2_getChar_3b067_J2_length_9d52b
theorem dJ2_getChar_3b067_0 : decode cJ2_getChar_3b067 0 = .ok (.getstatic 44, 3) := by decide +kernel
theorem dJ2_getChar_3b067_3 : decode cJ2_getChar_3b067 3 = .ok (.ifCond .ne 25, 3) := by decide +kernel
theorem dJ2_getChar_3b067_6 : decode cJ2_getChar_3b067 6 = .ok (.iload_n 1, 1) := by decide +kernel
theorem dJ2_getChar_3b067_7 : decode cJ2_getChar_3b067 7 = .ok (.ifCond .lt 11, 3) := by decide +kernel
theorem dJ2_getChar_3b067_10 : decode cJ2_getChar_3b067 10 = .ok (.iload_n 1, 1) := by decide +kernel
theorem dJ2_getChar_3b067_11 : decode cJ2_getChar_3b067 11 = .ok (.aload_n 0, 1) := by decide +kernel
theorem dJ2_getChar_3b067_12 : decode cJ2_getChar_3b067 12 = .ok (.invokestatic 48, 3) := by decide +kernel
theorem dJ2_getChar_3b067_15 : decode cJ2_getChar_3b067 15 = .ok (.if_icmp .lt 13, 3) := by decide +kernel
theorem dJ2_getChar_3b067_18 : decode cJ2_getChar_3b067 18 = .ok (.new 52, 3) := by decide +kernel
theorem dJ2_getChar_3b067_21 : decode cJ2_getChar_3b067 21 = .ok (.dup, 1) := by decide +kernel
theorem dJ2_getChar_3b067_22 : decode cJ2_getChar_3b067 22 = .ok (.ldc 54, 2) := by decide +kernel
theorem dJ2_getChar_3b067_24 : decode cJ2_getChar_3b067 24 = .ok (.invokespecial 56, 3) := by decide +kernel
theorem dJ2_getChar_3b067_27 : decode cJ2_getChar_3b067 27 = .ok (.athrow, 1) := by decide +kernel
theorem dJ2_getChar_3b067_28 : decode cJ2_getChar_3b067 28 = .ok (.iload_n 1, 1) := by decide +kernel
theorem dJ2_getChar_3b067_29 : decode cJ2_getChar_3b067 29 = .ok (.iconst 1, 1) := by decide +kernel
theorem dJ2_getChar_3b067_30 : decode cJ2_getChar_3b067 30 = .ok (.ishl, 1) := by decide +kernel
theorem dJ2_getChar_3b067_31 : decode cJ2_getChar_3b067 31 = .ok (.istore_n 1, 1) := by decide +kernel
theorem dJ2_getChar_3b067_32 : decode cJ2_getChar_3b067 32 = .ok (.aload_n 0, 1) := by decide +kernel
theorem dJ2_getChar_3b067_33 : decode cJ2_getChar_3b067 33 = .ok (.iload_n 1, 1) := by decide +kernel
theorem dJ2_getChar_3b067_34 : decode cJ2_getChar_3b067 34 = .ok (.iinc 1 1, 3) := by decide +kernel
theorem dJ2_getChar_3b067_37 : decode cJ2_getChar_3b067 37 = .ok (.baload, 1) := by decide +kernel
theorem dJ2_getChar_3b067_38 : decode cJ2_getChar_3b067 38 = .ok (.sipush 255, 3) := by decide +kernel
theorem dJ2_getChar_3b067_41 : decode cJ2_getChar_3b067 41 = .ok (.iand, 1) := by decide +kernel
theorem dJ2_getChar_3b067_42 : decode cJ2_getChar_3b067 42 = .ok (.getstatic 59, 3) := by decide +kernel
theorem dJ2_getChar_3b067_45 : decode cJ2_getChar_3b067 45 = .ok (.ishl, 1) := by decide +kernel
theorem dJ2_getChar_3b067_46 : decode cJ2_getChar_3b067 46 = .ok (.aload_n 0, 1) := by decide +kernel
theorem dJ2_getChar_3b067_47 : decode cJ2_getChar_3b067 47 = .ok (.iload_n 1, 1) := by decide +kernel
theorem dJ2_getChar_3b067_48 : decode cJ2_getChar_3b067 48 = .ok (.baload, 1) := by decide +kernel
theorem dJ2_getChar_3b067_49 : decode cJ2_getChar_3b067 49 = .ok (.sipush 255, 3) := by decide +kernel
theorem dJ2_getChar_3b067_52 : decode cJ2_getChar_3b067 52 = .ok (.iand, 1) := by decide +kernel
theorem dJ2_getChar_3b067_53 : decode cJ2_getChar_3b067 53 = .ok (.getstatic 63, 3) := by decide +kernel
theorem dJ2_getChar_3b067_56 : decode cJ2_getChar_3b067 56 = .ok (.ishl, 1) := by decide +kernel
theorem dJ2_getChar_3b067_57 : decode cJ2_getChar_3b067 57 = .ok (.ior, 1) := by decide +kernel
theorem dJ2_getChar_3b067_58 : decode cJ2_getChar_3b067 58 = .ok (.i2c, 1) := by decide +kernel
theorem dJ2_getChar_3b067_59 : decode cJ2_getChar_3b067 59 = .ok (.ireturn, 1) := by decide +kernel
theorem dJ2_length_9d52b_0 : decode cJ2_length_9d52b 0 = .ok (.aload_n 0, 1) := by decide +kernel
theorem dJ2_length_9d52b_1 : decode cJ2_length_9d52b 1 = .ok (.arraylength, 1) := by decide +kernel
theorem dJ2_length_9d52b_2 : decode cJ2_length_9d52b 2 = .ok (.iconst 1, 1) := by decide +kernel
theorem dJ2_length_9d52b_3 : decode cJ2_length_9d52b 3 = .ok (.ishr, 1) := by decide +kernel
theorem dJ2_length_9d52b_4 : decode cJ2_length_9d52b 4 = .ok (.ireturn, 1) := by decide +kernel
set_option maxRecDepth 20000 in
theorem ggJ2_charAt_3b067_J2_checkIndex_2214a : GoodIn wsJ2_charAt_3b067 wsJ2_checkIndex_2214a := goodIn_r _ [4, 5, 6, 3, 7, 8, 9, 10, 11, 12, 13, 14, 15, 16] (by decide +kernel) (by decide +kernel)
set_option maxRecDepth 20000 in
theorem gJ2_charAt_3b067_J2_checkIndex_2214a : GoodIn wsJ2_charAt_3b067 (va_wsS RJ2 67 yJ2_checkIndex_2214a wsJ2_checkIndex_2214a) := goodIn_app (goodIn_of _ (by decide +kernel)) ggJ2_charAt_3b067_J2_checkIndex_2214a
set_option maxRecDepth 20000 in
theorem ggJ2_charAt_3b067_J2_getChar_3b067 : GoodIn wsJ2_charAt_3b067 wsJ2_getChar_3b067 := goodIn_r _ [19, 20, 21, 22, 5, 6, 3, 7] (by decide +kernel) (by decide +kernel)
set_option maxRecDepth 20000 in
theorem gJ2_charAt_3b067_J2_getChar_3b067 : GoodIn wsJ2_charAt_3b067 (va_wsS RJ2 71 yJ2_getChar_3b067 wsJ2_getChar_3b067) := goodIn_app (goodIn_of _ (by decide +kernel)) ggJ2_charAt_3b067_J2_getChar_3b067
theorem dJ2_charAt_3b067_0 : decode cJ2_charAt_3b067 0 = .ok (.iload_n 1, 1) := by decide +kernel
theorem dJ2_charAt_3b067_1 : decode cJ2_charAt_3b067 1 = .ok (.aload_n 0, 1) := by decide +kernel
theorem dJ2_charAt_3b067_2 : decode cJ2_charAt_3b067 2 = .ok (.invokestatic 67, 3) := by decide +kernel
theorem dJ2_charAt_3b067_5 : decode cJ2_charAt_3b067 5 = .ok (.aload_n 0, 1) := by decide +kernel
theorem dJ2_charAt_3b067_6 : decode cJ2_charAt_3b067 6 = .ok (.iload_n 1, 1) := by decide +kernel
theorem dJ2_charAt_3b067_7 : decode cJ2_charAt_3b067 7 = .ok (.invokestatic 71, 3) := by decide +kernel
theorem dJ2_charAt_3b067_10 : decode cJ2_charAt_3b067 10 = .ok (.ireturn, 1) := by decide +kernel
set_option maxRecDepth 20000 in
theorem ggJ2_checkIndex_2214a_J2_length_9d52b : GoodIn wsJ2_checkIndex_2214a wsJ2_length_9d52b := goodIn_r _ [4] (by decide +kernel) (by decide +kernel)
set_option maxRecDepth 20000 in
theorem gJ2_checkIndex_2214a_J2_length_9d52b : GoodIn wsJ2_checkIndex_2214a (va_wsS RJ2 48 yJ2_length_9d52b wsJ2_length_9d52b) := goodIn_app (goodIn_of _ (by decide +kernel)) ggJ2_checkIndex_2214a_J2_length_9d52b
set_option maxRecDepth 20000 in
theorem ggJ2_checkIndex_2214a_J0_checkIndex_df160 : GoodIn wsJ2_checkIndex_2214a wsJ0_checkIndex_df160 := goodIn_r _ [8, 9, 10, 11, 12, 13] (by decide +kernel) (by decide +kernel)
set_option maxRecDepth 20000 in
theorem gJ2_checkIndex_2214a_J0_checkIndex_df160 : GoodIn wsJ2_checkIndex_2214a (va_wsS RJ2 414 yJ0_checkIndex_df160 wsJ0_checkIndex_df160) := goodIn_app (goodIn_of _ (by decide +kernel)) ggJ2_checkIndex_2214a_J0_checkIndex_df160
theorem dJ2_checkIndex_2214a_0 : decode cJ2_checkIndex_2214a 0 = .ok (.iload_n 0, 1) := by decide +kernel
theorem dJ2_checkIndex_2214a_1 : decode cJ2_checkIndex_2214a 1 = .ok (.aload_n 1, 1) := by decide +kernel
theorem dJ2_checkIndex_2214a_2 : decode cJ2_checkIndex_2214a 2 = .ok (.invokestatic 48, 3) := by decide +kernel
theorem dJ2_checkIndex_2214a_5 : decode cJ2_checkIndex_2214a 5 = .ok (.invokestatic 414, 3) := by decide +kernel
theorem dJ2_checkIndex_2214a_8 : decode cJ2_checkIndex_2214a 8 = .ok (.return_, 1) := by decide +kernel
theorem dJ3_checkIndex_8e157_0 : decode cJ3_checkIndex_8e157 0 = .ok (.iload_n 0, 1) := by decide +kernel
theorem dJ3_checkIndex_8e157_1 : decode cJ3_checkIndex_8e157 1 = .ok (.ifCond .lt 8, 3) := by decide +kernel
theorem dJ3_checkIndex_8e157_4 : decode cJ3_checkIndex_8e157 4 = .ok (.iload_n 0, 1) := by decide +kernel
theorem dJ3_checkIndex_8e157_5 : decode cJ3_checkIndex_8e157 5 = .ok (.iload_n 1, 1) := by decide +kernel
theorem dJ3_checkIndex_8e157_6 : decode cJ3_checkIndex_8e157 6 = .ok (.if_icmp .lt 10, 3) := by decide +kernel
theorem dJ3_checkIndex_8e157_9 : decode cJ3_checkIndex_8e157 9 = .ok (.aload_n 2, 1) := by decide +kernel
theorem dJ3_checkIndex_8e157_10 : decode cJ3_checkIndex_8e157 10 = .ok (.iload_n 0, 1) := by decide +kernel
theorem dJ3_checkIndex_8e157_11 : decode cJ3_checkIndex_8e157 11 = .ok (.iload_n 1, 1) := by decide +kernel
theorem dJ3_checkIndex_8e157_12 : decode cJ3_checkIndex_8e157 12 = .ok (.invokestatic 95, 3) := by decide +kernel
theorem dJ3_checkIndex_8e157_15 : decode cJ3_checkIndex_8e157 15 = .ok (.athrow, 1) := by decide +kernel
theorem dJ3_checkIndex_8e157_16 : decode cJ3_checkIndex_8e157 16 = .ok (.iload_n 0, 1) := by decide +kernel
theorem dJ3_checkIndex_8e157_17 : decode cJ3_checkIndex_8e157 17 = .ok (.ireturn, 1) := by decide +kernel
