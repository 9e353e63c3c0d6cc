theorem dX12_isValue_19 : decode cX12_isValue 19 = .ok (.ifCond .eq 7, 3) := by decide +kernel
theorem dX12_isValue_22 : decode cX12_isValue 22 = .ok (.iconst 1, 1) := by decide +kernel
theorem dX12_isValue_23 : decode cX12_isValue 23 = .ok (.goto 4, 3) := by decide +kernel
theorem dX12_isValue_26 : decode cX12_isValue 26 = .ok (.iconst 0, 1) := by decide +kernel
theorem dX12_isValue_27 : decode cX12_isValue 27 = .ok (.ireturn, 1) := by decide +kernel
set_option maxRecDepth 20000 in
theorem ggX12_forbid_X12_isVariable : GoodIn wsX12_forbid wsX12_isVariable := goodIn_r _ [10, 11, 12, 13, 9, 14, 92, 93, 94, 95, 96, 97, 98, 99, 100, 101, 102, 103, 104, 105, 106, 107, 108, 109, 110, 111, 112, 113, 114, 115, 116, 117, 118, 119, 120, 121, 122, 123] (by decide +kernel) (by decide +kernel)
set_option maxRecDepth 20000 in
theorem gX12_forbid_X12_isVariable : GoodIn wsX12_forbid (wsV RX12 257 RX12 yX12_isVariable wsX12_isVariable) := goodIn_app (goodIn_of _ (by decide +kernel)) ggX12_forbid_X12_isVariable
set_option maxRecDepth 20000 in
theorem ggX12_forbid_X12_may : GoodIn wsX12_forbid wsX12_may := goodIn_r _ [18, 1, 92, 93, 94, 95, 96, 97, 98, 99, 100, 101, 102, 103, 104, 105, 106, 107, 108, 109, 110, 111, 112, 113, 114, 115, 116, 117, 118, 119, 120, 121, 122, 123] (by decide +kernel) (by decide +kernel)
set_option maxRecDepth 20000 in
theorem gX12_forbid_X12_may : GoodIn wsX12_forbid (wsV RX12 96 RX12 yX12_may wsX12_may) := goodIn_app (goodIn_of _ (by decide +kernel)) ggX12_forbid_X12_may
set_option maxRecDepth 20000 in
theorem ggX12_forbid_X12_isValue : GoodIn wsX12_forbid wsX12_isValue := goodIn_r _ [22, 5, 12, 13, 9, 14, 23, 24, 25, 92, 93, 94, 95, 96, 97, 98, 99, 100, 101, 102, 103, 104, 105, 106, 107, 108, 109, 110, 111, 112, 113, 114, 115, 116, 117, 118, 119, 120, 121, 122, 123] (by decide +kernel) (by decide +kernel)
set_option maxRecDepth 20000 in
theorem gX12_forbid_X12_isValue : GoodIn wsX12_forbid (wsV RX12 322 RX12 yX12_isValue wsX12_isValue) := goodIn_app (goodIn_of _ (by decide +kernel)) ggX12_forbid_X12_isValue
set_option maxRecDepth 20000 in
theorem ggX12_forbid_X12_lays : GoodIn wsX12_forbid wsX12_lays := goodIn_r _ [29, 4, 30, 2, 92, 93, 94, 95, 96, 97, 98, 99, 100, 101, 102, 103, 104, 105, 106, 107, 108, 109, 110, 111, 112, 113, 114, 115, 116, 117, 118, 119, 120, 121, 122, 123] (by decide +kernel) (by decide +kernel)
set_option maxRecDepth 20000 in
theorem gX12_forbid_X12_lays : GoodIn wsX12_forbid (wsV RX12 246 RX12 yX12_lays wsX12_lays) := goodIn_app (goodIn_of _ (by decide +kernel)) ggX12_forbid_X12_lays
set_option maxRecDepth 20000 in
theorem ggX12_forbid_X12_sweeps : GoodIn wsX12_forbid wsX12_sweeps := goodIn_r _ [34, 11, 35, 36, 37, 38, 39, 9, 40, 41, 42, 43, 44, 45, 46, 47, 48, 49, 50, 51, 52, 53, 54, 55, 23, 24, 25, 56, 57, 58, 59, 60, 61, 62, 63, 64, 65, 66, 67, 68, 69, 70, 71, 72, 73, 74, 75, 76, 77, 78, 79, 12, 13, 14, 80, 81, 82, 83, 84, 85, 86, 87, 26, 27, 28, 29, 4, 30, 2, 92, 93, 94, 95, 96, 97, 98, 99, 100, 101, 102, 103, 104, 105, 106, 107, 108, 109, 110, 111, 112, 113, 114, 115, 116, 117, 118, 119, 120, 121, 122, 123] (by decide +kernel) (by decide +kernel)
set_option maxRecDepth 20000 in
theorem gX12_forbid_X12_sweeps : GoodIn wsX12_forbid (wsV RX12 89 RX12 yX12_sweeps wsX12_sweeps) := goodIn_app (goodIn_of _ (by decide +kernel)) ggX12_forbid_X12_sweeps
set_option maxRecDepth 20000 in
theorem ggX12_forbid_X12_factsFrom : GoodIn wsX12_forbid wsX12_factsFrom := goodIn_r _ [91, 4, 92, 93, 94, 95, 96, 97, 98, 99, 100, 101, 102, 103, 104, 105, 106, 107, 108, 109, 110, 111, 112, 113, 114, 115, 116, 117, 118, 119, 120, 121, 122, 123] (by decide +kernel) (by decide +kernel)
set_option maxRecDepth 20000 in
theorem gX12_forbid_X12_factsFrom : GoodIn wsX12_forbid (wsV RX12 325 RX12 yX12_factsFrom wsX12_factsFrom) := goodIn_app (goodIn_of _ (by decide +kernel)) ggX12_forbid_X12_factsFrom
theorem dX12_forbid_0 : decode cX12_forbid 0 = .ok (.aload_n 0, 1) := by decide +kernel
theorem dX12_forbid_1 : decode cX12_forbid 1 = .ok (.iconst 0, 1) := by decide +kernel
theorem dX12_forbid_2 : decode cX12_forbid 2 = .ok (.putfield 70, 3) := by decide +kernel
theorem dX12_forbid_5 : decode cX12_forbid 5 = .ok (.aload_n 0, 1) := by decide +kernel
theorem dX12_forbid_6 : decode cX12_forbid 6 = .ok (.aload_n 0, 1) := by decide +kernel
theorem dX12_forbid_7 : decode cX12_forbid 7 = .ok (.iload_n 1, 1) := by decide +kernel
theorem dX12_forbid_8 : decode cX12_forbid 8 = .ok (.invokevirtual 257, 3) := by decide +kernel
theorem dX12_forbid_11 : decode cX12_forbid 11 = .ok (.iconst 1, 1) := by decide +kernel
theorem dX12_forbid_12 : decode cX12_forbid 12 = .ok (.invokevirtual 96, 3) := by decide +kernel
theorem dX12_forbid_15 : decode cX12_forbid 15 = .ok (.ifCond .eq 44, 3) := by decide +kernel
theorem dX12_forbid_18 : decode cX12_forbid 18 = .ok (.aload_n 0, 1) := by decide +kernel
theorem dX12_forbid_19 : decode cX12_forbid 19 = .ok (.aload_n 0, 1) := by decide +kernel
theorem dX12_forbid_20 : decode cX12_forbid 20 = .ok (.iload_n 1, 1) := by decide +kernel
theorem dX12_forbid_21 : decode cX12_forbid 21 = .ok (.iload_n 2, 1) := by decide +kernel
theorem dX12_forbid_22 : decode cX12_forbid 22 = .ok (.invokevirtual 322, 3) := by decide +kernel
theorem dX12_forbid_25 : decode cX12_forbid 25 = .ok (.iconst 2, 1) := by decide +kernel
theorem dX12_forbid_26 : decode cX12_forbid 26 = .ok (.invokevirtual 96, 3) := by decide +kernel
theorem dX12_forbid_29 : decode cX12_forbid 29 = .ok (.ifCond .eq 30, 3) := by decide +kernel
theorem dX12_forbid_32 : decode cX12_forbid 32 = .ok (.aload_n 0, 1) := by decide +kernel
theorem dX12_forbid_33 : decode cX12_forbid 33 = .ok (.aload_n 0, 1) := by decide +kernel
theorem dX12_forbid_34 : decode cX12_forbid 34 = .ok (.getfield 76, 3) := by decide +kernel
theorem dX12_forbid_37 : decode cX12_forbid 37 = .ok (.ifCond .ne 14, 3) := by decide +kernel
theorem dX12_forbid_40 : decode cX12_forbid 40 = .ok (.aload_n 0, 1) := by decide +kernel
theorem dX12_forbid_41 : decode cX12_forbid 41 = .ok (.getfield 85, 3) := by decide +kernel
theorem dX12_forbid_44 : decode cX12_forbid 44 = .ok (.ifCond .ne 7, 3) := by decide +kernel
theorem dX12_forbid_47 : decode cX12_forbid 47 = .ok (.iconst 1, 1) := by decide +kernel
theorem dX12_forbid_48 : decode cX12_forbid 48 = .ok (.goto 4, 3) := by decide +kernel
theorem dX12_forbid_51 : decode cX12_forbid 51 = .ok (.iconst 0, 1) := by decide +kernel
theorem dX12_forbid_52 : decode cX12_forbid 52 = .ok (.iconst 3, 1) := by decide +kernel
theorem dX12_forbid_53 : decode cX12_forbid 53 = .ok (.invokevirtual 96, 3) := by decide +kernel
theorem dX12_forbid_56 : decode cX12_forbid 56 = .ok (.ifCond .ne 5, 3) := by decide +kernel
theorem dX12_forbid_59 : decode cX12_forbid 59 = .ok (.iconst 0, 1) := by decide +kernel
theorem dX12_forbid_60 : decode cX12_forbid 60 = .ok (.ireturn, 1) := by decide +kernel
theorem dX12_forbid_61 : decode cX12_forbid 61 = .ok (.aload_n 0, 1) := by decide +kernel
theorem dX12_forbid_62 : decode cX12_forbid 62 = .ok (.getfield 73, 3) := by decide +kernel
theorem dX12_forbid_65 : decode cX12_forbid 65 = .ok (.istore_n 3, 1) := by decide +kernel
theorem dX12_forbid_66 : decode cX12_forbid 66 = .ok (.aload_n 0, 1) := by decide +kernel
theorem dX12_forbid_67 : decode cX12_forbid 67 = .ok (.getfield 16, 3) := by decide +kernel
theorem dX12_forbid_70 : decode cX12_forbid 70 = .ok (.iload_n 1, 1) := by decide +kernel
theorem dX12_forbid_71 : decode cX12_forbid 71 = .ok (.dup2, 1) := by decide +kernel
theorem dX12_forbid_72 : decode cX12_forbid 72 = .ok (.iaload, 1) := by decide +kernel
theorem dX12_forbid_73 : decode cX12_forbid 73 = .ok (.iconst 1, 1) := by decide +kernel
theorem dX12_forbid_74 : decode cX12_forbid 74 = .ok (.iload_n 2, 1) := by decide +kernel
theorem dX12_forbid_75 : decode cX12_forbid 75 = .ok (.ishl, 1) := by decide +kernel
theorem dX12_forbid_76 : decode cX12_forbid 76 = .ok (.iconst (-1), 1) := by decide +kernel
theorem dX12_forbid_77 : decode cX12_forbid 77 = .ok (.ixor, 1) := by decide +kernel
theorem dX12_forbid_78 : decode cX12_forbid 78 = .ok (.iand, 1) := by decide +kernel
theorem dX12_forbid_79 : decode cX12_forbid 79 = .ok (.iastore, 1) := by decide +kernel
theorem dX12_forbid_80 : decode cX12_forbid 80 = .ok (.aload_n 0, 1) := by decide +kernel
theorem dX12_forbid_81 : decode cX12_forbid 81 = .ok (.iload_n 1, 1) := by decide +kernel
theorem dX12_forbid_82 : decode cX12_forbid 82 = .ok (.iload_n 2, 1) := by decide +kernel
theorem dX12_forbid_83 : decode cX12_forbid 83 = .ok (.bipush (-2), 2) := by decide +kernel
theorem dX12_forbid_85 : decode cX12_forbid 85 = .ok (.iconst 0, 1) := by decide +kernel
theorem dX12_forbid_86 : decode cX12_forbid 86 = .ok (.invokevirtual 246, 3) := by decide +kernel
theorem dX12_forbid_89 : decode cX12_forbid 89 = .ok (.aload_n 0, 1) := by decide +kernel
theorem dX12_forbid_90 : decode cX12_forbid 90 = .ok (.aload_n 0, 1) := by decide +kernel
theorem dX12_forbid_91 : decode cX12_forbid 91 = .ok (.getfield 16, 3) := by decide +kernel
theorem dX12_forbid_94 : decode cX12_forbid 94 = .ok (.iload_n 1, 1) := by decide +kernel
theorem dX12_forbid_95 : decode cX12_forbid 95 = .ok (.iaload, 1) := by decide +kernel
theorem dX12_forbid_96 : decode cX12_forbid 96 = .ok (.ifCond .eq 15, 3) := by decide +kernel
theorem dX12_forbid_99 : decode cX12_forbid 99 = .ok (.aload_n 0, 1) := by decide +kernel
theorem dX12_forbid_100 : decode cX12_forbid 100 = .ok (.aload_n 0, 1) := by decide +kernel
theorem dX12_forbid_101 : decode cX12_forbid 101 = .ok (.getfield 16, 3) := by decide +kernel
theorem dX12_forbid_104 : decode cX12_forbid 104 = .ok (.iconst 1, 1) := by decide +kernel
theorem dX12_forbid_105 : decode cX12_forbid 105 = .ok (.invokevirtual 89, 3) := by decide +kernel
theorem dX12_forbid_108 : decode cX12_forbid 108 = .ok (.ifCond .ne 7, 3) := by decide +kernel
theorem dX12_forbid_111 : decode cX12_forbid 111 = .ok (.iconst 1, 1) := by decide +kernel
theorem dX12_forbid_112 : decode cX12_forbid 112 = .ok (.goto 4, 3) := by decide +kernel
theorem dX12_forbid_115 : decode cX12_forbid 115 = .ok (.iconst 0, 1) := by decide +kernel
theorem dX12_forbid_116 : decode cX12_forbid 116 = .ok (.putfield 85, 3) := by decide +kernel
theorem dX12_forbid_119 : decode cX12_forbid 119 = .ok (.aload_n 0, 1) := by decide +kernel
theorem dX12_forbid_120 : decode cX12_forbid 120 = .ok (.iload_n 3, 1) := by decide +kernel
theorem dX12_forbid_121 : decode cX12_forbid 121 = .ok (.invokevirtual 325, 3) := by decide +kernel
theorem dX12_forbid_124 : decode cX12_forbid 124 = .ok (.ireturn, 1) := by decide +kernel
set_option maxRecDepth 20000 in
theorem ggX12_decides_X12_has : GoodIn wsX12_decides wsX12_has := goodIn_r _ [9] (by decide +kernel) (by decide +kernel)
set_option maxRecDepth 20000 in
theorem gX12_decides_X12_has : GoodIn wsX12_decides (va_wsS RX12 178 yX12_has wsX12_has) := goodIn_app (goodIn_of _ (by decide +kernel)) ggX12_decides_X12_has
set_option maxRecDepth 20000 in
theorem ggX12_decides_X12_lays : GoodIn wsX12_decides wsX12_lays := goodIn_r _ [13, 1, 14, 3, 80, 81, 82, 83, 84, 85, 86, 87, 88, 89, 90, 91, 92, 93, 94, 95, 96, 97, 98, 99, 100, 101, 102, 103, 104, 105, 106, 107, 108, 109, 110, 111] (by decide +kernel) (by decide +kernel)
set_option maxRecDepth 20000 in
theorem gX12_decides_X12_lays : GoodIn wsX12_decides (wsV RX12 246 RX12 yX12_lays wsX12_lays) := goodIn_app (goodIn_of _ (by decide +kernel)) ggX12_decides_X12_lays
set_option maxRecDepth 20000 in
theorem ggX12_decides_X12_sweeps : GoodIn wsX12_decides wsX12_sweeps := goodIn_r _ [18, 19, 20, 21, 22, 23, 24, 8, 25, 26, 27, 28, 29, 30, 31, 32, 33, 34, 35, 36, 37, 38, 39, 40, 6, 7, 9, 41, 42, 43, 44, 45, 46, 47, 48, 49, 50, 51, 52, 53, 54, 55, 56, 57, 58, 59, 60, 61, 62, 63, 64, 65, 66, 67, 68, 69, 70, 71, 72, 73, 74, 75, 10, 11, 12, 13, 1, 14, 3, 80, 81, 82, 83, 84, 85, 86, 87, 88, 89, 90, 91, 92, 93, 94, 95, 96, 97, 98, 99, 100, 101, 102, 103, 104, 105, 106, 107, 108, 109, 110, 111] (by decide +kernel) (by decide +kernel)
set_option maxRecDepth 20000 in
theorem gX12_decides_X12_sweeps : GoodIn wsX12_decides (wsV RX12 89 RX12 yX12_sweeps wsX12_sweeps) := goodIn_app (goodIn_of _ (by decide +kernel)) ggX12_decides_X12_sweeps
set_option maxRecDepth 20000 in
theorem ggX12_decides_X12_factsFrom : GoodIn wsX12_decides wsX12_factsFrom := goodIn_r _ [79, 1, 80, 81, 82, 83, 84, 85, 86, 87, 88, 89, 90, 91, 92, 93, 94, 95, 96, 97, 98, 99, 100, 101, 102, 103, 104, 105, 106, 107, 108, 109, 110, 111] (by decide +kernel) (by decide +kernel)
set_option maxRecDepth 20000 in
theorem gX12_decides_X12_factsFrom : GoodIn wsX12_decides (wsV RX12 325 RX12 yX12_factsFrom wsX12_factsFrom) := goodIn_app (goodIn_of _ (by decide +kernel)) ggX12_decides_X12_factsFrom
theorem dX12_decides_0 : decode cX12_decides 0 = .ok (.aload_n 0, 1) := by decide +kernel
theorem dX12_decides_1 : decode cX12_decides 1 = .ok (.getfield 73, 3) := by decide +kernel
theorem dX12_decides_4 : decode cX12_decides 4 = .ok (.istore_n 3, 1) := by decide +kernel
theorem dX12_decides_5 : decode cX12_decides 5 = .ok (.aload_n 0, 1) := by decide +kernel
theorem dX12_decides_6 : decode cX12_decides 6 = .ok (.getfield 22, 3) := by decide +kernel
theorem dX12_decides_9 : decode cX12_decides 9 = .ok (.iconst 2, 1) := by decide +kernel
theorem dX12_decides_10 : decode cX12_decides 10 = .ok (.aload_n 0, 1) := by decide +kernel
theorem dX12_decides_11 : decode cX12_decides 11 = .ok (.getfield 76, 3) := by decide +kernel
theorem dX12_decides_14 : decode cX12_decides 14 = .ok (.imul, 1) := by decide +kernel
theorem dX12_decides_15 : decode cX12_decides 15 = .ok (.iload_n 1, 1) := by decide +kernel
theorem dX12_decides_16 : decode cX12_decides 16 = .ok (.iastore, 1) := by decide +kernel
theorem dX12_decides_17 : decode cX12_decides 17 = .ok (.aload_n 0, 1) := by decide +kernel
theorem dX12_decides_18 : decode cX12_decides 18 = .ok (.getfield 22, 3) := by decide +kernel
theorem dX12_decides_21 : decode cX12_decides 21 = .ok (.iconst 2, 1) := by decide +kernel
theorem dX12_decides_22 : decode cX12_decides 22 = .ok (.aload_n 0, 1) := by decide +kernel
theorem dX12_decides_23 : decode cX12_decides 23 = .ok (.getfield 76, 3) := by decide +kernel
theorem dX12_decides_26 : decode cX12_decides 26 = .ok (.imul, 1) := by decide +kernel
theorem dX12_decides_27 : decode cX12_decides 27 = .ok (.iconst 1, 1) := by decide +kernel
theorem dX12_decides_28 : decode cX12_decides 28 = .ok (.iadd, 1) := by decide +kernel
theorem dX12_decides_29 : decode cX12_decides 29 = .ok (.iload_n 2, 1) := by decide +kernel
theorem dX12_decides_30 : decode cX12_decides 30 = .ok (.iastore, 1) := by decide +kernel
theorem dX12_decides_31 : decode cX12_decides 31 = .ok (.aload_n 0, 1) := by decide +kernel
theorem dX12_decides_32 : decode cX12_decides 32 = .ok (.dup, 1) := by decide +kernel
theorem dX12_decides_33 : decode cX12_decides 33 = .ok (.getfield 76, 3) := by decide +kernel
theorem dX12_decides_36 : decode cX12_decides 36 = .ok (.iconst 1, 1) := by decide +kernel
theorem dX12_decides_37 : decode cX12_decides 37 = .ok (.iadd, 1) := by decide +kernel
theorem dX12_decides_38 : decode cX12_decides 38 = .ok (.putfield 76, 3) := by decide +kernel
theorem dX12_decides_41 : decode cX12_decides 41 = .ok (.iconst 0, 1) := by decide +kernel
theorem dX12_decides_42 : decode cX12_decides 42 = .ok (.istore 4, 2) := by decide +kernel
theorem dX12_decides_44 : decode cX12_decides 44 = .ok (.iload 4, 2) := by decide +kernel
theorem dX12_decides_46 : decode cX12_decides 46 = .ok (.iconst 5, 1) := by decide +kernel
theorem dX12_decides_47 : decode cX12_decides 47 = .ok (.if_icmp .ge 38, 3) := by decide +kernel
theorem dX12_decides_50 : decode cX12_decides 50 = .ok (.iload 4, 2) := by decide +kernel
theorem dX12_decides_52 : decode cX12_decides 52 = .ok (.iload_n 2, 1) := by decide +kernel
theorem dX12_decides_53 : decode cX12_decides 53 = .ok (.if_icmp .eq 26, 3) := by decide +kernel
theorem dX12_decides_56 : decode cX12_decides 56 = .ok (.aload_n 0, 1) := by decide +kernel
theorem dX12_decides_57 : decode cX12_decides 57 = .ok (.getfield 16, 3) := by decide +kernel
theorem dX12_decides_60 : decode cX12_decides 60 = .ok (.iload_n 1, 1) := by decide +kernel
theorem dX12_decides_61 : decode cX12_decides 61 = .ok (.iaload, 1) := by decide +kernel
theorem dX12_decides_62 : decode cX12_decides 62 = .ok (.iload 4, 2) := by decide +kernel
theorem dX12_decides_64 : decode cX12_decides 64 = .ok (.invokestatic 178, 3) := by decide +kernel
theorem dX12_decides_67 : decode cX12_decides 67 = .ok (.ifCond .eq 12, 3) := by decide +kernel
theorem dX12_decides_70 : decode cX12_decides 70 = .ok (.aload_n 0, 1) := by decide +kernel
theorem dX12_decides_71 : decode cX12_decides 71 = .ok (.iload_n 1, 1) := by decide +kernel
theorem dX12_decides_72 : decode cX12_decides 72 = .ok (.iload 4, 2) := by decide +kernel
theorem dX12_decides_74 : decode cX12_decides 74 = .ok (.iconst (-1), 1) := by decide +kernel
theorem dX12_decides_75 : decode cX12_decides 75 = .ok (.iconst 0, 1) := by decide +kernel
theorem dX12_decides_76 : decode cX12_decides 76 = .ok (.invokevirtual 246, 3) := by decide +kernel
theorem dX12_decides_79 : decode cX12_decides 79 = .ok (.iinc 4 1, 3) := by decide +kernel
theorem dX12_decides_82 : decode cX12_decides 82 = .ok (.goto (-38), 3) := by decide +kernel
theorem dX12_decides_85 : decode cX12_decides 85 = .ok (.aload_n 0, 1) := by decide +kernel
theorem dX12_decides_86 : decode cX12_decides 86 = .ok (.getfield 16, 3) := by decide +kernel
theorem dX12_decides_89 : decode cX12_decides 89 = .ok (.iload_n 1, 1) := by decide +kernel
theorem dX12_decides_90 : decode cX12_decides 90 = .ok (.iconst 1, 1) := by decide +kernel
theorem dX12_decides_91 : decode cX12_decides 91 = .ok (.iload_n 2, 1) := by decide +kernel
theorem dX12_decides_92 : decode cX12_decides 92 = .ok (.ishl, 1) := by decide +kernel
theorem dX12_decides_93 : decode cX12_decides 93 = .ok (.iastore, 1) := by decide +kernel
theorem dX12_decides_94 : decode cX12_decides 94 = .ok (.aload_n 0, 1) := by decide +kernel
theorem dX12_decides_95 : decode cX12_decides 95 = .ok (.aload_n 0, 1) := by decide +kernel
theorem dX12_decides_96 : decode cX12_decides 96 = .ok (.aload_n 0, 1) := by decide +kernel
theorem dX12_decides_97 : decode cX12_decides 97 = .ok (.getfield 16, 3) := by decide +kernel
theorem dX12_decides_100 : decode cX12_decides 100 = .ok (.iconst 1, 1) := by decide +kernel
theorem dX12_decides_101 : decode cX12_decides 101 = .ok (.invokevirtual 89, 3) := by decide +kernel
theorem dX12_decides_104 : decode cX12_decides 104 = .ok (.ifCond .ne 7, 3) := by decide +kernel
theorem dX12_decides_107 : decode cX12_decides 107 = .ok (.iconst 1, 1) := by decide +kernel
theorem dX12_decides_108 : decode cX12_decides 108 = .ok (.goto 4, 3) := by decide +kernel
theorem dX12_decides_111 : decode cX12_decides 111 = .ok (.iconst 0, 1) := by decide +kernel
theorem dX12_decides_112 : decode cX12_decides 112 = .ok (.putfield 85, 3) := by decide +kernel
theorem dX12_decides_115 : decode cX12_decides 115 = .ok (.aload_n 0, 1) := by decide +kernel
theorem dX12_decides_116 : decode cX12_decides 116 = .ok (.iload_n 3, 1) := by decide +kernel
theorem dX12_decides_117 : decode cX12_decides 117 = .ok (.invokevirtual 325, 3) := by decide +kernel
theorem dX12_decides_120 : decode cX12_decides 120 = .ok (.ireturn, 1) := by decide +kernel
theorem dX12_takesBack_0 : decode cX12_takesBack 0 = .ok (.aload_n 0, 1) := by decide +kernel
theorem dX12_takesBack_1 : decode cX12_takesBack 1 = .ok (.getfield 73, 3) := by decide +kernel
theorem dX12_takesBack_4 : decode cX12_takesBack 4 = .ok (.istore_n 1, 1) := by decide +kernel
theorem dX12_takesBack_5 : decode cX12_takesBack 5 = .ok (.aload_n 0, 1) := by decide +kernel
theorem dX12_takesBack_6 : decode cX12_takesBack 6 = .ok (.getfield 73, 3) := by decide +kernel
theorem dX12_takesBack_9 : decode cX12_takesBack 9 = .ok (.ifCond .le 70, 3) := by decide +kernel
theorem dX12_takesBack_12 : decode cX12_takesBack 12 = .ok (.aload_n 0, 1) := by decide +kernel
theorem dX12_takesBack_13 : decode cX12_takesBack 13 = .ok (.getfield 19, 3) := by decide +kernel
theorem dX12_takesBack_16 : decode cX12_takesBack 16 = .ok (.iconst 5, 1) := by decide +kernel
theorem dX12_takesBack_17 : decode cX12_takesBack 17 = .ok (.aload_n 0, 1) := by decide +kernel
theorem dX12_takesBack_18 : decode cX12_takesBack 18 = .ok (.getfield 73, 3) := by decide +kernel
theorem dX12_takesBack_21 : decode cX12_takesBack 21 = .ok (.imul, 1) := by decide +kernel
theorem dX12_takesBack_22 : decode cX12_takesBack 22 = .ok (.iconst 2, 1) := by decide +kernel
theorem dX12_takesBack_23 : decode cX12_takesBack 23 = .ok (.isub, 1) := by decide +kernel
theorem dX12_takesBack_24 : decode cX12_takesBack 24 = .ok (.iaload, 1) := by decide +kernel
theorem dX12_takesBack_25 : decode cX12_takesBack 25 = .ok (.aload_n 0, 1) := by decide +kernel
theorem dX12_takesBack_26 : decode cX12_takesBack 26 = .ok (.getfield 76, 3) := by decide +kernel
theorem dX12_takesBack_29 : decode cX12_takesBack 29 = .ok (.if_icmp .ne 50, 3) := by decide +kernel
theorem dX12_takesBack_32 : decode cX12_takesBack 32 = .ok (.aload_n 0, 1) := by decide +kernel
theorem dX12_takesBack_33 : decode cX12_takesBack 33 = .ok (.dup, 1) := by decide +kernel
theorem dX12_takesBack_34 : decode cX12_takesBack 34 = .ok (.getfield 73, 3) := by decide +kernel
theorem dX12_takesBack_37 : decode cX12_takesBack 37 = .ok (.iconst 1, 1) := by decide +kernel
theorem dX12_takesBack_38 : decode cX12_takesBack 38 = .ok (.isub, 1) := by decide +kernel
theorem dX12_takesBack_39 : decode cX12_takesBack 39 = .ok (.putfield 73, 3) := by decide +kernel
theorem dX12_takesBack_42 : decode cX12_takesBack 42 = .ok (.aload_n 0, 1) := by decide +kernel
theorem dX12_takesBack_43 : decode cX12_takesBack 43 = .ok (.getfield 16, 3) := by decide +kernel
theorem dX12_takesBack_46 : decode cX12_takesBack 46 = .ok (.aload_n 0, 1) := by decide +kernel
theorem dX12_takesBack_47 : decode cX12_takesBack 47 = .ok (.getfield 19, 3) := by decide +kernel
theorem dX12_takesBack_50 : decode cX12_takesBack 50 = .ok (.iconst 5, 1) := by decide +kernel
theorem dX12_takesBack_51 : decode cX12_takesBack 51 = .ok (.aload_n 0, 1) := by decide +kernel
theorem dX12_takesBack_52 : decode cX12_takesBack 52 = .ok (.getfield 73, 3) := by decide +kernel
theorem dX12_takesBack_55 : decode cX12_takesBack 55 = .ok (.imul, 1) := by decide +kernel
theorem dX12_takesBack_56 : decode cX12_takesBack 56 = .ok (.iaload, 1) := by decide +kernel
theorem dX12_takesBack_57 : decode cX12_takesBack 57 = .ok (.dup2, 1) := by decide +kernel
theorem dX12_takesBack_58 : decode cX12_takesBack 58 = .ok (.iaload, 1) := by decide +kernel
theorem dX12_takesBack_59 : decode cX12_takesBack 59 = .ok (.iconst 1, 1) := by decide +kernel
theorem dX12_takesBack_60 : decode cX12_takesBack 60 = .ok (.aload_n 0, 1) := by decide +kernel
theorem dX12_takesBack_61 : decode cX12_takesBack 61 = .ok (.getfield 19, 3) := by decide +kernel
theorem dX12_takesBack_64 : decode cX12_takesBack 64 = .ok (.iconst 5, 1) := by decide +kernel
theorem dX12_takesBack_65 : decode cX12_takesBack 65 = .ok (.aload_n 0, 1) := by decide +kernel
theorem dX12_takesBack_66 : decode cX12_takesBack 66 = .ok (.getfield 73, 3) := by decide +kernel
theorem dX12_takesBack_69 : decode cX12_takesBack 69 = .ok (.imul, 1) := by decide +kernel
theorem dX12_takesBack_70 : decode cX12_takesBack 70 = .ok (.iconst 1, 1) := by decide +kernel
theorem dX12_takesBack_71 : decode cX12_takesBack 71 = .ok (.iadd, 1) := by decide +kernel
theorem dX12_takesBack_72 : decode cX12_takesBack 72 = .ok (.iaload, 1) := by decide +kernel
theorem dX12_takesBack_73 : decode cX12_takesBack 73 = .ok (.ishl, 1) := by decide +kernel
theorem dX12_takesBack_74 : decode cX12_takesBack 74 = .ok (.ior, 1) := by decide +kernel
theorem dX12_takesBack_75 : decode cX12_takesBack 75 = .ok (.iastore, 1) := by decide +kernel
theorem dX12_takesBack_76 : decode cX12_takesBack 76 = .ok (.goto (-71), 3) := by decide +kernel
theorem dX12_takesBack_79 : decode cX12_takesBack 79 = .ok (.aload_n 0, 1) := by decide +kernel
theorem dX12_takesBack_80 : decode cX12_takesBack 80 = .ok (.dup, 1) := by decide +kernel
theorem dX12_takesBack_81 : decode cX12_takesBack 81 = .ok (.getfield 76, 3) := by decide +kernel
theorem dX12_takesBack_84 : decode cX12_takesBack 84 = .ok (.iconst 1, 1) := by decide +kernel
theorem dX12_takesBack_85 : decode cX12_takesBack 85 = .ok (.isub, 1) := by decide +kernel
theorem dX12_takesBack_86 : decode cX12_takesBack 86 = .ok (.putfield 76, 3) := by decide +kernel
theorem dX12_takesBack_89 : decode cX12_takesBack 89 = .ok (.aload_n 0, 1) := by decide +kernel
theorem dX12_takesBack_90 : decode cX12_takesBack 90 = .ok (.iconst 0, 1) := by decide +kernel
theorem dX12_takesBack_91 : decode cX12_takesBack 91 = .ok (.putfield 85, 3) := by decide +kernel
theorem dX12_takesBack_94 : decode cX12_takesBack 94 = .ok (.iload_n 1, 1) := by decide +kernel
theorem dX12_takesBack_95 : decode cX12_takesBack 95 = .ok (.aload_n 0, 1) := by decide +kernel
theorem dX12_takesBack_96 : decode cX12_takesBack 96 = .ok (.getfield 73, 3) := by decide +kernel
theorem dX12_takesBack_99 : decode cX12_takesBack 99 = .ok (.isub, 1) := by decide +kernel
theorem dX12_takesBack_100 : decode cX12_takesBack 100 = .ok (.ireturn, 1) := by decide +kernel
set_option maxRecDepth 20000 in
theorem ggX12_mayDecide_X12_isVariable : GoodIn wsX12_mayDecide wsX12_isVariable := goodIn_r _ [7, 8, 9, 10, 6, 11, 27, 28, 29, 30, 31, 32, 33, 34, 35, 36, 37, 38, 39, 40, 41, 42, 43, 44, 45, 46, 47, 48, 49, 50, 51, 52, 53, 54, 55, 56, 57, 58] (by decide +kernel) (by decide +kernel)
set_option maxRecDepth 20000 in
theorem gX12_mayDecide_X12_isVariable : GoodIn wsX12_mayDecide (wsV RX12 257 RX12 yX12_isVariable wsX12_isVariable) := goodIn_app (goodIn_of _ (by decide +kernel)) ggX12_mayDecide_X12_isVariable
set_option maxRecDepth 20000 in
theorem ggX12_mayDecide_X12_may : GoodIn wsX12_mayDecide wsX12_may := goodIn_r _ [15, 16, 27, 28, 29, 30, 31, 32, 33, 34, 35, 36, 37, 38, 39, 40, 41, 42, 43, 44, 45, 46, 47, 48, 49, 50, 51, 52, 53, 54, 55, 56, 57, 58] (by decide +kernel) (by decide +kernel)
set_option maxRecDepth 20000 in
theorem gX12_mayDecide_X12_may : GoodIn wsX12_mayDecide (wsV RX12 96 RX12 yX12_may wsX12_may) := goodIn_app (goodIn_of _ (by decide +kernel)) ggX12_mayDecide_X12_may
set_option maxRecDepth 20000 in
theorem ggX12_mayDecide_X12_isValue : GoodIn wsX12_mayDecide wsX12_isValue := goodIn_r _ [20, 1, 9, 10, 6, 11, 21, 22, 23, 27, 28, 29, 30, 31, 32, 33, 34, 35, 36, 37, 38, 39, 40, 41, 42, 43, 44, 45, 46, 47, 48, 49, 50, 51, 52, 53, 54, 55, 56, 57, 58] (by decide +kernel) (by decide +kernel)
set_option maxRecDepth 20000 in
theorem gX12_mayDecide_X12_isValue : GoodIn wsX12_mayDecide (wsV RX12 322 RX12 yX12_isValue wsX12_isValue) := goodIn_app (goodIn_of _ (by decide +kernel)) ggX12_mayDecide_X12_isValue
set_option maxRecDepth 20000 in
theorem ggX12_mayDecide_X12_sizeOf : GoodIn wsX12_mayDecide wsX12_sizeOf := goodIn_r _ [26] (by decide +kernel) (by decide +kernel)
set_option maxRecDepth 20000 in
theorem gX12_mayDecide_X12_sizeOf : GoodIn wsX12_mayDecide (va_wsS RX12 214 yX12_sizeOf wsX12_sizeOf) := goodIn_app (goodIn_of _ (by decide +kernel)) ggX12_mayDecide_X12_sizeOf
theorem dX12_mayDecide_0 : decode cX12_mayDecide 0 = .ok (.aload_n 0, 1) := by decide +kernel
theorem dX12_mayDecide_1 : decode cX12_mayDecide 1 = .ok (.aload_n 0, 1) := by decide +kernel
theorem dX12_mayDecide_2 : decode cX12_mayDecide 2 = .ok (.iload_n 1, 1) := by decide +kernel
theorem dX12_mayDecide_3 : decode cX12_mayDecide 3 = .ok (.invokevirtual 257, 3) := by decide +kernel
theorem dX12_mayDecide_6 : decode cX12_mayDecide 6 = .ok (.iconst 1, 1) := by decide +kernel
theorem dX12_mayDecide_7 : decode cX12_mayDecide 7 = .ok (.invokevirtual 96, 3) := by decide +kernel
theorem dX12_mayDecide_10 : decode cX12_mayDecide 10 = .ok (.ifCond .eq 54, 3) := by decide +kernel
theorem dX12_mayDecide_13 : decode cX12_mayDecide 13 = .ok (.aload_n 0, 1) := by decide +kernel
theorem dX12_mayDecide_14 : decode cX12_mayDecide 14 = .ok (.aload_n 0, 1) := by decide +kernel
theorem dX12_mayDecide_15 : decode cX12_mayDecide 15 = .ok (.iload_n 1, 1) := by decide +kernel
theorem dX12_mayDecide_16 : decode cX12_mayDecide 16 = .ok (.iload_n 2, 1) := by decide +kernel
theorem dX12_mayDecide_17 : decode cX12_mayDecide 17 = .ok (.invokevirtual 322, 3) := by decide +kernel
theorem dX12_mayDecide_20 : decode cX12_mayDecide 20 = .ok (.iconst 2, 1) := by decide +kernel
theorem dX12_mayDecide_21 : decode cX12_mayDecide 21 = .ok (.invokevirtual 96, 3) := by decide +kernel
theorem dX12_mayDecide_24 : decode cX12_mayDecide 24 = .ok (.ifCond .eq 40, 3) := by decide +kernel
theorem dX12_mayDecide_27 : decode cX12_mayDecide 27 = .ok (.aload_n 0, 1) := by decide +kernel
theorem dX12_mayDecide_28 : decode cX12_mayDecide 28 = .ok (.aload_n 0, 1) := by decide +kernel
theorem dX12_mayDecide_29 : decode cX12_mayDecide 29 = .ok (.getfield 16, 3) := by decide +kernel
theorem dX12_mayDecide_32 : decode cX12_mayDecide 32 = .ok (.iload_n 1, 1) := by decide +kernel
theorem dX12_mayDecide_33 : decode cX12_mayDecide 33 = .ok (.iaload, 1) := by decide +kernel
theorem dX12_mayDecide_34 : decode cX12_mayDecide 34 = .ok (.invokestatic 214, 3) := by decide +kernel
theorem dX12_mayDecide_37 : decode cX12_mayDecide 37 = .ok (.iconst 1, 1) := by decide +kernel
theorem dX12_mayDecide_38 : decode cX12_mayDecide 38 = .ok (.if_icmp .le 14, 3) := by decide +kernel
theorem dX12_mayDecide_41 : decode cX12_mayDecide 41 = .ok (.aload_n 0, 1) := by decide +kernel
theorem dX12_mayDecide_42 : decode cX12_mayDecide 42 = .ok (.getfield 85, 3) := by decide +kernel
theorem dX12_mayDecide_45 : decode cX12_mayDecide 45 = .ok (.ifCond .ne 7, 3) := by decide +kernel
theorem dX12_mayDecide_48 : decode cX12_mayDecide 48 = .ok (.iconst 1, 1) := by decide +kernel
theorem dX12_mayDecide_49 : decode cX12_mayDecide 49 = .ok (.goto 4, 3) := by decide +kernel
theorem dX12_mayDecide_52 : decode cX12_mayDecide 52 = .ok (.iconst 0, 1) := by decide +kernel
theorem dX12_mayDecide_53 : decode cX12_mayDecide 53 = .ok (.iconst 3, 1) := by decide +kernel
theorem dX12_mayDecide_54 : decode cX12_mayDecide 54 = .ok (.invokevirtual 96, 3) := by decide +kernel
theorem dX12_mayDecide_57 : decode cX12_mayDecide 57 = .ok (.ifCond .eq 7, 3) := by decide +kernel
theorem dX12_mayDecide_60 : decode cX12_mayDecide 60 = .ok (.iconst 1, 1) := by decide +kernel
theorem dX12_mayDecide_61 : decode cX12_mayDecide 61 = .ok (.goto 4, 3) := by decide +kernel
theorem dX12_mayDecide_64 : decode cX12_mayDecide 64 = .ok (.iconst 0, 1) := by decide +kernel
theorem dX12_mayDecide_65 : decode cX12_mayDecide 65 = .ok (.ireturn, 1) := by decide +kernel
set_option maxRecDepth 20000 in
theorem ggX12_decide_X12_mayDecide : GoodIn wsX12_decide wsX12_mayDecide := goodIn_r _ [7, 8, 9, 10, 11, 12, 6, 13, 14, 15, 16, 17, 18, 19, 20, 21, 1, 22, 23, 24, 25, 26, 27, 28, 29, 30, 31, 102, 103, 104, 105, 106, 107, 108, 109, 110, 111, 112, 113, 114, 115, 116, 117, 118, 119, 120, 121, 122, 123, 124, 125, 126, 127, 128, 129, 130, 131, 132, 133] (by decide +kernel) (by decide +kernel)
set_option maxRecDepth 20000 in
theorem gX12_decide_X12_mayDecide : GoodIn wsX12_decide (wsV RX12 328 RX12 yX12_mayDecide wsX12_mayDecide) := goodIn_app (goodIn_of _ (by decide +kernel)) ggX12_decide_X12_mayDecide
set_option maxRecDepth 20000 in
theorem ggX12_decide_X12_decides : GoodIn wsX12_decide wsX12_decides := goodIn_r _ [35, 36, 37, 38, 8, 9, 26, 27, 6, 28, 39, 40, 41, 42, 43, 44, 45, 46, 47, 14, 48, 49, 50, 51, 52, 53, 54, 55, 56, 57, 58, 59, 60, 61, 62, 63, 64, 65, 66, 67, 68, 69, 70, 71, 72, 73, 74, 75, 76, 77, 78, 79, 80, 81, 82, 83, 84, 85, 86, 87, 88, 89, 29, 30, 31, 15, 16, 17, 90, 91, 92, 93, 94, 95, 96, 97, 98, 99, 100, 101, 102, 103, 104, 105, 106, 107, 108, 109, 110, 111, 112, 113, 114, 115, 116, 117, 118, 119, 120, 121, 122, 123, 124, 125, 126, 127, 128, 129, 130, 131, 132, 133] (by decide +kernel) (by decide +kernel)
set_option maxRecDepth 20000 in
theorem gX12_decide_X12_decides : GoodIn wsX12_decide (wsV RX12 331 RX12 yX12_decides wsX12_decides) := goodIn_app (goodIn_of _ (by decide +kernel)) ggX12_decide_X12_decides
theorem dX12_decide_0 : decode cX12_decide 0 = .ok (.aload_n 0, 1) := by decide +kernel
theorem dX12_decide_1 : decode cX12_decide 1 = .ok (.iconst 0, 1) := by decide +kernel
theorem dX12_decide_2 : decode cX12_decide 2 = .ok (.putfield 70, 3) := by decide +kernel
theorem dX12_decide_5 : decode cX12_decide 5 = .ok (.aload_n 0, 1) := by decide +kernel
theorem dX12_decide_6 : decode cX12_decide 6 = .ok (.iload_n 1, 1) := by decide +kernel
theorem dX12_decide_7 : decode cX12_decide 7 = .ok (.iload_n 2, 1) := by decide +kernel
theorem dX12_decide_8 : decode cX12_decide 8 = .ok (.invokevirtual 328, 3) := by decide +kernel
theorem dX12_decide_11 : decode cX12_decide 11 = .ok (.ifCond .ne 5, 3) := by decide +kernel
theorem dX12_decide_14 : decode cX12_decide 14 = .ok (.iconst 0, 1) := by decide +kernel
theorem dX12_decide_15 : decode cX12_decide 15 = .ok (.ireturn, 1) := by decide +kernel
theorem dX12_decide_16 : decode cX12_decide 16 = .ok (.aload_n 0, 1) := by decide +kernel
theorem dX12_decide_17 : decode cX12_decide 17 = .ok (.dup, 1) := by decide +kernel
theorem dX12_decide_18 : decode cX12_decide 18 = .ok (.getfield 82, 3) := by decide +kernel
theorem dX12_decide_21 : decode cX12_decide 21 = .ok (.iconst 1, 1) := by decide +kernel
theorem dX12_decide_22 : decode cX12_decide 22 = .ok (.iadd, 1) := by decide +kernel
theorem dX12_decide_23 : decode cX12_decide 23 = .ok (.putfield 82, 3) := by decide +kernel
theorem dX12_decide_26 : decode cX12_decide 26 = .ok (.aload_n 0, 1) := by decide +kernel
theorem dX12_decide_27 : decode cX12_decide 27 = .ok (.iload_n 1, 1) := by decide +kernel
theorem dX12_decide_28 : decode cX12_decide 28 = .ok (.iload_n 2, 1) := by decide +kernel
theorem dX12_decide_29 : decode cX12_decide 29 = .ok (.invokevirtual 331, 3) := by decide +kernel
theorem dX12_decide_32 : decode cX12_decide 32 = .ok (.ireturn, 1) := by decide +kernel
set_option maxRecDepth 20000 in
theorem ggX12_back_X12_may : GoodIn wsX12_back wsX12_may := goodIn_r _ [7, 1, 16, 17, 18, 19, 20, 21, 22, 23, 24, 25, 26, 27, 28, 29, 30, 31, 32, 33, 34, 35, 36, 37, 38, 39, 40, 41, 42, 43, 44, 45, 46, 47] (by decide +kernel) (by decide +kernel)
set_option maxRecDepth 20000 in
theorem gX12_back_X12_may : GoodIn wsX12_back (wsV RX12 96 RX12 yX12_may wsX12_may) := goodIn_app (goodIn_of _ (by decide +kernel)) ggX12_back_X12_may
set_option maxRecDepth 20000 in
theorem ggX12_back_X12_takesBack : GoodIn wsX12_back wsX12_takesBack := goodIn_r _ [11, 12, 13, 2, 14, 15, 16, 17, 18, 19, 20, 21, 22, 23, 24, 25, 26, 27, 28, 29, 30, 31, 32, 33, 34, 35, 36, 37, 38, 39, 40, 41, 42, 43, 44, 45, 46, 47] (by decide +kernel) (by decide +kernel)
set_option maxRecDepth 20000 in
theorem gX12_back_X12_takesBack : GoodIn wsX12_back (wsV RX12 334 RX12 yX12_takesBack wsX12_takesBack) := goodIn_app (goodIn_of _ (by decide +kernel)) ggX12_back_X12_takesBack
theorem dX12_back_0 : decode cX12_back 0 = .ok (.aload_n 0, 1) := by decide +kernel
theorem dX12_back_1 : decode cX12_back 1 = .ok (.iconst 0, 1) := by decide +kernel
theorem dX12_back_2 : decode cX12_back 2 = .ok (.putfield 70, 3) := by decide +kernel
theorem dX12_back_5 : decode cX12_back 5 = .ok (.aload_n 0, 1) := by decide +kernel
theorem dX12_back_6 : decode cX12_back 6 = .ok (.aload_n 0, 1) := by decide +kernel
theorem dX12_back_7 : decode cX12_back 7 = .ok (.getfield 76, 3) := by decide +kernel
theorem dX12_back_10 : decode cX12_back 10 = .ok (.ifCond .le 7, 3) := by decide +kernel
theorem dX12_back_13 : decode cX12_back 13 = .ok (.iconst 1, 1) := by decide +kernel
theorem dX12_back_14 : decode cX12_back 14 = .ok (.goto 4, 3) := by decide +kernel
theorem dX12_back_17 : decode cX12_back 17 = .ok (.iconst 0, 1) := by decide +kernel
theorem dX12_back_18 : decode cX12_back 18 = .ok (.iconst 1, 1) := by decide +kernel
theorem dX12_back_19 : decode cX12_back 19 = .ok (.invokevirtual 96, 3) := by decide +kernel
theorem dX12_back_22 : decode cX12_back 22 = .ok (.ifCond .eq 10, 3) := by decide +kernel
theorem dX12_back_25 : decode cX12_back 25 = .ok (.aload_n 0, 1) := by decide +kernel
theorem dX12_back_26 : decode cX12_back 26 = .ok (.invokevirtual 334, 3) := by decide +kernel
theorem dX12_back_29 : decode cX12_back 29 = .ok (.goto 4, 3) := by decide +kernel
theorem dX12_back_32 : decode cX12_back 32 = .ok (.iconst 0, 1) := by decide +kernel
theorem dX12_back_33 : decode cX12_back 33 = .ok (.ireturn, 1) := by decide +kernel
set_option maxRecDepth 20000 in
theorem ggX12_decision_X12_isIn : GoodIn wsX12_decision wsX12_isIn := goodIn_r _ [7] (by decide +kernel) (by decide +kernel)
set_option maxRecDepth 20000 in
theorem gX12_decision_X12_isIn : GoodIn wsX12_decision (va_wsS RX12 100 yX12_isIn wsX12_isIn) := goodIn_app (goodIn_of _ (by decide +kernel)) ggX12_decision_X12_isIn
set_option maxRecDepth 20000 in
theorem ggX12_decision_X12_may : GoodIn wsX12_decision wsX12_may := goodIn_r _ [11, 1, 12, 13, 14, 15, 16, 17, 18, 19, 20, 21, 22, 23, 24, 25, 26, 27, 28, 29, 30, 31, 32, 33, 34, 35, 36, 37, 38, 39, 40, 41, 42, 43] (by decide +kernel) (by decide +kernel)
set_option maxRecDepth 20000 in
theorem gX12_decision_X12_may : GoodIn wsX12_decision (wsV RX12 96 RX12 yX12_may wsX12_may) := goodIn_app (goodIn_of _ (by decide +kernel)) ggX12_decision_X12_may
theorem dX12_decision_0 : decode cX12_decision 0 = .ok (.aload_n 0, 1) := by decide +kernel
theorem dX12_decision_1 : decode cX12_decision 1 = .ok (.iconst 0, 1) := by decide +kernel
theorem dX12_decision_2 : decode cX12_decision 2 = .ok (.putfield 70, 3) := by decide +kernel
theorem dX12_decision_5 : decode cX12_decision 5 = .ok (.aload_n 0, 1) := by decide +kernel
theorem dX12_decision_6 : decode cX12_decision 6 = .ok (.iload_n 1, 1) := by decide +kernel
theorem dX12_decision_7 : decode cX12_decision 7 = .ok (.iconst 0, 1) := by decide +kernel
theorem dX12_decision_8 : decode cX12_decision 8 = .ok (.aload_n 0, 1) := by decide +kernel
theorem dX12_decision_9 : decode cX12_decision 9 = .ok (.getfield 76, 3) := by decide +kernel
theorem dX12_decision_12 : decode cX12_decision 12 = .ok (.iconst 1, 1) := by decide +kernel
theorem dX12_decision_13 : decode cX12_decision 13 = .ok (.isub, 1) := by decide +kernel
theorem dX12_decision_14 : decode cX12_decision 14 = .ok (.invokestatic 100, 3) := by decide +kernel
theorem dX12_decision_17 : decode cX12_decision 17 = .ok (.iconst 1, 1) := by decide +kernel
theorem dX12_decision_18 : decode cX12_decision 18 = .ok (.invokevirtual 96, 3) := by decide +kernel
theorem dX12_decision_21 : decode cX12_decision 21 = .ok (.ifCond .eq 28, 3) := by decide +kernel
theorem dX12_decision_24 : decode cX12_decision 24 = .ok (.bipush 10, 2) := by decide +kernel
theorem dX12_decision_26 : decode cX12_decision 26 = .ok (.aload_n 0, 1) := by decide +kernel
theorem dX12_decision_27 : decode cX12_decision 27 = .ok (.getfield 22, 3) := by decide +kernel
theorem dX12_decision_30 : decode cX12_decision 30 = .ok (.iconst 2, 1) := by decide +kernel
theorem dX12_decision_31 : decode cX12_decision 31 = .ok (.iload_n 1, 1) := by decide +kernel
theorem dX12_decision_32 : decode cX12_decision 32 = .ok (.imul, 1) := by decide +kernel
theorem dX12_decision_33 : decode cX12_decision 33 = .ok (.iaload, 1) := by decide +kernel
theorem dX12_decision_34 : decode cX12_decision 34 = .ok (.imul, 1) := by decide +kernel
theorem dX12_decision_35 : decode cX12_decision 35 = .ok (.aload_n 0, 1) := by decide +kernel
theorem dX12_decision_36 : decode cX12_decision 36 = .ok (.getfield 22, 3) := by decide +kernel
theorem dX12_decision_39 : decode cX12_decision 39 = .ok (.iconst 2, 1) := by decide +kernel
theorem dX12_decision_40 : decode cX12_decision 40 = .ok (.iload_n 1, 1) := by decide +kernel
theorem dX12_decision_41 : decode cX12_decision 41 = .ok (.imul, 1) := by decide +kernel
theorem dX12_decision_42 : decode cX12_decision 42 = .ok (.iconst 1, 1) := by decide +kernel
theorem dX12_decision_43 : decode cX12_decision 43 = .ok (.iadd, 1) := by decide +kernel
theorem dX12_decision_44 : decode cX12_decision 44 = .ok (.iaload, 1) := by decide +kernel
theorem dX12_decision_45 : decode cX12_decision 45 = .ok (.iadd, 1) := by decide +kernel
theorem dX12_decision_46 : decode cX12_decision 46 = .ok (.goto 4, 3) := by decide +kernel
theorem dX12_decision_49 : decode cX12_decision 49 = .ok (.iconst 0, 1) := by decide +kernel
theorem dX12_decision_50 : decode cX12_decision 50 = .ok (.ireturn, 1) := by decide +kernel
set_option maxRecDepth 20000 in
theorem ggX12_probe_X12_mayDecide : GoodIn wsX12_probe wsX12_mayDecide := goodIn_r _ [7, 8, 2, 9, 10, 11, 6, 12, 13, 14, 15, 16, 17, 18, 19, 20, 1, 21, 22, 23, 24, 25, 26, 27, 28, 29, 30, 105, 106, 107, 108, 109, 110, 111, 112, 113, 114, 115, 116, 117, 118, 119, 120, 121, 122, 123, 124, 125, 126, 127, 128, 129, 130, 131, 132, 133, 134, 135, 136] (by decide +kernel) (by decide +kernel)
set_option maxRecDepth 20000 in
theorem gX12_probe_X12_mayDecide : GoodIn wsX12_probe (wsV RX12 328 RX12 yX12_mayDecide wsX12_mayDecide) := goodIn_app (goodIn_of _ (by decide +kernel)) ggX12_probe_X12_mayDecide
set_option maxRecDepth 20000 in
theorem ggX12_probe_X12_decides : GoodIn wsX12_probe wsX12_decides := goodIn_r _ [34, 35, 36, 37, 8, 2, 25, 26, 6, 27, 38, 39, 40, 41, 42, 43, 44, 45, 46, 13, 47, 48, 49, 50, 51, 52, 53, 54, 55, 56, 57, 58, 59, 60, 61, 62, 63, 64, 65, 66, 67, 68, 69, 70, 71, 72, 73, 74, 75, 76, 77, 78, 79, 80, 81, 82, 83, 84, 85, 86, 87, 88, 28, 29, 30, 14, 15, 16, 89, 90, 91, 92, 93, 94, 95, 96, 97, 98, 99, 100, 105, 106, 107, 108, 109, 110, 111, 112, 113, 114, 115, 116, 117, 118, 119, 120, 121, 122, 123, 124, 125, 126, 127, 128, 129, 130, 131, 132, 133, 134, 135, 136] (by decide +kernel) (by decide +kernel)
set_option maxRecDepth 20000 in
theorem gX12_probe_X12_decides : GoodIn wsX12_probe (wsV RX12 331 RX12 yX12_decides wsX12_decides) := goodIn_app (goodIn_of _ (by decide +kernel)) ggX12_probe_X12_decides
set_option maxRecDepth 20000 in
theorem ggX12_probe_X12_takesBack : GoodIn wsX12_probe wsX12_takesBack := goodIn_r _ [104, 35, 42, 37, 8, 2, 105, 106, 107, 108, 109, 110, 111, 112, 113, 114, 115, 116, 117, 118, 119, 120, 121, 122, 123, 124, 125, 126, 127, 128, 129, 130, 131, 132, 133, 134, 135, 136] (by decide +kernel) (by decide +kernel)
set_option maxRecDepth 20000 in
theorem gX12_probe_X12_takesBack : GoodIn wsX12_probe (wsV RX12 334 RX12 yX12_takesBack wsX12_takesBack) := goodIn_app (goodIn_of _ (by decide +kernel)) ggX12_probe_X12_takesBack
theorem dX12_probe_0 : decode cX12_probe 0 = .ok (.aload_n 0, 1) := by decide +kernel
theorem dX12_probe_1 : decode cX12_probe 1 = .ok (.iconst 0, 1) := by decide +kernel
theorem dX12_probe_2 : decode cX12_probe 2 = .ok (.putfield 70, 3) := by decide +kernel
theorem dX12_probe_5 : decode cX12_probe 5 = .ok (.aload_n 0, 1) := by decide +kernel
theorem dX12_probe_6 : decode cX12_probe 6 = .ok (.iload_n 1, 1) := by decide +kernel
theorem dX12_probe_7 : decode cX12_probe 7 = .ok (.iload_n 2, 1) := by decide +kernel
theorem dX12_probe_8 : decode cX12_probe 8 = .ok (.invokevirtual 328, 3) := by decide +kernel
theorem dX12_probe_11 : decode cX12_probe 11 = .ok (.ifCond .ne 5, 3) := by decide +kernel
theorem dX12_probe_14 : decode cX12_probe 14 = .ok (.iconst 0, 1) := by decide +kernel
theorem dX12_probe_15 : decode cX12_probe 15 = .ok (.ireturn, 1) := by decide +kernel
theorem dX12_probe_16 : decode cX12_probe 16 = .ok (.aload_n 0, 1) := by decide +kernel
theorem dX12_probe_17 : decode cX12_probe 17 = .ok (.iload_n 1, 1) := by decide +kernel
theorem dX12_probe_18 : decode cX12_probe 18 = .ok (.iload_n 2, 1) := by decide +kernel
theorem dX12_probe_19 : decode cX12_probe 19 = .ok (.invokevirtual 331, 3) := by decide +kernel
theorem dX12_probe_22 : decode cX12_probe 22 = .ok (.istore_n 3, 1) := by decide +kernel
theorem dX12_probe_23 : decode cX12_probe 23 = .ok (.aload_n 0, 1) := by decide +kernel
theorem dX12_probe_24 : decode cX12_probe 24 = .ok (.getfield 85, 3) := by decide +kernel
theorem dX12_probe_27 : decode cX12_probe 27 = .ok (.istore 4, 2) := by decide +kernel
theorem dX12_probe_29 : decode cX12_probe 29 = .ok (.aload_n 0, 1) := by decide +kernel
theorem dX12_probe_30 : decode cX12_probe 30 = .ok (.invokevirtual 334, 3) := by decide +kernel
theorem dX12_probe_33 : decode cX12_probe 33 = .ok (.istore 5, 2) := by decide +kernel
theorem dX12_probe_35 : decode cX12_probe 35 = .ok (.iload 4, 2) := by decide +kernel
theorem dX12_probe_37 : decode cX12_probe 37 = .ok (.ifCond .eq 7, 3) := by decide +kernel
theorem dX12_probe_40 : decode cX12_probe 40 = .ok (.iconst (-1), 1) := by decide +kernel
theorem dX12_probe_41 : decode cX12_probe 41 = .ok (.goto 5, 3) := by decide +kernel
theorem dX12_probe_44 : decode cX12_probe 44 = .ok (.iload 5, 2) := by decide +kernel
theorem dX12_probe_46 : decode cX12_probe 46 = .ok (.ireturn, 1) := by decide +kernel
set_option maxRecDepth 20000 in
theorem ggX12_makeFail_X12_has : GoodIn wsX12_makeFail wsX12_has := goodIn_r _ [10] (by decide +kernel) (by decide +kernel)
set_option maxRecDepth 20000 in
theorem gX12_makeFail_X12_has : GoodIn wsX12_makeFail (va_wsS RX12 178 yX12_has wsX12_has) := goodIn_app (goodIn_of _ (by decide +kernel)) ggX12_makeFail_X12_has
set_option maxRecDepth 20000 in
theorem ggX12_makeFail_X12_sweeps : GoodIn wsX12_makeFail wsX12_sweeps := goodIn_r _ [14, 2, 15, 16, 17, 18, 19, 9, 20, 21, 22, 23, 24, 25, 26, 27, 28, 29, 30, 31, 32, 33, 34, 35, 7, 8, 10, 36, 37, 38, 39, 40, 41, 42, 43, 44, 45, 46, 47, 48, 49, 50, 51, 52, 53, 54, 55, 56, 57, 58, 59, 60, 61, 62, 63, 64, 65, 66, 67, 68, 69, 70, 71, 72, 73, 74, 3, 4, 5, 75, 76, 77, 78, 79, 80, 81, 82, 83, 84, 85, 86, 87, 88, 89, 90, 91, 92, 93, 94, 95, 96, 97, 98, 99, 100, 101, 102, 103, 104, 105, 106] (by decide +kernel) (by decide +kernel)
set_option maxRecDepth 20000 in
theorem gX12_makeFail_X12_sweeps : GoodIn wsX12_makeFail (wsV RX12 89 RX12 yX12_sweeps wsX12_sweeps) := goodIn_app (goodIn_of _ (by decide +kernel)) ggX12_makeFail_X12_sweeps
theorem dX12_makeFail_0 : decode cX12_makeFail 0 = .ok (.iconst 0, 1) := by decide +kernel
theorem dX12_makeFail_1 : decode cX12_makeFail 1 = .ok (.istore_n 2, 1) := by decide +kernel
theorem dX12_makeFail_2 : decode cX12_makeFail 2 = .ok (.iload_n 2, 1) := by decide +kernel
theorem dX12_makeFail_3 : decode cX12_makeFail 3 = .ok (.bipush 7, 2) := by decide +kernel
theorem dX12_makeFail_5 : decode cX12_makeFail 5 = .ok (.if_icmp .ge 23, 3) := by decide +kernel
theorem dX12_makeFail_8 : decode cX12_makeFail 8 = .ok (.aload_n 0, 1) := by decide +kernel
theorem dX12_makeFail_9 : decode cX12_makeFail 9 = .ok (.getfield 64, 3) := by decide +kernel
theorem dX12_makeFail_12 : decode cX12_makeFail 12 = .ok (.iload_n 2, 1) := by decide +kernel
theorem dX12_makeFail_13 : decode cX12_makeFail 13 = .ok (.aload_n 0, 1) := by decide +kernel
theorem dX12_makeFail_14 : decode cX12_makeFail 14 = .ok (.getfield 7, 3) := by decide +kernel
theorem dX12_makeFail_17 : decode cX12_makeFail 17 = .ok (.iconst 2, 1) := by decide +kernel
theorem dX12_makeFail_18 : decode cX12_makeFail 18 = .ok (.iload_n 2, 1) := by decide +kernel
theorem dX12_makeFail_19 : decode cX12_makeFail 19 = .ok (.iadd, 1) := by decide +kernel
theorem dX12_makeFail_20 : decode cX12_makeFail 20 = .ok (.iaload, 1) := by decide +kernel
theorem dX12_makeFail_21 : decode cX12_makeFail 21 = .ok (.iastore, 1) := by decide +kernel
theorem dX12_makeFail_22 : decode cX12_makeFail 22 = .ok (.iinc 2 1, 3) := by decide +kernel
theorem dX12_makeFail_25 : decode cX12_makeFail 25 = .ok (.goto (-23), 3) := by decide +kernel
theorem dX12_makeFail_28 : decode cX12_makeFail 28 = .ok (.iconst 0, 1) := by decide +kernel
theorem dX12_makeFail_29 : decode cX12_makeFail 29 = .ok (.istore_n 2, 1) := by decide +kernel
theorem dX12_makeFail_30 : decode cX12_makeFail 30 = .ok (.iload_n 2, 1) := by decide +kernel
theorem dX12_makeFail_31 : decode cX12_makeFail 31 = .ok (.aload_n 0, 1) := by decide +kernel
theorem dX12_makeFail_32 : decode cX12_makeFail 32 = .ok (.getfield 73, 3) := by decide +kernel
theorem dX12_makeFail_35 : decode cX12_makeFail 35 = .ok (.if_icmp .ge 52, 3) := by decide +kernel
theorem dX12_makeFail_38 : decode cX12_makeFail 38 = .ok (.aload_n 0, 1) := by decide +kernel
theorem dX12_makeFail_39 : decode cX12_makeFail 39 = .ok (.getfield 19, 3) := by decide +kernel
theorem dX12_makeFail_42 : decode cX12_makeFail 42 = .ok (.iconst 5, 1) := by decide +kernel
theorem dX12_makeFail_43 : decode cX12_makeFail 43 = .ok (.iload_n 2, 1) := by decide +kernel
theorem dX12_makeFail_44 : decode cX12_makeFail 44 = .ok (.imul, 1) := by decide +kernel
theorem dX12_makeFail_45 : decode cX12_makeFail 45 = .ok (.iconst 3, 1) := by decide +kernel
theorem dX12_makeFail_46 : decode cX12_makeFail 46 = .ok (.iadd, 1) := by decide +kernel
theorem dX12_makeFail_47 : decode cX12_makeFail 47 = .ok (.iaload, 1) := by decide +kernel
theorem dX12_makeFail_48 : decode cX12_makeFail 48 = .ok (.ifCond .ne 39, 3) := by decide +kernel
theorem dX12_makeFail_51 : decode cX12_makeFail 51 = .ok (.aload_n 0, 1) := by decide +kernel
theorem dX12_makeFail_52 : decode cX12_makeFail 52 = .ok (.getfield 64, 3) := by decide +kernel
theorem dX12_makeFail_55 : decode cX12_makeFail 55 = .ok (.aload_n 0, 1) := by decide +kernel
theorem dX12_makeFail_56 : decode cX12_makeFail 56 = .ok (.getfield 19, 3) := by decide +kernel
theorem dX12_makeFail_59 : decode cX12_makeFail 59 = .ok (.iconst 5, 1) := by decide +kernel
theorem dX12_makeFail_60 : decode cX12_makeFail 60 = .ok (.iload_n 2, 1) := by decide +kernel
theorem dX12_makeFail_61 : decode cX12_makeFail 61 = .ok (.imul, 1) := by decide +kernel
theorem dX12_makeFail_62 : decode cX12_makeFail 62 = .ok (.iaload, 1) := by decide +kernel
theorem dX12_makeFail_63 : decode cX12_makeFail 63 = .ok (.dup2, 1) := by decide +kernel
theorem dX12_makeFail_64 : decode cX12_makeFail 64 = .ok (.iaload, 1) := by decide +kernel
theorem dX12_makeFail_65 : decode cX12_makeFail 65 = .ok (.iconst 1, 1) := by decide +kernel
theorem dX12_makeFail_66 : decode cX12_makeFail 66 = .ok (.aload_n 0, 1) := by decide +kernel
theorem dX12_makeFail_67 : decode cX12_makeFail 67 = .ok (.getfield 19, 3) := by decide +kernel
theorem dX12_makeFail_70 : decode cX12_makeFail 70 = .ok (.iconst 5, 1) := by decide +kernel
theorem dX12_makeFail_71 : decode cX12_makeFail 71 = .ok (.iload_n 2, 1) := by decide +kernel
theorem dX12_makeFail_72 : decode cX12_makeFail 72 = .ok (.imul, 1) := by decide +kernel
theorem dX12_makeFail_73 : decode cX12_makeFail 73 = .ok (.iconst 1, 1) := by decide +kernel
theorem dX12_makeFail_74 : decode cX12_makeFail 74 = .ok (.iadd, 1) := by decide +kernel
theorem dX12_makeFail_75 : decode cX12_makeFail 75 = .ok (.iaload, 1) := by decide +kernel
theorem dX12_makeFail_76 : decode cX12_makeFail 76 = .ok (.ishl, 1) := by decide +kernel
theorem dX12_makeFail_77 : decode cX12_makeFail 77 = .ok (.iconst (-1), 1) := by decide +kernel
theorem dX12_makeFail_78 : decode cX12_makeFail 78 = .ok (.ixor, 1) := by decide +kernel
theorem dX12_makeFail_79 : decode cX12_makeFail 79 = .ok (.iand, 1) := by decide +kernel
theorem dX12_makeFail_80 : decode cX12_makeFail 80 = .ok (.iastore, 1) := by decide +kernel
theorem dX12_makeFail_81 : decode cX12_makeFail 81 = .ok (.iinc 2 1, 3) := by decide +kernel
theorem dX12_makeFail_84 : decode cX12_makeFail 84 = .ok (.goto (-54), 3) := by decide +kernel
theorem dX12_makeFail_87 : decode cX12_makeFail 87 = .ok (.iconst 0, 1) := by decide +kernel
theorem dX12_makeFail_88 : decode cX12_makeFail 88 = .ok (.istore_n 2, 1) := by decide +kernel
theorem dX12_makeFail_89 : decode cX12_makeFail 89 = .ok (.iload_n 2, 1) := by decide +kernel
theorem dX12_makeFail_90 : decode cX12_makeFail 90 = .ok (.aload_n 0, 1) := by decide +kernel
theorem dX12_makeFail_91 : decode cX12_makeFail 91 = .ok (.getfield 76, 3) := by decide +kernel
theorem dX12_makeFail_94 : decode cX12_makeFail 94 = .ok (.if_icmp .ge 42, 3) := by decide +kernel
theorem dX12_makeFail_97 : decode cX12_makeFail 97 = .ok (.iload_n 1, 1) := by decide +kernel
theorem dX12_makeFail_98 : decode cX12_makeFail 98 = .ok (.iload_n 2, 1) := by decide +kernel
theorem dX12_makeFail_99 : decode cX12_makeFail 99 = .ok (.invokestatic 178, 3) := by decide +kernel
theorem dX12_makeFail_102 : decode cX12_makeFail 102 = .ok (.ifCond .eq 28, 3) := by decide +kernel
theorem dX12_makeFail_105 : decode cX12_makeFail 105 = .ok (.aload_n 0, 1) := by decide +kernel
theorem dX12_makeFail_106 : decode cX12_makeFail 106 = .ok (.getfield 64, 3) := by decide +kernel
theorem dX12_makeFail_109 : decode cX12_makeFail 109 = .ok (.aload_n 0, 1) := by decide +kernel
theorem dX12_makeFail_110 : decode cX12_makeFail 110 = .ok (.getfield 22, 3) := by decide +kernel
theorem dX12_makeFail_113 : decode cX12_makeFail 113 = .ok (.iconst 2, 1) := by decide +kernel
theorem dX12_makeFail_114 : decode cX12_makeFail 114 = .ok (.iload_n 2, 1) := by decide +kernel
theorem dX12_makeFail_115 : decode cX12_makeFail 115 = .ok (.imul, 1) := by decide +kernel
theorem dX12_makeFail_116 : decode cX12_makeFail 116 = .ok (.iaload, 1) := by decide +kernel
theorem dX12_makeFail_117 : decode cX12_makeFail 117 = .ok (.iconst 1, 1) := by decide +kernel
theorem dX12_makeFail_118 : decode cX12_makeFail 118 = .ok (.aload_n 0, 1) := by decide +kernel
theorem dX12_makeFail_119 : decode cX12_makeFail 119 = .ok (.getfield 22, 3) := by decide +kernel
theorem dX12_makeFail_122 : decode cX12_makeFail 122 = .ok (.iconst 2, 1) := by decide +kernel
theorem dX12_makeFail_123 : decode cX12_makeFail 123 = .ok (.iload_n 2, 1) := by decide +kernel
theorem dX12_makeFail_124 : decode cX12_makeFail 124 = .ok (.imul, 1) := by decide +kernel
theorem dX12_makeFail_125 : decode cX12_makeFail 125 = .ok (.iconst 1, 1) := by decide +kernel
theorem dX12_makeFail_126 : decode cX12_makeFail 126 = .ok (.iadd, 1) := by decide +kernel
theorem dX12_makeFail_127 : decode cX12_makeFail 127 = .ok (.iaload, 1) := by decide +kernel
theorem dX12_makeFail_128 : decode cX12_makeFail 128 = .ok (.ishl, 1) := by decide +kernel
theorem dX12_makeFail_129 : decode cX12_makeFail 129 = .ok (.iastore, 1) := by decide +kernel
theorem dX12_makeFail_130 : decode cX12_makeFail 130 = .ok (.iinc 2 1, 3) := by decide +kernel
theorem dX12_makeFail_133 : decode cX12_makeFail 133 = .ok (.goto (-44), 3) := by decide +kernel
theorem dX12_makeFail_136 : decode cX12_makeFail 136 = .ok (.aload_n 0, 1) := by decide +kernel
theorem dX12_makeFail_137 : decode cX12_makeFail 137 = .ok (.aload_n 0, 1) := by decide +kernel
theorem dX12_makeFail_138 : decode cX12_makeFail 138 = .ok (.getfield 64, 3) := by decide +kernel
theorem dX12_makeFail_141 : decode cX12_makeFail 141 = .ok (.iconst 0, 1) := by decide +kernel
theorem dX12_makeFail_142 : decode cX12_makeFail 142 = .ok (.invokevirtual 89, 3) := by decide +kernel
theorem dX12_makeFail_145 : decode cX12_makeFail 145 = .ok (.ifCond .ne 7, 3) := by decide +kernel
theorem dX12_makeFail_148 : decode cX12_makeFail 148 = .ok (.iconst 1, 1) := by decide +kernel
theorem dX12_makeFail_149 : decode cX12_makeFail 149 = .ok (.goto 4, 3) := by decide +kernel
theorem dX12_makeFail_152 : decode cX12_makeFail 152 = .ok (.iconst 0, 1) := by decide +kernel
theorem dX12_makeFail_153 : decode cX12_makeFail 153 = .ok (.ireturn, 1) := by decide +kernel
set_option maxRecDepth 20000 in
theorem ggX12_learns_X12_makeFail : GoodIn wsX12_learns wsX12_makeFail := goodIn_r _ [11, 12, 13, 14, 15, 1, 2, 16, 17, 10, 18, 19, 20, 21, 22, 3, 4, 23, 24, 25, 26, 27, 28, 29, 30, 31, 32, 33, 34, 35, 36, 37, 38, 39, 40, 41, 42, 43, 44, 45, 46, 47, 48, 49, 50, 51, 52, 53, 54, 55, 56, 57, 58, 59, 60, 61, 62, 63, 64, 65, 66, 67, 68, 69, 70, 71, 72, 73, 74, 75, 76, 77, 78, 79, 80, 85, 86, 87, 88, 89, 90, 91, 92, 93, 94, 95, 96, 97, 98, 99, 100, 101, 102, 103, 104, 105, 106, 107, 108, 109, 110, 111, 112, 113, 114, 115, 116] (by decide +kernel) (by decide +kernel)
set_option maxRecDepth 20000 in
theorem gX12_learns_X12_makeFail : GoodIn wsX12_learns (wsV RX12 337 RX12 yX12_makeFail wsX12_makeFail) := goodIn_app (goodIn_of _ (by decide +kernel)) ggX12_learns_X12_makeFail
set_option maxRecDepth 20000 in
theorem ggX12_learns_X12_has : GoodIn wsX12_learns wsX12_has := goodIn_r _ [18] (by decide +kernel) (by decide +kernel)
set_option maxRecDepth 20000 in
theorem gX12_learns_X12_has : GoodIn wsX12_learns (va_wsS RX12 178 yX12_has wsX12_has) := goodIn_app (goodIn_of _ (by decide +kernel)) ggX12_learns_X12_has
set_option maxRecDepth 20000 in
theorem ggX12_learns_X12_takesBack : GoodIn wsX12_learns wsX12_takesBack := goodIn_r _ [84, 14, 15, 1, 5, 6, 85, 86, 87, 88, 89, 90, 91, 92, 93, 94, 95, 96, 97, 98, 99, 100, 101, 102, 103, 104, 105, 106, 107, 108, 109, 110, 111, 112, 113, 114, 115, 116] (by decide +kernel) (by decide +kernel)
set_option maxRecDepth 20000 in
theorem gX12_learns_X12_takesBack : GoodIn wsX12_learns (wsV RX12 334 RX12 yX12_takesBack wsX12_takesBack) := goodIn_app (goodIn_of _ (by decide +kernel)) ggX12_learns_X12_takesBack
set_option maxRecDepth 20000 in
theorem ggX12_learns_X12_sweeps : GoodIn wsX12_learns wsX12_sweeps := goodIn_r _ [22, 13, 3, 4, 23, 24, 25, 10, 26, 27, 28, 29, 30, 31, 32, 33, 34, 35, 36, 37, 38, 39, 40, 41, 16, 17, 18, 42, 43, 44, 45, 46, 47, 48, 49, 50, 51, 52, 53, 54, 55, 56, 57, 58, 59, 60, 61, 62, 63, 64, 65, 66, 67, 68, 69, 70, 71, 72, 73, 74, 75, 76, 77, 78, 79, 80, 14, 15, 1, 85, 86, 87, 88, 89, 90, 91, 92, 93, 94, 95, 96, 97, 98, 99, 100, 101, 102, 103, 104, 105, 106, 107, 108, 109, 110, 111, 112, 113, 114, 115, 116] (by decide +kernel) (by decide +kernel)
set_option maxRecDepth 20000 in
theorem gX12_learns_X12_sweeps : GoodIn wsX12_learns (wsV RX12 89 RX12 yX12_sweeps wsX12_sweeps) := goodIn_app (goodIn_of _ (by decide +kernel)) ggX12_learns_X12_sweeps
set_option maxRecDepth 20000 in
theorem ggX12_learns_X12_sizeOf : GoodIn wsX12_learns wsX12_sizeOf := goodIn_r _ [65] (by decide +kernel) (by decide +kernel)
set_option maxRecDepth 20000 in
theorem gX12_learns_X12_sizeOf : GoodIn wsX12_learns (va_wsS RX12 214 yX12_sizeOf wsX12_sizeOf) := goodIn_app (goodIn_of _ (by decide +kernel)) ggX12_learns_X12_sizeOf
theorem dX12_learns_0 : decode cX12_learns 0 = .ok (.iconst 1, 1) := by decide +kernel
theorem dX12_learns_1 : decode cX12_learns 1 = .ok (.aload_n 0, 1) := by decide +kernel
theorem dX12_learns_2 : decode cX12_learns 2 = .ok (.getfield 76, 3) := by decide +kernel
theorem dX12_learns_5 : decode cX12_learns 5 = .ok (.ishl, 1) := by decide +kernel
theorem dX12_learns_6 : decode cX12_learns 6 = .ok (.iconst 1, 1) := by decide +kernel
theorem dX12_learns_7 : decode cX12_learns 7 = .ok (.isub, 1) := by decide +kernel
theorem dX12_learns_8 : decode cX12_learns 8 = .ok (.istore_n 1, 1) := by decide +kernel
theorem dX12_learns_9 : decode cX12_learns 9 = .ok (.iconst 0, 1) := by decide +kernel
theorem dX12_learns_10 : decode cX12_learns 10 = .ok (.istore_n 2, 1) := by decide +kernel
theorem dX12_learns_11 : decode cX12_learns 11 = .ok (.iload_n 2, 1) := by decide +kernel
theorem dX12_learns_12 : decode cX12_learns 12 = .ok (.aload_n 0, 1) := by decide +kernel
theorem dX12_learns_13 : decode cX12_learns 13 = .ok (.getfield 76, 3) := by decide +kernel
theorem dX12_learns_16 : decode cX12_learns 16 = .ok (.if_icmp .ge 35, 3) := by decide +kernel
theorem dX12_learns_19 : decode cX12_learns 19 = .ok (.iload_n 1, 1) := by decide +kernel
theorem dX12_learns_20 : decode cX12_learns 20 = .ok (.aload_n 0, 1) := by decide +kernel
theorem dX12_learns_21 : decode cX12_learns 21 = .ok (.iload_n 1, 1) := by decide +kernel
theorem dX12_learns_22 : decode cX12_learns 22 = .ok (.iconst 1, 1) := by decide +kernel
theorem dX12_learns_23 : decode cX12_learns 23 = .ok (.iload_n 2, 1) := by decide +kernel
theorem dX12_learns_24 : decode cX12_learns 24 = .ok (.ishl, 1) := by decide +kernel
theorem dX12_learns_25 : decode cX12_learns 25 = .ok (.iconst (-1), 1) := by decide +kernel
theorem dX12_learns_26 : decode cX12_learns 26 = .ok (.ixor, 1) := by decide +kernel
theorem dX12_learns_27 : decode cX12_learns 27 = .ok (.iand, 1) := by decide +kernel
theorem dX12_learns_28 : decode cX12_learns 28 = .ok (.invokevirtual 337, 3) := by decide +kernel
theorem dX12_learns_31 : decode cX12_learns 31 = .ok (.ifCond .eq 11, 3) := by decide +kernel
theorem dX12_learns_34 : decode cX12_learns 34 = .ok (.iconst 1, 1) := by decide +kernel
theorem dX12_learns_35 : decode cX12_learns 35 = .ok (.iload_n 2, 1) := by decide +kernel
theorem dX12_learns_36 : decode cX12_learns 36 = .ok (.ishl, 1) := by decide +kernel
theorem dX12_learns_37 : decode cX12_learns 37 = .ok (.iconst (-1), 1) := by decide +kernel
theorem dX12_learns_38 : decode cX12_learns 38 = .ok (.ixor, 1) := by decide +kernel
theorem dX12_learns_39 : decode cX12_learns 39 = .ok (.goto 4, 3) := by decide +kernel
theorem dX12_learns_42 : decode cX12_learns 42 = .ok (.iconst (-1), 1) := by decide +kernel
theorem dX12_learns_43 : decode cX12_learns 43 = .ok (.iand, 1) := by decide +kernel
theorem dX12_learns_44 : decode cX12_learns 44 = .ok (.istore_n 1, 1) := by decide +kernel
theorem dX12_learns_45 : decode cX12_learns 45 = .ok (.iinc 2 1, 3) := by decide +kernel
theorem dX12_learns_48 : decode cX12_learns 48 = .ok (.goto (-37), 3) := by decide +kernel
theorem dX12_learns_51 : decode cX12_learns 51 = .ok (.iconst 0, 1) := by decide +kernel
theorem dX12_learns_52 : decode cX12_learns 52 = .ok (.istore_n 2, 1) := by decide +kernel
theorem dX12_learns_53 : decode cX12_learns 53 = .ok (.iconst 0, 1) := by decide +kernel
theorem dX12_learns_54 : decode cX12_learns 54 = .ok (.istore_n 3, 1) := by decide +kernel
theorem dX12_learns_55 : decode cX12_learns 55 = .ok (.iload_n 3, 1) := by decide +kernel
theorem dX12_learns_56 : decode cX12_learns 56 = .ok (.aload_n 0, 1) := by decide +kernel
theorem dX12_learns_57 : decode cX12_learns 57 = .ok (.getfield 76, 3) := by decide +kernel
theorem dX12_learns_60 : decode cX12_learns 60 = .ok (.if_icmp .ge 47, 3) := by decide +kernel
theorem dX12_learns_63 : decode cX12_learns 63 = .ok (.iload_n 2, 1) := by decide +kernel
theorem dX12_learns_64 : decode cX12_learns 64 = .ok (.iload_n 1, 1) := by decide +kernel
theorem dX12_learns_65 : decode cX12_learns 65 = .ok (.iload_n 3, 1) := by decide +kernel
theorem dX12_learns_66 : decode cX12_learns 66 = .ok (.invokestatic 178, 3) := by decide +kernel
theorem dX12_learns_69 : decode cX12_learns 69 = .ok (.ifCond .eq 29, 3) := by decide +kernel
theorem dX12_learns_72 : decode cX12_learns 72 = .ok (.aload_n 0, 1) := by decide +kernel
theorem dX12_learns_73 : decode cX12_learns 73 = .ok (.getfield 22, 3) := by decide +kernel
theorem dX12_learns_76 : decode cX12_learns 76 = .ok (.iconst 2, 1) := by decide +kernel
theorem dX12_learns_77 : decode cX12_learns 77 = .ok (.iload_n 3, 1) := by decide +kernel
theorem dX12_learns_78 : decode cX12_learns 78 = .ok (.imul, 1) := by decide +kernel
theorem dX12_learns_79 : decode cX12_learns 79 = .ok (.iconst 1, 1) := by decide +kernel
theorem dX12_learns_80 : decode cX12_learns 80 = .ok (.iadd, 1) := by decide +kernel
theorem dX12_learns_81 : decode cX12_learns 81 = .ok (.iaload, 1) := by decide +kernel
theorem dX12_learns_82 : decode cX12_learns 82 = .ok (.iconst 1, 1) := by decide +kernel
theorem dX12_learns_83 : decode cX12_learns 83 = .ok (.iadd, 1) := by decide +kernel
theorem dX12_learns_84 : decode cX12_learns 84 = .ok (.iconst 3, 1) := by decide +kernel
theorem dX12_learns_85 : decode cX12_learns 85 = .ok (.aload_n 0, 1) := by decide +kernel
theorem dX12_learns_86 : decode cX12_learns 86 = .ok (.getfield 22, 3) := by decide +kernel
theorem dX12_learns_89 : decode cX12_learns 89 = .ok (.iconst 2, 1) := by decide +kernel
theorem dX12_learns_90 : decode cX12_learns 90 = .ok (.iload_n 3, 1) := by decide +kernel
theorem dX12_learns_91 : decode cX12_learns 91 = .ok (.imul, 1) := by decide +kernel
theorem dX12_learns_92 : decode cX12_learns 92 = .ok (.iaload, 1) := by decide +kernel
theorem dX12_learns_93 : decode cX12_learns 93 = .ok (.imul, 1) := by decide +kernel
theorem dX12_learns_94 : decode cX12_learns 94 = .ok (.ishl, 1) := by decide +kernel
theorem dX12_learns_95 : decode cX12_learns 95 = .ok (.goto 4, 3) := by decide +kernel
theorem dX12_learns_98 : decode cX12_learns 98 = .ok (.iconst 0, 1) := by decide +kernel
theorem dX12_learns_99 : decode cX12_learns 99 = .ok (.ior, 1) := by decide +kernel
theorem dX12_learns_100 : decode cX12_learns 100 = .ok (.istore_n 2, 1) := by decide +kernel
theorem dX12_learns_101 : decode cX12_learns 101 = .ok (.iinc 3 1, 3) := by decide +kernel
theorem dX12_learns_104 : decode cX12_learns 104 = .ok (.goto (-49), 3) := by decide +kernel
theorem dX12_learns_107 : decode cX12_learns 107 = .ok (.aload_n 0, 1) := by decide +kernel
theorem dX12_learns_108 : decode cX12_learns 108 = .ok (.getfield 79, 3) := by decide +kernel
theorem dX12_learns_111 : decode cX12_learns 111 = .ok (.bipush 12, 2) := by decide +kernel
theorem dX12_learns_113 : decode cX12_learns 113 = .ok (.if_icmp .ne 43, 3) := by decide +kernel
theorem dX12_learns_116 : decode cX12_learns 116 = .ok (.aload_n 0, 1) := by decide +kernel
theorem dX12_learns_117 : decode cX12_learns 117 = .ok (.dup, 1) := by decide +kernel
theorem dX12_learns_118 : decode cX12_learns 118 = .ok (.getfield 79, 3) := by decide +kernel
theorem dX12_learns_121 : decode cX12_learns 121 = .ok (.iconst 1, 1) := by decide +kernel
theorem dX12_learns_122 : decode cX12_learns 122 = .ok (.isub, 1) := by decide +kernel
theorem dX12_learns_123 : decode cX12_learns 123 = .ok (.putfield 79, 3) := by decide +kernel
theorem dX12_learns_126 : decode cX12_learns 126 = .ok (.iconst 0, 1) := by decide +kernel
theorem dX12_learns_127 : decode cX12_learns 127 = .ok (.istore_n 3, 1) := by decide +kernel
theorem dX12_learns_128 : decode cX12_learns 128 = .ok (.iload_n 3, 1) := by decide +kernel
theorem dX12_learns_129 : decode cX12_learns 129 = .ok (.aload_n 0, 1) := by decide +kernel
theorem dX12_learns_130 : decode cX12_learns 130 = .ok (.getfield 79, 3) := by decide +kernel
theorem dX12_learns_133 : decode cX12_learns 133 = .ok (.if_icmp .ge 23, 3) := by decide +kernel
theorem dX12_learns_136 : decode cX12_learns 136 = .ok (.aload_n 0, 1) := by decide +kernel
theorem dX12_learns_137 : decode cX12_learns 137 = .ok (.getfield 25, 3) := by decide +kernel
theorem dX12_learns_140 : decode cX12_learns 140 = .ok (.iload_n 3, 1) := by decide +kernel
theorem dX12_learns_141 : decode cX12_learns 141 = .ok (.aload_n 0, 1) := by decide +kernel
theorem dX12_learns_142 : decode cX12_learns 142 = .ok (.getfield 25, 3) := by decide +kernel
theorem dX12_learns_145 : decode cX12_learns 145 = .ok (.iload_n 3, 1) := by decide +kernel
theorem dX12_learns_146 : decode cX12_learns 146 = .ok (.iconst 1, 1) := by decide +kernel
theorem dX12_learns_147 : decode cX12_learns 147 = .ok (.iadd, 1) := by decide +kernel
theorem dX12_learns_148 : decode cX12_learns 148 = .ok (.iaload, 1) := by decide +kernel
theorem dX12_learns_149 : decode cX12_learns 149 = .ok (.iastore, 1) := by decide +kernel
theorem dX12_learns_150 : decode cX12_learns 150 = .ok (.iinc 3 1, 3) := by decide +kernel
theorem dX12_learns_153 : decode cX12_learns 153 = .ok (.goto (-25), 3) := by decide +kernel
theorem dX12_learns_156 : decode cX12_learns 156 = .ok (.aload_n 0, 1) := by decide +kernel
theorem dX12_learns_157 : decode cX12_learns 157 = .ok (.getfield 25, 3) := by decide +kernel
theorem dX12_learns_160 : decode cX12_learns 160 = .ok (.aload_n 0, 1) := by decide +kernel
theorem dX12_learns_161 : decode cX12_learns 161 = .ok (.getfield 79, 3) := by decide +kernel
theorem dX12_learns_164 : decode cX12_learns 164 = .ok (.iload_n 2, 1) := by decide +kernel
theorem dX12_learns_165 : decode cX12_learns 165 = .ok (.iastore, 1) := by decide +kernel
theorem dX12_learns_166 : decode cX12_learns 166 = .ok (.aload_n 0, 1) := by decide +kernel
theorem dX12_learns_167 : decode cX12_learns 167 = .ok (.dup, 1) := by decide +kernel
theorem dX12_learns_168 : decode cX12_learns 168 = .ok (.getfield 79, 3) := by decide +kernel
theorem dX12_learns_171 : decode cX12_learns 171 = .ok (.iconst 1, 1) := by decide +kernel
theorem dX12_learns_172 : decode cX12_learns 172 = .ok (.iadd, 1) := by decide +kernel
theorem dX12_learns_173 : decode cX12_learns 173 = .ok (.putfield 79, 3) := by decide +kernel
theorem dX12_learns_176 : decode cX12_learns 176 = .ok (.aload_n 0, 1) := by decide +kernel
theorem dX12_learns_177 : decode cX12_learns 177 = .ok (.invokevirtual 334, 3) := by decide +kernel
theorem dX12_learns_180 : decode cX12_learns 180 = .ok (.istore_n 3, 1) := by decide +kernel
theorem dX12_learns_181 : decode cX12_learns 181 = .ok (.aload_n 0, 1) := by decide +kernel
theorem dX12_learns_182 : decode cX12_learns 182 = .ok (.aload_n 0, 1) := by decide +kernel
theorem dX12_learns_183 : decode cX12_learns 183 = .ok (.aload_n 0, 1) := by decide +kernel
theorem dX12_learns_184 : decode cX12_learns 184 = .ok (.getfield 16, 3) := by decide +kernel
theorem dX12_learns_187 : decode cX12_learns 187 = .ok (.iconst 1, 1) := by decide +kernel
theorem dX12_learns_188 : decode cX12_learns 188 = .ok (.invokevirtual 89, 3) := by decide +kernel
theorem dX12_learns_191 : decode cX12_learns 191 = .ok (.ifCond .ne 7, 3) := by decide +kernel
theorem dX12_learns_194 : decode cX12_learns 194 = .ok (.iconst 1, 1) := by decide +kernel
theorem dX12_learns_195 : decode cX12_learns 195 = .ok (.goto 4, 3) := by decide +kernel
theorem dX12_learns_198 : decode cX12_learns 198 = .ok (.iconst 0, 1) := by decide +kernel
theorem dX12_learns_199 : decode cX12_learns 199 = .ok (.putfield 85, 3) := by decide +kernel
theorem dX12_learns_202 : decode cX12_learns 202 = .ok (.iload_n 3, 1) := by decide +kernel
theorem dX12_learns_203 : decode cX12_learns 203 = .ok (.ifCond .ge 7, 3) := by decide +kernel
theorem dX12_learns_206 : decode cX12_learns 206 = .ok (.iconst (-1), 1) := by decide +kernel
theorem dX12_learns_207 : decode cX12_learns 207 = .ok (.goto 7, 3) := by decide +kernel
theorem dX12_learns_210 : decode cX12_learns 210 = .ok (.iload_n 1, 1) := by decide +kernel
theorem dX12_learns_211 : decode cX12_learns 211 = .ok (.invokestatic 214, 3) := by decide +kernel
theorem dX12_learns_214 : decode cX12_learns 214 = .ok (.ireturn, 1) := by decide +kernel
set_option maxRecDepth 20000 in
theorem ggX12_learn_X12_may : GoodIn wsX12_learn wsX12_may := goodIn_r _ [8, 1, 94, 95, 96, 97, 98, 99, 100, 101, 102, 103, 104, 105, 106, 107, 108, 109, 110, 111, 112, 113, 114, 115, 116, 117, 118, 119, 120, 121, 122, 123, 124, 125] (by decide +kernel) (by decide +kernel)
set_option maxRecDepth 20000 in
theorem gX12_learn_X12_may : GoodIn wsX12_learn (wsV RX12 96 RX12 yX12_may wsX12_may) := goodIn_app (goodIn_of _ (by decide +kernel)) ggX12_learn_X12_may
set_option maxRecDepth 20000 in
theorem ggX12_learn_X12_learns : GoodIn wsX12_learn wsX12_learns := goodIn_r _ [12, 3, 13, 14, 15, 16, 2, 17, 18, 19, 7, 20, 21, 22, 23, 24, 25, 26, 27, 28, 29, 30, 31, 32, 33, 34, 35, 36, 37, 38, 39, 40, 41, 42, 43, 44, 45, 46, 47, 48, 49, 50, 51, 52, 53, 54, 55, 56, 57, 58, 59, 60, 61, 62, 63, 64, 65, 66, 67, 68, 69, 70, 71, 72, 73, 74, 75, 76, 77, 78, 79, 80, 81, 82, 83, 84, 85, 86, 87, 88, 89, 90, 91, 92, 93, 94, 95, 96, 97, 98, 99, 100, 101, 102, 103, 104, 105, 106, 107, 108, 109, 110, 111, 112, 113, 114, 115, 116, 117, 118, 119, 120, 121, 122, 123, 124, 125] (by decide +kernel) (by decide +kernel)
set_option maxRecDepth 20000 in
theorem gX12_learn_X12_learns : GoodIn wsX12_learn (wsV RX12 340 RX12 yX12_learns wsX12_learns) := goodIn_app (goodIn_of _ (by decide +kernel)) ggX12_learn_X12_learns
theorem dX12_learn_0 : decode cX12_learn 0 = .ok (.aload_n 0, 1) := by decide +kernel
theorem dX12_learn_1 : decode cX12_learn 1 = .ok (.iconst 0, 1) := by decide +kernel
theorem dX12_learn_2 : decode cX12_learn 2 = .ok (.putfield 70, 3) := by decide +kernel
theorem dX12_learn_5 : decode cX12_learn 5 = .ok (.aload_n 0, 1) := by decide +kernel
theorem dX12_learn_6 : decode cX12_learn 6 = .ok (.aload_n 0, 1) := by decide +kernel
theorem dX12_learn_7 : decode cX12_learn 7 = .ok (.getfield 85, 3) := by decide +kernel
theorem dX12_learn_10 : decode cX12_learn 10 = .ok (.ifCond .eq 14, 3) := by decide +kernel
theorem dX12_learn_13 : decode cX12_learn 13 = .ok (.aload_n 0, 1) := by decide +kernel
theorem dX12_learn_14 : decode cX12_learn 14 = .ok (.getfield 76, 3) := by decide +kernel
theorem dX12_learn_17 : decode cX12_learn 17 = .ok (.ifCond .le 7, 3) := by decide +kernel
theorem dX12_learn_20 : decode cX12_learn 20 = .ok (.iconst 1, 1) := by decide +kernel
theorem dX12_learn_21 : decode cX12_learn 21 = .ok (.goto 4, 3) := by decide +kernel
theorem dX12_learn_24 : decode cX12_learn 24 = .ok (.iconst 0, 1) := by decide +kernel
theorem dX12_learn_25 : decode cX12_learn 25 = .ok (.iconst 1, 1) := by decide +kernel
theorem dX12_learn_26 : decode cX12_learn 26 = .ok (.invokevirtual 96, 3) := by decide +kernel
theorem dX12_learn_29 : decode cX12_learn 29 = .ok (.ifCond .eq 10, 3) := by decide +kernel
theorem dX12_learn_32 : decode cX12_learn 32 = .ok (.aload_n 0, 1) := by decide +kernel
theorem dX12_learn_33 : decode cX12_learn 33 = .ok (.invokevirtual 340, 3) := by decide +kernel
theorem dX12_learn_36 : decode cX12_learn 36 = .ok (.goto 4, 3) := by decide +kernel
theorem dX12_learn_39 : decode cX12_learn 39 = .ok (.iconst 0, 1) := by decide +kernel
theorem dX12_learn_40 : decode cX12_learn 40 = .ok (.ireturn, 1) := by decide +kernel
set_option maxRecDepth 20000 in
theorem ggX12_learnt_X12_isIn : GoodIn wsX12_learnt wsX12_isIn := goodIn_r _ [7] (by decide +kernel) (by decide +kernel)
set_option maxRecDepth 20000 in
theorem gX12_learnt_X12_isIn : GoodIn wsX12_learnt (va_wsS RX12 100 yX12_isIn wsX12_isIn) := goodIn_app (goodIn_of _ (by decide +kernel)) ggX12_learnt_X12_isIn
set_option maxRecDepth 20000 in
theorem ggX12_learnt_X12_may : GoodIn wsX12_learnt wsX12_may := goodIn_r _ [11, 1, 28, 29, 30, 31, 32, 33, 34, 35, 36, 37, 38, 39, 40, 41, 42, 43, 44, 45, 46, 47, 48, 49, 50, 51, 52, 53, 54, 55, 56, 57, 58, 59] (by decide +kernel) (by decide +kernel)
set_option maxRecDepth 20000 in
theorem gX12_learnt_X12_may : GoodIn wsX12_learnt (wsV RX12 96 RX12 yX12_may wsX12_may) := goodIn_app (goodIn_of _ (by decide +kernel)) ggX12_learnt_X12_may
set_option maxRecDepth 20000 in
theorem ggX12_learnt_X12_manyIn : GoodIn wsX12_learnt wsX12_manyIn := goodIn_r _ [15, 16, 17, 18, 6, 19, 20, 21, 22, 23, 28, 29, 30, 31, 32, 33, 34, 35, 36, 37, 38, 39, 40, 41, 42, 43, 44, 45, 46, 47, 48, 49, 50, 51, 52, 53, 54, 55, 56, 57, 58, 59] (by decide +kernel) (by decide +kernel)
set_option maxRecDepth 20000 in
theorem gX12_learnt_X12_manyIn : GoodIn wsX12_learnt (wsV RX12 236 RX12 yX12_manyIn wsX12_manyIn) := goodIn_app (goodIn_of _ (by decide +kernel)) ggX12_learnt_X12_manyIn
set_option maxRecDepth 20000 in
theorem ggX12_learnt_X12_memberOf : GoodIn wsX12_learnt wsX12_memberOf := goodIn_r _ [27, 16, 17, 18, 6, 19, 20, 21, 22, 23, 28, 29, 30, 31, 32, 33, 34, 35, 36, 37, 38, 39, 40, 41, 42, 43, 44, 45, 46, 47, 48, 49, 50, 51, 52, 53, 54, 55, 56, 57, 58, 59] (by decide +kernel) (by decide +kernel)
set_option maxRecDepth 20000 in
theorem gX12_learnt_X12_memberOf : GoodIn wsX12_learnt (wsV RX12 239 RX12 yX12_memberOf wsX12_memberOf) := goodIn_app (goodIn_of _ (by decide +kernel)) ggX12_learnt_X12_memberOf
set_option maxRecDepth 20000 in
theorem ggX12_learnt_X12_valueIn : GoodIn wsX12_learnt wsX12_valueIn := goodIn_r _ [23] (by decide +kernel) (by decide +kernel)
set_option maxRecDepth 20000 in
theorem gX12_learnt_X12_valueIn : GoodIn wsX12_learnt (va_wsS RX12 208 yX12_valueIn wsX12_valueIn) := goodIn_app (goodIn_of _ (by decide +kernel)) ggX12_learnt_X12_valueIn
theorem dX12_learnt_0 : decode cX12_learnt 0 = .ok (.aload_n 0, 1) := by decide +kernel
theorem dX12_learnt_1 : decode cX12_learnt 1 = .ok (.iconst 0, 1) := by decide +kernel
theorem dX12_learnt_2 : decode cX12_learnt 2 = .ok (.putfield 70, 3) := by decide +kernel
theorem dX12_learnt_5 : decode cX12_learnt 5 = .ok (.aload_n 0, 1) := by decide +kernel
theorem dX12_learnt_6 : decode cX12_learnt 6 = .ok (.iload_n 1, 1) := by decide +kernel
theorem dX12_learnt_7 : decode cX12_learnt 7 = .ok (.iconst 0, 1) := by decide +kernel
theorem dX12_learnt_8 : decode cX12_learnt 8 = .ok (.aload_n 0, 1) := by decide +kernel
theorem dX12_learnt_9 : decode cX12_learnt 9 = .ok (.getfield 79, 3) := by decide +kernel
theorem dX12_learnt_12 : decode cX12_learnt 12 = .ok (.iconst 1, 1) := by decide +kernel
theorem dX12_learnt_13 : decode cX12_learnt 13 = .ok (.isub, 1) := by decide +kernel
theorem dX12_learnt_14 : decode cX12_learnt 14 = .ok (.invokestatic 100, 3) := by decide +kernel
theorem dX12_learnt_17 : decode cX12_learnt 17 = .ok (.iconst 1, 1) := by decide +kernel
theorem dX12_learnt_18 : decode cX12_learnt 18 = .ok (.invokevirtual 96, 3) := by decide +kernel
theorem dX12_learnt_21 : decode cX12_learnt 21 = .ok (.ifCond .eq 46, 3) := by decide +kernel
theorem dX12_learnt_24 : decode cX12_learnt 24 = .ok (.aload_n 0, 1) := by decide +kernel
theorem dX12_learnt_25 : decode cX12_learnt 25 = .ok (.aload_n 0, 1) := by decide +kernel
theorem dX12_learnt_26 : decode cX12_learnt 26 = .ok (.getfield 25, 3) := by decide +kernel
theorem dX12_learnt_29 : decode cX12_learnt 29 = .ok (.iload_n 1, 1) := by decide +kernel
theorem dX12_learnt_30 : decode cX12_learnt 30 = .ok (.iaload, 1) := by decide +kernel
theorem dX12_learnt_31 : decode cX12_learnt 31 = .ok (.ifCond .le 28, 3) := by decide +kernel
theorem dX12_learnt_34 : decode cX12_learnt 34 = .ok (.iload_n 2, 1) := by decide +kernel
theorem dX12_learnt_35 : decode cX12_learnt 35 = .ok (.iconst 0, 1) := by decide +kernel
theorem dX12_learnt_36 : decode cX12_learnt 36 = .ok (.aload_n 0, 1) := by decide +kernel
theorem dX12_learnt_37 : decode cX12_learnt 37 = .ok (.aload_n 0, 1) := by decide +kernel
theorem dX12_learnt_38 : decode cX12_learnt 38 = .ok (.getfield 25, 3) := by decide +kernel
theorem dX12_learnt_41 : decode cX12_learnt 41 = .ok (.iload_n 1, 1) := by decide +kernel
theorem dX12_learnt_42 : decode cX12_learnt 42 = .ok (.iaload, 1) := by decide +kernel
theorem dX12_learnt_43 : decode cX12_learnt 43 = .ok (.ineg, 1) := by decide +kernel
theorem dX12_learnt_44 : decode cX12_learnt 44 = .ok (.invokevirtual 236, 3) := by decide +kernel
theorem dX12_learnt_47 : decode cX12_learnt 47 = .ok (.iconst 1, 1) := by decide +kernel
theorem dX12_learnt_48 : decode cX12_learnt 48 = .ok (.isub, 1) := by decide +kernel
theorem dX12_learnt_49 : decode cX12_learnt 49 = .ok (.invokestatic 100, 3) := by decide +kernel
theorem dX12_learnt_52 : decode cX12_learnt 52 = .ok (.ifCond .eq 7, 3) := by decide +kernel
theorem dX12_learnt_55 : decode cX12_learnt 55 = .ok (.iconst 1, 1) := by decide +kernel
theorem dX12_learnt_56 : decode cX12_learnt 56 = .ok (.goto 4, 3) := by decide +kernel
theorem dX12_learnt_59 : decode cX12_learnt 59 = .ok (.iconst 0, 1) := by decide +kernel
theorem dX12_learnt_60 : decode cX12_learnt 60 = .ok (.iconst 1, 1) := by decide +kernel
theorem dX12_learnt_61 : decode cX12_learnt 61 = .ok (.invokevirtual 96, 3) := by decide +kernel
theorem dX12_learnt_64 : decode cX12_learnt 64 = .ok (.ifCond .ne 5, 3) := by decide +kernel
theorem dX12_learnt_67 : decode cX12_learnt 67 = .ok (.iconst 0, 1) := by decide +kernel
theorem dX12_learnt_68 : decode cX12_learnt 68 = .ok (.ireturn, 1) := by decide +kernel
theorem dX12_learnt_69 : decode cX12_learnt 69 = .ok (.aload_n 0, 1) := by decide +kernel
theorem dX12_learnt_70 : decode cX12_learnt 70 = .ok (.aload_n 0, 1) := by decide +kernel
theorem dX12_learnt_71 : decode cX12_learnt 71 = .ok (.getfield 25, 3) := by decide +kernel
theorem dX12_learnt_74 : decode cX12_learnt 74 = .ok (.iload_n 1, 1) := by decide +kernel
theorem dX12_learnt_75 : decode cX12_learnt 75 = .ok (.iaload, 1) := by decide +kernel
theorem dX12_learnt_76 : decode cX12_learnt 76 = .ok (.ineg, 1) := by decide +kernel
theorem dX12_learnt_77 : decode cX12_learnt 77 = .ok (.iload_n 2, 1) := by decide +kernel
theorem dX12_learnt_78 : decode cX12_learnt 78 = .ok (.invokevirtual 239, 3) := by decide +kernel
theorem dX12_learnt_81 : decode cX12_learnt 81 = .ok (.istore_n 3, 1) := by decide +kernel
theorem dX12_learnt_82 : decode cX12_learnt 82 = .ok (.bipush 10, 2) := by decide +kernel
theorem dX12_learnt_84 : decode cX12_learnt 84 = .ok (.iload_n 3, 1) := by decide +kernel
theorem dX12_learnt_85 : decode cX12_learnt 85 = .ok (.imul, 1) := by decide +kernel
theorem dX12_learnt_86 : decode cX12_learnt 86 = .ok (.aload_n 0, 1) := by decide +kernel
theorem dX12_learnt_87 : decode cX12_learnt 87 = .ok (.getfield 25, 3) := by decide +kernel
theorem dX12_learnt_90 : decode cX12_learnt 90 = .ok (.iload_n 1, 1) := by decide +kernel
theorem dX12_learnt_91 : decode cX12_learnt 91 = .ok (.iaload, 1) := by decide +kernel
theorem dX12_learnt_92 : decode cX12_learnt 92 = .ok (.iload_n 3, 1) := by decide +kernel
theorem dX12_learnt_93 : decode cX12_learnt 93 = .ok (.invokestatic 208, 3) := by decide +kernel
theorem dX12_learnt_96 : decode cX12_learnt 96 = .ok (.iadd, 1) := by decide +kernel
theorem dX12_learnt_97 : decode cX12_learnt 97 = .ok (.ireturn, 1) := by decide +kernel
set_option maxRecDepth 20000 in
theorem ggX12_chosen_X12_sizeOf : GoodIn wsX12_chosen wsX12_sizeOf := goodIn_r _ [6] (by decide +kernel) (by decide +kernel)
set_option maxRecDepth 20000 in
theorem gX12_chosen_X12_sizeOf : GoodIn wsX12_chosen (va_wsS RX12 214 yX12_sizeOf wsX12_sizeOf) := goodIn_app (goodIn_of _ (by decide +kernel)) ggX12_chosen_X12_sizeOf
theorem dX12_chosen_0 : decode cX12_chosen 0 = .ok (.iconst (-1), 1) := by decide +kernel
theorem dX12_chosen_1 : decode cX12_chosen 1 = .ok (.istore_n 1, 1) := by decide +kernel
theorem dX12_chosen_2 : decode cX12_chosen 2 = .ok (.iconst 0, 1) := by decide +kernel
theorem dX12_chosen_3 : decode cX12_chosen 3 = .ok (.istore_n 2, 1) := by decide +kernel
theorem dX12_chosen_4 : decode cX12_chosen 4 = .ok (.iload_n 2, 1) := by decide +kernel
theorem dX12_chosen_5 : decode cX12_chosen 5 = .ok (.aload_n 0, 1) := by decide +kernel
theorem dX12_chosen_6 : decode cX12_chosen 6 = .ok (.getfield 7, 3) := by decide +kernel
theorem dX12_chosen_9 : decode cX12_chosen 9 = .ok (.iconst 0, 1) := by decide +kernel
theorem dX12_chosen_10 : decode cX12_chosen 10 = .ok (.iaload, 1) := by decide +kernel
theorem dX12_chosen_11 : decode cX12_chosen 11 = .ok (.if_icmp .ge 44, 3) := by decide +kernel
theorem dX12_chosen_14 : decode cX12_chosen 14 = .ok (.aload_n 0, 1) := by decide +kernel
theorem dX12_chosen_15 : decode cX12_chosen 15 = .ok (.getfield 16, 3) := by decide +kernel
theorem dX12_chosen_18 : decode cX12_chosen 18 = .ok (.iload_n 2, 1) := by decide +kernel
theorem dX12_chosen_19 : decode cX12_chosen 19 = .ok (.iaload, 1) := by decide +kernel
theorem dX12_chosen_20 : decode cX12_chosen 20 = .ok (.invokestatic 214, 3) := by decide +kernel
theorem dX12_chosen_23 : decode cX12_chosen 23 = .ok (.istore_n 3, 1) := by decide +kernel
theorem dX12_chosen_24 : decode cX12_chosen 24 = .ok (.iload_n 3, 1) := by decide +kernel
theorem dX12_chosen_25 : decode cX12_chosen 25 = .ok (.iconst 1, 1) := by decide +kernel
theorem dX12_chosen_26 : decode cX12_chosen 26 = .ok (.if_icmp .le 23, 3) := by decide +kernel
theorem dX12_chosen_29 : decode cX12_chosen 29 = .ok (.iload_n 1, 1) := by decide +kernel
theorem dX12_chosen_30 : decode cX12_chosen 30 = .ok (.iconst (-1), 1) := by decide +kernel
theorem dX12_chosen_31 : decode cX12_chosen 31 = .ok (.if_icmp .eq 16, 3) := by decide +kernel
theorem dX12_chosen_34 : decode cX12_chosen 34 = .ok (.iload_n 3, 1) := by decide +kernel
theorem dX12_chosen_35 : decode cX12_chosen 35 = .ok (.aload_n 0, 1) := by decide +kernel
theorem dX12_chosen_36 : decode cX12_chosen 36 = .ok (.getfield 16, 3) := by decide +kernel
theorem dX12_chosen_39 : decode cX12_chosen 39 = .ok (.iload_n 1, 1) := by decide +kernel
theorem dX12_chosen_40 : decode cX12_chosen 40 = .ok (.iaload, 1) := by decide +kernel
theorem dX12_chosen_41 : decode cX12_chosen 41 = .ok (.invokestatic 214, 3) := by decide +kernel
theorem dX12_chosen_44 : decode cX12_chosen 44 = .ok (.if_icmp .ge 5, 3) := by decide +kernel
theorem dX12_chosen_47 : decode cX12_chosen 47 = .ok (.iload_n 2, 1) := by decide +kernel
theorem dX12_chosen_48 : decode cX12_chosen 48 = .ok (.istore_n 1, 1) := by decide +kernel
theorem dX12_chosen_49 : decode cX12_chosen 49 = .ok (.iinc 2 1, 3) := by decide +kernel
theorem dX12_chosen_52 : decode cX12_chosen 52 = .ok (.goto (-48), 3) := by decide +kernel
theorem dX12_chosen_55 : decode cX12_chosen 55 = .ok (.iload_n 1, 1) := by decide +kernel
theorem dX12_chosen_56 : decode cX12_chosen 56 = .ok (.ireturn, 1) := by decide +kernel
set_option maxRecDepth 20000 in
theorem ggX12_search_X12_isIn : GoodIn wsX12_search wsX12_isIn := goodIn_r _ [9] (by decide +kernel) (by decide +kernel)
set_option maxRecDepth 20000 in
theorem gX12_search_X12_isIn : GoodIn wsX12_search (va_wsS RX12 100 yX12_isIn wsX12_isIn) := goodIn_app (goodIn_of _ (by decide +kernel)) ggX12_search_X12_isIn
set_option maxRecDepth 20000 in
theorem ggX12_search_X12_may : GoodIn wsX12_search wsX12_may := goodIn_r _ [13, 1, 110, 111, 112, 113, 114, 115, 116, 117, 118, 119, 120, 121, 122, 123, 124, 125, 126, 127, 128, 129, 130, 131, 132, 133, 134, 135, 136, 137, 138, 139, 140, 141] (by decide +kernel) (by decide +kernel)
set_option maxRecDepth 20000 in
theorem gX12_search_X12_may : GoodIn wsX12_search (wsV RX12 96 RX12 yX12_may wsX12_may) := goodIn_app (goodIn_of _ (by decide +kernel)) ggX12_search_X12_may
set_option maxRecDepth 20000 in
theorem ggX12_search_X12_learns : GoodIn wsX12_search wsX12_learns := goodIn_r _ [17, 3, 18, 19, 20, 5, 2, 21, 22, 23, 8, 24, 25, 26, 27, 28, 29, 30, 31, 32, 33, 34, 35, 36, 37, 38, 39, 40, 41, 42, 43, 44, 45, 46, 47, 48, 49, 50, 51, 52, 53, 54, 55, 56, 57, 58, 59, 60, 61, 62, 63, 64, 65, 66, 67, 68, 69, 70, 71, 72, 73, 74, 75, 76, 77, 78, 6, 7, 9, 79, 80, 81, 82, 83, 84, 85, 86, 87, 88, 89, 90, 91, 92, 93, 94, 110, 111, 112, 113, 114, 115, 116, 117, 118, 119, 120, 121, 122, 123, 124, 125, 126, 127, 128, 129, 130, 131, 132, 133, 134, 135, 136, 137, 138, 139, 140, 141] (by decide +kernel) (by decide +kernel)
set_option maxRecDepth 20000 in
theorem gX12_search_X12_learns : GoodIn wsX12_search (wsV RX12 340 RX12 yX12_learns wsX12_learns) := goodIn_app (goodIn_of _ (by decide +kernel)) ggX12_search_X12_learns
set_option maxRecDepth 20000 in
theorem ggX12_search_X12_chosen : GoodIn wsX12_search wsX12_chosen := goodIn_r _ [98, 26, 5, 76, 77, 8, 78, 110, 111, 112, 113, 114, 115, 116, 117, 118, 119, 120, 121, 122, 123, 124, 125, 126, 127, 128, 129, 130, 131, 132, 133, 134, 135, 136, 137, 138, 139, 140, 141] (by decide +kernel) (by decide +kernel)
set_option maxRecDepth 20000 in
theorem gX12_search_X12_chosen : GoodIn wsX12_search (wsV RX12 343 RX12 yX12_chosen wsX12_chosen) := goodIn_app (goodIn_of _ (by decide +kernel)) ggX12_search_X12_chosen
set_option maxRecDepth 20000 in
theorem ggX12_search_X12_onlyOf : GoodIn wsX12_search wsX12_onlyOf := goodIn_r _ [101, 29, 30, 8, 31] (by decide +kernel) (by decide +kernel)
set_option maxRecDepth 20000 in
theorem gX12_search_X12_onlyOf : GoodIn wsX12_search (va_wsS RX12 291 yX12_onlyOf wsX12_onlyOf) := goodIn_app (goodIn_of _ (by decide +kernel)) ggX12_search_X12_onlyOf
set_option maxRecDepth 20000 in
theorem ggX12_search_X12_decides : GoodIn wsX12_search wsX12_decides := goodIn_r _ [105, 27, 18, 3, 5, 2, 29, 30, 8, 31, 87, 88, 89, 90, 28, 32, 33, 34, 35, 26, 19, 20, 36, 37, 38, 39, 40, 41, 42, 43, 44, 45, 46, 47, 48, 49, 50, 51, 52, 53, 54, 55, 56, 57, 58, 59, 60, 61, 62, 63, 64, 65, 66, 67, 68, 69, 70, 71, 72, 73, 74, 75, 76, 77, 78, 6, 7, 9, 79, 80, 81, 82, 83, 84, 85, 86, 106, 107, 108, 109, 110, 111, 112, 113, 114, 115, 116, 117, 118, 119, 120, 121, 122, 123, 124, 125, 126, 127, 128, 129, 130, 131, 132, 133, 134, 135, 136, 137, 138, 139, 140, 141] (by decide +kernel) (by decide +kernel)
set_option maxRecDepth 20000 in
theorem gX12_search_X12_decides : GoodIn wsX12_search (wsV RX12 331 RX12 yX12_decides wsX12_decides) := goodIn_app (goodIn_of _ (by decide +kernel)) ggX12_search_X12_decides
theorem dX12_search_0 : decode cX12_search 0 = .ok (.aload_n 0, 1) := by decide +kernel
theorem dX12_search_1 : decode cX12_search 1 = .ok (.iconst 0, 1) := by decide +kernel
theorem dX12_search_2 : decode cX12_search 2 = .ok (.putfield 70, 3) := by decide +kernel
theorem dX12_search_5 : decode cX12_search 5 = .ok (.aload_n 0, 1) := by decide +kernel
theorem dX12_search_6 : decode cX12_search 6 = .ok (.iload_n 1, 1) := by decide +kernel
theorem dX12_search_7 : decode cX12_search 7 = .ok (.iconst 1, 1) := by decide +kernel
theorem dX12_search_8 : decode cX12_search 8 = .ok (.bipush 100, 2) := by decide +kernel
theorem dX12_search_10 : decode cX12_search 10 = .ok (.invokestatic 100, 3) := by decide +kernel
theorem dX12_search_13 : decode cX12_search 13 = .ok (.iconst 1, 1) := by decide +kernel
theorem dX12_search_14 : decode cX12_search 14 = .ok (.invokevirtual 96, 3) := by decide +kernel
theorem dX12_search_17 : decode cX12_search 17 = .ok (.ifCond .ne 5, 3) := by decide +kernel
theorem dX12_search_20 : decode cX12_search 20 = .ok (.iconst 0, 1) := by decide +kernel
theorem dX12_search_21 : decode cX12_search 21 = .ok (.ireturn, 1) := by decide +kernel
theorem dX12_search_22 : decode cX12_search 22 = .ok (.iconst 0, 1) := by decide +kernel
theorem dX12_search_23 : decode cX12_search 23 = .ok (.istore_n 2, 1) := by decide +kernel
theorem dX12_search_24 : decode cX12_search 24 = .ok (.aload_n 0, 1) := by decide +kernel
theorem dX12_search_25 : decode cX12_search 25 = .ok (.getfield 85, 3) := by decide +kernel
theorem dX12_search_28 : decode cX12_search 28 = .ok (.ifCond .eq 20, 3) := by decide +kernel
theorem dX12_search_31 : decode cX12_search 31 = .ok (.aload_n 0, 1) := by decide +kernel
theorem dX12_search_32 : decode cX12_search 32 = .ok (.getfield 76, 3) := by decide +kernel
theorem dX12_search_35 : decode cX12_search 35 = .ok (.ifCond .ne 5, 3) := by decide +kernel
theorem dX12_search_38 : decode cX12_search 38 = .ok (.iconst (-1), 1) := by decide +kernel
theorem dX12_search_39 : decode cX12_search 39 = .ok (.ireturn, 1) := by decide +kernel
theorem dX12_search_40 : decode cX12_search 40 = .ok (.aload_n 0, 1) := by decide +kernel
theorem dX12_search_41 : decode cX12_search 41 = .ok (.invokevirtual 340, 3) := by decide +kernel
theorem dX12_search_44 : decode cX12_search 44 = .ok (.istore_n 3, 1) := by decide +kernel
theorem dX12_search_45 : decode cX12_search 45 = .ok (.goto (-21), 3) := by decide +kernel
theorem dX12_search_48 : decode cX12_search 48 = .ok (.aload_n 0, 1) := by decide +kernel
theorem dX12_search_49 : decode cX12_search 49 = .ok (.invokevirtual 343, 3) := by decide +kernel
theorem dX12_search_52 : decode cX12_search 52 = .ok (.istore_n 3, 1) := by decide +kernel
theorem dX12_search_53 : decode cX12_search 53 = .ok (.iload_n 3, 1) := by decide +kernel
theorem dX12_search_54 : decode cX12_search 54 = .ok (.iconst (-1), 1) := by decide +kernel
theorem dX12_search_55 : decode cX12_search 55 = .ok (.if_icmp .ne 5, 3) := by decide +kernel
theorem dX12_search_58 : decode cX12_search 58 = .ok (.iconst 1, 1) := by decide +kernel
theorem dX12_search_59 : decode cX12_search 59 = .ok (.ireturn, 1) := by decide +kernel
theorem dX12_search_60 : decode cX12_search 60 = .ok (.iload_n 2, 1) := by decide +kernel
theorem dX12_search_61 : decode cX12_search 61 = .ok (.iload_n 1, 1) := by decide +kernel
theorem dX12_search_62 : decode cX12_search 62 = .ok (.if_icmp .ne 5, 3) := by decide +kernel
theorem dX12_search_65 : decode cX12_search 65 = .ok (.iconst 0, 1) := by decide +kernel
theorem dX12_search_66 : decode cX12_search 66 = .ok (.ireturn, 1) := by decide +kernel
theorem dX12_search_67 : decode cX12_search 67 = .ok (.iinc 2 1, 3) := by decide +kernel
theorem dX12_search_70 : decode cX12_search 70 = .ok (.aload_n 0, 1) := by decide +kernel
theorem dX12_search_71 : decode cX12_search 71 = .ok (.dup, 1) := by decide +kernel
theorem dX12_search_72 : decode cX12_search 72 = .ok (.getfield 82, 3) := by decide +kernel
theorem dX12_search_75 : decode cX12_search 75 = .ok (.iconst 1, 1) := by decide +kernel
theorem dX12_search_76 : decode cX12_search 76 = .ok (.iadd, 1) := by decide +kernel
theorem dX12_search_77 : decode cX12_search 77 = .ok (.putfield 82, 3) := by decide +kernel
theorem dX12_search_80 : decode cX12_search 80 = .ok (.aload_n 0, 1) := by decide +kernel
theorem dX12_search_81 : decode cX12_search 81 = .ok (.iload_n 3, 1) := by decide +kernel
theorem dX12_search_82 : decode cX12_search 82 = .ok (.aload_n 0, 1) := by decide +kernel
theorem dX12_search_83 : decode cX12_search 83 = .ok (.getfield 16, 3) := by decide +kernel
theorem dX12_search_86 : decode cX12_search 86 = .ok (.iload_n 3, 1) := by decide +kernel
theorem dX12_search_87 : decode cX12_search 87 = .ok (.iaload, 1) := by decide +kernel
theorem dX12_search_88 : decode cX12_search 88 = .ok (.invokestatic 291, 3) := by decide +kernel
theorem dX12_search_91 : decode cX12_search 91 = .ok (.invokevirtual 331, 3) := by decide +kernel
theorem dX12_search_94 : decode cX12_search 94 = .ok (.istore 4, 2) := by decide +kernel
theorem dX12_search_96 : decode cX12_search 96 = .ok (.goto (-72), 3) := by decide +kernel
set_option maxRecDepth 20000 in
theorem ggX12_restart_X12_takesBack : GoodIn wsX12_restart wsX12_takesBack := goodIn_r _ [8, 9, 10, 2, 11, 12, 13, 14, 15, 16, 17, 18, 19, 20, 21, 22, 23, 24, 25, 26, 27, 28, 29, 30, 31, 32, 33, 34, 35, 36, 37, 38, 39, 40, 41, 42, 43, 44] (by decide +kernel) (by decide +kernel)
set_option maxRecDepth 20000 in
theorem gX12_restart_X12_takesBack : GoodIn wsX12_restart (wsV RX12 334 RX12 yX12_takesBack wsX12_takesBack) := goodIn_app (goodIn_of _ (by decide +kernel)) ggX12_restart_X12_takesBack
theorem dX12_restart_0 : decode cX12_restart 0 = .ok (.aload_n 0, 1) := by decide +kernel
theorem dX12_restart_1 : decode cX12_restart 1 = .ok (.iconst 0, 1) := by decide +kernel
theorem dX12_restart_2 : decode cX12_restart 2 = .ok (.putfield 70, 3) := by decide +kernel
theorem dX12_restart_5 : decode cX12_restart 5 = .ok (.aload_n 0, 1) := by decide +kernel
theorem dX12_restart_6 : decode cX12_restart 6 = .ok (.getfield 76, 3) := by decide +kernel
theorem dX12_restart_9 : decode cX12_restart 9 = .ok (.istore_n 1, 1) := by decide +kernel
theorem dX12_restart_10 : decode cX12_restart 10 = .ok (.aload_n 0, 1) := by decide +kernel
theorem dX12_restart_11 : decode cX12_restart 11 = .ok (.getfield 76, 3) := by decide +kernel
theorem dX12_restart_14 : decode cX12_restart 14 = .ok (.ifCond .le 11, 3) := by decide +kernel
theorem dX12_restart_17 : decode cX12_restart 17 = .ok (.aload_n 0, 1) := by decide +kernel
theorem dX12_restart_18 : decode cX12_restart 18 = .ok (.invokevirtual 334, 3) := by decide +kernel
theorem dX12_restart_21 : decode cX12_restart 21 = .ok (.istore_n 2, 1) := by decide +kernel
theorem dX12_restart_22 : decode cX12_restart 22 = .ok (.goto (-12), 3) := by decide +kernel
theorem dX12_restart_25 : decode cX12_restart 25 = .ok (.aload_n 0, 1) := by decide +kernel
theorem dX12_restart_26 : decode cX12_restart 26 = .ok (.iconst 0, 1) := by decide +kernel
theorem dX12_restart_27 : decode cX12_restart 27 = .ok (.putfield 79, 3) := by decide +kernel
theorem dX12_restart_30 : decode cX12_restart 30 = .ok (.iload_n 1, 1) := by decide +kernel
theorem dX12_restart_31 : decode cX12_restart 31 = .ok (.ireturn, 1) := by decide +kernel
theorem dJ6_bitCount_0f7a4_0 : decode cJ6_bitCount_0f7a4 0 = .ok (.iload_n 0, 1) := by decide +kernel
theorem dJ6_bitCount_0f7a4_1 : decode cJ6_bitCount_0f7a4 1 = .ok (.iload_n 0, 1) := by decide +kernel
theorem dJ6_bitCount_0f7a4_2 : decode cJ6_bitCount_0f7a4 2 = .ok (.iconst 1, 1) := by decide +kernel
theorem dJ6_bitCount_0f7a4_3 : decode cJ6_bitCount_0f7a4 3 = .ok (.iushr, 1) := by decide +kernel
theorem dJ6_bitCount_0f7a4_4 : decode cJ6_bitCount_0f7a4 4 = .ok (.ldc_w 265, 3) := by decide +kernel
theorem dJ6_bitCount_0f7a4_7 : decode cJ6_bitCount_0f7a4 7 = .ok (.iand, 1) := by decide +kernel
theorem dJ6_bitCount_0f7a4_8 : decode cJ6_bitCount_0f7a4 8 = .ok (.isub, 1) := by decide +kernel
theorem dJ6_bitCount_0f7a4_9 : decode cJ6_bitCount_0f7a4 9 = .ok (.istore_n 0, 1) := by decide +kernel
theorem dJ6_bitCount_0f7a4_10 : decode cJ6_bitCount_0f7a4 10 = .ok (.iload_n 0, 1) := by decide +kernel
theorem dJ6_bitCount_0f7a4_11 : decode cJ6_bitCount_0f7a4 11 = .ok (.ldc_w 266, 3) := by decide +kernel
theorem dJ6_bitCount_0f7a4_14 : decode cJ6_bitCount_0f7a4 14 = .ok (.iand, 1) := by decide +kernel
theorem dJ6_bitCount_0f7a4_15 : decode cJ6_bitCount_0f7a4 15 = .ok (.iload_n 0, 1) := by decide +kernel
theorem dJ6_bitCount_0f7a4_16 : decode cJ6_bitCount_0f7a4 16 = .ok (.iconst 2, 1) := by decide +kernel
theorem dJ6_bitCount_0f7a4_17 : decode cJ6_bitCount_0f7a4 17 = .ok (.iushr, 1) := by decide +kernel
theorem dJ6_bitCount_0f7a4_18 : decode cJ6_bitCount_0f7a4 18 = .ok (.ldc_w 266, 3) := by decide +kernel
theorem dJ6_bitCount_0f7a4_21 : decode cJ6_bitCount_0f7a4 21 = .ok (.iand, 1) := by decide +kernel
theorem dJ6_bitCount_0f7a4_22 : decode cJ6_bitCount_0f7a4 22 = .ok (.iadd, 1) := by decide +kernel
theorem dJ6_bitCount_0f7a4_23 : decode cJ6_bitCount_0f7a4 23 = .ok (.istore_n 0, 1) := by decide +kernel
theorem dJ6_bitCount_0f7a4_24 : decode cJ6_bitCount_0f7a4 24 = .ok (.iload_n 0, 1) := by decide +kernel
theorem dJ6_bitCount_0f7a4_25 : decode cJ6_bitCount_0f7a4 25 = .ok (.iload_n 0, 1) := by decide +kernel
theorem dJ6_bitCount_0f7a4_26 : decode cJ6_bitCount_0f7a4 26 = .ok (.iconst 4, 1) := by decide +kernel
theorem dJ6_bitCount_0f7a4_27 : decode cJ6_bitCount_0f7a4 27 = .ok (.iushr, 1) := by decide +kernel
theorem dJ6_bitCount_0f7a4_28 : decode cJ6_bitCount_0f7a4 28 = .ok (.iadd, 1) := by decide +kernel
theorem dJ6_bitCount_0f7a4_29 : decode cJ6_bitCount_0f7a4 29 = .ok (.ldc_w 267, 3) := by decide +kernel
theorem dJ6_bitCount_0f7a4_32 : decode cJ6_bitCount_0f7a4 32 = .ok (.iand, 1) := by decide +kernel
theorem dJ6_bitCount_0f7a4_33 : decode cJ6_bitCount_0f7a4 33 = .ok (.istore_n 0, 1) := by decide +kernel
theorem dJ6_bitCount_0f7a4_34 : decode cJ6_bitCount_0f7a4 34 = .ok (.iload_n 0, 1) := by decide +kernel
theorem dJ6_bitCount_0f7a4_35 : decode cJ6_bitCount_0f7a4 35 = .ok (.iload_n 0, 1) := by decide +kernel
theorem dJ6_bitCount_0f7a4_36 : decode cJ6_bitCount_0f7a4 36 = .ok (.bipush 8, 2) := by decide +kernel
theorem dJ6_bitCount_0f7a4_38 : decode cJ6_bitCount_0f7a4 38 = .ok (.iushr, 1) := by decide +kernel
theorem dJ6_bitCount_0f7a4_39 : decode cJ6_bitCount_0f7a4 39 = .ok (.iadd, 1) := by decide +kernel
theorem dJ6_bitCount_0f7a4_40 : decode cJ6_bitCount_0f7a4 40 = .ok (.istore_n 0, 1) := by decide +kernel
theorem dJ6_bitCount_0f7a4_41 : decode cJ6_bitCount_0f7a4 41 = .ok (.iload_n 0, 1) := by decide +kernel
theorem dJ6_bitCount_0f7a4_42 : decode cJ6_bitCount_0f7a4 42 = .ok (.iload_n 0, 1) := by decide +kernel
theorem dJ6_bitCount_0f7a4_43 : decode cJ6_bitCount_0f7a4 43 = .ok (.bipush 16, 2) := by decide +kernel
theorem dJ6_bitCount_0f7a4_45 : decode cJ6_bitCount_0f7a4 45 = .ok (.iushr, 1) := by decide +kernel
theorem dJ6_bitCount_0f7a4_46 : decode cJ6_bitCount_0f7a4 46 = .ok (.iadd, 1) := by decide +kernel
theorem dJ6_bitCount_0f7a4_47 : decode cJ6_bitCount_0f7a4 47 = .ok (.istore_n 0, 1) := by decide +kernel
theorem dJ6_bitCount_0f7a4_48 : decode cJ6_bitCount_0f7a4 48 = .ok (.iload_n 0, 1) := by decide +kernel
theorem dJ6_bitCount_0f7a4_49 : decode cJ6_bitCount_0f7a4 49 = .ok (.bipush 63, 2) := by decide +kernel
theorem dJ6_bitCount_0f7a4_51 : decode cJ6_bitCount_0f7a4 51 = .ok (.iand, 1) := by decide +kernel
theorem dJ6_bitCount_0f7a4_52 : decode cJ6_bitCount_0f7a4 52 = .ok (.ireturn, 1) := by decide +kernel
theorem dJ13_bitCount_95d88_0 : decode cJ13_bitCount_95d88 0 = .ok (.lload_n 0, 1) := by decide +kernel
theorem dJ13_bitCount_95d88_1 : decode cJ13_bitCount_95d88 1 = .ok (.lload_n 0, 1) := by decide +kernel
theorem dJ13_bitCount_95d88_2 : decode cJ13_bitCount_95d88 2 = .ok (.iconst 1, 1) := by decide +kernel
theorem dJ13_bitCount_95d88_3 : decode cJ13_bitCount_95d88 3 = .ok (.lushr, 1) := by decide +kernel
theorem dJ13_bitCount_95d88_4 : decode cJ13_bitCount_95d88 4 = .ok (.ldc2_w 314, 3) := by decide +kernel
theorem dJ13_bitCount_95d88_7 : decode cJ13_bitCount_95d88 7 = .ok (.land, 1) := by decide +kernel
theorem dJ13_bitCount_95d88_8 : decode cJ13_bitCount_95d88 8 = .ok (.lsub, 1) := by decide +kernel
theorem dJ13_bitCount_95d88_9 : decode cJ13_bitCount_95d88 9 = .ok (.lstore_n 0, 1) := by decide +kernel
theorem dJ13_bitCount_95d88_10 : decode cJ13_bitCount_95d88 10 = .ok (.lload_n 0, 1) := by decide +kernel
theorem dJ13_bitCount_95d88_11 : decode cJ13_bitCount_95d88 11 = .ok (.ldc2_w 316, 3) := by decide +kernel
theorem dJ13_bitCount_95d88_14 : decode cJ13_bitCount_95d88 14 = .ok (.land, 1) := by decide +kernel
theorem dJ13_bitCount_95d88_15 : decode cJ13_bitCount_95d88 15 = .ok (.lload_n 0, 1) := by decide +kernel
theorem dJ13_bitCount_95d88_16 : decode cJ13_bitCount_95d88 16 = .ok (.iconst 2, 1) := by decide +kernel
theorem dJ13_bitCount_95d88_17 : decode cJ13_bitCount_95d88 17 = .ok (.lushr, 1) := by decide +kernel
theorem dJ13_bitCount_95d88_18 : decode cJ13_bitCount_95d88 18 = .ok (.ldc2_w 316, 3) := by decide +kernel
theorem dJ13_bitCount_95d88_21 : decode cJ13_bitCount_95d88 21 = .ok (.land, 1) := by decide +kernel
theorem dJ13_bitCount_95d88_22 : decode cJ13_bitCount_95d88 22 = .ok (.ladd, 1) := by decide +kernel
theorem dJ13_bitCount_95d88_23 : decode cJ13_bitCount_95d88 23 = .ok (.lstore_n 0, 1) := by decide +kernel
theorem dJ13_bitCount_95d88_24 : decode cJ13_bitCount_95d88 24 = .ok (.lload_n 0, 1) := by decide +kernel
theorem dJ13_bitCount_95d88_25 : decode cJ13_bitCount_95d88 25 = .ok (.lload_n 0, 1) := by decide +kernel
theorem dJ13_bitCount_95d88_26 : decode cJ13_bitCount_95d88 26 = .ok (.iconst 4, 1) := by decide +kernel
theorem dJ13_bitCount_95d88_27 : decode cJ13_bitCount_95d88 27 = .ok (.lushr, 1) := by decide +kernel
theorem dJ13_bitCount_95d88_28 : decode cJ13_bitCount_95d88 28 = .ok (.ladd, 1) := by decide +kernel
theorem dJ13_bitCount_95d88_29 : decode cJ13_bitCount_95d88 29 = .ok (.ldc2_w 318, 3) := by decide +kernel
theorem dJ13_bitCount_95d88_32 : decode cJ13_bitCount_95d88 32 = .ok (.land, 1) := by decide +kernel
theorem dJ13_bitCount_95d88_33 : decode cJ13_bitCount_95d88 33 = .ok (.lstore_n 0, 1) := by decide +kernel
theorem dJ13_bitCount_95d88_34 : decode cJ13_bitCount_95d88 34 = .ok (.lload_n 0, 1) := by decide +kernel
theorem dJ13_bitCount_95d88_35 : decode cJ13_bitCount_95d88 35 = .ok (.lload_n 0, 1) := by decide +kernel
theorem dJ13_bitCount_95d88_36 : decode cJ13_bitCount_95d88 36 = .ok (.bipush 8, 2) := by decide +kernel
theorem dJ13_bitCount_95d88_38 : decode cJ13_bitCount_95d88 38 = .ok (.lushr, 1) := by decide +kernel
theorem dJ13_bitCount_95d88_39 : decode cJ13_bitCount_95d88 39 = .ok (.ladd, 1) := by decide +kernel
theorem dJ13_bitCount_95d88_40 : decode cJ13_bitCount_95d88 40 = .ok (.lstore_n 0, 1) := by decide +kernel
theorem dJ13_bitCount_95d88_41 : decode cJ13_bitCount_95d88 41 = .ok (.lload_n 0, 1) := by decide +kernel
theorem dJ13_bitCount_95d88_42 : decode cJ13_bitCount_95d88 42 = .ok (.lload_n 0, 1) := by decide +kernel
theorem dJ13_bitCount_95d88_43 : decode cJ13_bitCount_95d88 43 = .ok (.bipush 16, 2) := by decide +kernel
theorem dJ13_bitCount_95d88_45 : decode cJ13_bitCount_95d88 45 = .ok (.lushr, 1) := by decide +kernel
theorem dJ13_bitCount_95d88_46 : decode cJ13_bitCount_95d88 46 = .ok (.ladd, 1) := by decide +kernel
theorem dJ13_bitCount_95d88_47 : decode cJ13_bitCount_95d88 47 = .ok (.lstore_n 0, 1) := by decide +kernel
theorem dJ13_bitCount_95d88_48 : decode cJ13_bitCount_95d88 48 = .ok (.lload_n 0, 1) := by decide +kernel
theorem dJ13_bitCount_95d88_49 : decode cJ13_bitCount_95d88 49 = .ok (.lload_n 0, 1) := by decide +kernel
theorem dJ13_bitCount_95d88_50 : decode cJ13_bitCount_95d88 50 = .ok (.bipush 32, 2) := by decide +kernel
theorem dJ13_bitCount_95d88_52 : decode cJ13_bitCount_95d88 52 = .ok (.lushr, 1) := by decide +kernel
theorem dJ13_bitCount_95d88_53 : decode cJ13_bitCount_95d88 53 = .ok (.ladd, 1) := by decide +kernel
theorem dJ13_bitCount_95d88_54 : decode cJ13_bitCount_95d88 54 = .ok (.lstore_n 0, 1) := by decide +kernel
theorem dJ13_bitCount_95d88_55 : decode cJ13_bitCount_95d88 55 = .ok (.lload_n 0, 1) := by decide +kernel
theorem dJ13_bitCount_95d88_56 : decode cJ13_bitCount_95d88 56 = .ok (.l2i, 1) := by decide +kernel
theorem dJ13_bitCount_95d88_57 : decode cJ13_bitCount_95d88 57 = .ok (.bipush 127, 2) := by decide +kernel
theorem dJ13_bitCount_95d88_59 : decode cJ13_bitCount_95d88 59 = .ok (.iand, 1) := by decide +kernel
theorem dJ13_bitCount_95d88_60 : decode cJ13_bitCount_95d88 60 = .ok (.ireturn, 1) := by decide +kernel
theorem dJ9_max_7cf53_0 : decode cJ9_max_7cf53 0 = .ok (.iload_n 0, 1) := by decide +kernel
theorem dJ9_max_7cf53_1 : decode cJ9_max_7cf53 1 = .ok (.iload_n 1, 1) := by decide +kernel
theorem dJ9_max_7cf53_2 : decode cJ9_max_7cf53 2 = .ok (.if_icmp .lt 7, 3) := by decide +kernel
theorem dJ9_max_7cf53_5 : decode cJ9_max_7cf53 5 = .ok (.iload_n 0, 1) := by decide +kernel
theorem dJ9_max_7cf53_6 : decode cJ9_max_7cf53 6 = .ok (.goto 4, 3) := by decide +kernel
theorem dJ9_max_7cf53_9 : decode cJ9_max_7cf53 9 = .ok (.iload_n 1, 1) := by decide +kernel
theorem dJ9_max_7cf53_10 : decode cJ9_max_7cf53 10 = .ok (.ireturn, 1) := by decide +kernel
theorem dJ9_min_7cf53_0 : decode cJ9_min_7cf53 0 = .ok (.iload_n 0, 1) := by decide +kernel
theorem dJ9_min_7cf53_1 : decode cJ9_min_7cf53 1 = .ok (.iload_n 1, 1) := by decide +kernel
theorem dJ9_min_7cf53_2 : decode cJ9_min_7cf53 2 = .ok (.if_icmp .gt 7, 3) := by decide +kernel
theorem dJ9_min_7cf53_5 : decode cJ9_min_7cf53 5 = .ok (.iload_n 0, 1) := by decide +kernel
theorem dJ9_min_7cf53_6 : decode cJ9_min_7cf53 6 = .ok (.goto 4, 3) := by decide +kernel
theorem dJ9_min_7cf53_9 : decode cJ9_min_7cf53 9 = .ok (.iload_n 1, 1) := by decide +kernel
theorem dJ9_min_7cf53_10 : decode cJ9_min_7cf53 10 = .ok (.ireturn, 1) := by decide +kernel
set_option maxRecDepth 20000 in
theorem ggJ0_length_8abf5_J0_coder_7d493 : GoodIn wsJ0_length_8abf5 wsJ0_coder_7d493 := goodIn_r _ [6, 7, 8] (by decide +kernel) (by decide +kernel)
set_option maxRecDepth 20000 in
theorem gJ0_length_8abf5_J0_coder_7d493 : GoodIn wsJ0_length_8abf5 (wsV RJ0 335 RJ0 yJ0_coder_7d493 wsJ0_coder_7d493) := goodIn_app (goodIn_of _ (by decide +kernel)) ggJ0_length_8abf5_J0_coder_7d493
theorem dJ0_length_8abf5_0 : decode cJ0_length_8abf5 0 = .ok (.aload_n 0, 1) := by decide +kernel
theorem dJ0_length_8abf5_1 : decode cJ0_length_8abf5 1 = .ok (.getfield 9, 3) := by decide +kernel
theorem dJ0_length_8abf5_4 : decode cJ0_length_8abf5 4 = .ok (.arraylength, 1) := by decide +kernel
theorem dJ0_length_8abf5_5 : decode cJ0_length_8abf5 5 = .ok (.aload_n 0, 1) := by decide +kernel
theorem dJ0_length_8abf5_6 : decode cJ0_length_8abf5 6 = .ok (.invokevirtual 335, 3) := by decide +kernel
theorem dJ0_length_8abf5_9 : decode cJ0_length_8abf5 9 = .ok (.ishr, 1) := by decide +kernel
theorem dJ0_length_8abf5_10 : decode cJ0_length_8abf5 10 = .ok (.ireturn, 1) := by decide +kernel
set_option maxRecDepth 20000 in
theorem ggJ0_charAt_5068e_J0_isLatin1_aae02 : GoodIn wsJ0_charAt_5068e wsJ0_isLatin1_aae02 := goodIn_r _ [6, 7, 8] (by decide +kernel) (by decide +kernel)
set_option maxRecDepth 20000 in
theorem gJ0_charAt_5068e_J0_isLatin1_aae02 : GoodIn wsJ0_charAt_5068e (wsV RJ0 492 RJ0 yJ0_isLatin1_aae02 wsJ0_isLatin1_aae02) := goodIn_app (goodIn_of _ (by decide +kernel)) ggJ0_charAt_5068e_J0_isLatin1_aae02
set_option maxRecDepth 20000 in
theorem ggJ0_charAt_5068e_J1_charAt_3b067 : GoodIn wsJ0_charAt_5068e wsJ1_charAt_3b067 := goodIn_r _ [12, 13, 14, 5, 15, 16, 17, 18, 19, 20] (by decide +kernel) (by decide +kernel)
set_option maxRecDepth 20000 in
theorem gJ0_charAt_5068e_J1_charAt_3b067 : GoodIn wsJ0_charAt_5068e (va_wsS RJ0 495 yJ1_charAt_3b067 wsJ1_charAt_3b067) := goodIn_app (goodIn_of _ (by decide +kernel)) ggJ0_charAt_5068e_J1_charAt_3b067
set_option maxRecDepth 20000 in
theorem ggJ0_charAt_5068e_J2_charAt_3b067 : GoodIn wsJ0_charAt_5068e wsJ2_charAt_3b067 := goodIn_r _ [24, 25, 26, 23, 27, 28, 29, 30, 31, 14, 5, 15, 16, 17, 18, 19, 20, 32, 33, 34, 35, 36, 37] (by decide +kernel) (by decide +kernel)
set_option maxRecDepth 20000 in
theorem gJ0_charAt_5068e_J2_charAt_3b067 : GoodIn wsJ0_charAt_5068e (va_wsS RJ0 498 yJ2_charAt_3b067 wsJ2_charAt_3b067) := goodIn_app (goodIn_of _ (by decide +kernel)) ggJ0_charAt_5068e_J2_charAt_3b067
theorem dJ0_charAt_5068e_0 : decode cJ0_charAt_5068e 0 = .ok (.aload_n 0, 1) := by decide +kernel
theorem dJ0_charAt_5068e_1 : decode cJ0_charAt_5068e 1 = .ok (.invokevirtual 492, 3) := by decide +kernel
theorem dJ0_charAt_5068e_4 : decode cJ0_charAt_5068e 4 = .ok (.ifCond .eq 12, 3) := by decide +kernel
theorem dJ0_charAt_5068e_7 : decode cJ0_charAt_5068e 7 = .ok (.aload_n 0, 1) := by decide +kernel
theorem dJ0_charAt_5068e_8 : decode cJ0_charAt_5068e 8 = .ok (.getfield 9, 3) := by decide +kernel
theorem dJ0_charAt_5068e_11 : decode cJ0_charAt_5068e 11 = .ok (.iload_n 1, 1) := by decide +kernel
theorem dJ0_charAt_5068e_12 : decode cJ0_charAt_5068e 12 = .ok (.invokestatic 495, 3) := by decide +kernel
theorem dJ0_charAt_5068e_15 : decode cJ0_charAt_5068e 15 = .ok (.ireturn, 1) := by decide +kernel
theorem dJ0_charAt_5068e_16 : decode cJ0_charAt_5068e 16 = .ok (.aload_n 0, 1) := by decide +kernel
theorem dJ0_charAt_5068e_17 : decode cJ0_charAt_5068e 17 = .ok (.getfield 9, 3) := by decide +kernel
theorem dJ0_charAt_5068e_20 : decode cJ0_charAt_5068e 20 = .ok (.iload_n 1, 1) := by decide +kernel
theorem dJ0_charAt_5068e_21 : decode cJ0_charAt_5068e 21 = .ok (.invokestatic 498, 3) := by decide +kernel
theorem dJ0_charAt_5068e_24 : decode cJ0_charAt_5068e 24 = .ok (.ireturn, 1) := by decide +kernel
theorem dJ0_coder_7d493_0 : decode cJ0_coder_7d493 0 = .ok (.getstatic 38, 3) := by decide +kernel
theorem dJ0_coder_7d493_3 : decode cJ0_coder_7d493 3 = .ok (.ifCond .eq 10, 3) := by decide +kernel
theorem dJ0_coder_7d493_6 : decode cJ0_coder_7d493 6 = .ok (.aload_n 0, 1) := by decide +kernel
theorem dJ0_coder_7d493_7 : decode cJ0_coder_7d493 7 = .ok (.getfield 15, 3) := by decide +kernel
theorem dJ0_coder_7d493_10 : decode cJ0_coder_7d493 10 = .ok (.goto 4, 3) := by decide +kernel
theorem dJ0_coder_7d493_13 : decode cJ0_coder_7d493 13 = .ok (.iconst 1, 1) := by decide +kernel
theorem dJ0_coder_7d493_14 : decode cJ0_coder_7d493 14 = .ok (.ireturn, 1) := by decide +kernel
theorem dJ0_isLatin1_aae02_0 : decode cJ0_isLatin1_aae02 0 = .ok (.getstatic 38, 3) := by decide +kernel
theorem dJ0_isLatin1_aae02_3 : decode cJ0_isLatin1_aae02 3 = .ok (.ifCond .eq 14, 3) := by decide +kernel
theorem dJ0_isLatin1_aae02_6 : decode cJ0_isLatin1_aae02 6 = .ok (.aload_n 0, 1) := by decide +kernel
theorem dJ0_isLatin1_aae02_7 : decode cJ0_isLatin1_aae02 7 = .ok (.getfield 15, 3) := by decide +kernel
theorem dJ0_isLatin1_aae02_10 : decode cJ0_isLatin1_aae02 10 = .ok (.ifCond .ne 7, 3) := by decide +kernel
theorem dJ0_isLatin1_aae02_13 : decode cJ0_isLatin1_aae02 13 = .ok (.iconst 1, 1) := by decide +kernel
theorem dJ0_isLatin1_aae02_14 : decode cJ0_isLatin1_aae02 14 = .ok (.goto 4, 3) := by decide +kernel
theorem dJ0_isLatin1_aae02_17 : decode cJ0_isLatin1_aae02 17 = .ok (.iconst 0, 1) := by decide +kernel
theorem dJ0_isLatin1_aae02_18 : decode cJ0_isLatin1_aae02 18 = .ok (.ireturn, 1) := by decide +kernel
set_option maxRecDepth 20000 in
theorem ggJ0_checkIndex_df160_J3_checkIndex_8e157 : GoodIn wsJ0_checkIndex_df160 wsJ3_checkIndex_8e157 := goodIn_r _ [5] (by decide +kernel) (by decide +kernel)
set_option maxRecDepth 20000 in
theorem gJ0_checkIndex_df160_J3_checkIndex_8e157 : GoodIn wsJ0_checkIndex_df160 (va_wsS RJ0 1059 yJ3_checkIndex_8e157 wsJ3_checkIndex_8e157) := goodIn_app (goodIn_of _ (by decide +kernel)) ggJ0_checkIndex_df160_J3_checkIndex_8e157
theorem dJ0_checkIndex_df160_0 : decode cJ0_checkIndex_df160 0 = .ok (.iload_n 0, 1) := by decide +kernel
theorem dJ0_checkIndex_df160_1 : decode cJ0_checkIndex_df160 1 = .ok (.iload_n 1, 1) := by decide +kernel
theorem dJ0_checkIndex_df160_2 : decode cJ0_checkIndex_df160 2 = .ok (.getstatic 1053, 3) := by decide +kernel
theorem dJ0_checkIndex_df160_5 : decode cJ0_checkIndex_df160 5 = .ok (.invokestatic 1059, 3) := by decide +kernel
theorem dJ0_checkIndex_df160_8 : decode cJ0_checkIndex_df160 8 = .ok (.pop, 1) := by decide +kernel
theorem dJ0_checkIndex_df160_9 : decode cJ0_checkIndex_df160 9 = .ok (.return_, 1) := by decide +kernel
set_option maxRecDepth 20000 in
theorem ggJ1_charAt_3b067_J0_checkIndex_df160 : GoodIn wsJ1_charAt_3b067 wsJ0_checkIndex_df160 := goodIn_r _ [4, 5, 6, 7, 8, 9] (by decide +kernel) (by decide +kernel)
set_option maxRecDepth 20000 in
theorem gJ1_charAt_3b067_J0_checkIndex_df160 : GoodIn wsJ1_charAt_3b067 (va_wsS RJ1 9 yJ0_checkIndex_df160 wsJ0_checkIndex_df160) := goodIn_app (goodIn_of _ (by decide +kernel)) ggJ1_charAt_3b067_J0_checkIndex_df160
theorem dJ1_charAt_3b067_0 : decode cJ1_charAt_3b067 0 = .ok (.iload_n 1, 1) := by decide +kernel
theorem dJ1_charAt_3b067_1 : decode cJ1_charAt_3b067 1 = .ok (.aload_n 0, 1) := by decide +kernel
theorem dJ1_charAt_3b067_2 : decode cJ1_charAt_3b067 2 = .ok (.arraylength, 1) := by decide +kernel
theorem dJ1_charAt_3b067_3 : decode cJ1_charAt_3b067 3 = .ok (.invokestatic 9, 3) := by decide +kernel
theorem dJ1_charAt_3b067_6 : decode cJ1_charAt_3b067 6 = .ok (.aload_n 0, 1) := by decide +kernel
theorem dJ1_charAt_3b067_7 : decode cJ1_charAt_3b067 7 = .ok (.iload_n 1, 1) := by decide +kernel
theorem dJ1_charAt_3b067_8 : decode cJ1_charAt_3b067 8 = .ok (.baload, 1) := by decide +kernel
theorem dJ1_charAt_3b067_9 : decode cJ1_charAt_3b067 9 = .ok (.sipush 255, 3) := by decide +kernel
theorem dJ1_charAt_3b067_12 : decode cJ1_charAt_3b067 12 = .ok (.iand, 1) := by decide +kernel
theorem dJ1_charAt_3b067_13 : decode cJ1_charAt_3b067 13 = .ok (.i2c, 1) := by decide +kernel
theorem dJ1_charAt_3b067_14 : decode cJ1_charAt_3b067 14 = .ok (.ireturn, 1) := by decide +kernel
set_option maxRecDepth 20000 in
theorem ggJ2_getChar_3b067_J2_length_9d52b : GoodIn wsJ2_getChar_3b067 wsJ2_length_9d52b := goodIn_r _ [7] (by decide +kernel) (by decide +kernel)
set_option maxRecDepth 20000 in
theorem gJ2_getChar_3b067_J2_length_9d52b : GoodIn wsJ2_getChar_3b067 (va_wsS RJ2 48 yJ2_length_9d52b wsJ2_length_9d52b) := goodIn_app (goodIn_of _ (by decide +kernel)) ggJ2_getChar_3b067_J2_length_9d52b
theorem dJ2_getChar_3b067_0 : decode cJ2_getChar_3b067 0 = .ok (.getstatic 44, 3) := by decide +kernel
theorem dJ2_getChar_3b067_3 : decode cJ2_getChar_3b067 3 = .ok (.ifCond .ne 25, 3) := by decide +kernel
theorem dJ2_getChar_3b067_6 : decode cJ2_getChar_3b067 6 = .ok (.iload_n 1, 1) := by decide +kernel
theorem dJ2_getChar_3b067_7 : decode cJ2_getChar_3b067 7 = .ok (.ifCond .lt 11, 3) := by decide +kernel
theorem dJ2_getChar_3b067_10 : decode cJ2_getChar_3b067 10 = .ok (.iload_n 1, 1) := by decide +kernel
theorem dJ2_getChar_3b067_11 : decode cJ2_getChar_3b067 11 = .ok (.aload_n 0, 1) := by decide +kernel
theorem dJ2_getChar_3b067_12 : decode cJ2_getChar_3b067 12 = .ok (.invokestatic 48, 3) := by decide +kernel
theorem dJ2_getChar_3b067_15 : decode cJ2_getChar_3b067 15 = .ok (.if_icmp .lt 13, 3) := by decide +kernel
theorem dJ2_getChar_3b067_18 : decode cJ2_getChar_3b067 18 = .ok (.new 52, 3) := by decide +kernel
theorem dJ2_getChar_3b067_21 : decode cJ2_getChar_3b067 21 = .ok (.dup, 1) := by decide +kernel
theorem dJ2_getChar_3b067_22 : decode cJ2_getChar_3b067 22 = .ok (.ldc 54, 2) := by decide +kernel
theorem dJ2_getChar_3b067_24 : decode cJ2_getChar_3b067 24 = .ok (.invokespecial 56, 3) := by decide +kernel
theorem dJ2_getChar_3b067_27 : decode cJ2_getChar_3b067 27 = .ok (.athrow, 1) := by decide +kernel
theorem dJ2_getChar_3b067_28 : decode cJ2_getChar_3b067 28 = .ok (.iload_n 1, 1) := by decide +kernel
theorem dJ2_getChar_3b067_29 : decode cJ2_getChar_3b067 29 = .ok (.iconst 1, 1) := by decide +kernel
theorem dJ2_getChar_3b067_30 : decode cJ2_getChar_3b067 30 = .ok (.ishl, 1) := by decide +kernel
theorem dJ2_getChar_3b067_31 : decode cJ2_getChar_3b067 31 = .ok (.istore_n 1, 1) := by decide +kernel
theorem dJ2_getChar_3b067_32 : decode cJ2_getChar_3b067 32 = .ok (.aload_n 0, 1) := by decide +kernel
theorem dJ2_getChar_3b067_33 : decode cJ2_getChar_3b067 33 = .ok (.iload_n 1, 1) := by decide +kernel
theorem dJ2_getChar_3b067_34 : decode cJ2_getChar_3b067 34 = .ok (.iinc 1 1, 3) := by decide +kernel
theorem dJ2_getChar_3b067_37 : decode cJ2_getChar_3b067 37 = .ok (.baload, 1) := by decide +kernel
theorem dJ2_getChar_3b067_38 : decode cJ2_getChar_3b067 38 = .ok (.sipush 255, 3) := by decide +kernel
theorem dJ2_getChar_3b067_41 : decode cJ2_getChar_3b067 41 = .ok (.iand, 1) := by decide +kernel
theorem dJ2_getChar_3b067_42 : decode cJ2_getChar_3b067 42 = .ok (.getstatic 59, 3) := by decide +kernel
theorem dJ2_getChar_3b067_45 : decode cJ2_getChar_3b067 45 = .ok (.ishl, 1) := by decide +kernel
theorem dJ2_getChar_3b067_46 : decode cJ2_getChar_3b067 46 = .ok (.aload_n 0, 1) := by decide +kernel
theorem dJ2_getChar_3b067_47 : decode cJ2_getChar_3b067 47 = .ok (.iload_n 1, 1) := by decide +kernel
theorem dJ2_getChar_3b067_48 : decode cJ2_getChar_3b067 48 = .ok (.baload, 1) := by decide +kernel
theorem dJ2_getChar_3b067_49 : decode cJ2_getChar_3b067 49 = .ok (.sipush 255, 3) := by decide +kernel
theorem dJ2_getChar_3b067_52 : decode cJ2_getChar_3b067 52 = .ok (.iand, 1) := by decide +kernel
theorem dJ2_getChar_3b067_53 : decode cJ2_getChar_3b067 53 = .ok (.getstatic 63, 3) := by decide +kernel
theorem dJ2_getChar_3b067_56 : decode cJ2_getChar_3b067 56 = .ok (.ishl, 1) := by decide +kernel
theorem dJ2_getChar_3b067_57 : decode cJ2_getChar_3b067 57 = .ok (.ior, 1) := by decide +kernel
theorem dJ2_getChar_3b067_58 : decode cJ2_getChar_3b067 58 = .ok (.i2c, 1) := by decide +kernel
theorem dJ2_getChar_3b067_59 : decode cJ2_getChar_3b067 59 = .ok (.ireturn, 1) := by decide +kernel
theorem dJ2_length_9d52b_0 : decode cJ2_length_9d52b 0 = .ok (.aload_n 0, 1) := by decide +kernel
theorem dJ2_length_9d52b_1 : decode cJ2_length_9d52b 1 = .ok (.arraylength, 1) := by decide +kernel
theorem dJ2_length_9d52b_2 : decode cJ2_length_9d52b 2 = .ok (.iconst 1, 1) := by decide +kernel
theorem dJ2_length_9d52b_3 : decode cJ2_length_9d52b 3 = .ok (.ishr, 1) := by decide +kernel
theorem dJ2_length_9d52b_4 : decode cJ2_length_9d52b 4 = .ok (.ireturn, 1) := by decide +kernel
set_option maxRecDepth 20000 in
theorem ggJ2_charAt_3b067_J2_checkIndex_2214a : GoodIn wsJ2_charAt_3b067 wsJ2_checkIndex_2214a := goodIn_r _ [4, 5, 6, 3, 7, 8, 9, 10, 11, 12, 13, 14, 15, 16] (by decide +kernel) (by decide +kernel)
set_option maxRecDepth 20000 in
theorem gJ2_charAt_3b067_J2_checkIndex_2214a : GoodIn wsJ2_charAt_3b067 (va_wsS RJ2 67 yJ2_checkIndex_2214a wsJ2_checkIndex_2214a) := goodIn_app (goodIn_of _ (by decide +kernel)) ggJ2_charAt_3b067_J2_checkIndex_2214a
set_option maxRecDepth 20000 in
theorem ggJ2_charAt_3b067_J2_getChar_3b067 : GoodIn wsJ2_charAt_3b067 wsJ2_getChar_3b067 := goodIn_r _ [19, 20, 21, 22, 5, 6, 3, 7] (by decide +kernel) (by decide +kernel)
set_option maxRecDepth 20000 in
theorem gJ2_charAt_3b067_J2_getChar_3b067 : GoodIn wsJ2_charAt_3b067 (va_wsS RJ2 71 yJ2_getChar_3b067 wsJ2_getChar_3b067) := goodIn_app (goodIn_of _ (by decide +kernel)) ggJ2_charAt_3b067_J2_getChar_3b067
theorem dJ2_charAt_3b067_0 : decode cJ2_charAt_3b067 0 = .ok (.iload_n 1, 1) := by decide +kernel
theorem dJ2_charAt_3b067_1 : decode cJ2_charAt_3b067 1 = .ok (.aload_n 0, 1) := by decide +kernel
theorem dJ2_charAt_3b067_2 : decode cJ2_charAt_3b067 2 = .ok (.invokestatic 67, 3) := by decide +kernel
theorem dJ2_charAt_3b067_5 : decode cJ2_charAt_3b067 5 = .ok (.aload_n 0, 1) := by decide +kernel
theorem dJ2_charAt_3b067_6 : decode cJ2_charAt_3b067 6 = .ok (.iload_n 1, 1) := by decide +kernel
theorem dJ2_charAt_3b067_7 : decode cJ2_charAt_3b067 7 = .ok (.invokestatic 71, 3) := by decide +kernel
theorem dJ2_charAt_3b067_10 : decode cJ2_charAt_3b067 10 = .ok (.ireturn, 1) := by decide +kernel
set_option maxRecDepth 20000 in
theorem ggJ2_checkIndex_2214a_J2_length_9d52b : GoodIn wsJ2_checkIndex_2214a wsJ2_length_9d52b := goodIn_r _ [4] (by decide +kernel) (by decide +kernel)
set_option maxRecDepth 20000 in
theorem gJ2_checkIndex_2214a_J2_length_9d52b : GoodIn wsJ2_checkIndex_2214a (va_wsS RJ2 48 yJ2_length_9d52b wsJ2_length_9d52b) := goodIn_app (goodIn_of _ (by decide +kernel)) ggJ2_checkIndex_2214a_J2_length_9d52b
set_option maxRecDepth 20000 in
theorem ggJ2_checkIndex_2214a_J0_checkIndex_df160 : GoodIn wsJ2_checkIndex_2214a wsJ0_checkIndex_df160 := goodIn_r _ [8, 9, 10, 11, 12, 13] (by decide +kernel) (by decide +kernel)
set_option maxRecDepth 20000 in
theorem gJ2_checkIndex_2214a_J0_checkIndex_df160 : GoodIn wsJ2_checkIndex_2214a (va_wsS RJ2 414 yJ0_checkIndex_df160 wsJ0_checkIndex_df160) := goodIn_app (goodIn_of _ (by decide +kernel)) ggJ2_checkIndex_2214a_J0_checkIndex_df160
theorem dJ2_checkIndex_2214a_0 : decode cJ2_checkIndex_2214a 0 = .ok (.iload_n 0, 1) := by decide +kernel
theorem dJ2_checkIndex_2214a_1 : decode cJ2_checkIndex_2214a 1 = .ok (.aload_n 1, 1) := by decide +kernel
theorem dJ2_checkIndex_2214a_2 : decode cJ2_checkIndex_2214a 2 = .ok (.invokestatic 48, 3) := by decide +kernel
theorem dJ2_checkIndex_2214a_5 : decode cJ2_checkIndex_2214a 5 = .ok (.invokestatic 414, 3) := by decide +kernel
theorem dJ2_checkIndex_2214a_8 : decode cJ2_checkIndex_2214a 8 = .ok (.return_, 1) := by decide +kernel
theorem dJ3_checkIndex_8e157_0 : decode cJ3_checkIndex_8e157 0 = .ok (.iload_n 0, 1) := by decide +kernel
theorem dJ3_checkIndex_8e157_1 : decode cJ3_checkIndex_8e157 1 = .ok (.ifCond .lt 8, 3) := by decide +kernel
theorem dJ3_checkIndex_8e157_4 : decode cJ3_checkIndex_8e157 4 = .ok (.iload_n 0, 1) := by decide +kernel
theorem dJ3_checkIndex_8e157_5 : decode cJ3_checkIndex_8e157 5 = .ok (.iload_n 1, 1) := by decide +kernel
theorem dJ3_checkIndex_8e157_6 : decode cJ3_checkIndex_8e157 6 = .ok (.if_icmp .lt 10, 3) := by decide +kernel
theorem dJ3_checkIndex_8e157_9 : decode cJ3_checkIndex_8e157 9 = .ok (.aload_n 2, 1) := by decide +kernel
theorem dJ3_checkIndex_8e157_10 : decode cJ3_checkIndex_8e157 10 = .ok (.iload_n 0, 1) := by decide +kernel
theorem dJ3_checkIndex_8e157_11 : decode cJ3_checkIndex_8e157 11 = .ok (.iload_n 1, 1) := by decide +kernel
theorem dJ3_checkIndex_8e157_12 : decode cJ3_checkIndex_8e157 12 = .ok (.invokestatic 95, 3) := by decide +kernel
theorem dJ3_checkIndex_8e157_15 : decode cJ3_checkIndex_8e157 15 = .ok (.athrow, 1) := by decide +kernel
theorem dJ3_checkIndex_8e157_16 : decode cJ3_checkIndex_8e157 16 = .ok (.iload_n 0, 1) := by decide +kernel
theorem dJ3_checkIndex_8e157_17 : decode cJ3_checkIndex_8e157 17 = .ok (.ireturn, 1) := by decide +kernel
set_option maxRecDepth 20000 in
theorem ggL_append_X11_append : GoodIn wsL_append wsX11_append := goodIn_ca (goodIn_r _ [6, 7, 8, 9, 10, 11, 12, 13, 14, 15, 16, 17, 18, 19, 20, 21, 22, 23, 24, 25, 26, 27, 28, 29, 30, 31, 32, 33, 34, 35, 36] (by decide +kernel) (by decide +kernel)) (goodIn_sub (fun _ h => List.mem_cons_of_mem _ (List.mem_append_right _ h)) (by decide +kernel))
set_option maxRecDepth 20000 in
theorem gL_append_X11_append : GoodIn wsL_append (wsV RL 7 RX11 yX11_append wsX11_append) := goodIn_app (goodIn_of _ (by decide +kernel)) ggL_append_X11_append
theorem dL_append_0 : decode cL_append 0 = .ok (.aload 6, 2) := by decide +kernel
theorem dL_append_2 : decode cL_append 2 = .ok (.iconst 0, 1) := by decide +kernel
theorem dL_append_3 : decode cL_append 3 = .ok (.aload_n 0, 1) := by decide +kernel
theorem dL_append_4 : decode cL_append 4 = .ok (.iload_n 1, 1) := by decide +kernel
theorem dL_append_5 : decode cL_append 5 = .ok (.iload_n 2, 1) := by decide +kernel
theorem dL_append_6 : decode cL_append 6 = .ok (.iload_n 3, 1) := by decide +kernel
theorem dL_append_7 : decode cL_append 7 = .ok (.iload 4, 2) := by decide +kernel
theorem dL_append_9 : decode cL_append 9 = .ok (.iload 5, 2) := by decide +kernel
theorem dL_append_11 : decode cL_append 11 = .ok (.invokevirtual 7, 3) := by decide +kernel
theorem dL_append_14 : decode cL_append 14 = .ok (.i2l, 1) := by decide +kernel
theorem dL_append_15 : decode cL_append 15 = .ok (.lastore, 1) := by decide +kernel
theorem dL_append_16 : decode cL_append 16 = .ok (.goto 7, 3) := by decide +kernel
theorem dL_append_19 : decode cL_append 19 = .ok (.astore 7, 2) := by decide +kernel
theorem dL_append_21 : decode cL_append 21 = .ok (.iconst 1, 1) := by decide +kernel
theorem dL_append_22 : decode cL_append 22 = .ok (.ireturn, 1) := by decide +kernel
theorem dL_append_23 : decode cL_append 23 = .ok (.iconst 0, 1) := by decide +kernel
theorem dL_append_24 : decode cL_append 24 = .ok (.ireturn, 1) := by decide +kernel
set_option maxRecDepth 20000 in
theorem ggL_truncate_X11_truncate : GoodIn wsL_truncate wsX11_truncate := goodIn_ca (goodIn_r _ [6, 7, 8, 9, 10, 11, 12, 13, 14, 15, 16, 17, 18, 19, 20, 21, 22, 23, 24, 25, 26, 27, 28, 29] (by decide +kernel) (by decide +kernel)) (goodIn_sub (fun _ h => List.mem_cons_of_mem _ (List.mem_append_right _ h)) (by decide +kernel))
set_option maxRecDepth 20000 in
theorem gL_truncate_X11_truncate : GoodIn wsL_truncate (wsV RL 15 RX11 yX11_truncate wsX11_truncate) := goodIn_app (goodIn_of _ (by decide +kernel)) ggL_truncate_X11_truncate
theorem dL_truncate_0 : decode cL_truncate 0 = .ok (.aload_n 2, 1) := by decide +kernel
theorem dL_truncate_1 : decode cL_truncate 1 = .ok (.iconst 0, 1) := by decide +kernel
theorem dL_truncate_2 : decode cL_truncate 2 = .ok (.aload_n 0, 1) := by decide +kernel
theorem dL_truncate_3 : decode cL_truncate 3 = .ok (.iload_n 1, 1) := by decide +kernel
theorem dL_truncate_4 : decode cL_truncate 4 = .ok (.invokevirtual 15, 3) := by decide +kernel
theorem dL_truncate_7 : decode cL_truncate 7 = .ok (.i2l, 1) := by decide +kernel
theorem dL_truncate_8 : decode cL_truncate 8 = .ok (.lastore, 1) := by decide +kernel
theorem dL_truncate_9 : decode cL_truncate 9 = .ok (.goto 6, 3) := by decide +kernel
theorem dL_truncate_12 : decode cL_truncate 12 = .ok (.astore_n 3, 1) := by decide +kernel
theorem dL_truncate_13 : decode cL_truncate 13 = .ok (.iconst 1, 1) := by decide +kernel
theorem dL_truncate_14 : decode cL_truncate 14 = .ok (.ireturn, 1) := by decide +kernel
theorem dL_truncate_15 : decode cL_truncate 15 = .ok (.iconst 0, 1) := by decide +kernel
theorem dL_truncate_16 : decode cL_truncate 16 = .ok (.ireturn, 1) := by decide +kernel
set_option maxRecDepth 20000 in
theorem ggL_load_X11_load : GoodIn wsL_load wsX11_load := goodIn_ca (goodIn_r _ [6, 7, 8, 9, 10, 11, 12, 13, 14, 15, 16, 17, 18, 19, 20, 21, 22, 23, 24, 25, 26, 27, 28, 29, 30, 31, 32, 33, 34, 35, 36, 37, 38, 39, 40, 41, 42, 43, 44, 45, 46, 47, 48, 49, 50, 51, 52, 53, 54, 55, 56, 57, 58, 59, 60, 61, 62, 63, 64, 65, 66, 67, 68, 69, 70, 71, 72, 73, 74, 75, 76, 77, 78, 79, 80, 81, 82, 83, 84, 85, 86, 87, 88, 89, 90, 91, 92, 93, 94, 95, 96, 97, 98, 99, 100, 101, 102, 103, 104, 105, 106, 107, 108, 109, 110, 111, 112, 113, 114, 115, 116, 117, 118, 119, 120, 121, 122, 123, 124, 125, 126, 127, 128, 129, 130, 131, 132, 133, 134, 135, 136, 137, 138, 139, 140, 141, 142, 143, 144, 145, 146, 147, 148, 149, 150, 151, 152, 153, 154, 155, 156, 157, 158, 159, 160, 161, 162, 163, 164, 165, 166, 167, 168, 169, 170, 171, 172, 173, 174, 175, 176, 177, 178, 179, 180, 181, 182, 183, 184, 185, 186, 187, 188, 189, 190, 191, 192, 193, 194, 195, 196, 197, 198, 199, 200, 201, 202, 203, 204, 205, 206, 207, 208, 209, 210, 211, 212, 213, 214, 215, 216, 217, 218, 219, 5, 220, 221, 222, 223, 224, 225, 226, 227, 228, 229, 230, 231, 232, 233, 234, 235, 236, 237, 238, 239, 240, 241, 242, 243, 244, 245, 246, 247, 248, 249, 250, 251, 252, 253, 254, 255, 256, 257, 258, 259, 260, 261, 262, 263, 264, 265, 266, 267, 268, 269, 270, 271, 272, 273, 274, 275, 276, 277, 278, 279, 280, 281, 282, 283, 284, 285, 286, 287, 288, 289, 290, 291, 292, 293, 294, 295, 296, 297, 298, 299, 300, 301, 302, 303, 304, 305, 306, 307, 308, 309, 310, 311, 312, 313, 314, 315, 316, 317, 318, 319, 320, 321, 322, 323, 324, 325, 326, 327, 328, 329, 330, 331, 332, 333, 334, 335, 336, 337, 338, 339, 340, 341, 342, 343, 344, 345, 346, 347, 348, 349, 350, 351, 352, 353, 354, 355, 356, 357, 358, 359, 360, 361, 362, 363, 364, 365, 366, 367, 368, 369, 370, 371, 372, 373, 374, 375, 376, 377, 378, 379, 380, 381, 382, 383, 384, 385, 386, 387, 388, 389, 390, 391, 392, 393, 394, 395, 396, 397, 398, 399, 400, 401, 402, 403, 404, 405, 406, 407, 408, 409, 410, 411, 412, 413, 414, 415, 416, 417, 418, 419, 420, 421, 422, 423, 424, 425, 426, 427, 428, 429, 430, 431, 432, 433, 434, 435, 436, 437, 438, 439, 440, 441, 442, 443, 444, 445, 446, 447, 448, 449, 450, 451, 452, 453, 454, 455, 456, 457, 458, 459, 460, 461, 462, 463, 464, 465, 466, 467, 468, 469, 470, 471, 472, 473, 474, 475, 476, 477, 478, 479, 480, 481, 482, 483, 484, 485, 486, 487, 488, 489, 490, 491, 492, 493, 494, 495, 496, 497, 498, 499, 500, 501, 502, 503, 504, 505, 506] (by decide +kernel) (by decide +kernel)) (goodIn_sub (fun _ h => List.mem_cons_of_mem _ (List.mem_append_right _ h)) (by decide +kernel))
set_option maxRecDepth 20000 in
theorem gL_load_X11_load : GoodIn wsL_load (wsV RL 21 RX11 yX11_load wsX11_load) := goodIn_app (goodIn_of _ (by decide +kernel)) ggL_load_X11_load
theorem dL_load_0 : decode cL_load 0 = .ok (.aload_n 1, 1) := by decide +kernel
theorem dL_load_1 : decode cL_load 1 = .ok (.iconst 0, 1) := by decide +kernel
theorem dL_load_2 : decode cL_load 2 = .ok (.aload_n 0, 1) := by decide +kernel
theorem dL_load_3 : decode cL_load 3 = .ok (.invokevirtual 21, 3) := by decide +kernel
theorem dL_load_6 : decode cL_load 6 = .ok (.i2l, 1) := by decide +kernel
theorem dL_load_7 : decode cL_load 7 = .ok (.lastore, 1) := by decide +kernel
theorem dL_load_8 : decode cL_load 8 = .ok (.goto 6, 3) := by decide +kernel
theorem dL_load_11 : decode cL_load 11 = .ok (.astore_n 2, 1) := by decide +kernel
theorem dL_load_12 : decode cL_load 12 = .ok (.iconst 1, 1) := by decide +kernel
theorem dL_load_13 : decode cL_load 13 = .ok (.ireturn, 1) := by decide +kernel
theorem dL_load_14 : decode cL_load 14 = .ok (.iconst 0, 1) := by decide +kernel
theorem dL_load_15 : decode cL_load 15 = .ok (.ireturn, 1) := by decide +kernel
set_option maxRecDepth 20000 in
theorem ggL_report_X11_report : GoodIn wsL_report wsX11_report := goodIn_ca (goodIn_r _ [6, 7, 8, 9, 10, 11, 12, 13, 14, 15, 16, 17, 18, 19, 20, 21, 22, 23, 24, 25, 26, 27, 28, 29, 30, 31, 32, 33, 34, 35, 36, 37, 38, 39, 40, 41, 5, 42, 43, 44, 45, 46, 47, 48, 49, 50, 51, 52, 53, 54, 55, 56, 57, 58, 59, 60, 61, 62, 63, 64, 65, 66, 67, 68, 69, 70, 71, 72, 73, 74, 75, 76] (by decide +kernel) (by decide +kernel)) (goodIn_sub (fun _ h => List.mem_cons_of_mem _ (List.mem_append_right _ h)) (by decide +kernel))
set_option maxRecDepth 20000 in
theorem gL_report_X11_report : GoodIn wsL_report (wsV RL 27 RX11 yX11_report wsX11_report) := goodIn_app (goodIn_of _ (by decide +kernel)) ggL_report_X11_report
theorem dL_report_0 : decode cL_report 0 = .ok (.aload_n 2, 1) := by decide +kernel
theorem dL_report_1 : decode cL_report 1 = .ok (.iconst 0, 1) := by decide +kernel
theorem dL_report_2 : decode cL_report 2 = .ok (.aload_n 0, 1) := by decide +kernel
theorem dL_report_3 : decode cL_report 3 = .ok (.iload_n 1, 1) := by decide +kernel
theorem dL_report_4 : decode cL_report 4 = .ok (.invokevirtual 27, 3) := by decide +kernel
theorem dL_report_7 : decode cL_report 7 = .ok (.i2l, 1) := by decide +kernel
theorem dL_report_8 : decode cL_report 8 = .ok (.lastore, 1) := by decide +kernel
theorem dL_report_9 : decode cL_report 9 = .ok (.goto 6, 3) := by decide +kernel
theorem dL_report_12 : decode cL_report 12 = .ok (.astore_n 3, 1) := by decide +kernel
theorem dL_report_13 : decode cL_report 13 = .ok (.iconst 1, 1) := by decide +kernel
theorem dL_report_14 : decode cL_report 14 = .ok (.ireturn, 1) := by decide +kernel
theorem dL_report_15 : decode cL_report 15 = .ok (.iconst 0, 1) := by decide +kernel
theorem dL_report_16 : decode cL_report 16 = .ok (.ireturn, 1) := by decide +kernel
set_option maxRecDepth 20000 in
theorem ggL_domain_X11_domain : GoodIn wsL_domain wsX11_domain := goodIn_ca (goodIn_r _ [6, 7, 8, 9, 10, 11, 12, 13, 5, 14, 15, 16, 17, 18, 19, 20, 21, 22, 23, 24, 25, 26, 27, 28, 29, 30, 31, 32, 33, 34, 35, 36, 37, 38, 39] (by decide +kernel) (by decide +kernel)) (goodIn_sub (fun _ h => List.mem_cons_of_mem _ (List.mem_append_right _ h)) (by decide +kernel))
set_option maxRecDepth 20000 in
theorem gL_domain_X11_domain : GoodIn wsL_domain (wsV RL 30 RX11 yX11_domain wsX11_domain) := goodIn_app (goodIn_of _ (by decide +kernel)) ggL_domain_X11_domain
theorem dL_domain_0 : decode cL_domain 0 = .ok (.aload_n 2, 1) := by decide +kernel
theorem dL_domain_1 : decode cL_domain 1 = .ok (.iconst 0, 1) := by decide +kernel
theorem dL_domain_2 : decode cL_domain 2 = .ok (.aload_n 0, 1) := by decide +kernel
theorem dL_domain_3 : decode cL_domain 3 = .ok (.iload_n 1, 1) := by decide +kernel
theorem dL_domain_4 : decode cL_domain 4 = .ok (.invokevirtual 30, 3) := by decide +kernel
theorem dL_domain_7 : decode cL_domain 7 = .ok (.i2l, 1) := by decide +kernel
theorem dL_domain_8 : decode cL_domain 8 = .ok (.lastore, 1) := by decide +kernel
theorem dL_domain_9 : decode cL_domain 9 = .ok (.goto 6, 3) := by decide +kernel
theorem dL_domain_12 : decode cL_domain 12 = .ok (.astore_n 3, 1) := by decide +kernel
theorem dL_domain_13 : decode cL_domain 13 = .ok (.iconst 1, 1) := by decide +kernel
theorem dL_domain_14 : decode cL_domain 14 = .ok (.ireturn, 1) := by decide +kernel
theorem dL_domain_15 : decode cL_domain 15 = .ok (.iconst 0, 1) := by decide +kernel
theorem dL_domain_16 : decode cL_domain 16 = .ok (.ireturn, 1) := by decide +kernel
set_option maxRecDepth 20000 in
theorem ggL_constraint_X11_constraint : GoodIn wsL_constraint wsX11_constraint := goodIn_ca (goodIn_ca (goodIn_r _ [7, 8, 9, 10, 11, 12, 13, 14, 15, 16, 17, 18, 19, 20, 21, 22, 23, 6, 24, 25, 26, 27, 28, 29, 30, 31, 32, 33, 34, 35, 36, 37, 38, 39, 40, 41, 42, 43, 44, 45, 46, 47, 48, 49, 50, 51, 52, 53, 54, 55, 56, 57, 58, 59, 60, 61, 62, 63, 64, 65, 66, 67, 68, 69, 70, 71, 72, 73, 74, 75, 76, 77, 78, 79, 80, 81, 82, 83, 84, 85, 86, 87, 88, 89, 90, 91, 92, 93, 94, 95, 96, 97, 98, 99, 100, 101, 102, 103] (by decide +kernel) (by decide +kernel)) (goodIn_sub (fun _ h => List.mem_cons_of_mem _ (List.mem_append_left _ (List.mem_append_right _ h))) (by decide +kernel))) (goodIn_sub (fun _ h => List.mem_cons_of_mem _ (List.mem_append_right _ h)) (by decide +kernel))
set_option maxRecDepth 20000 in
theorem gL_constraint_X11_constraint : GoodIn wsL_constraint (wsV RL 33 RX11 yX11_constraint wsX11_constraint) := goodIn_app (goodIn_of _ (by decide +kernel)) ggL_constraint_X11_constraint
theorem dL_constraint_0 : decode cL_constraint 0 = .ok (.aload_n 3, 1) := by decide +kernel
theorem dL_constraint_1 : decode cL_constraint 1 = .ok (.iconst 0, 1) := by decide +kernel
theorem dL_constraint_2 : decode cL_constraint 2 = .ok (.aload_n 0, 1) := by decide +kernel
theorem dL_constraint_3 : decode cL_constraint 3 = .ok (.iload_n 1, 1) := by decide +kernel
theorem dL_constraint_4 : decode cL_constraint 4 = .ok (.iload_n 2, 1) := by decide +kernel
theorem dL_constraint_5 : decode cL_constraint 5 = .ok (.invokevirtual 33, 3) := by decide +kernel
theorem dL_constraint_8 : decode cL_constraint 8 = .ok (.i2l, 1) := by decide +kernel
theorem dL_constraint_9 : decode cL_constraint 9 = .ok (.lastore, 1) := by decide +kernel
theorem dL_constraint_10 : decode cL_constraint 10 = .ok (.goto 11, 3) := by decide +kernel
theorem dL_constraint_13 : decode cL_constraint 13 = .ok (.astore 4, 2) := by decide +kernel
theorem dL_constraint_15 : decode cL_constraint 15 = .ok (.iconst 1, 1) := by decide +kernel
theorem dL_constraint_16 : decode cL_constraint 16 = .ok (.ireturn, 1) := by decide +kernel
theorem dL_constraint_17 : decode cL_constraint 17 = .ok (.astore 4, 2) := by decide +kernel
theorem dL_constraint_19 : decode cL_constraint 19 = .ok (.iconst 2, 1) := by decide +kernel
theorem dL_constraint_20 : decode cL_constraint 20 = .ok (.ireturn, 1) := by decide +kernel
theorem dL_constraint_21 : decode cL_constraint 21 = .ok (.iconst 0, 1) := by decide +kernel
theorem dL_constraint_22 : decode cL_constraint 22 = .ok (.ireturn, 1) := by decide +kernel
set_option maxRecDepth 20000 in
theorem ggL_fact_X11_fact : GoodIn wsL_fact wsX11_fact := goodIn_ca (goodIn_ca (goodIn_r _ [7, 8, 9, 10, 11, 12, 13, 14, 15, 16, 17, 18, 19, 20, 21, 22, 23, 24, 25, 26, 27, 28, 29, 30, 31, 32, 33, 34, 35, 36, 37, 38, 39, 40, 41, 42, 43, 44, 45] (by decide +kernel) (by decide +kernel)) (goodIn_sub (fun _ h => List.mem_cons_of_mem _ (List.mem_append_left _ (List.mem_append_right _ h))) (by decide +kernel))) (goodIn_sub (fun _ h => List.mem_cons_of_mem _ (List.mem_append_right _ h)) (by decide +kernel))
set_option maxRecDepth 20000 in
theorem gL_fact_X11_fact : GoodIn wsL_fact (wsV RL 37 RX11 yX11_fact wsX11_fact) := goodIn_app (goodIn_of _ (by decide +kernel)) ggL_fact_X11_fact
theorem dL_fact_0 : decode cL_fact 0 = .ok (.aload_n 3, 1) := by decide +kernel
theorem dL_fact_1 : decode cL_fact 1 = .ok (.iconst 0, 1) := by decide +kernel
theorem dL_fact_2 : decode cL_fact 2 = .ok (.aload_n 0, 1) := by decide +kernel
theorem dL_fact_3 : decode cL_fact 3 = .ok (.iload_n 1, 1) := by decide +kernel
theorem dL_fact_4 : decode cL_fact 4 = .ok (.iload_n 2, 1) := by decide +kernel
theorem dL_fact_5 : decode cL_fact 5 = .ok (.invokevirtual 37, 3) := by decide +kernel
theorem dL_fact_8 : decode cL_fact 8 = .ok (.i2l, 1) := by decide +kernel
theorem dL_fact_9 : decode cL_fact 9 = .ok (.lastore, 1) := by decide +kernel
theorem dL_fact_10 : decode cL_fact 10 = .ok (.goto 11, 3) := by decide +kernel
theorem dL_fact_13 : decode cL_fact 13 = .ok (.astore 4, 2) := by decide +kernel
theorem dL_fact_15 : decode cL_fact 15 = .ok (.iconst 1, 1) := by decide +kernel
theorem dL_fact_16 : decode cL_fact 16 = .ok (.ireturn, 1) := by decide +kernel
theorem dL_fact_17 : decode cL_fact 17 = .ok (.astore 4, 2) := by decide +kernel
theorem dL_fact_19 : decode cL_fact 19 = .ok (.iconst 2, 1) := by decide +kernel
theorem dL_fact_20 : decode cL_fact 20 = .ok (.ireturn, 1) := by decide +kernel
theorem dL_fact_21 : decode cL_fact 21 = .ok (.iconst 0, 1) := by decide +kernel
theorem dL_fact_22 : decode cL_fact 22 = .ok (.ireturn, 1) := by decide +kernel
set_option maxRecDepth 20000 in
theorem ggL_factOf_X11_factOf : GoodIn wsL_factOf wsX11_factOf := goodIn_ca (goodIn_ca (goodIn_ca (goodIn_r _ [8, 9, 10, 11, 12, 13, 14, 15, 16, 17, 18, 19, 7, 20, 21, 22, 23, 24, 25, 26, 27, 28, 29, 30, 31, 32, 33, 34, 35, 36, 37, 38, 39, 40, 41, 42, 43, 44, 45, 46, 47, 48, 49, 50, 51, 52, 53, 54, 55, 56, 57, 58, 59, 60, 61, 62, 63, 64, 65, 66, 67, 68, 69, 70, 71, 72, 73, 74] (by decide +kernel) (by decide +kernel)) (goodIn_sub (fun _ h => List.mem_cons_of_mem _ (List.mem_append_left _ (List.mem_append_left _ (List.mem_append_right _ h)))) (by decide +kernel))) (goodIn_sub (fun _ h => List.mem_cons_of_mem _ (List.mem_append_left _ (List.mem_append_right _ h))) (by decide +kernel))) (goodIn_sub (fun _ h => List.mem_cons_of_mem _ (List.mem_append_right _ h)) (by decide +kernel))
set_option maxRecDepth 20000 in
theorem gL_factOf_X11_factOf : GoodIn wsL_factOf (wsV RL 40 RX11 yX11_factOf wsX11_factOf) := goodIn_app (goodIn_of _ (by decide +kernel)) ggL_factOf_X11_factOf
theorem dL_factOf_0 : decode cL_factOf 0 = .ok (.aload_n 3, 1) := by decide +kernel
theorem dL_factOf_1 : decode cL_factOf 1 = .ok (.iconst 0, 1) := by decide +kernel
theorem dL_factOf_2 : decode cL_factOf 2 = .ok (.aload_n 0, 1) := by decide +kernel
theorem dL_factOf_3 : decode cL_factOf 3 = .ok (.iload_n 1, 1) := by decide +kernel
theorem dL_factOf_4 : decode cL_factOf 4 = .ok (.iload_n 2, 1) := by decide +kernel
theorem dL_factOf_5 : decode cL_factOf 5 = .ok (.invokevirtual 40, 3) := by decide +kernel
theorem dL_factOf_8 : decode cL_factOf 8 = .ok (.i2l, 1) := by decide +kernel
theorem dL_factOf_9 : decode cL_factOf 9 = .ok (.lastore, 1) := by decide +kernel
theorem dL_factOf_10 : decode cL_factOf 10 = .ok (.goto 15, 3) := by decide +kernel
theorem dL_factOf_13 : decode cL_factOf 13 = .ok (.astore 4, 2) := by decide +kernel
theorem dL_factOf_15 : decode cL_factOf 15 = .ok (.iconst 1, 1) := by decide +kernel
theorem dL_factOf_16 : decode cL_factOf 16 = .ok (.ireturn, 1) := by decide +kernel
theorem dL_factOf_17 : decode cL_factOf 17 = .ok (.astore 4, 2) := by decide +kernel
theorem dL_factOf_19 : decode cL_factOf 19 = .ok (.iconst 2, 1) := by decide +kernel
theorem dL_factOf_20 : decode cL_factOf 20 = .ok (.ireturn, 1) := by decide +kernel
theorem dL_factOf_21 : decode cL_factOf 21 = .ok (.astore 4, 2) := by decide +kernel
theorem dL_factOf_23 : decode cL_factOf 23 = .ok (.iconst 3, 1) := by decide +kernel
theorem dL_factOf_24 : decode cL_factOf 24 = .ok (.ireturn, 1) := by decide +kernel
theorem dL_factOf_25 : decode cL_factOf 25 = .ok (.iconst 0, 1) := by decide +kernel
theorem dL_factOf_26 : decode cL_factOf 26 = .ok (.ireturn, 1) := by decide +kernel
set_option maxRecDepth 20000 in
theorem ggL_explanationSize_X11_explanationSize : GoodIn wsL_explanationSize wsX11_explanationSize := goodIn_ca (goodIn_r _ [6, 7, 8, 9, 10, 11, 12, 13, 14, 15, 16, 17, 18, 19, 5, 20, 21, 22, 23, 24, 25, 26, 27, 28, 29, 30, 31, 32, 33, 34, 35, 36, 37, 38, 39, 40, 41, 42, 43, 44, 45, 46, 47, 48, 49, 50, 51, 52, 53, 54, 55, 56, 57, 58, 59, 60, 61, 62, 63, 64, 65, 66, 67, 68, 69, 70, 71, 72, 73, 74, 75, 76, 77, 78, 79, 80, 81, 82, 83, 84, 85, 86, 87, 88, 89, 90, 91, 92, 93, 94, 95, 96, 97, 98, 99, 100, 101, 102, 103, 104, 105, 106, 107, 108, 109, 110, 111, 112, 113, 114, 115, 116, 117, 118, 119, 120, 121, 122, 123, 124, 125, 126, 127, 128, 129, 130, 131, 132, 133, 134, 135, 136, 137, 138, 139, 140, 141, 142, 143, 144, 145, 146, 147, 148, 149, 150, 151, 152, 153, 154, 155, 156, 157, 158, 159, 160, 161, 162, 163, 164, 165, 166, 167, 168, 169, 170, 171, 172, 173, 174, 175, 176, 177, 178, 179, 180, 181, 182, 183, 184, 185, 186, 187, 188, 189, 190, 191, 192, 193, 194, 195, 196, 197, 198, 199, 200, 201, 202, 203, 204, 205, 206, 207, 208, 209, 210, 211, 212, 213, 214, 215, 216, 217, 218, 219, 220, 221, 222, 223, 224, 225, 226, 227, 228, 229, 230, 231, 232, 233, 234, 235, 236, 237, 238, 239, 240, 241, 242, 243, 244, 245, 246, 247, 248, 249, 250, 251, 252, 253, 254, 255, 256, 257, 258, 259, 260, 261, 262] (by decide +kernel) (by decide +kernel)) (goodIn_sub (fun _ h => List.mem_cons_of_mem _ (List.mem_append_right _ h)) (by decide +kernel))
set_option maxRecDepth 20000 in
theorem gL_explanationSize_X11_explanationSize : GoodIn wsL_explanationSize (wsV RL 45 RX11 yX11_explanationSize wsX11_explanationSize) := goodIn_app (goodIn_of _ (by decide +kernel)) ggL_explanationSize_X11_explanationSize
theorem dL_explanationSize_0 : decode cL_explanationSize 0 = .ok (.aload_n 2, 1) := by decide +kernel
theorem dL_explanationSize_1 : decode cL_explanationSize 1 = .ok (.iconst 0, 1) := by decide +kernel
theorem dL_explanationSize_2 : decode cL_explanationSize 2 = .ok (.aload_n 0, 1) := by decide +kernel
theorem dL_explanationSize_3 : decode cL_explanationSize 3 = .ok (.iload_n 1, 1) := by decide +kernel
theorem dL_explanationSize_4 : decode cL_explanationSize 4 = .ok (.invokevirtual 45, 3) := by decide +kernel
theorem dL_explanationSize_7 : decode cL_explanationSize 7 = .ok (.i2l, 1) := by decide +kernel
theorem dL_explanationSize_8 : decode cL_explanationSize 8 = .ok (.lastore, 1) := by decide +kernel
theorem dL_explanationSize_9 : decode cL_explanationSize 9 = .ok (.goto 6, 3) := by decide +kernel
theorem dL_explanationSize_12 : decode cL_explanationSize 12 = .ok (.astore_n 3, 1) := by decide +kernel
theorem dL_explanationSize_13 : decode cL_explanationSize 13 = .ok (.iconst 1, 1) := by decide +kernel
theorem dL_explanationSize_14 : decode cL_explanationSize 14 = .ok (.ireturn, 1) := by decide +kernel
theorem dL_explanationSize_15 : decode cL_explanationSize 15 = .ok (.iconst 0, 1) := by decide +kernel
theorem dL_explanationSize_16 : decode cL_explanationSize 16 = .ok (.ireturn, 1) := by decide +kernel
set_option maxRecDepth 20000 in
theorem ggL_explained_X11_explained : GoodIn wsL_explained wsX11_explained := goodIn_ca (goodIn_r _ [6, 7, 8, 9, 10, 11, 12, 13, 14, 15, 16, 17, 18, 19, 5, 20, 21, 22, 23, 24, 25, 26, 27, 28, 29, 30, 31, 32, 33, 34, 35, 36, 37, 38, 39, 40, 41, 42, 43, 44, 45, 46, 47, 48, 49, 50, 51, 52, 53, 54, 55, 56, 57, 58, 59, 60, 61, 62, 63, 64, 65, 66, 67, 68, 69, 70, 71, 72, 73, 74, 75, 76, 77, 78, 79, 80, 81, 82, 83, 84, 85, 86, 87, 88, 89, 90, 91, 92, 93, 94, 95, 96, 97, 98, 99, 100, 101, 102, 103, 104, 105, 106, 107, 108, 109, 110, 111, 112, 113, 114, 115, 116, 117, 118, 119, 120, 121, 122, 123, 124, 125, 126, 127, 128, 129, 130, 131, 132, 133, 134, 135, 136, 137, 138, 139, 140, 141, 142, 143, 144, 145, 146, 147, 148, 149, 150, 151, 152, 153, 154, 155, 156, 157, 158, 159, 160, 161, 162, 163, 164, 165, 166, 167, 168, 169, 170, 171, 172, 173, 174, 175, 176, 177, 178, 179, 180, 181, 182, 183, 184, 185, 186, 187, 188, 189, 190, 191, 192, 193, 194, 195, 196, 197, 198, 199, 200, 201, 202, 203, 204, 205, 206, 207, 208, 209, 210, 211, 212, 213, 214, 215, 216, 217, 218, 219, 220, 221, 222, 223, 224, 225, 226, 227, 228, 229, 230, 231, 232, 233, 234, 235, 236, 237, 238, 239, 240, 241, 242, 243, 244, 245, 246, 247, 248, 249, 250, 251, 252, 253, 254, 255, 256, 257, 258, 259, 260, 261] (by decide +kernel) (by decide +kernel)) (goodIn_sub (fun _ h => List.mem_cons_of_mem _ (List.mem_append_right _ h)) (by decide +kernel))
set_option maxRecDepth 20000 in
theorem gL_explained_X11_explained : GoodIn wsL_explained (wsV RL 48 RX11 yX11_explained wsX11_explained) := goodIn_app (goodIn_of _ (by decide +kernel)) ggL_explained_X11_explained
theorem dL_explained_0 : decode cL_explained 0 = .ok (.aload_n 3, 1) := by decide +kernel
theorem dL_explained_1 : decode cL_explained 1 = .ok (.iconst 0, 1) := by decide +kernel
theorem dL_explained_2 : decode cL_explained 2 = .ok (.aload_n 0, 1) := by decide +kernel
theorem dL_explained_3 : decode cL_explained 3 = .ok (.iload_n 1, 1) := by decide +kernel
theorem dL_explained_4 : decode cL_explained 4 = .ok (.iload_n 2, 1) := by decide +kernel
theorem dL_explained_5 : decode cL_explained 5 = .ok (.invokevirtual 48, 3) := by decide +kernel
theorem dL_explained_8 : decode cL_explained 8 = .ok (.i2l, 1) := by decide +kernel
theorem dL_explained_9 : decode cL_explained 9 = .ok (.lastore, 1) := by decide +kernel
theorem dL_explained_10 : decode cL_explained 10 = .ok (.goto 7, 3) := by decide +kernel
theorem dL_explained_13 : decode cL_explained 13 = .ok (.astore 4, 2) := by decide +kernel
theorem dL_explained_15 : decode cL_explained 15 = .ok (.iconst 1, 1) := by decide +kernel
theorem dL_explained_16 : decode cL_explained 16 = .ok (.ireturn, 1) := by decide +kernel
theorem dL_explained_17 : decode cL_explained 17 = .ok (.iconst 0, 1) := by decide +kernel
theorem dL_explained_18 : decode cL_explained 18 = .ok (.ireturn, 1) := by decide +kernel
set_option maxRecDepth 20000 in
theorem ggL_depth_X11_depth : GoodIn wsL_depth wsX11_depth := goodIn_ca (goodIn_r _ [6, 7, 8, 9, 10, 11, 12, 13, 14, 15, 16, 17, 18, 19, 20, 5, 21, 22, 23, 24, 25, 26, 27, 28, 29, 30, 31, 32, 33, 34, 35, 36, 37, 38, 39, 40, 41, 42, 43, 44, 45, 46, 47, 48, 49, 50, 51, 52, 53, 54, 55, 56, 57, 58, 59, 60, 61, 62, 63, 64, 65, 66, 67, 68, 69, 70, 71, 72, 73, 74, 75, 76, 77, 78, 79, 80, 81, 82, 83, 84, 85, 86, 87, 88, 89, 90, 91, 92, 93, 94, 95, 96, 97, 98, 99, 100, 101, 102, 103, 104, 105, 106, 107, 108, 109, 110, 111, 112, 113, 114, 115, 116, 117, 118, 119, 120, 121, 122, 123, 124, 125, 126, 127, 128, 129, 130, 131, 132, 133, 134, 135, 136, 137, 138, 139, 140, 141, 142, 143, 144, 145, 146, 147, 148, 149, 150, 151, 152, 153, 154, 155, 156, 157, 158, 159, 160, 161, 162, 163, 164, 165, 166, 167, 168, 169, 170, 171, 172, 173, 174, 175, 176, 177, 178, 179, 180, 181, 182, 183, 184, 185, 186, 187, 188, 189, 190, 191, 192, 193, 194, 195, 196, 197, 198, 199, 200, 201, 202, 203, 204, 205, 206, 207, 208, 209, 210, 211, 212, 213, 214, 215, 216, 217, 218, 219, 220, 221, 222, 223, 224, 225, 226, 227, 228, 229, 230, 231, 232, 233, 234, 235, 236, 237, 238, 239, 240, 241, 242, 243, 244, 245, 246, 247, 248, 249, 250, 251, 252, 253, 254, 255, 256, 257, 258, 259, 260, 261, 262, 263, 264, 265, 266, 267, 268] (by decide +kernel) (by decide +kernel)) (goodIn_sub (fun _ h => List.mem_cons_of_mem _ (List.mem_append_right _ h)) (by decide +kernel))
set_option maxRecDepth 20000 in
theorem gL_depth_X11_depth : GoodIn wsL_depth (wsV RL 51 RX11 yX11_depth wsX11_depth) := goodIn_app (goodIn_of _ (by decide +kernel)) ggL_depth_X11_depth
theorem dL_depth_0 : decode cL_depth 0 = .ok (.aload_n 2, 1) := by decide +kernel
theorem dL_depth_1 : decode cL_depth 1 = .ok (.iconst 0, 1) := by decide +kernel
theorem dL_depth_2 : decode cL_depth 2 = .ok (.aload_n 0, 1) := by decide +kernel
theorem dL_depth_3 : decode cL_depth 3 = .ok (.iload_n 1, 1) := by decide +kernel
theorem dL_depth_4 : decode cL_depth 4 = .ok (.invokevirtual 51, 3) := by decide +kernel
theorem dL_depth_7 : decode cL_depth 7 = .ok (.i2l, 1) := by decide +kernel
theorem dL_depth_8 : decode cL_depth 8 = .ok (.lastore, 1) := by decide +kernel
theorem dL_depth_9 : decode cL_depth 9 = .ok (.goto 6, 3) := by decide +kernel
theorem dL_depth_12 : decode cL_depth 12 = .ok (.astore_n 3, 1) := by decide +kernel
theorem dL_depth_13 : decode cL_depth 13 = .ok (.iconst 1, 1) := by decide +kernel
theorem dL_depth_14 : decode cL_depth 14 = .ok (.ireturn, 1) := by decide +kernel
theorem dL_depth_15 : decode cL_depth 15 = .ok (.iconst 0, 1) := by decide +kernel
theorem dL_depth_16 : decode cL_depth 16 = .ok (.ireturn, 1) := by decide +kernel
set_option maxRecDepth 20000 in
theorem ggL_isSupported_X11_isSupported : GoodIn wsL_isSupported wsX11_isSupported := goodIn_ca (goodIn_ca (goodIn_r _ [7, 8, 9, 10, 11, 12, 13, 14, 15, 16, 17, 18, 19, 20, 21, 22, 23, 24, 25, 26, 27, 28, 29, 30, 31, 32, 33, 34, 35, 36, 6, 37, 38, 39, 40, 41, 42, 43, 44, 45, 46, 47, 48, 49, 50, 51, 52, 53, 54, 55, 56, 57, 58, 59, 60, 61, 62, 63, 64, 65, 66, 67, 68, 69, 70, 71, 72, 73, 74, 75, 76, 77, 78, 79, 80, 81, 82, 83, 84, 85, 86, 87, 88, 89, 90, 91, 92, 93, 94, 95, 96, 97, 98, 99, 100, 101, 102, 103, 104, 105, 106, 107, 108, 109, 110, 111, 112, 113, 114, 115, 116, 117, 118, 119, 120, 121, 122, 123, 124, 125, 126, 127, 128, 129, 130, 131, 132, 133, 134, 135, 136, 137, 138, 139, 140, 141, 142, 143, 144, 145, 146, 147, 148, 149, 150, 151, 152, 153, 154, 155, 156, 157, 158, 159, 160, 161, 162, 163, 164, 165, 166, 167, 168, 169, 170, 171, 172, 173, 174, 175, 176, 177, 178, 179, 180, 181, 182, 183, 184, 185, 186, 187, 188, 189, 190, 191, 192, 193, 194, 195, 196, 197, 198, 199, 200, 201, 202, 203, 204, 205, 206, 207, 208, 209, 210, 211, 212, 213, 214, 215] (by decide +kernel) (by decide +kernel)) (goodIn_sub (fun _ h => List.mem_cons_of_mem _ (List.mem_append_left _ (List.mem_append_right _ h))) (by decide +kernel))) (goodIn_sub (fun _ h => List.mem_cons_of_mem _ (List.mem_append_right _ h)) (by decide +kernel))
set_option maxRecDepth 20000 in
theorem gL_isSupported_X11_isSupported : GoodIn wsL_isSupported (wsV RL 54 RX11 yX11_isSupported wsX11_isSupported) := goodIn_app (goodIn_of _ (by decide +kernel)) ggL_isSupported_X11_isSupported
theorem dL_isSupported_0 : decode cL_isSupported 0 = .ok (.aload 4, 2) := by decide +kernel
theorem dL_isSupported_2 : decode cL_isSupported 2 = .ok (.iconst 0, 1) := by decide +kernel
theorem dL_isSupported_3 : decode cL_isSupported 3 = .ok (.aload_n 0, 1) := by decide +kernel
theorem dL_isSupported_4 : decode cL_isSupported 4 = .ok (.iload_n 1, 1) := by decide +kernel
theorem dL_isSupported_5 : decode cL_isSupported 5 = .ok (.iload_n 2, 1) := by decide +kernel
theorem dL_isSupported_6 : decode cL_isSupported 6 = .ok (.iload_n 3, 1) := by decide +kernel
theorem dL_isSupported_7 : decode cL_isSupported 7 = .ok (.invokevirtual 54, 3) := by decide +kernel
theorem dL_isSupported_10 : decode cL_isSupported 10 = .ok (.ifCond .eq 7, 3) := by decide +kernel
theorem dL_isSupported_13 : decode cL_isSupported 13 = .ok (.lconst 1, 1) := by decide +kernel
theorem dL_isSupported_14 : decode cL_isSupported 14 = .ok (.goto 4, 3) := by decide +kernel
theorem dL_isSupported_17 : decode cL_isSupported 17 = .ok (.lconst 0, 1) := by decide +kernel
theorem dL_isSupported_18 : decode cL_isSupported 18 = .ok (.lastore, 1) := by decide +kernel
theorem dL_isSupported_19 : decode cL_isSupported 19 = .ok (.goto 11, 3) := by decide +kernel
theorem dL_isSupported_22 : decode cL_isSupported 22 = .ok (.astore 5, 2) := by decide +kernel
theorem dL_isSupported_24 : decode cL_isSupported 24 = .ok (.iconst 1, 1) := by decide +kernel
theorem dL_isSupported_25 : decode cL_isSupported 25 = .ok (.ireturn, 1) := by decide +kernel
theorem dL_isSupported_26 : decode cL_isSupported 26 = .ok (.astore 5, 2) := by decide +kernel
theorem dL_isSupported_28 : decode cL_isSupported 28 = .ok (.iconst 2, 1) := by decide +kernel
theorem dL_isSupported_29 : decode cL_isSupported 29 = .ok (.ireturn, 1) := by decide +kernel
theorem dL_isSupported_30 : decode cL_isSupported 30 = .ok (.iconst 0, 1) := by decide +kernel
theorem dL_isSupported_31 : decode cL_isSupported 31 = .ok (.ireturn, 1) := by decide +kernel
set_option maxRecDepth 20000 in
theorem ggL_support_X11_support : GoodIn wsL_support wsX11_support := goodIn_ca (goodIn_ca (goodIn_ca (goodIn_r _ [8, 9, 10, 11, 12, 13, 14, 15, 16, 17, 18, 19, 20, 21, 22, 23, 24, 25, 26, 27, 28, 29, 30, 31, 32, 33, 34, 35, 36, 37, 38, 39, 7, 40, 41, 42, 43, 44, 45, 46, 47, 48, 49, 50, 51, 52, 53, 54, 55, 56, 57, 58, 59, 60, 61, 62, 63, 64, 65, 66, 67, 68, 69, 70, 71, 72, 73, 74, 75, 76, 77, 78, 79, 80, 81, 82, 83, 84, 85, 86, 87, 88, 89, 90, 91, 92, 93, 94, 95, 96, 97, 98, 99, 100, 101, 102, 103, 104, 105, 106, 107, 108, 109, 110, 111, 112, 113, 114, 115, 116, 117, 118, 119, 120, 121, 122, 123, 124, 125, 126, 127, 128, 129, 130, 131, 132, 133, 134, 135, 136, 137, 138, 139, 140, 141, 142, 143, 144, 145, 146, 147, 148, 149, 150, 151, 152, 153, 154, 155, 156, 157, 158, 159, 160, 161, 162, 163, 164, 165, 166, 167, 168, 169, 170, 171, 172, 173, 174, 175, 176, 177, 178, 179, 180, 181, 182, 183, 184, 185, 186, 187, 188, 189, 190, 191, 192, 193, 194, 195, 196, 197, 198, 199, 200, 201, 202, 203, 204, 205, 206, 207, 208, 209, 210, 211, 212, 213, 214, 215, 216, 217, 218, 219, 220, 221, 222, 223, 224] (by decide +kernel) (by decide +kernel)) (goodIn_sub (fun _ h => List.mem_cons_of_mem _ (List.mem_append_left _ (List.mem_append_left _ (List.mem_append_right _ h)))) (by decide +kernel))) (goodIn_sub (fun _ h => List.mem_cons_of_mem _ (List.mem_append_left _ (List.mem_append_right _ h))) (by decide +kernel))) (goodIn_sub (fun _ h => List.mem_cons_of_mem _ (List.mem_append_right _ h)) (by decide +kernel))
set_option maxRecDepth 20000 in
theorem gL_support_X11_support : GoodIn wsL_support (wsV RL 58 RX11 yX11_support wsX11_support) := goodIn_app (goodIn_of _ (by decide +kernel)) ggL_support_X11_support
theorem dL_support_0 : decode cL_support 0 = .ok (.aload 5, 2) := by decide +kernel
theorem dL_support_2 : decode cL_support 2 = .ok (.iconst 0, 1) := by decide +kernel
theorem dL_support_3 : decode cL_support 3 = .ok (.aload_n 0, 1) := by decide +kernel
theorem dL_support_4 : decode cL_support 4 = .ok (.iload_n 1, 1) := by decide +kernel
theorem dL_support_5 : decode cL_support 5 = .ok (.iload_n 2, 1) := by decide +kernel
theorem dL_support_6 : decode cL_support 6 = .ok (.iload_n 3, 1) := by decide +kernel
theorem dL_support_7 : decode cL_support 7 = .ok (.iload 4, 2) := by decide +kernel
theorem dL_support_9 : decode cL_support 9 = .ok (.invokevirtual 58, 3) := by decide +kernel
theorem dL_support_12 : decode cL_support 12 = .ok (.i2l, 1) := by decide +kernel
theorem dL_support_13 : decode cL_support 13 = .ok (.lastore, 1) := by decide +kernel
theorem dL_support_14 : decode cL_support 14 = .ok (.goto 15, 3) := by decide +kernel
theorem dL_support_17 : decode cL_support 17 = .ok (.astore 6, 2) := by decide +kernel
theorem dL_support_19 : decode cL_support 19 = .ok (.iconst 1, 1) := by decide +kernel
theorem dL_support_20 : decode cL_support 20 = .ok (.ireturn, 1) := by decide +kernel
theorem dL_support_21 : decode cL_support 21 = .ok (.astore 6, 2) := by decide +kernel
theorem dL_support_23 : decode cL_support 23 = .ok (.iconst 2, 1) := by decide +kernel
theorem dL_support_24 : decode cL_support 24 = .ok (.ireturn, 1) := by decide +kernel
theorem dL_support_25 : decode cL_support 25 = .ok (.astore 6, 2) := by decide +kernel
theorem dL_support_27 : decode cL_support 27 = .ok (.iconst 3, 1) := by decide +kernel
theorem dL_support_28 : decode cL_support 28 = .ok (.ireturn, 1) := by decide +kernel
theorem dL_support_29 : decode cL_support 29 = .ok (.iconst 0, 1) := by decide +kernel
theorem dL_support_30 : decode cL_support 30 = .ok (.ireturn, 1) := by decide +kernel
set_option maxRecDepth 20000 in
theorem ggL_watchers_X11_watchers : GoodIn wsL_watchers wsX11_watchers := goodIn_ca (goodIn_ca (goodIn_r _ [7, 8, 9, 10, 11, 12, 13, 14, 15, 16, 6, 17, 18, 19, 20, 21, 22, 23, 24, 25, 26, 27, 28, 29, 30, 31, 32, 33, 34, 35, 36, 37, 38, 39, 40, 41, 42, 43, 44, 45, 46, 47, 48, 49, 50, 51, 52, 53, 54, 55, 56, 57, 58, 59, 60, 61, 62, 63, 64, 65, 66, 67, 68, 69, 70, 71, 72, 73, 74, 75, 76, 77, 78, 79, 80, 81, 82, 83, 84, 85, 86, 87, 88, 89, 90, 91, 92, 93, 94, 95, 96, 97, 98, 99, 100, 101, 102, 103, 104, 105, 106, 107, 108, 109, 110, 111, 112, 113, 114, 115, 116, 117, 118, 119, 120, 121, 122, 123, 124, 125, 126, 127, 128, 129, 130, 131, 132, 133, 134, 135, 136, 137, 138, 139, 140, 141, 142, 143, 144, 145, 146, 147, 148, 149, 150, 151, 152, 153, 154, 155, 156, 157, 158, 159, 160, 161, 162, 163, 164, 165, 166, 167, 168, 169, 170, 171, 172, 173, 174, 175, 176, 177, 178, 179, 180, 181, 182, 183, 184, 185, 186, 187, 188, 189, 190, 191, 192, 193, 194, 195, 196, 197, 198, 199, 200, 201, 202, 203, 204, 205, 206, 207, 208, 209, 210, 211, 212, 213, 214, 215, 216, 217, 218, 219, 220, 221, 222, 223, 224, 225, 226, 227, 228, 229, 230] (by decide +kernel) (by decide +kernel)) (goodIn_sub (fun _ h => List.mem_cons_of_mem _ (List.mem_append_left _ (List.mem_append_right _ h))) (by decide +kernel))) (goodIn_sub (fun _ h => List.mem_cons_of_mem _ (List.mem_append_right _ h)) (by decide +kernel))
set_option maxRecDepth 20000 in
theorem gL_watchers_X11_watchers : GoodIn wsL_watchers (wsV RL 62 RX11 yX11_watchers wsX11_watchers) := goodIn_app (goodIn_of _ (by decide +kernel)) ggL_watchers_X11_watchers
theorem dL_watchers_0 : decode cL_watchers 0 = .ok (.aload_n 3, 1) := by decide +kernel
theorem dL_watchers_1 : decode cL_watchers 1 = .ok (.iconst 0, 1) := by decide +kernel
theorem dL_watchers_2 : decode cL_watchers 2 = .ok (.aload_n 0, 1) := by decide +kernel
theorem dL_watchers_3 : decode cL_watchers 3 = .ok (.iload_n 1, 1) := by decide +kernel
theorem dL_watchers_4 : decode cL_watchers 4 = .ok (.iload_n 2, 1) := by decide +kernel
theorem dL_watchers_5 : decode cL_watchers 5 = .ok (.invokevirtual 62, 3) := by decide +kernel
theorem dL_watchers_8 : decode cL_watchers 8 = .ok (.i2l, 1) := by decide +kernel
theorem dL_watchers_9 : decode cL_watchers 9 = .ok (.lastore, 1) := by decide +kernel
theorem dL_watchers_10 : decode cL_watchers 10 = .ok (.goto 11, 3) := by decide +kernel
theorem dL_watchers_13 : decode cL_watchers 13 = .ok (.astore 4, 2) := by decide +kernel
theorem dL_watchers_15 : decode cL_watchers 15 = .ok (.iconst 1, 1) := by decide +kernel
theorem dL_watchers_16 : decode cL_watchers 16 = .ok (.ireturn, 1) := by decide +kernel
theorem dL_watchers_17 : decode cL_watchers 17 = .ok (.astore 4, 2) := by decide +kernel
theorem dL_watchers_19 : decode cL_watchers 19 = .ok (.iconst 2, 1) := by decide +kernel
theorem dL_watchers_20 : decode cL_watchers 20 = .ok (.ireturn, 1) := by decide +kernel
theorem dL_watchers_21 : decode cL_watchers 21 = .ok (.iconst 0, 1) := by decide +kernel
theorem dL_watchers_22 : decode cL_watchers 22 = .ok (.ireturn, 1) := by decide +kernel
set_option maxRecDepth 20000 in
theorem ggL_tuples_X11_tuples : GoodIn wsL_tuples wsX11_tuples := goodIn_ca (goodIn_r _ [6, 7, 8, 9, 10, 11, 12, 13, 14, 15, 16, 17, 18, 19, 20, 21, 22, 23, 24, 25, 26, 27, 28, 29, 30, 31, 32, 33, 34, 35, 36, 37, 38, 39, 40, 41, 42, 43, 44, 45, 46, 47, 48, 49, 50, 51, 52, 53, 54, 55, 56, 57, 58, 59, 60, 61, 62, 63, 64, 65, 66, 67, 68, 69, 70, 71, 72, 73, 74, 75, 76, 77, 78, 79, 80, 81, 82, 83, 84, 85, 86, 87, 88, 89, 90, 91, 92, 93, 94, 95, 96, 97, 98, 99, 100, 101, 102, 103, 104, 105, 106, 107, 108, 109, 110, 111, 112, 113, 114, 115, 116, 117, 118, 119, 120, 121, 122, 123, 124, 125, 126, 127, 128, 129, 130, 131, 132, 133, 134, 135, 136, 137, 138, 139, 140, 5, 141, 142, 143, 144, 145, 146, 147, 148, 149, 150, 151, 152, 153, 154, 155, 156, 157, 158, 159, 160, 161, 162, 163, 164, 165, 166, 167, 168, 169, 170, 171, 172, 173, 174, 175, 176, 177, 178, 179, 180, 181, 182, 183, 184, 185, 186, 187, 188, 189, 190, 191, 192, 193, 194, 195, 196, 197, 198, 199] (by decide +kernel) (by decide +kernel)) (goodIn_sub (fun _ h => List.mem_cons_of_mem _ (List.mem_append_right _ h)) (by decide +kernel))
set_option maxRecDepth 20000 in
theorem gL_tuples_X11_tuples : GoodIn wsL_tuples (wsV RL 65 RX11 yX11_tuples wsX11_tuples) := goodIn_app (goodIn_of _ (by decide +kernel)) ggL_tuples_X11_tuples
theorem dL_tuples_0 : decode cL_tuples 0 = .ok (.aload_n 2, 1) := by decide +kernel
theorem dL_tuples_1 : decode cL_tuples 1 = .ok (.iconst 0, 1) := by decide +kernel
theorem dL_tuples_2 : decode cL_tuples 2 = .ok (.aload_n 0, 1) := by decide +kernel
theorem dL_tuples_3 : decode cL_tuples 3 = .ok (.iload_n 1, 1) := by decide +kernel
theorem dL_tuples_4 : decode cL_tuples 4 = .ok (.invokevirtual 65, 3) := by decide +kernel
theorem dL_tuples_7 : decode cL_tuples 7 = .ok (.i2l, 1) := by decide +kernel
theorem dL_tuples_8 : decode cL_tuples 8 = .ok (.lastore, 1) := by decide +kernel
theorem dL_tuples_9 : decode cL_tuples 9 = .ok (.goto 6, 3) := by decide +kernel
theorem dL_tuples_12 : decode cL_tuples 12 = .ok (.astore_n 3, 1) := by decide +kernel
theorem dL_tuples_13 : decode cL_tuples 13 = .ok (.iconst 1, 1) := by decide +kernel
theorem dL_tuples_14 : decode cL_tuples 14 = .ok (.ireturn, 1) := by decide +kernel
theorem dL_tuples_15 : decode cL_tuples 15 = .ok (.iconst 0, 1) := by decide +kernel
theorem dL_tuples_16 : decode cL_tuples 16 = .ok (.ireturn, 1) := by decide +kernel
set_option maxRecDepth 20000 in
theorem ggL_tightness_X11_tightness : GoodIn wsL_tightness wsX11_tightness := goodIn_ca (goodIn_ca (goodIn_r _ [7, 8, 9, 10, 11, 12, 13, 14, 15, 16, 17, 18, 19, 20, 21, 22, 23, 24, 25, 26, 27, 28, 29, 30, 31, 32, 33, 34, 35, 36, 37, 38, 39, 40, 41, 42, 43, 44, 45, 46, 47, 48, 49, 50, 51, 52, 53, 54, 55, 56, 57, 58, 59, 60, 61, 62, 63, 64, 65, 66, 67, 68, 69, 70, 71, 72, 73, 74, 75, 76, 77, 78, 79, 80, 81, 82, 83, 84, 85, 86, 87, 88, 89, 90, 91, 92, 93, 94, 95, 96, 97, 98, 99, 100, 101, 102, 103, 104, 105, 106, 107, 108, 109, 110, 111, 112, 113, 114, 115, 116, 117, 118, 119, 120, 121, 122, 123, 124, 125, 126, 127, 128, 129, 130, 131, 132, 133, 134, 135, 136, 137, 138, 139, 140, 141, 142, 143, 144, 145, 6, 146, 147, 148, 149, 150, 151, 152, 153, 154, 155, 156, 157, 158, 159, 160, 161, 162, 163, 164, 165, 166, 167, 168, 169, 170, 171, 172, 173, 174, 175, 176, 177, 178, 179, 180, 181, 182, 183, 184, 185, 186, 187, 188, 189, 190, 191, 192, 193, 194, 195, 196, 197, 198, 199, 200, 201, 202, 203, 204] (by decide +kernel) (by decide +kernel)) (goodIn_sub (fun _ h => List.mem_cons_of_mem _ (List.mem_append_left _ (List.mem_append_right _ h))) (by decide +kernel))) (goodIn_sub (fun _ h => List.mem_cons_of_mem _ (List.mem_append_right _ h)) (by decide +kernel))
set_option maxRecDepth 20000 in
theorem gL_tightness_X11_tightness : GoodIn wsL_tightness (wsV RL 68 RX11 yX11_tightness wsX11_tightness) := goodIn_app (goodIn_of _ (by decide +kernel)) ggL_tightness_X11_tightness
theorem dL_tightness_0 : decode cL_tightness 0 = .ok (.aload_n 2, 1) := by decide +kernel
theorem dL_tightness_1 : decode cL_tightness 1 = .ok (.iconst 0, 1) := by decide +kernel
theorem dL_tightness_2 : decode cL_tightness 2 = .ok (.aload_n 0, 1) := by decide +kernel
theorem dL_tightness_3 : decode cL_tightness 3 = .ok (.iload_n 1, 1) := by decide +kernel
theorem dL_tightness_4 : decode cL_tightness 4 = .ok (.invokevirtual 68, 3) := by decide +kernel
theorem dL_tightness_7 : decode cL_tightness 7 = .ok (.dastore, 1) := by decide +kernel
theorem dL_tightness_8 : decode cL_tightness 8 = .ok (.goto 9, 3) := by decide +kernel
theorem dL_tightness_11 : decode cL_tightness 11 = .ok (.astore_n 3, 1) := by decide +kernel
theorem dL_tightness_12 : decode cL_tightness 12 = .ok (.iconst 1, 1) := by decide +kernel
theorem dL_tightness_13 : decode cL_tightness 13 = .ok (.ireturn, 1) := by decide +kernel
theorem dL_tightness_14 : decode cL_tightness 14 = .ok (.astore_n 3, 1) := by decide +kernel
theorem dL_tightness_15 : decode cL_tightness 15 = .ok (.iconst 2, 1) := by decide +kernel
theorem dL_tightness_16 : decode cL_tightness 16 = .ok (.ireturn, 1) := by decide +kernel
theorem dL_tightness_17 : decode cL_tightness 17 = .ok (.iconst 0, 1) := by decide +kernel
theorem dL_tightness_18 : decode cL_tightness 18 = .ok (.ireturn, 1) := by decide +kernel
set_option maxRecDepth 20000 in
theorem ggL_first_X11_first : GoodIn wsL_first wsX11_first := goodIn_ca (goodIn_ca (goodIn_r _ [7, 8, 9, 10, 11, 12, 13, 14, 15, 16, 17, 18, 19, 20, 6, 21, 22, 23, 24, 25, 26, 27, 28, 29, 30, 31, 32, 33, 34, 35, 36, 37, 38, 39, 40, 41, 42, 43, 44, 45, 46, 47, 48, 49, 50, 51, 52, 53, 54, 55, 56, 57, 58, 59, 60, 61, 62, 63, 64, 65, 66, 67, 68, 69, 70, 71, 72, 73, 74, 75, 76, 77, 78, 79, 80, 81, 82, 83, 84, 85, 86, 87, 88, 89, 90, 91, 92, 93, 94, 95, 96, 97, 98, 99, 100, 101, 102, 103, 104, 105, 106, 107, 108, 109, 110, 111, 112, 113, 114, 115, 116, 117, 118, 119, 120, 121, 122, 123, 124, 125, 126, 127, 128, 129, 130, 131, 132, 133, 134, 135, 136, 137, 138, 139, 140, 141, 142, 143, 144, 145, 146, 147, 148, 149, 150, 151, 152, 153, 154, 155, 156, 157, 158, 159, 160, 161, 162, 163, 164, 165, 166, 167, 168, 169, 170, 171, 172, 173, 174, 175, 176, 177, 178, 179, 180, 181, 182, 183, 184, 185, 186, 187, 188, 189, 190, 191, 192, 193, 194, 195, 196, 197, 198, 199, 200, 201, 202, 203, 204, 205, 206, 207, 208, 209, 210, 211, 212, 213, 214, 215, 216, 217, 218, 219, 220] (by decide +kernel) (by decide +kernel)) (goodIn_sub (fun _ h => List.mem_cons_of_mem _ (List.mem_append_left _ (List.mem_append_right _ h))) (by decide +kernel))) (goodIn_sub (fun _ h => List.mem_cons_of_mem _ (List.mem_append_right _ h)) (by decide +kernel))
set_option maxRecDepth 20000 in
theorem gL_first_X11_first : GoodIn wsL_first (wsV RL 72 RX11 yX11_first wsX11_first) := goodIn_app (goodIn_of _ (by decide +kernel)) ggL_first_X11_first
theorem dL_first_0 : decode cL_first 0 = .ok (.aload_n 2, 1) := by decide +kernel
theorem dL_first_1 : decode cL_first 1 = .ok (.iconst 0, 1) := by decide +kernel
theorem dL_first_2 : decode cL_first 2 = .ok (.aload_n 0, 1) := by decide +kernel
theorem dL_first_3 : decode cL_first 3 = .ok (.iload_n 1, 1) := by decide +kernel
theorem dL_first_4 : decode cL_first 4 = .ok (.invokevirtual 72, 3) := by decide +kernel
theorem dL_first_7 : decode cL_first 7 = .ok (.i2l, 1) := by decide +kernel
theorem dL_first_8 : decode cL_first 8 = .ok (.lastore, 1) := by decide +kernel
theorem dL_first_9 : decode cL_first 9 = .ok (.goto 9, 3) := by decide +kernel
theorem dL_first_12 : decode cL_first 12 = .ok (.astore_n 3, 1) := by decide +kernel
theorem dL_first_13 : decode cL_first 13 = .ok (.iconst 1, 1) := by decide +kernel
theorem dL_first_14 : decode cL_first 14 = .ok (.ireturn, 1) := by decide +kernel
theorem dL_first_15 : decode cL_first 15 = .ok (.astore_n 3, 1) := by decide +kernel
theorem dL_first_16 : decode cL_first 16 = .ok (.iconst 2, 1) := by decide +kernel
theorem dL_first_17 : decode cL_first 17 = .ok (.ireturn, 1) := by decide +kernel
theorem dL_first_18 : decode cL_first 18 = .ok (.iconst 0, 1) := by decide +kernel
theorem dL_first_19 : decode cL_first 19 = .ok (.ireturn, 1) := by decide +kernel
set_option maxRecDepth 20000 in
theorem ggL_possible_X11_possible : GoodIn wsL_possible wsX11_possible := goodIn_ca (goodIn_r _ [6, 7, 8, 9, 10, 11, 12, 13, 14, 15, 16, 5, 17, 18, 19, 20, 21, 22, 23, 24, 25, 26, 27, 28, 29, 30, 31, 32, 33, 34, 35, 36, 37, 38, 39, 40, 41, 42, 43, 44, 45, 46, 47, 48, 49, 50, 51, 52, 53, 54, 55, 56, 57, 58, 59, 60, 61, 62, 63, 64, 65, 66, 67, 68, 69, 70, 71, 72, 73, 74, 75, 76, 77, 78, 79, 80, 81, 82, 83, 84, 85, 86, 87, 88, 89, 90, 91, 92, 93, 94, 95, 96, 97, 98, 99, 100, 101, 102, 103, 104, 105, 106, 107, 108, 109, 110, 111, 112, 113, 114, 115, 116, 117, 118, 119, 120, 121, 122, 123, 124, 125, 126, 127, 128, 129, 130, 131, 132, 133, 134, 135, 136, 137, 138, 139, 140, 141, 142, 143, 144, 145, 146, 147, 148, 149, 150, 151, 152, 153, 154, 155, 156, 157, 158, 159, 160, 161, 162, 163, 164, 165, 166, 167, 168, 169, 170, 171, 172, 173, 174, 175, 176, 177, 178, 179, 180, 181, 182, 183, 184, 185, 186, 187, 188, 189, 190, 191, 192, 193, 194, 195, 196, 197, 198, 199, 200, 201, 202, 203, 204, 205, 206, 207, 208, 209, 210, 211, 212, 213] (by decide +kernel) (by decide +kernel)) (goodIn_sub (fun _ h => List.mem_cons_of_mem _ (List.mem_append_right _ h)) (by decide +kernel))
set_option maxRecDepth 20000 in
theorem gL_possible_X11_possible : GoodIn wsL_possible (wsV RL 75 RX11 yX11_possible wsX11_possible) := goodIn_app (goodIn_of _ (by decide +kernel)) ggL_possible_X11_possible
theorem dL_possible_0 : decode cL_possible 0 = .ok (.aload_n 2, 1) := by decide +kernel
theorem dL_possible_1 : decode cL_possible 1 = .ok (.iconst 0, 1) := by decide +kernel
theorem dL_possible_2 : decode cL_possible 2 = .ok (.aload_n 0, 1) := by decide +kernel
theorem dL_possible_3 : decode cL_possible 3 = .ok (.iload_n 1, 1) := by decide +kernel
theorem dL_possible_4 : decode cL_possible 4 = .ok (.invokevirtual 75, 3) := by decide +kernel
theorem dL_possible_7 : decode cL_possible 7 = .ok (.i2l, 1) := by decide +kernel
theorem dL_possible_8 : decode cL_possible 8 = .ok (.lastore, 1) := by decide +kernel
theorem dL_possible_9 : decode cL_possible 9 = .ok (.goto 6, 3) := by decide +kernel
theorem dL_possible_12 : decode cL_possible 12 = .ok (.astore_n 3, 1) := by decide +kernel
theorem dL_possible_13 : decode cL_possible 13 = .ok (.iconst 1, 1) := by decide +kernel
theorem dL_possible_14 : decode cL_possible 14 = .ok (.ireturn, 1) := by decide +kernel
theorem dL_possible_15 : decode cL_possible 15 = .ok (.iconst 0, 1) := by decide +kernel
theorem dL_possible_16 : decode cL_possible 16 = .ok (.ireturn, 1) := by decide +kernel
set_option maxRecDepth 20000 in
theorem ggL_forbid_X11_forbid : GoodIn wsL_forbid wsX11_forbid := goodIn_ca (goodIn_ca (goodIn_ca (goodIn_r _ [8, 9, 10, 11, 12, 13, 14, 15, 16, 17, 18, 19, 20, 21, 7, 22, 23, 24, 25, 26, 27, 28, 29, 30, 31, 32, 33, 34, 35, 36, 37, 38, 39, 40, 41, 42, 43, 44, 45, 46, 47, 48, 49, 50, 51, 52, 53, 54, 55, 56, 57, 58, 59, 60, 61, 62, 63, 64, 65, 66, 67, 68, 69, 70, 71, 72, 73, 74, 75, 76, 77, 78, 79, 80, 81, 82, 83, 84, 85, 86, 87, 88, 89, 90, 91, 92, 93, 94, 95, 96, 97, 98, 99, 100, 101, 102, 103, 104, 105, 106, 107, 108, 109, 110, 111, 112, 113, 114, 115, 116, 117, 118, 119, 120, 121, 122, 123, 124, 125, 126, 127, 128, 129, 130, 131, 132, 133, 134, 135, 136, 137, 138, 139, 140, 141, 142, 143, 144, 145, 146, 147, 148, 149, 150, 151, 152, 153, 154, 155, 156, 157, 158, 159, 160, 161, 162, 163, 164, 165, 166, 167, 168, 169, 170, 171, 172, 173, 174, 175, 176, 177, 178, 179, 180, 181, 182, 183, 184, 185, 186, 187, 188, 189, 190, 191, 192, 193, 194, 195, 196, 197, 198, 199, 200, 201, 202, 203, 204, 205, 206, 207, 208, 209, 210, 211, 212, 213, 214, 215, 216, 217, 218, 219, 220, 221, 222, 223, 224, 225, 226, 227, 228, 229, 230, 231, 232, 233, 234, 235, 236, 237, 238, 239, 240, 241, 242, 243, 244, 245, 246, 247, 248, 249, 250, 251, 252, 253, 254, 255, 256, 257, 258, 259, 260, 261, 262, 263, 264, 265, 266, 267, 268, 269, 270, 271, 272, 273, 274, 275, 276, 277, 278, 279, 280, 281, 282, 283, 284, 285, 286, 287, 288] (by decide +kernel) (by decide +kernel)) (goodIn_sub (fun _ h => List.mem_cons_of_mem _ (List.mem_append_left _ (List.mem_append_left _ (List.mem_append_right _ h)))) (by decide +kernel))) (goodIn_sub (fun _ h => List.mem_cons_of_mem _ (List.mem_append_left _ (List.mem_append_right _ h))) (by decide +kernel))) (goodIn_sub (fun _ h => List.mem_cons_of_mem _ (List.mem_append_right _ h)) (by decide +kernel))
set_option maxRecDepth 20000 in
theorem gL_forbid_X11_forbid : GoodIn wsL_forbid (wsV RL 78 RX11 yX11_forbid wsX11_forbid) := goodIn_app (goodIn_of _ (by decide +kernel)) ggL_forbid_X11_forbid
theorem dL_forbid_0 : decode cL_forbid 0 = .ok (.aload_n 3, 1) := by decide +kernel
theorem dL_forbid_1 : decode cL_forbid 1 = .ok (.iconst 0, 1) := by decide +kernel
theorem dL_forbid_2 : decode cL_forbid 2 = .ok (.aload_n 0, 1) := by decide +kernel
theorem dL_forbid_3 : decode cL_forbid 3 = .ok (.iload_n 1, 1) := by decide +kernel
theorem dL_forbid_4 : decode cL_forbid 4 = .ok (.iload_n 2, 1) := by decide +kernel
theorem dL_forbid_5 : decode cL_forbid 5 = .ok (.invokevirtual 78, 3) := by decide +kernel
theorem dL_forbid_8 : decode cL_forbid 8 = .ok (.i2l, 1) := by decide +kernel
theorem dL_forbid_9 : decode cL_forbid 9 = .ok (.lastore, 1) := by decide +kernel
theorem dL_forbid_10 : decode cL_forbid 10 = .ok (.goto 15, 3) := by decide +kernel
theorem dL_forbid_13 : decode cL_forbid 13 = .ok (.astore 4, 2) := by decide +kernel
theorem dL_forbid_15 : decode cL_forbid 15 = .ok (.iconst 1, 1) := by decide +kernel
theorem dL_forbid_16 : decode cL_forbid 16 = .ok (.ireturn, 1) := by decide +kernel
theorem dL_forbid_17 : decode cL_forbid 17 = .ok (.astore 4, 2) := by decide +kernel
theorem dL_forbid_19 : decode cL_forbid 19 = .ok (.iconst 2, 1) := by decide +kernel
theorem dL_forbid_20 : decode cL_forbid 20 = .ok (.ireturn, 1) := by decide +kernel
theorem dL_forbid_21 : decode cL_forbid 21 = .ok (.astore 4, 2) := by decide +kernel
theorem dL_forbid_23 : decode cL_forbid 23 = .ok (.iconst 3, 1) := by decide +kernel
theorem dL_forbid_24 : decode cL_forbid 24 = .ok (.ireturn, 1) := by decide +kernel
theorem dL_forbid_25 : decode cL_forbid 25 = .ok (.iconst 0, 1) := by decide +kernel
theorem dL_forbid_26 : decode cL_forbid 26 = .ok (.ireturn, 1) := by decide +kernel
set_option maxRecDepth 20000 in
theorem ggL_decide_X11_decide : GoodIn wsL_decide wsX11_decide := goodIn_ca (goodIn_ca (goodIn_ca (goodIn_r _ [8, 9, 10, 11, 12, 13, 14, 15, 16, 17, 18, 19, 20, 7, 21, 22, 23, 24, 25, 26, 27, 28, 29, 30, 31, 32, 33, 34, 35, 36, 37, 38, 39, 40, 41, 42, 43, 44, 45, 46, 47, 48, 49, 50, 51, 52, 53, 54, 55, 56, 57, 58, 59, 60, 61, 62, 63, 64, 65, 66, 67, 68, 69, 70, 71, 72, 73, 74, 75, 76, 77, 78, 79, 80, 81, 82, 83, 84, 85, 86, 87, 88, 89, 90, 91, 92, 93, 94, 95, 96, 97, 98, 99, 100, 101, 102, 103, 104, 105, 106, 107, 108, 109, 110, 111, 112, 113, 114, 115, 116, 117, 118, 119, 120, 121, 122, 123, 124, 125, 126, 127, 128, 129, 130, 131, 132, 133, 134, 135, 136, 137, 138, 139, 140, 141, 142, 143, 144, 145, 146, 147, 148, 149, 150, 151, 152, 153, 154, 155, 156, 157, 158, 159, 160, 161, 162, 163, 164, 165, 166, 167, 168, 169, 170, 171, 172, 173, 174, 175, 176, 177, 178, 179, 180, 181, 182, 183, 184, 185, 186, 187, 188, 189, 190, 191, 192, 193, 194, 195, 196, 197, 198, 199, 200, 201, 202, 203, 204, 205, 206, 207, 208, 209, 210, 211, 212, 213, 214, 215, 216, 217, 218, 219, 220, 221, 222, 223, 224, 225, 226, 227, 228, 229, 230, 231, 232, 233, 234, 235, 236, 237, 238, 239, 240, 241, 242, 243, 244, 245, 246, 247, 248, 249, 250, 251, 252, 253, 254, 255, 256, 257, 258, 259, 260, 261, 262, 263, 264, 265, 266, 267, 268, 269, 270, 271, 272, 273, 274, 275, 276, 277, 278, 279, 280, 281, 282, 283, 284, 285, 286, 287, 288, 289, 290, 291, 292, 293, 294, 295, 296, 297, 298, 299, 300, 301, 302, 303, 304, 305, 306] (by decide +kernel) (by decide +kernel)) (goodIn_sub (fun _ h => List.mem_cons_of_mem _ (List.mem_append_left _ (List.mem_append_left _ (List.mem_append_right _ h)))) (by decide +kernel))) (goodIn_sub (fun _ h => List.mem_cons_of_mem _ (List.mem_append_left _ (List.mem_append_right _ h))) (by decide +kernel))) (goodIn_sub (fun _ h => List.mem_cons_of_mem _ (List.mem_append_right _ h)) (by decide +kernel))
set_option maxRecDepth 20000 in
theorem gL_decide_X11_decide : GoodIn wsL_decide (wsV RL 81 RX11 yX11_decide wsX11_decide) := goodIn_app (goodIn_of _ (by decide +kernel)) ggL_decide_X11_decide
theorem dL_decide_0 : decode cL_decide 0 = .ok (.aload_n 3, 1) := by decide +kernel
theorem dL_decide_1 : decode cL_decide 1 = .ok (.iconst 0, 1) := by decide +kernel
theorem dL_decide_2 : decode cL_decide 2 = .ok (.aload_n 0, 1) := by decide +kernel
theorem dL_decide_3 : decode cL_decide 3 = .ok (.iload_n 1, 1) := by decide +kernel
theorem dL_decide_4 : decode cL_decide 4 = .ok (.iload_n 2, 1) := by decide +kernel
theorem dL_decide_5 : decode cL_decide 5 = .ok (.invokevirtual 81, 3) := by decide +kernel
theorem dL_decide_8 : decode cL_decide 8 = .ok (.i2l, 1) := by decide +kernel
theorem dL_decide_9 : decode cL_decide 9 = .ok (.lastore, 1) := by decide +kernel
theorem dL_decide_10 : decode cL_decide 10 = .ok (.goto 15, 3) := by decide +kernel
theorem dL_decide_13 : decode cL_decide 13 = .ok (.astore 4, 2) := by decide +kernel
theorem dL_decide_15 : decode cL_decide 15 = .ok (.iconst 1, 1) := by decide +kernel
theorem dL_decide_16 : decode cL_decide 16 = .ok (.ireturn, 1) := by decide +kernel
theorem dL_decide_17 : decode cL_decide 17 = .ok (.astore 4, 2) := by decide +kernel
theorem dL_decide_19 : decode cL_decide 19 = .ok (.iconst 2, 1) := by decide +kernel
theorem dL_decide_20 : decode cL_decide 20 = .ok (.ireturn, 1) := by decide +kernel
theorem dL_decide_21 : decode cL_decide 21 = .ok (.astore 4, 2) := by decide +kernel
theorem dL_decide_23 : decode cL_decide 23 = .ok (.iconst 3, 1) := by decide +kernel
theorem dL_decide_24 : decode cL_decide 24 = .ok (.ireturn, 1) := by decide +kernel
theorem dL_decide_25 : decode cL_decide 25 = .ok (.iconst 0, 1) := by decide +kernel
theorem dL_decide_26 : decode cL_decide 26 = .ok (.ireturn, 1) := by decide +kernel
set_option maxRecDepth 20000 in
theorem ggL_back_X11_back : GoodIn wsL_back wsX11_back := goodIn_ca (goodIn_r _ [6, 7, 8, 9, 10, 11, 12, 13, 14, 15, 16, 17, 18, 19, 20, 21, 22, 23, 24, 25, 26, 27, 28, 29, 30, 31, 32, 33, 34, 35, 36, 37, 38, 39, 40, 41, 42, 43, 44, 45, 46, 47, 48, 49, 50, 51, 52, 53, 54, 55, 56, 57] (by decide +kernel) (by decide +kernel)) (goodIn_sub (fun _ h => List.mem_cons_of_mem _ (List.mem_append_right _ h)) (by decide +kernel))
set_option maxRecDepth 20000 in
theorem gL_back_X11_back : GoodIn wsL_back (wsV RL 84 RX11 yX11_back wsX11_back) := goodIn_app (goodIn_of _ (by decide +kernel)) ggL_back_X11_back
theorem dL_back_0 : decode cL_back 0 = .ok (.aload_n 1, 1) := by decide +kernel
theorem dL_back_1 : decode cL_back 1 = .ok (.iconst 0, 1) := by decide +kernel
theorem dL_back_2 : decode cL_back 2 = .ok (.aload_n 0, 1) := by decide +kernel
theorem dL_back_3 : decode cL_back 3 = .ok (.invokevirtual 84, 3) := by decide +kernel
theorem dL_back_6 : decode cL_back 6 = .ok (.i2l, 1) := by decide +kernel
theorem dL_back_7 : decode cL_back 7 = .ok (.lastore, 1) := by decide +kernel
theorem dL_back_8 : decode cL_back 8 = .ok (.goto 6, 3) := by decide +kernel
theorem dL_back_11 : decode cL_back 11 = .ok (.astore_n 2, 1) := by decide +kernel
theorem dL_back_12 : decode cL_back 12 = .ok (.iconst 1, 1) := by decide +kernel
theorem dL_back_13 : decode cL_back 13 = .ok (.ireturn, 1) := by decide +kernel
theorem dL_back_14 : decode cL_back 14 = .ok (.iconst 0, 1) := by decide +kernel
theorem dL_back_15 : decode cL_back 15 = .ok (.ireturn, 1) := by decide +kernel
set_option maxRecDepth 20000 in
theorem ggL_decision_X11_decision : GoodIn wsL_decision wsX11_decision := goodIn_ca (goodIn_r _ [6, 7, 8, 9, 10, 11, 12, 13, 14, 15, 16, 17, 18, 19, 20, 21, 22, 23, 24, 25, 26, 27, 28, 29, 30, 31, 32, 33, 34, 35, 36] (by decide +kernel) (by decide +kernel)) (goodIn_sub (fun _ h => List.mem_cons_of_mem _ (List.mem_append_right _ h)) (by decide +kernel))
set_option maxRecDepth 20000 in
theorem gL_decision_X11_decision : GoodIn wsL_decision (wsV RL 87 RX11 yX11_decision wsX11_decision) := goodIn_app (goodIn_of _ (by decide +kernel)) ggL_decision_X11_decision
theorem dL_decision_0 : decode cL_decision 0 = .ok (.aload_n 2, 1) := by decide +kernel
theorem dL_decision_1 : decode cL_decision 1 = .ok (.iconst 0, 1) := by decide +kernel
theorem dL_decision_2 : decode cL_decision 2 = .ok (.aload_n 0, 1) := by decide +kernel
theorem dL_decision_3 : decode cL_decision 3 = .ok (.iload_n 1, 1) := by decide +kernel
theorem dL_decision_4 : decode cL_decision 4 = .ok (.invokevirtual 87, 3) := by decide +kernel
theorem dL_decision_7 : decode cL_decision 7 = .ok (.i2l, 1) := by decide +kernel
theorem dL_decision_8 : decode cL_decision 8 = .ok (.lastore, 1) := by decide +kernel
theorem dL_decision_9 : decode cL_decision 9 = .ok (.goto 6, 3) := by decide +kernel
theorem dL_decision_12 : decode cL_decision 12 = .ok (.astore_n 3, 1) := by decide +kernel
theorem dL_decision_13 : decode cL_decision 13 = .ok (.iconst 1, 1) := by decide +kernel
theorem dL_decision_14 : decode cL_decision 14 = .ok (.ireturn, 1) := by decide +kernel
theorem dL_decision_15 : decode cL_decision 15 = .ok (.iconst 0, 1) := by decide +kernel
theorem dL_decision_16 : decode cL_decision 16 = .ok (.ireturn, 1) := by decide +kernel
set_option maxRecDepth 20000 in
theorem ggL_probe_X11_probe : GoodIn wsL_probe wsX11_probe := goodIn_ca (goodIn_ca (goodIn_ca (goodIn_r _ [8, 9, 10, 11, 12, 13, 14, 15, 16, 17, 18, 19, 20, 21, 22, 23, 7, 24, 25, 26, 27, 28, 29, 30, 31, 32, 33, 34, 35, 36, 37, 38, 39, 40, 41, 42, 43, 44, 45, 46, 47, 48, 49, 50, 51, 52, 53, 54, 55, 56, 57, 58, 59, 60, 61, 62, 63, 64, 65, 66, 67, 68, 69, 70, 71, 72, 73, 74, 75, 76, 77, 78, 79, 80, 81, 82, 83, 84, 85, 86, 87, 88, 89, 90, 91, 92, 93, 94, 95, 96, 97, 98, 99, 100, 101, 102, 103, 104, 105, 106, 107, 108, 109, 110, 111, 112, 113, 114, 115, 116, 117, 118, 119, 120, 121, 122, 123, 124, 125, 126, 127, 128, 129, 130, 131, 132, 133, 134, 135, 136, 137, 138, 139, 140, 141, 142, 143, 144, 145, 146, 147, 148, 149, 150, 151, 152, 153, 154, 155, 156, 157, 158, 159, 160, 161, 162, 163, 164, 165, 166, 167, 168, 169, 170, 171, 172, 173, 174, 175, 176, 177, 178, 179, 180, 181, 182, 183, 184, 185, 186, 187, 188, 189, 190, 191, 192, 193, 194, 195, 196, 197, 198, 199, 200, 201, 202, 203, 204, 205, 206, 207, 208, 209, 210, 211, 212, 213, 214, 215, 216, 217, 218, 219, 220, 221, 222, 223, 224, 225, 226, 227, 228, 229, 230, 231, 232, 233, 234, 235, 236, 237, 238, 239, 240, 241, 242, 243, 244, 245, 246, 247, 248, 249, 250, 251, 252, 253, 254, 255, 256, 257, 258, 259, 260, 261, 262, 263, 264, 265, 266, 267, 268, 269, 270, 271, 272, 273, 274, 275, 276, 277, 278, 279, 280, 281, 282, 283, 284, 285, 286, 287, 288, 289, 290, 291, 292, 293, 294, 295, 296, 297, 298, 299, 300, 301, 302, 303, 304, 305, 306] (by decide +kernel) (by decide +kernel)) (goodIn_sub (fun _ h => List.mem_cons_of_mem _ (List.mem_append_left _ (List.mem_append_left _ (List.mem_append_right _ h)))) (by decide +kernel))) (goodIn_sub (fun _ h => List.mem_cons_of_mem _ (List.mem_append_left _ (List.mem_append_right _ h))) (by decide +kernel))) (goodIn_sub (fun _ h => List.mem_cons_of_mem _ (List.mem_append_right _ h)) (by decide +kernel))
set_option maxRecDepth 20000 in
theorem gL_probe_X11_probe : GoodIn wsL_probe (wsV RL 90 RX11 yX11_probe wsX11_probe) := goodIn_app (goodIn_of _ (by decide +kernel)) ggL_probe_X11_probe
theorem dL_probe_0 : decode cL_probe 0 = .ok (.aload_n 3, 1) := by decide +kernel
theorem dL_probe_1 : decode cL_probe 1 = .ok (.iconst 0, 1) := by decide +kernel
theorem dL_probe_2 : decode cL_probe 2 = .ok (.aload_n 0, 1) := by decide +kernel
theorem dL_probe_3 : decode cL_probe 3 = .ok (.iload_n 1, 1) := by decide +kernel
theorem dL_probe_4 : decode cL_probe 4 = .ok (.iload_n 2, 1) := by decide +kernel
theorem dL_probe_5 : decode cL_probe 5 = .ok (.invokevirtual 90, 3) := by decide +kernel
theorem dL_probe_8 : decode cL_probe 8 = .ok (.i2l, 1) := by decide +kernel
theorem dL_probe_9 : decode cL_probe 9 = .ok (.lastore, 1) := by decide +kernel
theorem dL_probe_10 : decode cL_probe 10 = .ok (.goto 15, 3) := by decide +kernel
theorem dL_probe_13 : decode cL_probe 13 = .ok (.astore 4, 2) := by decide +kernel
theorem dL_probe_15 : decode cL_probe 15 = .ok (.iconst 1, 1) := by decide +kernel
theorem dL_probe_16 : decode cL_probe 16 = .ok (.ireturn, 1) := by decide +kernel
theorem dL_probe_17 : decode cL_probe 17 = .ok (.astore 4, 2) := by decide +kernel
theorem dL_probe_19 : decode cL_probe 19 = .ok (.iconst 2, 1) := by decide +kernel
theorem dL_probe_20 : decode cL_probe 20 = .ok (.ireturn, 1) := by decide +kernel
theorem dL_probe_21 : decode cL_probe 21 = .ok (.astore 4, 2) := by decide +kernel
theorem dL_probe_23 : decode cL_probe 23 = .ok (.iconst 3, 1) := by decide +kernel
theorem dL_probe_24 : decode cL_probe 24 = .ok (.ireturn, 1) := by decide +kernel
theorem dL_probe_25 : decode cL_probe 25 = .ok (.iconst 0, 1) := by decide +kernel
theorem dL_probe_26 : decode cL_probe 26 = .ok (.ireturn, 1) := by decide +kernel
set_option maxRecDepth 20000 in
theorem ggL_learn_X11_learn : GoodIn wsL_learn wsX11_learn := goodIn_ca (goodIn_r _ [6, 7, 8, 9, 10, 11, 12, 13, 14, 15, 16, 17, 18, 19, 20, 21, 22, 23, 24, 25, 26, 27, 28, 29, 30, 31, 32, 33, 34, 35, 5, 36, 37, 38, 39, 40, 41, 42, 43, 44, 45, 46, 47, 48, 49, 50, 51, 52, 53, 54, 55, 56, 57, 58, 59, 60, 61, 62, 63, 64, 65, 66, 67, 68, 69, 70, 71, 72, 73, 74, 75, 76, 77, 78, 79, 80, 81, 82, 83, 84, 85, 86, 87, 88, 89, 90, 91, 92, 93, 94, 95, 96, 97, 98, 99, 100, 101, 102, 103, 104, 105, 106, 107, 108, 109, 110, 111, 112, 113, 114, 115, 116, 117, 118, 119, 120, 121, 122, 123, 124, 125, 126, 127, 128, 129, 130, 131, 132, 133, 134, 135, 136, 137, 138, 139, 140, 141, 142, 143, 144, 145, 146, 147, 148, 149, 150, 151, 152, 153, 154, 155, 156, 157, 158, 159, 160, 161, 162, 163, 164, 165, 166, 167, 168, 169, 170, 171, 172, 173, 174, 175, 176, 177, 178, 179, 180, 181, 182, 183, 184, 185, 186, 187, 188, 189, 190, 191, 192, 193, 194, 195, 196, 197, 198, 199, 200, 201, 202, 203, 204, 205, 206, 207, 208, 209, 210, 211, 212, 213, 214, 215, 216, 217, 218, 219, 220, 221, 222, 223, 224, 225, 226, 227, 228, 229, 230, 231, 232, 233, 234, 235, 236, 237, 238, 239, 240, 241, 242, 243, 244, 245, 246, 247, 248, 249, 250, 251, 252, 253, 254, 255, 256, 257, 258, 259, 260, 261, 262, 263, 264, 265, 266, 267, 268, 269, 270, 271, 272, 273, 274, 275, 276, 277, 278, 279, 280, 281, 282, 283, 284, 285, 286, 287, 288, 289, 290, 291, 292, 293, 294, 295, 296, 297, 298, 299, 300, 301, 302, 303, 304, 305, 306, 307, 308, 309, 310, 311, 312, 313, 314] (by decide +kernel) (by decide +kernel)) (goodIn_sub (fun _ h => List.mem_cons_of_mem _ (List.mem_append_right _ h)) (by decide +kernel))
set_option maxRecDepth 20000 in
theorem gL_learn_X11_learn : GoodIn wsL_learn (wsV RL 93 RX11 yX11_learn wsX11_learn) := goodIn_app (goodIn_of _ (by decide +kernel)) ggL_learn_X11_learn
theorem dL_learn_0 : decode cL_learn 0 = .ok (.aload_n 1, 1) := by decide +kernel
theorem dL_learn_1 : decode cL_learn 1 = .ok (.iconst 0, 1) := by decide +kernel
theorem dL_learn_2 : decode cL_learn 2 = .ok (.aload_n 0, 1) := by decide +kernel
theorem dL_learn_3 : decode cL_learn 3 = .ok (.invokevirtual 93, 3) := by decide +kernel
theorem dL_learn_6 : decode cL_learn 6 = .ok (.i2l, 1) := by decide +kernel
theorem dL_learn_7 : decode cL_learn 7 = .ok (.lastore, 1) := by decide +kernel
theorem dL_learn_8 : decode cL_learn 8 = .ok (.goto 6, 3) := by decide +kernel
theorem dL_learn_11 : decode cL_learn 11 = .ok (.astore_n 2, 1) := by decide +kernel
theorem dL_learn_12 : decode cL_learn 12 = .ok (.iconst 1, 1) := by decide +kernel
theorem dL_learn_13 : decode cL_learn 13 = .ok (.ireturn, 1) := by decide +kernel
theorem dL_learn_14 : decode cL_learn 14 = .ok (.iconst 0, 1) := by decide +kernel
theorem dL_learn_15 : decode cL_learn 15 = .ok (.ireturn, 1) := by decide +kernel
set_option maxRecDepth 20000 in
theorem ggL_learnt_X11_learnt : GoodIn wsL_learnt wsX11_learnt := goodIn_ca (goodIn_r _ [6, 7, 8, 9, 10, 11, 12, 5, 13, 14, 15, 16, 17, 18, 19, 20, 21, 22, 23, 24, 25, 26, 27, 28, 29, 30, 31, 32, 33, 34] (by decide +kernel) (by decide +kernel)) (goodIn_sub (fun _ h => List.mem_cons_of_mem _ (List.mem_append_right _ h)) (by decide +kernel))
set_option maxRecDepth 20000 in
theorem gL_learnt_X11_learnt : GoodIn wsL_learnt (wsV RL 96 RX11 yX11_learnt wsX11_learnt) := goodIn_app (goodIn_of _ (by decide +kernel)) ggL_learnt_X11_learnt
theorem dL_learnt_0 : decode cL_learnt 0 = .ok (.aload_n 3, 1) := by decide +kernel
theorem dL_learnt_1 : decode cL_learnt 1 = .ok (.iconst 0, 1) := by decide +kernel
theorem dL_learnt_2 : decode cL_learnt 2 = .ok (.aload_n 0, 1) := by decide +kernel
theorem dL_learnt_3 : decode cL_learnt 3 = .ok (.iload_n 1, 1) := by decide +kernel
theorem dL_learnt_4 : decode cL_learnt 4 = .ok (.iload_n 2, 1) := by decide +kernel
theorem dL_learnt_5 : decode cL_learnt 5 = .ok (.invokevirtual 96, 3) := by decide +kernel
theorem dL_learnt_8 : decode cL_learnt 8 = .ok (.i2l, 1) := by decide +kernel
theorem dL_learnt_9 : decode cL_learnt 9 = .ok (.lastore, 1) := by decide +kernel
theorem dL_learnt_10 : decode cL_learnt 10 = .ok (.goto 7, 3) := by decide +kernel
theorem dL_learnt_13 : decode cL_learnt 13 = .ok (.astore 4, 2) := by decide +kernel
theorem dL_learnt_15 : decode cL_learnt 15 = .ok (.iconst 1, 1) := by decide +kernel
theorem dL_learnt_16 : decode cL_learnt 16 = .ok (.ireturn, 1) := by decide +kernel
theorem dL_learnt_17 : decode cL_learnt 17 = .ok (.iconst 0, 1) := by decide +kernel
theorem dL_learnt_18 : decode cL_learnt 18 = .ok (.ireturn, 1) := by decide +kernel
set_option maxRecDepth 20000 in
theorem ggL_search_X11_search : GoodIn wsL_search wsX11_search := goodIn_ca (goodIn_r _ [6, 7, 8, 9, 10, 11, 12, 13, 14, 15, 16, 17, 18, 19, 20, 21, 22, 23, 24, 25, 26, 27, 28, 29, 30, 31, 32, 33, 34, 35, 36, 5, 37, 38, 39, 40, 41, 42, 43, 44, 45, 46, 47, 48, 49, 50, 51, 52, 53, 54, 55, 56, 57, 58, 59, 60, 61, 62, 63, 64, 65, 66, 67, 68, 69, 70, 71, 72, 73, 74, 75, 76, 77, 78, 79, 80, 81, 82, 83, 84, 85, 86, 87, 88, 89, 90, 91, 92, 93, 94, 95, 96, 97, 98, 99, 100, 101, 102, 103, 104, 105, 106, 107, 108, 109, 110, 111, 112, 113, 114, 115, 116, 117, 118, 119, 120, 121, 122, 123, 124, 125, 126, 127, 128, 129, 130, 131, 132, 133, 134, 135, 136, 137, 138, 139, 140, 141, 142, 143, 144, 145, 146, 147, 148, 149, 150, 151, 152, 153, 154, 155, 156, 157, 158, 159, 160, 161, 162, 163, 164, 165, 166, 167, 168, 169, 170, 171, 172, 173, 174, 175, 176, 177, 178, 179, 180, 181, 182, 183, 184, 185, 186, 187, 188, 189, 190, 191, 192, 193, 194, 195, 196, 197, 198, 199, 200, 201, 202, 203, 204, 205, 206, 207, 208, 209, 210, 211, 212, 213, 214, 215, 216, 217, 218, 219, 220, 221, 222, 223, 224, 225, 226, 227, 228, 229, 230, 231, 232, 233, 234, 235, 236, 237, 238, 239, 240, 241, 242, 243, 244, 245, 246, 247, 248, 249, 250, 251, 252, 253, 254, 255, 256, 257, 258, 259, 260, 261, 262, 263, 264, 265, 266, 267, 268, 269, 270, 271, 272, 273, 274, 275, 276, 277, 278, 279, 280, 281, 282, 283, 284, 285, 286, 287, 288, 289, 290, 291, 292, 293, 294, 295, 296, 297, 298, 299, 300, 301, 302, 303, 304, 305, 306, 307, 308, 309, 310, 311, 312, 313, 314, 315, 316, 317, 318, 319, 320, 321, 322, 323, 324, 325, 326, 327, 328, 329, 330, 331, 332, 333, 334, 335, 336] (by decide +kernel) (by decide +kernel)) (goodIn_sub (fun _ h => List.mem_cons_of_mem _ (List.mem_append_right _ h)) (by decide +kernel))
set_option maxRecDepth 20000 in
theorem gL_search_X11_search : GoodIn wsL_search (wsV RL 99 RX11 yX11_search wsX11_search) := goodIn_app (goodIn_of _ (by decide +kernel)) ggL_search_X11_search
theorem dL_search_0 : decode cL_search 0 = .ok (.aload_n 2, 1) := by decide +kernel
theorem dL_search_1 : decode cL_search 1 = .ok (.iconst 0, 1) := by decide +kernel
theorem dL_search_2 : decode cL_search 2 = .ok (.aload_n 0, 1) := by decide +kernel
theorem dL_search_3 : decode cL_search 3 = .ok (.iload_n 1, 1) := by decide +kernel
theorem dL_search_4 : decode cL_search 4 = .ok (.invokevirtual 99, 3) := by decide +kernel
theorem dL_search_7 : decode cL_search 7 = .ok (.i2l, 1) := by decide +kernel
theorem dL_search_8 : decode cL_search 8 = .ok (.lastore, 1) := by decide +kernel
theorem dL_search_9 : decode cL_search 9 = .ok (.goto 6, 3) := by decide +kernel
theorem dL_search_12 : decode cL_search 12 = .ok (.astore_n 3, 1) := by decide +kernel
theorem dL_search_13 : decode cL_search 13 = .ok (.iconst 1, 1) := by decide +kernel
theorem dL_search_14 : decode cL_search 14 = .ok (.ireturn, 1) := by decide +kernel
theorem dL_search_15 : decode cL_search 15 = .ok (.iconst 0, 1) := by decide +kernel
theorem dL_search_16 : decode cL_search 16 = .ok (.ireturn, 1) := by decide +kernel
set_option maxRecDepth 20000 in
theorem ggL_law_X11_init : GoodIn wsL_law wsX11_init := goodIn_r _ [10, 11, 12, 13, 14, 15, 16, 17, 18, 19, 20, 21, 22, 23, 24, 25, 26, 27, 28, 29, 30, 6, 31, 32, 33, 34, 35, 36, 37, 38, 39, 40, 41, 42, 43, 44, 45, 46, 47, 48, 49, 50, 51, 52, 53, 54, 55, 56, 57, 58, 59, 60, 61, 62, 63, 64, 65, 66, 67, 68, 69, 70, 71, 72, 73, 74, 75, 76, 77, 78, 79, 80, 81, 82, 83, 84, 85, 86, 87, 88, 89, 90, 91, 92, 93, 94, 95, 96, 97, 98, 99, 100, 101, 102, 103, 104, 105, 106, 1329, 1330, 1331, 1332, 1333, 1334, 1335, 1336, 1337, 1338, 1288, 1289, 1290, 1291, 1292, 1293, 1294, 1295, 1296, 1339, 1340, 1341, 1342, 1343, 1344, 1345, 1346, 1347, 1348, 1349, 1350, 1351, 1352, 1353, 1354, 1355, 1356, 1357, 1358, 1359, 1360, 1361, 1362, 1363, 1364, 1365, 1366, 1367, 1368, 1369, 1370, 1371, 1372, 1373, 1374, 1375, 1376, 1377, 1378, 1379, 1380, 1381, 1382, 1383, 1384] (by decide +kernel) (by decide +kernel)
set_option maxRecDepth 20000 in
theorem gL_law_X11_init : GoodIn wsL_law (wsX11_init) := ggL_law_X11_init
set_option maxRecDepth 20000 in
theorem ggL_law_X12_init : GoodIn wsL_law wsX12_init := goodIn_r _ [109, 110, 12, 13, 43, 111, 112, 113, 114, 115, 116, 117, 118, 6, 119, 120, 121, 122, 123, 124, 125, 126, 127, 128, 129, 130, 131, 132, 5, 133, 134, 135, 136, 137, 138, 139, 140, 141, 142, 143, 144, 145, 146, 147, 148, 149, 150, 151, 152, 153, 154, 155, 156, 157, 158, 159, 160, 161, 162, 163, 164, 165, 166, 167, 168, 169, 170, 171, 172, 173, 174, 175, 176, 177, 178, 179, 180, 181, 182, 183, 184, 185, 186, 187, 188, 189, 190, 191, 192, 193, 194, 195, 196, 197, 198, 199, 200, 201, 202, 1297, 1298, 1299, 1300, 1301, 1302, 1303, 1304, 1305, 1306, 1307, 1308, 1309, 1310, 1311, 1312, 1313, 1314, 1315, 1316, 1317, 1318, 1319, 1320, 1321, 1322, 1323, 1324, 1325, 1326, 1327, 1328] (by decide +kernel) (by decide +kernel)
set_option maxRecDepth 20000 in
theorem gL_law_X12_init : GoodIn wsL_law (wsX12_init) := ggL_law_X12_init
set_option maxRecDepth 20000 in
theorem ggL_law_L_append : GoodIn wsL_law wsL_append := goodIn_ca (goodIn_r _ [206, 207, 208, 209, 210, 2, 211, 212, 213, 17, 214, 215, 216, 217, 16, 218, 45, 42, 1288, 1289, 1290, 1291, 1292, 1293, 1294, 1295, 1296, 1329, 1330, 1331, 1332, 1333, 1334, 1335, 1336, 1337, 1338] (by decide +kernel) (by decide +kernel)) (goodIn_sub (fun _ h => List.mem_append_left _ (List.mem_append_left _ (List.mem_append_left _ (List.mem_append_right _ h)))) (by decide +kernel))
set_option maxRecDepth 20000 in
theorem gL_law_L_append : GoodIn wsL_law (va_wsS RL 106 yL_append wsL_append) := goodIn_app (goodIn_of _ (by decide +kernel)) ggL_law_L_append
set_option maxRecDepth 20000 in
theorem ggL_law_X12_append : GoodIn wsL_law wsX12_append := goodIn_r _ [222, 223, 224, 117, 225, 226, 227, 5, 228, 1297, 1298, 1299, 1300, 1301, 1302, 1303, 1304, 1305, 1306, 1307, 1308, 1309, 1310, 1311, 1312, 1313, 1314, 1315, 1316, 1317, 1318, 1319, 1320, 1321, 1322, 1323, 1324, 1325, 1326, 1327, 1328] (by decide +kernel) (by decide +kernel)
set_option maxRecDepth 20000 in
theorem gL_law_X12_append : GoodIn wsL_law (wsV RL 111 RX12 yX12_append wsX12_append) := goodIn_app (goodIn_of _ (by decide +kernel)) ggL_law_X12_append
set_option maxRecDepth 20000 in
theorem ggL_law_X12_thrown : GoodIn wsL_law wsX12_thrown := goodIn_r _ [232, 223, 1297, 1298, 1299, 1300, 1301, 1302, 1303, 1304, 1305, 1306, 1307, 1308, 1309, 1310, 1311, 1312, 1313, 1314, 1315, 1316, 1317, 1318, 1319, 1320, 1321, 1322, 1323, 1324, 1325, 1326, 1327, 1328] (by decide +kernel) (by decide +kernel)
set_option maxRecDepth 20000 in
theorem gL_law_X12_thrown : GoodIn wsL_law (wsV RL 112 RX12 yX12_thrown wsX12_thrown) := goodIn_app (goodIn_of _ (by decide +kernel)) ggL_law_X12_thrown
set_option maxRecDepth 20000 in
theorem ggL_law_L_truncate : GoodIn wsL_law wsL_truncate := goodIn_ca (goodIn_r _ [235, 236, 237, 238, 239, 2, 240, 241, 242, 17, 214, 1288, 1289, 1290, 1291, 1292, 1293, 1294, 1295, 1296, 1329, 1330, 1331, 1332, 1333, 1334, 1335, 1336, 1337, 1338] (by decide +kernel) (by decide +kernel)) (goodIn_sub (fun _ h => List.mem_append_left _ (List.mem_append_left _ (List.mem_append_right _ h))) (by decide +kernel))
set_option maxRecDepth 20000 in
theorem gL_law_L_truncate : GoodIn wsL_law (va_wsS RL 115 yL_truncate wsL_truncate) := goodIn_app (goodIn_of _ (by decide +kernel)) ggL_law_L_truncate
set_option maxRecDepth 20000 in
theorem ggL_law_X12_truncate : GoodIn wsL_law wsX12_truncate := goodIn_r _ [246, 223, 224, 188, 189, 5, 190, 225, 226, 227, 228, 1297, 1298, 1299, 1300, 1301, 1302, 1303, 1304, 1305, 1306, 1307, 1308, 1309, 1310, 1311, 1312, 1313, 1314, 1315, 1316, 1317, 1318, 1319, 1320, 1321, 1322, 1323, 1324, 1325, 1326, 1327, 1328] (by decide +kernel) (by decide +kernel)
set_option maxRecDepth 20000 in
theorem gL_law_X12_truncate : GoodIn wsL_law (wsV RL 118 RX12 yX12_truncate wsX12_truncate) := goodIn_app (goodIn_of _ (by decide +kernel)) ggL_law_X12_truncate
set_option maxRecDepth 20000 in
theorem ggL_law_L_load : GoodIn wsL_law wsL_load := goodIn_ca (goodIn_r _ [249, 250, 251, 252, 253, 2, 254, 255, 256, 17, 214, 257, 35, 21, 258, 259, 30, 260, 36, 37, 261, 262, 263, 264, 16, 265, 48, 33, 34, 49, 46, 47, 52, 54, 55, 56, 12, 13, 57, 58, 59, 60, 61, 266, 267, 268, 269, 51, 45, 50, 270, 271, 272, 273, 42, 274, 275, 276, 277, 278, 279, 280, 53, 281, 282, 283, 284, 285, 286, 287, 288, 289, 290, 291, 292, 293, 294, 295, 296, 297, 298, 299, 300, 301, 302, 303, 304, 305, 306, 307, 308, 309, 310, 311, 312, 313, 314, 315, 316, 317, 318, 319, 320, 321, 322, 323, 324, 325, 326, 327, 328, 329, 330, 331, 332, 333, 334, 335, 336, 337, 338, 339, 340, 341, 342, 343, 344, 345, 346, 347, 348, 349, 350, 351, 352, 353, 44, 354, 355, 356, 357, 358, 359, 360, 361, 362, 363, 364, 365, 366, 367, 368, 369, 370, 371, 372, 373, 374, 375, 376, 377, 378, 379, 380, 381, 382, 383, 384, 385, 386, 387, 388, 389, 390, 391, 392, 393, 394, 395, 91, 92, 93, 94, 95, 96, 97, 98, 396, 397, 398, 399, 400, 401, 402, 403, 404, 405, 406, 407, 408, 409, 410, 411, 412, 413, 414, 415, 416, 417, 418, 419, 420, 421, 422, 423, 424, 425, 426, 427, 428, 429, 430, 431, 432, 433, 434, 435, 436, 437, 438, 439, 440, 441, 442, 443, 444, 445, 446, 447, 448, 449, 450, 451, 452, 453, 454, 455, 456, 457, 458, 459, 460, 461, 462, 463, 464, 465, 466, 20, 467, 69, 70, 71, 72, 468, 469, 470, 471, 472, 26, 473, 474, 475, 476, 477, 478, 479, 480, 481, 482, 483, 484, 485, 486, 487, 488, 489, 490, 491, 492, 493, 494, 495, 496, 497, 498, 499, 500, 501, 502, 503, 504, 505, 506, 507, 508, 509, 510, 511, 512, 513, 514, 515, 516, 517, 518, 519, 520, 521, 522, 523, 524, 525, 526, 527, 528, 529, 530, 531, 532, 533, 534, 535, 536, 537, 538, 539, 540, 541, 542, 543, 544, 545, 546, 547, 548, 549, 550, 551, 552, 553, 554, 555, 556, 557, 558, 559, 560, 561, 25, 562, 89, 563, 564, 565, 566, 567, 568, 569, 570, 571, 572, 573, 574, 575, 576, 577, 578, 579, 580, 581, 582, 583, 584, 585, 586, 587, 588, 589, 590, 591, 592, 593, 594, 595, 596, 597, 598, 599, 600, 601, 602, 603, 604, 605, 606, 607, 608, 609, 610, 611, 612, 613, 614, 615, 67, 616, 617, 618, 74, 619, 78, 79, 620, 621, 622, 623, 624, 31, 625, 626, 627, 628, 629, 630, 631, 632, 633, 634, 635, 636, 637, 1288, 1289, 1290, 1291, 1292, 1293, 1294, 1295, 1296, 1329, 1330, 1331, 1332, 1333, 1334, 1335, 1336, 1337, 1338, 1355, 1356, 1357, 1358, 1350, 1351, 1352, 1353, 1354, 1339, 1340, 1341, 1342, 1343, 1344, 1370, 1371, 1372, 1373, 1374, 1375, 1376, 1366, 1367, 1368, 1369, 1345, 1346, 1347, 1348, 1349, 1377, 1378, 1379, 1380, 1381, 1382, 1383, 1384, 1359, 1360, 1361, 1362, 1363, 1364, 1365] (by decide +kernel) (by decide +kernel)) (goodIn_sub (fun _ h => List.mem_append_left _ (List.mem_append_right _ h)) (by decide +kernel))
set_option maxRecDepth 20000 in
theorem gL_law_L_load : GoodIn wsL_law (va_wsS RL 119 yL_load wsL_load) := goodIn_app (goodIn_of _ (by decide +kernel)) ggL_law_L_load
set_option maxRecDepth 20000 in
theorem ggL_law_X12_load : GoodIn wsL_law wsX12_load := goodIn_r _ [641, 223, 224, 642, 643, 644, 118, 112, 645, 134, 646, 647, 648, 5, 649, 650, 651, 652, 653, 654, 655, 656, 657, 658, 117, 659, 660, 661, 662, 663, 664, 665, 666, 667, 668, 669, 670, 671, 672, 673, 297, 298, 299, 300, 301, 302, 303, 304, 305, 306, 307, 674, 309, 310, 311, 312, 313, 314, 315, 316, 317, 318, 319, 320, 321, 322, 323, 324, 325, 326, 327, 328, 329, 330, 331, 332, 333, 334, 335, 336, 337, 338, 339, 340, 341, 342, 343, 344, 675, 676, 677, 678, 119, 679, 680, 681, 682, 683, 684, 685, 686, 687, 688, 689, 690, 188, 189, 190, 691, 692, 693, 694, 695, 696, 697, 698, 699, 700, 701, 702, 703, 704, 705, 706, 707, 708, 709, 710, 162, 163, 164, 711, 712, 713, 714, 225, 226, 227, 228, 130, 131, 132, 133, 111, 113, 135, 136, 137, 138, 139, 140, 141, 142, 116, 143, 144, 145, 146, 147, 148, 149, 150, 151, 152, 153, 154, 155, 156, 157, 158, 159, 160, 161, 165, 166, 167, 168, 120, 169, 170, 171, 172, 173, 174, 175, 176, 177, 178, 179, 180, 181, 182, 183, 184, 185, 186, 187, 191, 192, 193, 194, 195, 196, 197, 198, 199, 200, 201, 202, 114, 1297, 1298, 1299, 1300, 1301, 1302, 1303, 1304, 1305, 1306, 1307, 1308, 1309, 1310, 1311, 1312, 1313, 1314, 1315, 1316, 1317, 1318, 1319, 1320, 1321, 1322, 1323, 1324, 1325, 1326, 1327, 1328] (by decide +kernel) (by decide +kernel)
set_option maxRecDepth 20000 in
theorem gL_law_X12_load : GoodIn wsL_law (wsV RL 122 RX12 yX12_load wsX12_load) := goodIn_app (goodIn_of _ (by decide +kernel)) ggL_law_X12_load
set_option maxRecDepth 20000 in
theorem ggL_law_X11_errorCode : GoodIn wsL_law wsX11_errorCode := goodIn_r _ [718, 17, 719, 1288, 1289, 1290, 1291, 1292, 1293, 1294, 1295, 1296, 1329, 1330, 1331, 1332, 1333, 1334, 1335, 1336, 1337, 1338] (by decide +kernel) (by decide +kernel)
set_option maxRecDepth 20000 in
theorem gL_law_X11_errorCode : GoodIn wsL_law (wsV RL 123 RX11 yX11_errorCode wsX11_errorCode) := goodIn_app (goodIn_of _ (by decide +kernel)) ggL_law_X11_errorCode
set_option maxRecDepth 20000 in
theorem ggL_law_X12_errorCode : GoodIn wsL_law wsX12_errorCode := goodIn_r _ [723, 223, 644, 1297, 1298, 1299, 1300, 1301, 1302, 1303, 1304, 1305, 1306, 1307, 1308, 1309, 1310, 1311, 1312, 1313, 1314, 1315, 1316, 1317, 1318, 1319, 1320, 1321, 1322, 1323, 1324, 1325, 1326, 1327, 1328] (by decide +kernel) (by decide +kernel)
set_option maxRecDepth 20000 in
theorem gL_law_X12_errorCode : GoodIn wsL_law (wsV RL 126 RX12 yX12_errorCode wsX12_errorCode) := goodIn_app (goodIn_of _ (by decide +kernel)) ggL_law_X12_errorCode
set_option maxRecDepth 20000 in
theorem ggL_law_X11_errorPosition : GoodIn wsL_law wsX11_errorPosition := goodIn_r _ [727, 17, 728, 1288, 1289, 1290, 1291, 1292, 1293, 1294, 1295, 1296, 1329, 1330, 1331, 1332, 1333, 1334, 1335, 1336, 1337, 1338] (by decide +kernel) (by decide +kernel)
set_option maxRecDepth 20000 in
theorem gL_law_X11_errorPosition : GoodIn wsL_law (wsV RL 127 RX11 yX11_errorPosition wsX11_errorPosition) := goodIn_app (goodIn_of _ (by decide +kernel)) ggL_law_X11_errorPosition
set_option maxRecDepth 20000 in
theorem ggL_law_X12_errorPosition : GoodIn wsL_law wsX12_errorPosition := goodIn_r _ [732, 223, 118, 1297, 1298, 1299, 1300, 1301, 1302, 1303, 1304, 1305, 1306, 1307, 1308, 1309, 1310, 1311, 1312, 1313, 1314, 1315, 1316, 1317, 1318, 1319, 1320, 1321, 1322, 1323, 1324, 1325, 1326, 1327, 1328] (by decide +kernel) (by decide +kernel)
set_option maxRecDepth 20000 in
theorem gL_law_X12_errorPosition : GoodIn wsL_law (wsV RL 130 RX12 yX12_errorPosition wsX12_errorPosition) := goodIn_app (goodIn_of _ (by decide +kernel)) ggL_law_X12_errorPosition
set_option maxRecDepth 20000 in
theorem ggL_law_L_report : GoodIn wsL_law wsL_report := goodIn_ca (goodIn_r _ [735, 250, 736, 737, 738, 2, 739, 255, 256, 35, 258, 472, 21, 740, 261, 36, 37, 490, 491, 492, 20, 493, 72, 69, 494, 495, 376, 496, 497, 498, 499, 500, 501, 502, 503, 504, 505, 506, 507, 741, 742, 743, 744, 745, 746, 747, 748, 481, 749, 530, 531, 750, 536, 537, 538, 539, 540, 541, 1288, 1289, 1290, 1291, 1292, 1293, 1294, 1295, 1296, 1355, 1356, 1357, 1358, 1339, 1340, 1341, 1342, 1343, 1344] (by decide +kernel) (by decide +kernel)) (goodIn_sub (fun _ h => List.mem_append_left _ (List.mem_append_right _ h)) (by decide +kernel))
set_option maxRecDepth 20000 in
theorem gL_law_L_report : GoodIn wsL_law (va_wsS RL 131 yL_report wsL_report) := goodIn_app (goodIn_of _ (by decide +kernel)) ggL_law_L_report
set_option maxRecDepth 20000 in
theorem ggL_law_X12_report : GoodIn wsL_law wsX12_report := goodIn_r _ [754, 223, 111, 135, 134, 136, 138, 137, 188, 189, 5, 190, 225, 226, 227, 228, 755, 756, 757, 758, 113, 185, 186, 187, 1297, 1298, 1299, 1300, 1301, 1302, 1303, 1304, 1305, 1306, 1307, 1308, 1309, 1310, 1311, 1312, 1313, 1314, 1315, 1316, 1317, 1318, 1319, 1320, 1321, 1322, 1323, 1324, 1325, 1326, 1327, 1328] (by decide +kernel) (by decide +kernel)
set_option maxRecDepth 20000 in
theorem gL_law_X12_report : GoodIn wsL_law (wsV RL 133 RX12 yX12_report wsX12_report) := goodIn_app (goodIn_of _ (by decide +kernel)) ggL_law_X12_report
set_option maxRecDepth 20000 in
theorem ggL_law_L_domain : GoodIn wsL_law wsL_domain := goodIn_ca (goodIn_r _ [761, 236, 762, 763, 764, 2, 765, 241, 242, 21, 481, 766, 767, 768, 769, 35, 258, 749, 530, 376, 531, 1288, 1289, 1290, 1291, 1292, 1293, 1294, 1295, 1296, 1339, 1340, 1341, 1342, 1343, 1344, 1355, 1356, 1357, 1358] (by decide +kernel) (by decide +kernel)) (goodIn_sub (fun _ h => List.mem_append_left _ (List.mem_append_left _ (List.mem_append_right _ h))) (by decide +kernel))
set_option maxRecDepth 20000 in
theorem gL_law_L_domain : GoodIn wsL_law (va_wsS RL 134 yL_domain wsL_domain) := goodIn_app (goodIn_of _ (by decide +kernel)) ggL_law_L_domain
set_option maxRecDepth 20000 in
theorem ggL_law_X12_domain : GoodIn wsL_law wsX12_domain := goodIn_r _ [773, 223, 113, 774, 775, 776, 5, 777, 111, 188, 189, 190, 225, 226, 227, 228, 1297, 1298, 1299, 1300, 1301, 1302, 1303, 1304, 1305, 1306, 1307, 1308, 1309, 1310, 1311, 1312, 1313, 1314, 1315, 1316, 1317, 1318, 1319, 1320, 1321, 1322, 1323, 1324, 1325, 1326, 1327, 1328] (by decide +kernel) (by decide +kernel)
set_option maxRecDepth 20000 in
theorem gL_law_X12_domain : GoodIn wsL_law (wsV RL 136 RX12 yX12_domain wsX12_domain) := goodIn_app (goodIn_of _ (by decide +kernel)) ggL_law_X12_domain
set_option maxRecDepth 20000 in
theorem ggL_law_L_constraint : GoodIn wsL_law wsL_constraint := goodIn_ca (goodIn_ca (goodIn_r _ [780, 236, 250, 781, 782, 783, 2, 784, 241, 242, 255, 256, 35, 785, 480, 473, 474, 475, 34, 476, 60, 58, 786, 787, 788, 789, 401, 402, 403, 92, 404, 96, 405, 406, 376, 407, 408, 409, 410, 411, 790, 791, 792, 793, 21, 261, 794, 795, 613, 614, 20, 615, 70, 67, 1288, 1289, 1290, 1291, 1292, 1293, 1294, 1295, 1296, 1366, 1367, 1368, 1369, 1370, 1371, 1372, 1373, 1374, 1375, 1376, 1345, 1346, 1347, 1348, 1349, 1377, 1378, 1379, 1380, 1381, 1382, 1383, 1384, 1355, 1356, 1357, 1358, 1339, 1340, 1341, 1342, 1343, 1344, 1359, 1360, 1361, 1362, 1363, 1364, 1365] (by decide +kernel) (by decide +kernel)) (goodIn_sub (fun _ h => List.mem_append_left _ (List.mem_append_left _ (List.mem_append_right _ h))) (by decide +kernel))) (goodIn_sub (fun _ h => List.mem_append_left _ (List.mem_append_right _ h)) (by decide +kernel))
set_option maxRecDepth 20000 in
theorem gL_law_L_constraint : GoodIn wsL_law (va_wsS RL 137 yL_constraint wsL_constraint) := goodIn_app (goodIn_of _ (by decide +kernel)) ggL_law_L_constraint
set_option maxRecDepth 20000 in
theorem ggL_law_X12_constraint_ : GoodIn wsL_law wsX12_constraint_ := goodIn_r _ [799, 223, 800, 801, 802, 5, 803, 111, 188, 189, 190, 225, 226, 227, 228, 151, 152, 153, 154, 804, 805, 806, 807, 808, 809, 810, 811, 134, 114, 1297, 1298, 1299, 1300, 1301, 1302, 1303, 1304, 1305, 1306, 1307, 1308, 1309, 1310, 1311, 1312, 1313, 1314, 1315, 1316, 1317, 1318, 1319, 1320, 1321, 1322, 1323, 1324, 1325, 1326, 1327, 1328] (by decide +kernel) (by decide +kernel)
set_option maxRecDepth 20000 in
theorem gL_law_X12_constraint_ : GoodIn wsL_law (wsV RL 140 RX12 yX12_constraint_ wsX12_constraint_) := goodIn_app (goodIn_of _ (by decide +kernel)) ggL_law_X12_constraint_
set_option maxRecDepth 20000 in
theorem ggL_law_L_fact : GoodIn wsL_law wsL_fact := goodIn_ca (goodIn_ca (goodIn_r _ [814, 236, 250, 815, 816, 817, 2, 818, 241, 242, 255, 256, 21, 819, 820, 794, 821, 795, 613, 614, 20, 615, 70, 67, 1288, 1289, 1290, 1291, 1292, 1293, 1294, 1295, 1296, 1359, 1360, 1361, 1362, 1363, 1364, 1365, 1339, 1340, 1341, 1342, 1343, 1344] (by decide +kernel) (by decide +kernel)) (goodIn_sub (fun _ h => List.mem_append_left _ (List.mem_append_left _ (List.mem_append_right _ h))) (by decide +kernel))) (goodIn_sub (fun _ h => List.mem_append_left _ (List.mem_append_right _ h)) (by decide +kernel))
set_option maxRecDepth 20000 in
theorem gL_law_L_fact : GoodIn wsL_law (va_wsS RL 141 yL_fact wsL_fact) := goodIn_app (goodIn_of _ (by decide +kernel)) ggL_law_L_fact
set_option maxRecDepth 20000 in
theorem ggL_law_X12_fact : GoodIn wsL_law wsX12_fact := goodIn_r _ [825, 223, 114, 826, 827, 828, 5, 829, 134, 188, 189, 190, 225, 226, 227, 228, 1297, 1298, 1299, 1300, 1301, 1302, 1303, 1304, 1305, 1306, 1307, 1308, 1309, 1310, 1311, 1312, 1313, 1314, 1315, 1316, 1317, 1318, 1319, 1320, 1321, 1322, 1323, 1324, 1325, 1326, 1327, 1328] (by decide +kernel) (by decide +kernel)
set_option maxRecDepth 20000 in
theorem gL_law_X12_fact : GoodIn wsL_law (wsV RL 143 RX12 yX12_fact wsX12_fact) := goodIn_app (goodIn_of _ (by decide +kernel)) ggL_law_X12_fact
set_option maxRecDepth 20000 in
theorem ggL_law_L_factOf : GoodIn wsL_law wsL_factOf := goodIn_ca (goodIn_ca (goodIn_ca (goodIn_r _ [832, 236, 250, 833, 834, 835, 836, 2, 837, 241, 242, 255, 256, 838, 839, 21, 261, 766, 767, 768, 769, 35, 258, 840, 428, 429, 841, 375, 376, 377, 842, 843, 844, 20, 845, 612, 613, 614, 615, 70, 67, 616, 617, 618, 74, 619, 78, 79, 620, 1288, 1289, 1290, 1291, 1292, 1293, 1294, 1295, 1296, 1339, 1340, 1341, 1342, 1343, 1344, 1355, 1356, 1357, 1358, 1359, 1360, 1361, 1362, 1363, 1364, 1365] (by decide +kernel) (by decide +kernel)) (goodIn_sub (fun _ h => List.mem_append_left _ (List.mem_append_left _ (List.mem_append_right _ h))) (by decide +kernel))) (goodIn_sub (fun _ h => List.mem_append_left _ (List.mem_append_right _ h)) (by decide +kernel))) (goodIn_sub (fun _ h => List.mem_append_right _ h) (by decide +kernel))
set_option maxRecDepth 20000 in
theorem gL_law_L_factOf : GoodIn wsL_law (va_wsS RL 144 yL_factOf wsL_factOf) := goodIn_app (goodIn_of _ (by decide +kernel)) ggL_law_L_factOf
set_option maxRecDepth 20000 in
theorem ggL_law_X12_factOf : GoodIn wsL_law wsX12_factOf := goodIn_r _ [849, 223, 134, 114, 774, 775, 776, 5, 777, 111, 188, 189, 190, 225, 226, 227, 228, 1297, 1298, 1299, 1300, 1301, 1302, 1303, 1304, 1305, 1306, 1307, 1308, 1309, 1310, 1311, 1312, 1313, 1314, 1315, 1316, 1317, 1318, 1319, 1320, 1321, 1322, 1323, 1324, 1325, 1326, 1327, 1328] (by decide +kernel) (by decide +kernel)
set_option maxRecDepth 20000 in
theorem gL_law_X12_factOf : GoodIn wsL_law (wsV RL 146 RX12 yX12_factOf wsX12_factOf) := goodIn_app (goodIn_of _ (by decide +kernel)) ggL_law_X12_factOf
set_option maxRecDepth 20000 in
theorem ggL_law_L_explanationSize : GoodIn wsL_law wsL_explanationSize := goodIn_ca (goodIn_r _ [852, 236, 853, 854, 855, 2, 856, 241, 242, 21, 795, 613, 614, 20, 615, 70, 67, 857, 858, 859, 860, 861, 862, 863, 864, 865, 866, 794, 26, 867, 35, 625, 626, 627, 25, 628, 89, 629, 630, 631, 632, 92, 633, 97, 96, 95, 634, 530, 376, 531, 635, 636, 637, 415, 416, 405, 406, 407, 408, 473, 474, 475, 34, 476, 60, 58, 868, 869, 870, 871, 872, 259, 819, 820, 842, 843, 844, 845, 612, 616, 617, 618, 74, 619, 78, 79, 620, 375, 377, 512, 513, 514, 515, 516, 511, 517, 518, 519, 520, 521, 522, 455, 523, 524, 525, 526, 527, 528, 485, 486, 529, 532, 533, 534, 535, 536, 537, 538, 539, 540, 541, 542, 543, 388, 544, 545, 546, 547, 548, 549, 550, 392, 393, 551, 552, 553, 554, 555, 556, 557, 558, 502, 503, 504, 505, 506, 507, 559, 495, 496, 497, 498, 499, 500, 501, 560, 561, 562, 563, 564, 565, 566, 440, 567, 444, 568, 569, 570, 445, 571, 446, 447, 572, 573, 574, 575, 576, 577, 578, 579, 580, 581, 582, 483, 484, 487, 488, 489, 583, 584, 585, 586, 587, 588, 589, 590, 591, 592, 593, 394, 594, 425, 426, 427, 428, 429, 595, 596, 597, 598, 599, 600, 873, 1288, 1289, 1290, 1291, 1292, 1293, 1294, 1295, 1296, 1339, 1340, 1341, 1342, 1343, 1344, 1359, 1360, 1361, 1362, 1363, 1364, 1365, 1345, 1346, 1347, 1348, 1349, 1366, 1367, 1368, 1369, 1370, 1371, 1372, 1373, 1374, 1375, 1376, 1377, 1378, 1379, 1380, 1381, 1382, 1383, 1384, 1355, 1356, 1357, 1358] (by decide +kernel) (by decide +kernel)) (goodIn_sub (fun _ h => List.mem_append_left _ (List.mem_append_left _ (List.mem_append_right _ h))) (by decide +kernel))
set_option maxRecDepth 20000 in
theorem gL_law_L_explanationSize : GoodIn wsL_law (va_wsS RL 147 yL_explanationSize wsL_explanationSize) := goodIn_app (goodIn_of _ (by decide +kernel)) ggL_law_L_explanationSize
set_option maxRecDepth 20000 in
theorem ggL_law_X12_explanationSize : GoodIn wsL_law wsX12_explanationSize := goodIn_r _ [877, 223, 826, 827, 828, 5, 829, 134, 188, 189, 190, 225, 226, 227, 228, 878, 879, 880, 881, 114, 122, 123, 882, 883, 884, 885, 155, 156, 157, 151, 152, 153, 154, 111, 886, 887, 888, 889, 165, 166, 167, 168, 120, 169, 170, 171, 172, 173, 174, 175, 176, 177, 178, 179, 180, 162, 163, 164, 181, 182, 183, 184, 185, 186, 187, 191, 192, 193, 194, 195, 196, 197, 198, 1297, 1298, 1299, 1300, 1301, 1302, 1303, 1304, 1305, 1306, 1307, 1308, 1309, 1310, 1311, 1312, 1313, 1314, 1315, 1316, 1317, 1318, 1319, 1320, 1321, 1322, 1323, 1324, 1325, 1326, 1327, 1328] (by decide +kernel) (by decide +kernel)
set_option maxRecDepth 20000 in
theorem gL_law_X12_explanationSize : GoodIn wsL_law (wsV RL 149 RX12 yX12_explanationSize wsX12_explanationSize) := goodIn_app (goodIn_of _ (by decide +kernel)) ggL_law_X12_explanationSize
set_option maxRecDepth 20000 in
theorem ggL_law_L_explained : GoodIn wsL_law wsL_explained := goodIn_ca (goodIn_r _ [892, 236, 893, 894, 895, 2, 896, 241, 242, 21, 795, 613, 614, 20, 615, 70, 67, 857, 858, 859, 860, 861, 862, 863, 864, 865, 866, 794, 26, 867, 35, 625, 626, 627, 25, 628, 89, 629, 630, 631, 632, 92, 633, 97, 96, 95, 634, 530, 376, 531, 635, 636, 637, 415, 416, 405, 406, 407, 408, 473, 474, 475, 34, 476, 60, 58, 868, 869, 870, 871, 872, 259, 819, 820, 842, 843, 844, 845, 612, 616, 617, 618, 74, 619, 78, 79, 620, 375, 377, 512, 513, 514, 515, 516, 511, 517, 518, 519, 520, 521, 522, 455, 523, 524, 525, 526, 527, 528, 485, 486, 529, 532, 533, 534, 535, 536, 537, 538, 539, 540, 541, 542, 543, 388, 544, 545, 546, 547, 548, 549, 550, 392, 393, 551, 552, 553, 554, 555, 556, 557, 558, 502, 503, 504, 505, 506, 507, 559, 495, 496, 497, 498, 499, 500, 501, 560, 561, 562, 563, 564, 565, 566, 440, 567, 444, 568, 569, 570, 445, 571, 446, 447, 572, 573, 574, 575, 576, 577, 578, 579, 580, 581, 582, 483, 484, 487, 488, 489, 583, 584, 585, 586, 587, 588, 589, 590, 591, 592, 593, 394, 594, 425, 426, 427, 428, 429, 595, 596, 597, 598, 599, 600, 1288, 1289, 1290, 1291, 1292, 1293, 1294, 1295, 1296, 1339, 1340, 1341, 1342, 1343, 1344, 1359, 1360, 1361, 1362, 1363, 1364, 1365, 1345, 1346, 1347, 1348, 1349, 1366, 1367, 1368, 1369, 1370, 1371, 1372, 1373, 1374, 1375, 1376, 1377, 1378, 1379, 1380, 1381, 1382, 1383, 1384, 1355, 1356, 1357, 1358] (by decide +kernel) (by decide +kernel)) (goodIn_sub (fun _ h => List.mem_append_left _ (List.mem_append_left _ (List.mem_append_right _ h))) (by decide +kernel))
set_option maxRecDepth 20000 in
theorem gL_law_L_explained : GoodIn wsL_law (va_wsS RL 150 yL_explained wsL_explained) := goodIn_app (goodIn_of _ (by decide +kernel)) ggL_law_L_explained
set_option maxRecDepth 20000 in
theorem ggL_law_X12_explained : GoodIn wsL_law wsX12_explained := goodIn_r _ [900, 223, 122, 826, 827, 828, 5, 829, 134, 188, 189, 190, 225, 226, 227, 228, 878, 879, 880, 881, 114, 123, 882, 883, 884, 885, 155, 156, 157, 151, 152, 153, 154, 111, 886, 887, 888, 889, 165, 166, 167, 168, 120, 169, 170, 171, 172, 173, 174, 175, 176, 177, 178, 179, 180, 162, 163, 164, 181, 182, 183, 184, 185, 186, 187, 191, 192, 193, 194, 195, 196, 197, 198, 1297, 1298, 1299, 1300, 1301, 1302, 1303, 1304, 1305, 1306, 1307, 1308, 1309, 1310, 1311, 1312, 1313, 1314, 1315, 1316, 1317, 1318, 1319, 1320, 1321, 1322, 1323, 1324, 1325, 1326, 1327, 1328] (by decide +kernel) (by decide +kernel)
set_option maxRecDepth 20000 in
theorem gL_law_X12_explained : GoodIn wsL_law (wsV RL 152 RX12 yX12_explained wsX12_explained) := goodIn_app (goodIn_of _ (by decide +kernel)) ggL_law_X12_explained
set_option maxRecDepth 20000 in
theorem ggL_law_L_depth : GoodIn wsL_law wsL_depth := goodIn_ca (goodIn_r _ [903, 236, 904, 905, 906, 2, 907, 241, 242, 21, 908, 795, 613, 614, 20, 615, 70, 67, 857, 858, 859, 860, 861, 862, 863, 864, 865, 866, 794, 26, 867, 35, 625, 626, 627, 25, 628, 89, 629, 630, 631, 632, 92, 633, 97, 96, 95, 634, 530, 376, 531, 635, 636, 637, 415, 416, 405, 406, 407, 408, 473, 474, 475, 34, 476, 60, 58, 868, 869, 870, 871, 872, 259, 819, 820, 842, 843, 844, 845, 612, 616, 617, 618, 74, 619, 78, 79, 620, 375, 377, 512, 513, 514, 515, 516, 511, 517, 518, 519, 520, 521, 522, 455, 523, 524, 525, 526, 527, 528, 485, 486, 529, 532, 533, 534, 535, 536, 537, 538, 539, 540, 541, 542, 543, 388, 544, 545, 546, 547, 548, 549, 550, 392, 393, 551, 552, 553, 554, 555, 556, 557, 558, 502, 503, 504, 505, 506, 507, 559, 495, 496, 497, 498, 499, 500, 501, 560, 561, 562, 563, 564, 565, 566, 440, 567, 444, 568, 569, 570, 445, 571, 446, 447, 572, 573, 574, 575, 576, 577, 578, 579, 580, 581, 582, 483, 484, 487, 488, 489, 583, 584, 585, 586, 587, 588, 589, 590, 591, 592, 593, 394, 594, 425, 426, 427, 428, 429, 595, 596, 597, 598, 599, 600, 909, 910, 911, 912, 913, 914, 1288, 1289, 1290, 1291, 1292, 1293, 1294, 1295, 1296, 1359, 1360, 1361, 1362, 1363, 1364, 1365, 1339, 1340, 1341, 1342, 1343, 1344, 1345, 1346, 1347, 1348, 1349, 1366, 1367, 1368, 1369, 1370, 1371, 1372, 1373, 1374, 1375, 1376, 1377, 1378, 1379, 1380, 1381, 1382, 1383, 1384, 1355, 1356, 1357, 1358] (by decide +kernel) (by decide +kernel)) (goodIn_sub (fun _ h => List.mem_append_left _ (List.mem_append_left _ (List.mem_append_right _ h))) (by decide +kernel))
set_option maxRecDepth 20000 in
theorem gL_law_L_depth : GoodIn wsL_law (va_wsS RL 153 yL_depth wsL_depth) := goodIn_app (goodIn_of _ (by decide +kernel)) ggL_law_L_depth
set_option maxRecDepth 20000 in
theorem ggL_law_X12_depth : GoodIn wsL_law wsX12_depth := goodIn_r _ [918, 223, 124, 122, 826, 827, 828, 5, 829, 134, 188, 189, 190, 225, 226, 227, 228, 878, 879, 880, 881, 114, 123, 882, 883, 884, 885, 155, 156, 157, 151, 152, 153, 154, 111, 886, 887, 888, 889, 165, 166, 167, 168, 120, 169, 170, 171, 172, 173, 174, 175, 176, 177, 178, 179, 180, 162, 163, 164, 181, 182, 183, 184, 185, 186, 187, 191, 192, 193, 194, 195, 196, 197, 198, 1297, 1298, 1299, 1300, 1301, 1302, 1303, 1304, 1305, 1306, 1307, 1308, 1309, 1310, 1311, 1312, 1313, 1314, 1315, 1316, 1317, 1318, 1319, 1320, 1321, 1322, 1323, 1324, 1325, 1326, 1327, 1328] (by decide +kernel) (by decide +kernel)
set_option maxRecDepth 20000 in
theorem gL_law_X12_depth : GoodIn wsL_law (wsV RL 155 RX12 yX12_depth wsX12_depth) := goodIn_app (goodIn_of _ (by decide +kernel)) ggL_law_X12_depth
set_option maxRecDepth 20000 in
theorem ggL_law_L_isSupported : GoodIn wsL_law wsL_isSupported := goodIn_ca (goodIn_ca (goodIn_r _ [921, 236, 250, 922, 923, 924, 2, 925, 241, 242, 255, 256, 35, 473, 474, 475, 34, 476, 60, 58, 789, 401, 402, 403, 92, 404, 96, 405, 406, 376, 407, 408, 409, 410, 411, 840, 428, 429, 926, 927, 928, 929, 21, 481, 512, 513, 514, 515, 516, 511, 375, 377, 517, 518, 95, 519, 520, 521, 522, 455, 523, 524, 525, 526, 527, 528, 485, 486, 97, 529, 530, 531, 532, 533, 534, 535, 536, 537, 538, 539, 540, 541, 542, 543, 388, 544, 545, 546, 547, 548, 549, 550, 392, 393, 551, 552, 553, 554, 555, 556, 557, 558, 502, 503, 504, 505, 506, 507, 559, 495, 496, 497, 498, 499, 500, 501, 560, 561, 25, 562, 89, 563, 564, 565, 566, 440, 567, 444, 568, 569, 570, 445, 571, 446, 447, 572, 573, 574, 575, 576, 577, 578, 579, 580, 581, 582, 483, 484, 487, 488, 489, 583, 584, 585, 586, 587, 588, 589, 590, 591, 592, 593, 394, 594, 425, 426, 427, 595, 596, 597, 598, 599, 600, 1288, 1289, 1290, 1291, 1292, 1293, 1294, 1295, 1296, 1355, 1356, 1357, 1358, 1366, 1367, 1368, 1369, 1370, 1371, 1372, 1373, 1374, 1375, 1376, 1345, 1346, 1347, 1348, 1349, 1377, 1378, 1379, 1380, 1381, 1382, 1383, 1384, 1339, 1340, 1341, 1342, 1343, 1344] (by decide +kernel) (by decide +kernel)) (goodIn_sub (fun _ h => List.mem_append_left _ (List.mem_append_left _ (List.mem_append_right _ h))) (by decide +kernel))) (goodIn_sub (fun _ h => List.mem_append_left _ (List.mem_append_right _ h)) (by decide +kernel))
set_option maxRecDepth 20000 in
theorem gL_law_L_isSupported : GoodIn wsL_law (va_wsS RL 156 yL_isSupported wsL_isSupported) := goodIn_app (goodIn_of _ (by decide +kernel)) ggL_law_L_isSupported
set_option maxRecDepth 20000 in
theorem ggL_law_X12_isSupported : GoodIn wsL_law wsX12_isSupported := goodIn_r _ [933, 223, 934, 935, 936, 5, 937, 800, 801, 802, 803, 111, 188, 189, 190, 774, 775, 776, 777, 882, 883, 884, 885, 155, 156, 157, 151, 152, 153, 154, 225, 226, 227, 228, 938, 939, 940, 941, 113, 162, 163, 164, 165, 166, 167, 168, 120, 169, 170, 171, 172, 173, 174, 175, 176, 177, 178, 179, 180, 181, 182, 183, 184, 185, 186, 187, 191, 192, 193, 194, 195, 196, 197, 198, 1297, 1298, 1299, 1300, 1301, 1302, 1303, 1304, 1305, 1306, 1307, 1308, 1309, 1310, 1311, 1312, 1313, 1314, 1315, 1316, 1317, 1318, 1319, 1320, 1321, 1322, 1323, 1324, 1325, 1326, 1327, 1328] (by decide +kernel) (by decide +kernel)
set_option maxRecDepth 20000 in
theorem gL_law_X12_isSupported : GoodIn wsL_law (wsV RL 159 RX12 yX12_isSupported wsX12_isSupported) := goodIn_app (goodIn_of _ (by decide +kernel)) ggL_law_X12_isSupported
set_option maxRecDepth 20000 in
theorem ggL_law_L_support : GoodIn wsL_law wsL_support := goodIn_ca (goodIn_ca (goodIn_ca (goodIn_r _ [944, 236, 250, 833, 945, 946, 947, 2, 948, 241, 242, 255, 256, 838, 839, 35, 473, 474, 475, 34, 476, 60, 58, 789, 401, 402, 403, 92, 404, 96, 405, 406, 376, 407, 408, 409, 410, 411, 840, 428, 429, 926, 927, 928, 929, 21, 481, 512, 513, 514, 515, 516, 511, 375, 377, 517, 518, 95, 519, 520, 521, 522, 455, 523, 524, 525, 526, 527, 528, 485, 486, 97, 529, 530, 531, 532, 533, 534, 535, 536, 537, 538, 539, 540, 541, 542, 543, 388, 544, 545, 546, 547, 548, 549, 550, 392, 393, 551, 552, 553, 554, 555, 556, 557, 558, 502, 503, 504, 505, 506, 507, 559, 495, 496, 497, 498, 499, 500, 501, 560, 561, 25, 562, 89, 563, 564, 565, 566, 440, 567, 444, 568, 569, 570, 445, 571, 446, 447, 572, 573, 574, 575, 576, 577, 578, 579, 580, 581, 582, 483, 484, 487, 488, 489, 583, 584, 585, 586, 587, 588, 589, 590, 591, 592, 593, 394, 594, 425, 426, 427, 595, 596, 597, 598, 599, 600, 949, 950, 951, 952, 509, 510, 1288, 1289, 1290, 1291, 1292, 1293, 1294, 1295, 1296, 1355, 1356, 1357, 1358, 1366, 1367, 1368, 1369, 1370, 1371, 1372, 1373, 1374, 1375, 1376, 1345, 1346, 1347, 1348, 1349, 1377, 1378, 1379, 1380, 1381, 1382, 1383, 1384, 1339, 1340, 1341, 1342, 1343, 1344] (by decide +kernel) (by decide +kernel)) (goodIn_sub (fun _ h => List.mem_append_left _ (List.mem_append_left _ (List.mem_append_right _ h))) (by decide +kernel))) (goodIn_sub (fun _ h => List.mem_append_left _ (List.mem_append_right _ h)) (by decide +kernel))) (goodIn_sub (fun _ h => List.mem_append_right _ h) (by decide +kernel))
set_option maxRecDepth 20000 in
theorem gL_law_L_support : GoodIn wsL_law (va_wsS RL 160 yL_support wsL_support) := goodIn_app (goodIn_of _ (by decide +kernel)) ggL_law_L_support
set_option maxRecDepth 20000 in
theorem ggL_law_X12_support : GoodIn wsL_law wsX12_support := goodIn_r _ [956, 223, 125, 934, 935, 936, 5, 937, 800, 801, 802, 803, 111, 188, 189, 190, 774, 775, 776, 777, 882, 883, 884, 885, 155, 156, 157, 151, 152, 153, 154, 225, 226, 227, 228, 938, 939, 940, 941, 113, 162, 163, 164, 165, 166, 167, 168, 120, 169, 170, 171, 172, 173, 174, 175, 176, 177, 178, 179, 180, 181, 182, 183, 184, 185, 186, 187, 191, 192, 193, 194, 195, 196, 197, 198, 957, 958, 959, 960, 961, 962, 963, 1297, 1298, 1299, 1300, 1301, 1302, 1303, 1304, 1305, 1306, 1307, 1308, 1309, 1310, 1311, 1312, 1313, 1314, 1315, 1316, 1317, 1318, 1319, 1320, 1321, 1322, 1323, 1324, 1325, 1326, 1327, 1328] (by decide +kernel) (by decide +kernel)
set_option maxRecDepth 20000 in
theorem gL_law_X12_support : GoodIn wsL_law (wsV RL 163 RX12 yX12_support wsX12_support) := goodIn_app (goodIn_of _ (by decide +kernel)) ggL_law_X12_support
set_option maxRecDepth 20000 in
theorem ggL_law_L_watchers : GoodIn wsL_law wsL_watchers := goodIn_ca (goodIn_ca (goodIn_r _ [966, 236, 250, 967, 968, 969, 2, 970, 241, 242, 255, 256, 35, 472, 766, 767, 768, 769, 258, 840, 428, 429, 473, 474, 475, 34, 476, 60, 58, 789, 401, 402, 403, 92, 404, 96, 405, 406, 376, 407, 408, 409, 410, 411, 971, 972, 973, 974, 480, 482, 483, 484, 485, 486, 97, 487, 488, 489, 926, 927, 928, 929, 21, 481, 512, 513, 514, 515, 516, 511, 375, 377, 517, 518, 95, 519, 520, 521, 522, 455, 523, 524, 525, 526, 527, 528, 529, 530, 531, 532, 533, 534, 535, 536, 537, 538, 539, 540, 541, 542, 543, 388, 544, 545, 546, 547, 548, 549, 550, 392, 393, 551, 552, 553, 554, 555, 556, 557, 558, 502, 503, 504, 505, 506, 507, 559, 495, 496, 497, 498, 499, 500, 501, 560, 561, 25, 562, 89, 563, 564, 565, 566, 440, 567, 444, 568, 569, 570, 445, 571, 446, 447, 572, 573, 574, 575, 576, 577, 578, 579, 580, 581, 582, 583, 584, 585, 586, 587, 588, 589, 590, 591, 592, 593, 394, 594, 425, 426, 427, 595, 596, 597, 598, 599, 600, 508, 509, 510, 1288, 1289, 1290, 1291, 1292, 1293, 1294, 1295, 1296, 1355, 1356, 1357, 1358, 1366, 1367, 1368, 1369, 1370, 1371, 1372, 1373, 1374, 1375, 1376, 1345, 1346, 1347, 1348, 1349, 1377, 1378, 1379, 1380, 1381, 1382, 1383, 1384, 1339, 1340, 1341, 1342, 1343, 1344] (by decide +kernel) (by decide +kernel)) (goodIn_sub (fun _ h => List.mem_append_left _ (List.mem_append_left _ (List.mem_append_right _ h))) (by decide +kernel))) (goodIn_sub (fun _ h => List.mem_append_left _ (List.mem_append_right _ h)) (by decide +kernel))
set_option maxRecDepth 20000 in
theorem gL_law_L_watchers : GoodIn wsL_law (va_wsS RL 164 yL_watchers wsL_watchers) := goodIn_app (goodIn_of _ (by decide +kernel)) ggL_law_L_watchers
set_option maxRecDepth 20000 in
theorem ggL_law_X12_watchers : GoodIn wsL_law wsX12_watchers := goodIn_r _ [978, 223, 111, 125, 774, 775, 776, 5, 777, 188, 189, 190, 225, 226, 227, 228, 151, 152, 153, 154, 882, 883, 884, 885, 155, 156, 157, 938, 939, 940, 941, 113, 162, 163, 164, 165, 166, 167, 168, 120, 169, 170, 171, 172, 173, 174, 175, 176, 177, 178, 179, 180, 181, 182, 183, 184, 185, 186, 187, 191, 192, 193, 194, 195, 196, 197, 198, 957, 958, 959, 960, 1297, 1298, 1299, 1300, 1301, 1302, 1303, 1304, 1305, 1306, 1307, 1308, 1309, 1310, 1311, 1312, 1313, 1314, 1315, 1316, 1317, 1318, 1319, 1320, 1321, 1322, 1323, 1324, 1325, 1326, 1327, 1328] (by decide +kernel) (by decide +kernel)
set_option maxRecDepth 20000 in
theorem gL_law_X12_watchers : GoodIn wsL_law (wsV RL 166 RX12 yX12_watchers wsX12_watchers) := goodIn_app (goodIn_of _ (by decide +kernel)) ggL_law_X12_watchers
set_option maxRecDepth 20000 in
theorem ggL_law_L_tuples : GoodIn wsL_law wsL_tuples := goodIn_ca (goodIn_r _ [981, 236, 982, 983, 984, 2, 985, 241, 242, 35, 21, 481, 473, 474, 475, 34, 476, 60, 58, 986, 92, 987, 95, 96, 519, 520, 521, 522, 455, 523, 524, 525, 526, 527, 528, 485, 486, 97, 529, 530, 376, 531, 532, 533, 534, 535, 536, 537, 538, 539, 540, 541, 542, 543, 388, 544, 545, 546, 547, 548, 549, 550, 392, 393, 551, 552, 553, 554, 555, 556, 557, 558, 502, 503, 504, 505, 506, 507, 559, 495, 496, 497, 498, 499, 500, 501, 560, 561, 25, 562, 89, 563, 564, 565, 566, 440, 567, 444, 568, 569, 570, 445, 571, 446, 447, 572, 573, 574, 575, 576, 406, 407, 408, 577, 988, 989, 990, 516, 991, 992, 582, 483, 484, 487, 488, 489, 583, 586, 587, 588, 589, 590, 591, 592, 593, 394, 594, 425, 426, 427, 428, 429, 595, 596, 597, 598, 599, 600, 584, 513, 514, 515, 511, 375, 377, 993, 994, 1288, 1289, 1290, 1291, 1292, 1293, 1294, 1295, 1296, 1339, 1340, 1341, 1342, 1343, 1344, 1355, 1356, 1357, 1358, 1366, 1367, 1368, 1369, 1370, 1371, 1372, 1373, 1374, 1375, 1376, 1345, 1346, 1347, 1348, 1349, 1377, 1378, 1379, 1380, 1381, 1382, 1383, 1384] (by decide +kernel) (by decide +kernel)) (goodIn_sub (fun _ h => List.mem_append_left _ (List.mem_append_left _ (List.mem_append_right _ h))) (by decide +kernel))
set_option maxRecDepth 20000 in
theorem gL_law_L_tuples : GoodIn wsL_law (va_wsS RL 167 yL_tuples wsL_tuples) := goodIn_app (goodIn_of _ (by decide +kernel)) ggL_law_L_tuples
set_option maxRecDepth 20000 in
theorem ggL_law_X12_tuples : GoodIn wsL_law wsX12_tuples := goodIn_r _ [998, 223, 800, 801, 802, 5, 803, 111, 188, 189, 190, 225, 226, 227, 228, 999, 1000, 1001, 1002, 126, 151, 152, 153, 154, 1003, 1004, 1005, 1006, 113, 162, 163, 164, 1007, 1008, 1009, 1010, 1011, 1012, 1013, 1014, 1015, 1016, 1017, 1018, 1019, 1020, 1021, 1022, 1297, 1298, 1299, 1300, 1301, 1302, 1303, 1304, 1305, 1306, 1307, 1308, 1309, 1310, 1311, 1312, 1313, 1314, 1315, 1316, 1317, 1318, 1319, 1320, 1321, 1322, 1323, 1324, 1325, 1326, 1327, 1328] (by decide +kernel) (by decide +kernel)
set_option maxRecDepth 20000 in
theorem gL_law_X12_tuples : GoodIn wsL_law (wsV RL 169 RX12 yX12_tuples wsX12_tuples) := goodIn_app (goodIn_of _ (by decide +kernel)) ggL_law_X12_tuples
set_option maxRecDepth 20000 in
theorem ggL_law_L_tightness : GoodIn wsL_law wsL_tightness := goodIn_ca (goodIn_ca (goodIn_r _ [1025, 236, 207, 1026, 1027, 1028, 2, 1029, 241, 242, 212, 213, 35, 21, 481, 872, 473, 474, 475, 34, 476, 60, 58, 1030, 989, 376, 990, 516, 406, 407, 408, 991, 530, 531, 992, 536, 537, 538, 539, 540, 541, 986, 92, 987, 95, 96, 519, 520, 521, 522, 455, 523, 524, 525, 526, 527, 528, 485, 486, 97, 529, 532, 533, 534, 535, 542, 543, 388, 544, 545, 546, 547, 548, 549, 550, 392, 393, 551, 552, 553, 554, 555, 556, 557, 558, 502, 503, 504, 505, 506, 507, 559, 495, 496, 497, 498, 499, 500, 501, 560, 561, 25, 562, 89, 563, 564, 565, 566, 440, 567, 444, 568, 569, 570, 445, 571, 446, 447, 572, 573, 574, 575, 576, 577, 988, 582, 483, 484, 487, 488, 489, 583, 586, 587, 588, 589, 590, 591, 592, 593, 394, 594, 425, 426, 427, 428, 429, 595, 596, 597, 598, 599, 600, 584, 513, 514, 515, 511, 375, 377, 993, 994, 1288, 1289, 1290, 1291, 1292, 1293, 1294, 1295, 1296, 1339, 1340, 1341, 1342, 1343, 1344, 1366, 1367, 1368, 1369, 1370, 1371, 1372, 1373, 1374, 1375, 1376, 1345, 1346, 1347, 1348, 1349, 1377, 1378, 1379, 1380, 1381, 1382, 1383, 1384, 1355, 1356, 1357, 1358] (by decide +kernel) (by decide +kernel)) (goodIn_sub (fun _ h => List.mem_append_left _ (List.mem_append_left _ (List.mem_append_right _ h))) (by decide +kernel))) (goodIn_sub (fun _ h => List.mem_append_left _ (List.mem_append_left _ (List.mem_append_left _ (List.mem_append_right _ h)))) (by decide +kernel))
set_option maxRecDepth 20000 in
theorem gL_law_L_tightness : GoodIn wsL_law (va_wsS RL 170 yL_tightness wsL_tightness) := goodIn_app (goodIn_of _ (by decide +kernel)) ggL_law_L_tightness
set_option maxRecDepth 20000 in
theorem ggL_law_X12_tightness : GoodIn wsL_law wsX12_tightness := goodIn_r _ [1034, 223, 113, 800, 801, 802, 5, 803, 111, 188, 189, 190, 225, 226, 227, 228, 151, 152, 153, 154, 185, 186, 187, 999, 1000, 1001, 1002, 126, 1003, 1004, 1005, 1006, 162, 163, 164, 1007, 1008, 1009, 1010, 1011, 1012, 1013, 1014, 1015, 1016, 1017, 1018, 1019, 1020, 1021, 1022, 1297, 1298, 1299, 1300, 1301, 1302, 1303, 1304, 1305, 1306, 1307, 1308, 1309, 1310, 1311, 1312, 1313, 1314, 1315, 1316, 1317, 1318, 1319, 1320, 1321, 1322, 1323, 1324, 1325, 1326, 1327, 1328] (by decide +kernel) (by decide +kernel)
set_option maxRecDepth 20000 in
theorem gL_law_X12_tightness : GoodIn wsL_law (wsV RL 173 RX12 yX12_tightness wsX12_tightness) := goodIn_app (goodIn_of _ (by decide +kernel)) ggL_law_X12_tightness
set_option maxRecDepth 20000 in
theorem ggL_law_X11_solutions : GoodIn wsL_law wsX11_solutions := goodIn_r _ [1038, 30, 35, 21, 481, 1039, 1040, 1041, 1042, 29, 1043, 102, 106, 103, 104, 105, 1044, 1045, 1046, 1047, 1048, 1049, 1050, 1051, 1052, 34, 1053, 60, 1054, 1055, 1056, 474, 475, 476, 58, 1057, 520, 521, 522, 455, 523, 524, 525, 526, 527, 528, 485, 92, 486, 97, 529, 530, 376, 531, 532, 533, 534, 535, 536, 537, 538, 539, 540, 541, 542, 543, 388, 544, 545, 546, 547, 548, 549, 550, 392, 393, 551, 552, 553, 554, 555, 556, 557, 558, 502, 503, 504, 505, 506, 507, 559, 495, 496, 497, 498, 499, 500, 501, 560, 561, 25, 562, 89, 563, 564, 565, 566, 440, 567, 444, 568, 569, 570, 445, 571, 446, 447, 572, 573, 574, 575, 576, 406, 407, 408, 577, 1058, 1059, 989, 990, 516, 991, 992, 1060, 1061, 1062, 1063, 1064, 579, 580, 1065, 509, 510, 428, 2, 429, 511, 375, 377, 1066, 513, 514, 515, 1288, 1289, 1290, 1291, 1292, 1293, 1294, 1295, 1296, 1339, 1340, 1341, 1342, 1343, 1344, 1350, 1351, 1352, 1353, 1354, 1355, 1356, 1357, 1358, 1366, 1367, 1368, 1369, 1370, 1371, 1372, 1373, 1374, 1375, 1376, 1345, 1346, 1347, 1348, 1349, 1377, 1378, 1379, 1380, 1381, 1382, 1383, 1384] (by decide +kernel) (by decide +kernel)
set_option maxRecDepth 20000 in
theorem gL_law_X11_solutions : GoodIn wsL_law (wsV RL 174 RX11 yX11_solutions wsX11_solutions) := goodIn_app (goodIn_of _ (by decide +kernel)) ggL_law_X11_solutions
set_option maxRecDepth 20000 in
theorem ggL_law_X12_solutions : GoodIn wsL_law wsX12_solutions := goodIn_r _ [1070, 223, 1071, 1072, 1073, 5, 1074, 126, 128, 111, 1003, 1004, 1005, 1006, 113, 162, 163, 164, 1075, 1076, 1077, 1078, 804, 805, 806, 807, 151, 152, 153, 154, 1007, 1008, 1009, 1010, 1011, 1012, 1013, 1014, 1015, 1016, 1017, 1018, 188, 189, 190, 1019, 1020, 1021, 1022, 1079, 1080, 1081, 1082, 127, 1297, 1298, 1299, 1300, 1301, 1302, 1303, 1304, 1305, 1306, 1307, 1308, 1309, 1310, 1311, 1312, 1313, 1314, 1315, 1316, 1317, 1318, 1319, 1320, 1321, 1322, 1323, 1324, 1325, 1326, 1327, 1328] (by decide +kernel) (by decide +kernel)
set_option maxRecDepth 20000 in
theorem gL_law_X12_solutions : GoodIn wsL_law (wsV RL 177 RX12 yX12_solutions wsX12_solutions) := goodIn_app (goodIn_of _ (by decide +kernel)) ggL_law_X12_solutions
set_option maxRecDepth 20000 in
theorem ggL_law_L_first : GoodIn wsL_law wsL_first := goodIn_ca (goodIn_ca (goodIn_r _ [1085, 236, 833, 1086, 1087, 1088, 2, 1089, 241, 242, 838, 839, 30, 35, 21, 481, 1039, 1090, 766, 767, 768, 769, 258, 1040, 1041, 1042, 29, 1043, 102, 106, 103, 104, 105, 1044, 1045, 1046, 1047, 1048, 1049, 1050, 1051, 1052, 34, 1053, 60, 1054, 1055, 1056, 474, 475, 476, 58, 1057, 520, 521, 522, 455, 523, 524, 525, 526, 527, 528, 485, 92, 486, 97, 529, 530, 376, 531, 532, 533, 534, 535, 536, 537, 538, 539, 540, 541, 542, 543, 388, 544, 545, 546, 547, 548, 549, 550, 392, 393, 551, 552, 553, 554, 555, 556, 557, 558, 502, 503, 504, 505, 506, 507, 559, 495, 496, 497, 498, 499, 500, 501, 560, 561, 25, 562, 89, 563, 564, 565, 566, 440, 567, 444, 568, 569, 570, 445, 571, 446, 447, 572, 573, 574, 575, 576, 406, 407, 408, 577, 1058, 1059, 989, 990, 516, 991, 992, 1060, 1061, 1062, 1063, 1064, 579, 580, 1065, 509, 510, 428, 429, 511, 375, 377, 1066, 513, 514, 515, 949, 950, 951, 952, 1288, 1289, 1290, 1291, 1292, 1293, 1294, 1295, 1296, 1339, 1340, 1341, 1342, 1343, 1344, 1350, 1351, 1352, 1353, 1354, 1355, 1356, 1357, 1358, 1366, 1367, 1368, 1369, 1370, 1371, 1372, 1373, 1374, 1375, 1376, 1345, 1346, 1347, 1348, 1349, 1377, 1378, 1379, 1380, 1381, 1382, 1383, 1384] (by decide +kernel) (by decide +kernel)) (goodIn_sub (fun _ h => List.mem_append_left _ (List.mem_append_left _ (List.mem_append_right _ h))) (by decide +kernel))) (goodIn_sub (fun _ h => List.mem_append_right _ h) (by decide +kernel))
set_option maxRecDepth 20000 in
theorem gL_law_L_first : GoodIn wsL_law (va_wsS RL 178 yL_first wsL_first) := goodIn_app (goodIn_of _ (by decide +kernel)) ggL_law_L_first
set_option maxRecDepth 20000 in
theorem ggL_law_X12_first : GoodIn wsL_law wsX12_first := goodIn_r _ [1094, 223, 127, 774, 775, 776, 5, 777, 111, 188, 189, 190, 225, 226, 227, 228, 1071, 1072, 1073, 1074, 126, 128, 1003, 1004, 1005, 1006, 113, 162, 163, 164, 1075, 1076, 1077, 1078, 804, 805, 806, 807, 151, 152, 153, 154, 1007, 1008, 1009, 1010, 1011, 1012, 1013, 1014, 1015, 1016, 1017, 1018, 1019, 1020, 1021, 1022, 1079, 1080, 1081, 1082, 1297, 1298, 1299, 1300, 1301, 1302, 1303, 1304, 1305, 1306, 1307, 1308, 1309, 1310, 1311, 1312, 1313, 1314, 1315, 1316, 1317, 1318, 1319, 1320, 1321, 1322, 1323, 1324, 1325, 1326, 1327, 1328] (by decide +kernel) (by decide +kernel)
set_option maxRecDepth 20000 in
theorem gL_law_X12_first : GoodIn wsL_law (wsV RL 180 RX12 yX12_first wsX12_first) := goodIn_app (goodIn_of _ (by decide +kernel)) ggL_law_X12_first
set_option maxRecDepth 20000 in
theorem ggL_law_L_possible : GoodIn wsL_law wsL_possible := goodIn_ca (goodIn_r _ [1097, 236, 1098, 1099, 1100, 2, 1101, 241, 242, 30, 35, 21, 481, 1102, 766, 767, 768, 769, 258, 1040, 1041, 1042, 29, 1043, 102, 106, 103, 104, 105, 1044, 1045, 1046, 1047, 1048, 1049, 1050, 1051, 1052, 34, 1053, 60, 1054, 1055, 1056, 474, 475, 476, 58, 1057, 520, 521, 522, 455, 523, 524, 525, 526, 527, 528, 485, 92, 486, 97, 529, 530, 376, 531, 532, 533, 534, 535, 536, 537, 538, 539, 540, 541, 542, 543, 388, 544, 545, 546, 547, 548, 549, 550, 392, 393, 551, 552, 553, 554, 555, 556, 557, 558, 502, 503, 504, 505, 506, 507, 559, 495, 496, 497, 498, 499, 500, 501, 560, 561, 25, 562, 89, 563, 564, 565, 566, 440, 567, 444, 568, 569, 570, 445, 571, 446, 447, 572, 573, 574, 575, 576, 406, 407, 408, 577, 1058, 1059, 989, 990, 516, 991, 992, 1060, 1061, 1062, 1063, 1064, 579, 580, 1065, 509, 510, 428, 429, 511, 375, 377, 1066, 513, 514, 515, 749, 1288, 1289, 1290, 1291, 1292, 1293, 1294, 1295, 1296, 1339, 1340, 1341, 1342, 1343, 1344, 1350, 1351, 1352, 1353, 1354, 1355, 1356, 1357, 1358, 1366, 1367, 1368, 1369, 1370, 1371, 1372, 1373, 1374, 1375, 1376, 1345, 1346, 1347, 1348, 1349, 1377, 1378, 1379, 1380, 1381, 1382, 1383, 1384] (by decide +kernel) (by decide +kernel)) (goodIn_sub (fun _ h => List.mem_append_left _ (List.mem_append_left _ (List.mem_append_right _ h))) (by decide +kernel))
set_option maxRecDepth 20000 in
theorem gL_law_L_possible : GoodIn wsL_law (va_wsS RL 181 yL_possible wsL_possible) := goodIn_app (goodIn_of _ (by decide +kernel)) ggL_law_L_possible
set_option maxRecDepth 20000 in
theorem ggL_law_X12_possible : GoodIn wsL_law wsX12_possible := goodIn_r _ [1106, 223, 128, 774, 775, 776, 5, 777, 111, 188, 189, 190, 225, 226, 227, 228, 1071, 1072, 1073, 1074, 126, 1003, 1004, 1005, 1006, 113, 162, 163, 164, 1075, 1076, 1077, 1078, 804, 805, 806, 807, 151, 152, 153, 154, 1007, 1008, 1009, 1010, 1011, 1012, 1013, 1014, 1015, 1016, 1017, 1018, 1019, 1020, 1021, 1022, 1079, 1080, 1081, 1082, 127, 1297, 1298, 1299, 1300, 1301, 1302, 1303, 1304, 1305, 1306, 1307, 1308, 1309, 1310, 1311, 1312, 1313, 1314, 1315, 1316, 1317, 1318, 1319, 1320, 1321, 1322, 1323, 1324, 1325, 1326, 1327, 1328] (by decide +kernel) (by decide +kernel)
set_option maxRecDepth 20000 in
theorem gL_law_X12_possible : GoodIn wsL_law (wsV RL 183 RX12 yX12_possible wsX12_possible) := goodIn_app (goodIn_of _ (by decide +kernel)) ggL_law_X12_possible
set_option maxRecDepth 20000 in
theorem ggL_law_X11_overlooked : GoodIn wsL_law wsX11_overlooked := goodIn_r _ [1110, 30, 35, 21, 481, 1102, 862, 1040, 1041, 1042, 29, 1043, 102, 106, 103, 104, 105, 1044, 1045, 1046, 1047, 1048, 1049, 1050, 1051, 1052, 34, 1053, 60, 1054, 1055, 1056, 474, 475, 476, 58, 1057, 520, 521, 522, 455, 523, 524, 525, 526, 527, 528, 485, 92, 486, 97, 529, 530, 376, 531, 532, 533, 534, 535, 536, 537, 538, 539, 540, 541, 542, 543, 388, 544, 545, 546, 547, 548, 549, 550, 392, 393, 551, 552, 553, 554, 555, 556, 557, 558, 502, 503, 504, 505, 506, 507, 559, 495, 496, 497, 498, 499, 500, 501, 560, 561, 25, 562, 89, 563, 564, 565, 566, 440, 567, 444, 568, 569, 570, 445, 571, 446, 447, 572, 573, 574, 575, 576, 406, 407, 408, 577, 1058, 1059, 989, 990, 516, 991, 992, 1060, 1061, 1062, 1063, 1064, 579, 580, 1065, 509, 510, 428, 2, 429, 511, 375, 377, 1066, 513, 514, 515, 873, 1288, 1289, 1290, 1291, 1292, 1293, 1294, 1295, 1296, 1339, 1340, 1341, 1342, 1343, 1344, 1350, 1351, 1352, 1353, 1354, 1355, 1356, 1357, 1358, 1366, 1367, 1368, 1369, 1370, 1371, 1372, 1373, 1374, 1375, 1376, 1345, 1346, 1347, 1348, 1349, 1377, 1378, 1379, 1380, 1381, 1382, 1383, 1384] (by decide +kernel) (by decide +kernel)
set_option maxRecDepth 20000 in
theorem gL_law_X11_overlooked : GoodIn wsL_law (wsV RL 184 RX11 yX11_overlooked wsX11_overlooked) := goodIn_app (goodIn_of _ (by decide +kernel)) ggL_law_X11_overlooked
set_option maxRecDepth 20000 in
theorem ggL_law_X12_overlooked : GoodIn wsL_law wsX12_overlooked := goodIn_r _ [1114, 223, 111, 113, 128, 1071, 1072, 1073, 5, 1074, 126, 1003, 1004, 1005, 1006, 162, 163, 164, 1075, 1076, 1077, 1078, 804, 805, 806, 807, 151, 152, 153, 154, 1007, 1008, 1009, 1010, 1011, 1012, 1013, 1014, 1015, 1016, 1017, 1018, 188, 189, 190, 1019, 1020, 1021, 1022, 1079, 1080, 1081, 1082, 127, 185, 186, 187, 1297, 1298, 1299, 1300, 1301, 1302, 1303, 1304, 1305, 1306, 1307, 1308, 1309, 1310, 1311, 1312, 1313, 1314, 1315, 1316, 1317, 1318, 1319, 1320, 1321, 1322, 1323, 1324, 1325, 1326, 1327, 1328] (by decide +kernel) (by decide +kernel)
set_option maxRecDepth 20000 in
theorem gL_law_X12_overlooked : GoodIn wsL_law (wsV RL 187 RX12 yX12_overlooked wsX12_overlooked) := goodIn_app (goodIn_of _ (by decide +kernel)) ggL_law_X12_overlooked
set_option maxRecDepth 20000 in
theorem ggL_law_L_forbid : GoodIn wsL_law wsL_forbid := goodIn_ca (goodIn_ca (goodIn_ca (goodIn_r _ [1117, 236, 250, 207, 1118, 1119, 1120, 2, 1121, 241, 242, 255, 256, 212, 213, 21, 481, 740, 261, 766, 767, 768, 769, 35, 258, 508, 509, 376, 510, 428, 429, 511, 375, 377, 490, 491, 492, 20, 493, 72, 69, 494, 495, 496, 497, 498, 499, 500, 501, 502, 503, 504, 505, 506, 507, 601, 602, 603, 604, 70, 605, 606, 607, 71, 608, 609, 610, 611, 612, 613, 614, 615, 67, 616, 617, 618, 74, 619, 78, 79, 620, 468, 469, 470, 471, 472, 36, 26, 473, 474, 475, 34, 476, 60, 58, 477, 478, 479, 480, 482, 483, 484, 485, 92, 486, 97, 487, 488, 489, 512, 513, 514, 515, 516, 406, 407, 408, 517, 518, 95, 96, 519, 520, 521, 522, 455, 523, 524, 525, 526, 527, 528, 529, 530, 531, 532, 533, 534, 535, 536, 537, 538, 539, 540, 541, 542, 543, 388, 544, 545, 546, 547, 548, 549, 550, 392, 393, 551, 552, 553, 554, 555, 556, 557, 558, 559, 560, 561, 25, 562, 89, 563, 564, 565, 566, 440, 567, 444, 568, 569, 570, 445, 571, 446, 447, 572, 573, 574, 575, 576, 577, 578, 579, 580, 581, 582, 583, 584, 585, 586, 587, 588, 589, 590, 591, 592, 593, 394, 594, 425, 426, 427, 595, 596, 597, 598, 599, 600, 621, 622, 623, 624, 31, 625, 626, 627, 628, 629, 630, 631, 632, 633, 634, 635, 636, 637, 415, 416, 405, 1288, 1289, 1290, 1291, 1292, 1293, 1294, 1295, 1296, 1339, 1340, 1341, 1342, 1343, 1344, 1355, 1356, 1357, 1358, 1359, 1360, 1361, 1362, 1363, 1364, 1365, 1366, 1367, 1368, 1369, 1370, 1371, 1372, 1373, 1374, 1375, 1376, 1345, 1346, 1347, 1348, 1349, 1377, 1378, 1379, 1380, 1381, 1382, 1383, 1384] (by decide +kernel) (by decide +kernel)) (goodIn_sub (fun _ h => List.mem_append_left _ (List.mem_append_left _ (List.mem_append_right _ h))) (by decide +kernel))) (goodIn_sub (fun _ h => List.mem_append_left _ (List.mem_append_right _ h)) (by decide +kernel))) (goodIn_sub (fun _ h => List.mem_append_left _ (List.mem_append_left _ (List.mem_append_left _ (List.mem_append_right _ h)))) (by decide +kernel))
set_option maxRecDepth 20000 in
theorem gL_law_L_forbid : GoodIn wsL_law (va_wsS RL 188 yL_forbid wsL_forbid) := goodIn_app (goodIn_of _ (by decide +kernel)) ggL_law_L_forbid
set_option maxRecDepth 20000 in
theorem ggL_law_X12_forbid : GoodIn wsL_law wsX12_forbid := goodIn_r _ [1125, 223, 135, 138, 134, 113, 774, 775, 776, 5, 777, 111, 188, 189, 190, 225, 226, 227, 228, 1126, 1127, 1128, 1129, 162, 163, 164, 199, 200, 201, 202, 114, 139, 140, 141, 142, 136, 116, 143, 144, 145, 146, 147, 148, 149, 150, 151, 152, 153, 154, 155, 156, 157, 158, 159, 160, 161, 165, 166, 167, 168, 120, 169, 170, 171, 172, 173, 174, 175, 176, 177, 178, 179, 180, 181, 182, 183, 184, 185, 186, 187, 191, 192, 193, 194, 195, 196, 197, 198, 1130, 1131, 1132, 1133, 1297, 1298, 1299, 1300, 1301, 1302, 1303, 1304, 1305, 1306, 1307, 1308, 1309, 1310, 1311, 1312, 1313, 1314, 1315, 1316, 1317, 1318, 1319, 1320, 1321, 1322, 1323, 1324, 1325, 1326, 1327, 1328] (by decide +kernel) (by decide +kernel)
set_option maxRecDepth 20000 in
theorem gL_law_X12_forbid : GoodIn wsL_law (wsV RL 190 RX12 yX12_forbid wsX12_forbid) := goodIn_app (goodIn_of _ (by decide +kernel)) ggL_law_X12_forbid
set_option maxRecDepth 20000 in
theorem ggL_law_L_decide : GoodIn wsL_law wsL_decide := goodIn_ca (goodIn_ca (goodIn_ca (goodIn_r _ [1136, 236, 250, 207, 1137, 1138, 1139, 2, 1140, 241, 242, 255, 256, 212, 213, 21, 481, 261, 766, 767, 768, 769, 35, 258, 508, 509, 376, 510, 428, 429, 511, 375, 377, 745, 746, 747, 748, 749, 530, 531, 750, 536, 537, 538, 539, 540, 541, 490, 491, 492, 20, 493, 72, 69, 494, 495, 496, 497, 498, 499, 500, 501, 502, 503, 504, 505, 506, 507, 1141, 1142, 1143, 1144, 37, 1145, 1146, 1147, 1148, 71, 68, 1149, 1150, 1151, 602, 603, 604, 70, 605, 606, 607, 608, 609, 610, 611, 612, 613, 614, 615, 67, 616, 617, 618, 74, 619, 78, 79, 620, 468, 469, 470, 471, 472, 36, 26, 473, 474, 475, 34, 476, 60, 58, 477, 478, 479, 480, 482, 483, 484, 485, 92, 486, 97, 487, 488, 489, 512, 513, 514, 515, 516, 406, 407, 408, 517, 518, 95, 96, 519, 520, 521, 522, 455, 523, 524, 525, 526, 527, 528, 529, 532, 533, 534, 535, 542, 543, 388, 544, 545, 546, 547, 548, 549, 550, 392, 393, 551, 552, 553, 554, 555, 556, 557, 558, 559, 560, 561, 25, 562, 89, 563, 564, 565, 566, 440, 567, 444, 568, 569, 570, 445, 571, 446, 447, 572, 573, 574, 575, 576, 577, 578, 579, 580, 581, 582, 583, 584, 585, 586, 587, 588, 589, 590, 591, 592, 593, 394, 594, 425, 426, 427, 595, 596, 597, 598, 599, 600, 601, 621, 622, 623, 624, 31, 625, 626, 627, 628, 629, 630, 631, 632, 633, 634, 635, 636, 637, 415, 416, 405, 1288, 1289, 1290, 1291, 1292, 1293, 1294, 1295, 1296, 1339, 1340, 1341, 1342, 1343, 1344, 1355, 1356, 1357, 1358, 1359, 1360, 1361, 1362, 1363, 1364, 1365, 1366, 1367, 1368, 1369, 1370, 1371, 1372, 1373, 1374, 1375, 1376, 1345, 1346, 1347, 1348, 1349, 1377, 1378, 1379, 1380, 1381, 1382, 1383, 1384] (by decide +kernel) (by decide +kernel)) (goodIn_sub (fun _ h => List.mem_append_left _ (List.mem_append_left _ (List.mem_append_right _ h))) (by decide +kernel))) (goodIn_sub (fun _ h => List.mem_append_left _ (List.mem_append_right _ h)) (by decide +kernel))) (goodIn_sub (fun _ h => List.mem_append_left _ (List.mem_append_left _ (List.mem_append_left _ (List.mem_append_right _ h)))) (by decide +kernel))
set_option maxRecDepth 20000 in
theorem gL_law_L_decide : GoodIn wsL_law (va_wsS RL 191 yL_decide wsL_decide) := goodIn_app (goodIn_of _ (by decide +kernel)) ggL_law_L_decide
set_option maxRecDepth 20000 in
theorem ggL_law_X12_decide : GoodIn wsL_law wsX12_decide := goodIn_r _ [1155, 223, 137, 1156, 1157, 1158, 5, 1159, 113, 138, 774, 775, 776, 777, 111, 188, 189, 190, 225, 226, 227, 228, 1126, 1127, 1128, 1129, 162, 163, 164, 185, 186, 187, 1160, 1161, 1162, 1163, 134, 115, 135, 199, 200, 201, 202, 114, 139, 140, 141, 142, 136, 116, 143, 144, 145, 146, 147, 148, 149, 150, 151, 152, 153, 154, 155, 156, 157, 158, 159, 160, 161, 165, 166, 167, 168, 120, 169, 170, 171, 172, 173, 174, 175, 176, 177, 178, 179, 180, 181, 182, 183, 184, 191, 192, 193, 194, 195, 196, 197, 198, 1130, 1131, 1132, 1133, 1297, 1298, 1299, 1300, 1301, 1302, 1303, 1304, 1305, 1306, 1307, 1308, 1309, 1310, 1311, 1312, 1313, 1314, 1315, 1316, 1317, 1318, 1319, 1320, 1321, 1322, 1323, 1324, 1325, 1326, 1327, 1328] (by decide +kernel) (by decide +kernel)
set_option maxRecDepth 20000 in
theorem gL_law_X12_decide : GoodIn wsL_law (wsV RL 193 RX12 yX12_decide wsX12_decide) := goodIn_app (goodIn_of _ (by decide +kernel)) ggL_law_X12_decide
set_option maxRecDepth 20000 in
theorem ggL_law_L_back : GoodIn wsL_law wsL_back := goodIn_ca (goodIn_r _ [1166, 207, 1167, 1168, 1169, 2, 1170, 212, 213, 21, 740, 1171, 1172, 1173, 20, 1174, 70, 608, 71, 72, 612, 613, 614, 615, 67, 616, 617, 618, 74, 619, 78, 79, 620, 375, 376, 377, 1288, 1289, 1290, 1291, 1292, 1293, 1294, 1295, 1296, 1339, 1340, 1341, 1342, 1343, 1344, 1359, 1360, 1361, 1362, 1363, 1364, 1365] (by decide +kernel) (by decide +kernel)) (goodIn_sub (fun _ h => List.mem_append_left _ (List.mem_append_left _ (List.mem_append_left _ (List.mem_append_right _ h)))) (by decide +kernel))
set_option maxRecDepth 20000 in
theorem gL_law_L_back : GoodIn wsL_law (va_wsS RL 194 yL_back wsL_back) := goodIn_app (goodIn_of _ (by decide +kernel)) ggL_law_L_back
set_option maxRecDepth 20000 in
theorem ggL_law_X12_back : GoodIn wsL_law wsX12_back := goodIn_r _ [1178, 223, 135, 225, 226, 227, 5, 228, 1179, 1180, 1181, 1182, 134, 114, 113, 138, 1297, 1298, 1299, 1300, 1301, 1302, 1303, 1304, 1305, 1306, 1307, 1308, 1309, 1310, 1311, 1312, 1313, 1314, 1315, 1316, 1317, 1318, 1319, 1320, 1321, 1322, 1323, 1324, 1325, 1326, 1327, 1328] (by decide +kernel) (by decide +kernel)
set_option maxRecDepth 20000 in
theorem gL_law_X12_back : GoodIn wsL_law (wsV RL 196 RX12 yX12_back wsX12_back) := goodIn_app (goodIn_of _ (by decide +kernel)) ggL_law_X12_back
set_option maxRecDepth 20000 in
theorem ggL_law_L_decision : GoodIn wsL_law wsL_decision := goodIn_ca (goodIn_r _ [1185, 236, 1186, 1187, 1188, 2, 1189, 241, 242, 21, 740, 1190, 1191, 1192, 20, 1193, 71, 68, 1194, 1195, 376, 1196, 1288, 1289, 1290, 1291, 1292, 1293, 1294, 1295, 1296, 1339, 1340, 1341, 1342, 1343, 1344] (by decide +kernel) (by decide +kernel)) (goodIn_sub (fun _ h => List.mem_append_left _ (List.mem_append_left _ (List.mem_append_right _ h))) (by decide +kernel))
set_option maxRecDepth 20000 in
theorem gL_law_L_decision : GoodIn wsL_law (va_wsS RL 197 yL_decision wsL_decision) := goodIn_app (goodIn_of _ (by decide +kernel)) ggL_law_L_decision
set_option maxRecDepth 20000 in
theorem ggL_law_X12_decision : GoodIn wsL_law wsX12_decision := goodIn_r _ [1200, 223, 135, 115, 188, 189, 5, 190, 225, 226, 227, 228, 1297, 1298, 1299, 1300, 1301, 1302, 1303, 1304, 1305, 1306, 1307, 1308, 1309, 1310, 1311, 1312, 1313, 1314, 1315, 1316, 1317, 1318, 1319, 1320, 1321, 1322, 1323, 1324, 1325, 1326, 1327, 1328] (by decide +kernel) (by decide +kernel)
set_option maxRecDepth 20000 in
theorem gL_law_X12_decision : GoodIn wsL_law (wsV RL 199 RX12 yX12_decision wsX12_decision) := goodIn_app (goodIn_of _ (by decide +kernel)) ggL_law_X12_decision
set_option maxRecDepth 20000 in
theorem ggL_law_L_probe : GoodIn wsL_law wsL_probe := goodIn_ca (goodIn_ca (goodIn_ca (goodIn_r _ [1203, 236, 250, 207, 1204, 1205, 1206, 2, 1207, 241, 242, 255, 256, 212, 213, 21, 481, 22, 35, 258, 261, 766, 767, 768, 769, 508, 509, 376, 510, 428, 429, 511, 375, 377, 745, 746, 747, 748, 749, 530, 531, 750, 536, 537, 538, 539, 540, 541, 490, 491, 492, 20, 493, 72, 69, 494, 495, 496, 497, 498, 499, 500, 501, 502, 503, 504, 505, 506, 507, 464, 465, 466, 467, 70, 71, 1145, 1146, 1147, 1148, 68, 1149, 1150, 1151, 602, 603, 604, 605, 606, 607, 608, 609, 610, 611, 612, 613, 614, 615, 67, 616, 617, 618, 74, 619, 78, 79, 620, 468, 469, 470, 471, 472, 36, 26, 473, 474, 475, 34, 476, 60, 58, 477, 478, 479, 480, 482, 483, 484, 485, 92, 486, 97, 487, 488, 489, 512, 513, 514, 515, 516, 406, 407, 408, 517, 518, 95, 96, 519, 520, 521, 522, 455, 523, 524, 525, 526, 527, 528, 529, 532, 533, 534, 535, 542, 543, 388, 544, 545, 546, 547, 548, 549, 550, 392, 393, 551, 552, 553, 554, 555, 556, 557, 558, 559, 560, 561, 25, 562, 89, 563, 564, 565, 566, 440, 567, 444, 568, 569, 570, 445, 571, 446, 447, 572, 573, 574, 575, 576, 577, 578, 579, 580, 581, 582, 583, 584, 585, 586, 587, 588, 589, 590, 591, 592, 593, 394, 594, 425, 426, 427, 595, 596, 597, 598, 599, 600, 601, 621, 622, 623, 624, 31, 625, 626, 627, 628, 629, 630, 631, 632, 633, 634, 635, 636, 637, 415, 416, 405, 1288, 1289, 1290, 1291, 1292, 1293, 1294, 1295, 1296, 1339, 1340, 1341, 1342, 1343, 1344, 1355, 1356, 1357, 1358, 1359, 1360, 1361, 1362, 1363, 1364, 1365, 1366, 1367, 1368, 1369, 1370, 1371, 1372, 1373, 1374, 1375, 1376, 1345, 1346, 1347, 1348, 1349, 1377, 1378, 1379, 1380, 1381, 1382, 1383, 1384] (by decide +kernel) (by decide +kernel)) (goodIn_sub (fun _ h => List.mem_append_left _ (List.mem_append_left _ (List.mem_append_right _ h))) (by decide +kernel))) (goodIn_sub (fun _ h => List.mem_append_left _ (List.mem_append_right _ h)) (by decide +kernel))) (goodIn_sub (fun _ h => List.mem_append_left _ (List.mem_append_left _ (List.mem_append_left _ (List.mem_append_right _ h)))) (by decide +kernel))
set_option maxRecDepth 20000 in
theorem gL_law_L_probe : GoodIn wsL_law (va_wsS RL 200 yL_probe wsL_probe) := goodIn_app (goodIn_of _ (by decide +kernel)) ggL_law_L_probe
set_option maxRecDepth 20000 in
theorem ggL_law_X12_probe : GoodIn wsL_law wsX12_probe := goodIn_r _ [1211, 223, 138, 1156, 1157, 1158, 5, 1159, 113, 774, 775, 776, 777, 111, 188, 189, 190, 225, 226, 227, 228, 1126, 1127, 1128, 1129, 162, 163, 164, 185, 186, 187, 1160, 1161, 1162, 1163, 134, 115, 135, 199, 200, 201, 202, 114, 139, 140, 141, 142, 136, 116, 143, 144, 145, 146, 147, 148, 149, 150, 151, 152, 153, 154, 155, 156, 157, 158, 159, 160, 161, 165, 166, 167, 168, 120, 169, 170, 171, 172, 173, 174, 175, 176, 177, 178, 179, 180, 181, 182, 183, 184, 191, 192, 193, 194, 195, 196, 197, 198, 1130, 1131, 1132, 1133, 1179, 1180, 1181, 1182, 1297, 1298, 1299, 1300, 1301, 1302, 1303, 1304, 1305, 1306, 1307, 1308, 1309, 1310, 1311, 1312, 1313, 1314, 1315, 1316, 1317, 1318, 1319, 1320, 1321, 1322, 1323, 1324, 1325, 1326, 1327, 1328] (by decide +kernel) (by decide +kernel)
set_option maxRecDepth 20000 in
theorem gL_law_X12_probe : GoodIn wsL_law (wsV RL 202 RX12 yX12_probe wsX12_probe) := goodIn_app (goodIn_of _ (by decide +kernel)) ggL_law_X12_probe
set_option maxRecDepth 20000 in
theorem ggL_law_L_learn : GoodIn wsL_law wsL_learn := goodIn_ca (goodIn_r _ [1214, 207, 1215, 1216, 1217, 2, 1218, 212, 213, 21, 740, 490, 491, 492, 20, 493, 72, 69, 494, 495, 376, 496, 497, 498, 499, 500, 501, 502, 503, 504, 505, 506, 507, 1219, 1220, 1221, 1222, 35, 259, 862, 22, 258, 1190, 1191, 1192, 1193, 71, 68, 1223, 1224, 1225, 1226, 70, 608, 610, 612, 613, 614, 615, 67, 616, 617, 618, 74, 619, 78, 79, 620, 375, 377, 1227, 1228, 1229, 408, 515, 464, 465, 466, 467, 468, 469, 470, 471, 261, 472, 36, 26, 473, 474, 475, 34, 476, 60, 58, 477, 478, 479, 480, 481, 482, 483, 484, 485, 92, 486, 97, 487, 488, 489, 508, 509, 510, 428, 429, 511, 512, 513, 514, 516, 406, 407, 517, 518, 95, 96, 519, 520, 521, 522, 455, 523, 524, 525, 526, 527, 528, 529, 530, 531, 532, 533, 534, 535, 536, 537, 538, 539, 540, 541, 542, 543, 388, 544, 545, 546, 547, 548, 549, 550, 392, 393, 551, 552, 553, 554, 555, 556, 557, 558, 559, 560, 561, 25, 562, 89, 563, 564, 565, 566, 440, 567, 444, 568, 569, 570, 445, 571, 446, 447, 572, 573, 574, 575, 576, 577, 578, 579, 580, 581, 582, 583, 584, 585, 586, 587, 588, 589, 590, 591, 592, 593, 394, 594, 425, 426, 427, 595, 596, 597, 598, 599, 600, 601, 602, 603, 604, 605, 606, 607, 609, 611, 621, 622, 623, 624, 31, 625, 626, 627, 628, 629, 630, 631, 632, 633, 634, 635, 636, 637, 415, 416, 405, 1230, 1231, 1232, 1233, 1234, 1235, 1236, 1237, 1171, 1172, 1173, 1174, 873, 1288, 1289, 1290, 1291, 1292, 1293, 1294, 1295, 1296, 1339, 1340, 1341, 1342, 1343, 1344, 1355, 1356, 1357, 1358, 1359, 1360, 1361, 1362, 1363, 1364, 1365, 1366, 1367, 1368, 1369, 1370, 1371, 1372, 1373, 1374, 1375, 1376, 1345, 1346, 1347, 1348, 1349, 1377, 1378, 1379, 1380, 1381, 1382, 1383, 1384] (by decide +kernel) (by decide +kernel)) (goodIn_sub (fun _ h => List.mem_append_left _ (List.mem_append_left _ (List.mem_append_left _ (List.mem_append_right _ h)))) (by decide +kernel))
set_option maxRecDepth 20000 in
theorem gL_law_L_learn : GoodIn wsL_law (va_wsS RL 203 yL_learn wsL_learn) := goodIn_app (goodIn_of _ (by decide +kernel)) ggL_law_L_learn
set_option maxRecDepth 20000 in
theorem ggL_law_X12_learn : GoodIn wsL_law wsX12_learn := goodIn_r _ [1241, 223, 138, 135, 225, 226, 227, 5, 228, 1242, 1243, 1244, 1245, 115, 136, 116, 113, 1246, 1247, 1248, 1249, 129, 111, 134, 114, 162, 163, 164, 139, 140, 141, 142, 143, 144, 145, 146, 147, 148, 149, 150, 151, 152, 153, 154, 155, 156, 157, 158, 159, 160, 161, 165, 166, 167, 168, 120, 169, 170, 171, 172, 173, 174, 175, 176, 177, 178, 179, 180, 181, 182, 183, 184, 185, 186, 187, 188, 189, 190, 191, 192, 193, 194, 195, 196, 197, 198, 199, 200, 201, 202, 1179, 1180, 1181, 1182, 1297, 1298, 1299, 1300, 1301, 1302, 1303, 1304, 1305, 1306, 1307, 1308, 1309, 1310, 1311, 1312, 1313, 1314, 1315, 1316, 1317, 1318, 1319, 1320, 1321, 1322, 1323, 1324, 1325, 1326, 1327, 1328] (by decide +kernel) (by decide +kernel)
set_option maxRecDepth 20000 in
theorem gL_law_X12_learn : GoodIn wsL_law (wsV RL 205 RX12 yX12_learn wsX12_learn) := goodIn_app (goodIn_of _ (by decide +kernel)) ggL_law_X12_learn
set_option maxRecDepth 20000 in
theorem ggL_law_L_learnt : GoodIn wsL_law wsL_learnt := goodIn_ca (goodIn_r _ [1252, 236, 1253, 1254, 1255, 2, 1256, 241, 242, 36, 621, 622, 623, 624, 31, 873, 502, 503, 504, 505, 506, 507, 1194, 1195, 376, 1196, 1288, 1289, 1290, 1291, 1292, 1293, 1294, 1295, 1296] (by decide +kernel) (by decide +kernel)) (goodIn_sub (fun _ h => List.mem_append_left _ (List.mem_append_left _ (List.mem_append_right _ h))) (by decide +kernel))
set_option maxRecDepth 20000 in
theorem gL_law_L_learnt : GoodIn wsL_law (va_wsS RL 206 yL_learnt wsL_learnt) := goodIn_app (goodIn_of _ (by decide +kernel)) ggL_law_L_learnt
set_option maxRecDepth 20000 in
theorem ggL_law_X12_learnt : GoodIn wsL_law wsX12_learnt := goodIn_r _ [1260, 223, 136, 116, 188, 189, 5, 190, 225, 226, 227, 228, 147, 148, 149, 150, 151, 152, 153, 154, 111, 155, 156, 157, 158, 159, 160, 161, 1297, 1298, 1299, 1300, 1301, 1302, 1303, 1304, 1305, 1306, 1307, 1308, 1309, 1310, 1311, 1312, 1313, 1314, 1315, 1316, 1317, 1318, 1319, 1320, 1321, 1322, 1323, 1324, 1325, 1326, 1327, 1328] (by decide +kernel) (by decide +kernel)
set_option maxRecDepth 20000 in
theorem gL_law_X12_learnt : GoodIn wsL_law (wsV RL 208 RX12 yX12_learnt wsX12_learnt) := goodIn_app (goodIn_of _ (by decide +kernel)) ggL_law_X12_learnt
set_option maxRecDepth 20000 in
theorem ggL_law_L_search : GoodIn wsL_law wsL_search := goodIn_ca (goodIn_r _ [1263, 250, 1264, 1265, 1266, 2, 1267, 255, 256, 21, 740, 481, 490, 491, 492, 20, 493, 72, 69, 494, 495, 376, 496, 497, 498, 499, 500, 501, 502, 503, 504, 505, 506, 507, 1219, 1220, 1221, 1222, 35, 259, 862, 22, 258, 1190, 1191, 1192, 1193, 71, 68, 1223, 1224, 1225, 1226, 70, 608, 610, 612, 613, 614, 615, 67, 616, 617, 618, 74, 619, 78, 79, 620, 375, 377, 1227, 1228, 1229, 408, 515, 464, 465, 466, 467, 468, 469, 470, 471, 261, 472, 36, 26, 473, 474, 475, 34, 476, 60, 58, 477, 478, 479, 480, 482, 483, 484, 485, 92, 486, 97, 487, 488, 489, 508, 509, 510, 428, 429, 511, 512, 513, 514, 516, 406, 407, 517, 518, 95, 96, 519, 520, 521, 522, 455, 523, 524, 525, 526, 527, 528, 529, 530, 531, 532, 533, 534, 535, 536, 537, 538, 539, 540, 541, 542, 543, 388, 544, 545, 546, 547, 548, 549, 550, 392, 393, 551, 552, 553, 554, 555, 556, 557, 558, 559, 560, 561, 25, 562, 89, 563, 564, 565, 566, 440, 567, 444, 568, 569, 570, 445, 571, 446, 447, 572, 573, 574, 575, 576, 577, 578, 579, 580, 581, 582, 583, 584, 585, 586, 587, 588, 589, 590, 591, 592, 593, 394, 594, 425, 426, 427, 595, 596, 597, 598, 599, 600, 601, 602, 603, 604, 605, 606, 607, 609, 611, 621, 622, 623, 624, 31, 625, 626, 627, 628, 629, 630, 631, 632, 633, 634, 635, 636, 637, 415, 416, 405, 1230, 1231, 1232, 1233, 1234, 1235, 1236, 1237, 1171, 1172, 1173, 1174, 873, 1268, 1269, 1270, 1271, 749, 750, 949, 950, 951, 952, 1141, 1142, 1143, 1144, 37, 1145, 1146, 1147, 1148, 1149, 1150, 1151, 1288, 1289, 1290, 1291, 1292, 1293, 1294, 1295, 1296, 1339, 1340, 1341, 1342, 1343, 1344, 1355, 1356, 1357, 1358, 1359, 1360, 1361, 1362, 1363, 1364, 1365, 1366, 1367, 1368, 1369, 1370, 1371, 1372, 1373, 1374, 1375, 1376, 1345, 1346, 1347, 1348, 1349, 1377, 1378, 1379, 1380, 1381, 1382, 1383, 1384] (by decide +kernel) (by decide +kernel)) (goodIn_sub (fun _ h => List.mem_append_left _ (List.mem_append_right _ h)) (by decide +kernel))
set_option maxRecDepth 20000 in
theorem gL_law_L_search : GoodIn wsL_law (va_wsS RL 209 yL_search wsL_search) := goodIn_app (goodIn_of _ (by decide +kernel)) ggL_law_L_search
set_option maxRecDepth 20000 in
theorem ggL_law_X12_search : GoodIn wsL_law wsX12_search := goodIn_r _ [1275, 223, 138, 135, 137, 113, 188, 189, 5, 190, 225, 226, 227, 228, 1242, 1243, 1244, 1245, 115, 136, 116, 1246, 1247, 1248, 1249, 129, 111, 134, 114, 162, 163, 164, 139, 140, 141, 142, 143, 144, 145, 146, 147, 148, 149, 150, 151, 152, 153, 154, 155, 156, 157, 158, 159, 160, 161, 165, 166, 167, 168, 120, 169, 170, 171, 172, 173, 174, 175, 176, 177, 178, 179, 180, 181, 182, 183, 184, 185, 186, 187, 191, 192, 193, 194, 195, 196, 197, 198, 199, 200, 201, 202, 1179, 1180, 1181, 1182, 1276, 1277, 1278, 1279, 961, 962, 963, 1160, 1161, 1162, 1163, 1130, 1131, 1132, 1133, 1297, 1298, 1299, 1300, 1301, 1302, 1303, 1304, 1305, 1306, 1307, 1308, 1309, 1310, 1311, 1312, 1313, 1314, 1315, 1316, 1317, 1318, 1319, 1320, 1321, 1322, 1323, 1324, 1325, 1326, 1327, 1328] (by decide +kernel) (by decide +kernel)
set_option maxRecDepth 20000 in
theorem gL_law_X12_search : GoodIn wsL_law (wsV RL 211 RX12 yX12_search wsX12_search) := goodIn_app (goodIn_of _ (by decide +kernel)) ggL_law_X12_search
set_option maxRecDepth 20000 in
theorem ggL_law_X11_restart : GoodIn wsL_law wsX11_restart := goodIn_r _ [1283, 21, 740, 36, 1171, 1172, 1173, 20, 1174, 70, 608, 71, 72, 612, 613, 614, 615, 67, 616, 617, 618, 74, 619, 78, 79, 620, 375, 376, 377, 1288, 1289, 1290, 1291, 1292, 1293, 1294, 1295, 1296, 1339, 1340, 1341, 1342, 1343, 1344, 1359, 1360, 1361, 1362, 1363, 1364, 1365] (by decide +kernel) (by decide +kernel)
set_option maxRecDepth 20000 in
theorem gL_law_X11_restart : GoodIn wsL_law (wsV RL 212 RX11 yX11_restart wsX11_restart) := goodIn_app (goodIn_of _ (by decide +kernel)) ggL_law_X11_restart
set_option maxRecDepth 20000 in
theorem ggL_law_X12_restart : GoodIn wsL_law wsX12_restart := goodIn_r _ [1287, 223, 135, 136, 1179, 1180, 1181, 5, 1182, 134, 114, 113, 138, 1297, 1298, 1299, 1300, 1301, 1302, 1303, 1304, 1305, 1306, 1307, 1308, 1309, 1310, 1311, 1312, 1313, 1314, 1315, 1316, 1317, 1318, 1319, 1320, 1321, 1322, 1323, 1324, 1325, 1326, 1327, 1328] (by decide +kernel) (by decide +kernel)
set_option maxRecDepth 20000 in
theorem gL_law_X12_restart : GoodIn wsL_law (wsV RL 215 RX12 yX12_restart wsX12_restart) := goodIn_app (goodIn_of _ (by decide +kernel)) ggL_law_X12_restart
theorem dL_law_0 : decode cL_law 0 = .ok (.new 8, 3) := by decide +kernel
theorem dL_law_3 : decode cL_law 3 = .ok (.dup, 1) := by decide +kernel
theorem dL_law_4 : decode cL_law 4 = .ok (.invokespecial 102, 3) := by decide +kernel
theorem dL_law_7 : decode cL_law 7 = .ok (.astore_n 1, 1) := by decide +kernel
theorem dL_law_8 : decode cL_law 8 = .ok (.new 103, 3) := by decide +kernel
theorem dL_law_11 : decode cL_law 11 = .ok (.dup, 1) := by decide +kernel
theorem dL_law_12 : decode cL_law 12 = .ok (.invokespecial 105, 3) := by decide +kernel
theorem dL_law_15 : decode cL_law 15 = .ok (.astore_n 2, 1) := by decide +kernel
theorem dL_law_16 : decode cL_law 16 = .ok (.iconst 1, 1) := by decide +kernel
theorem dL_law_17 : decode cL_law 17 = .ok (.newarray .long, 2) := by decide +kernel
theorem dL_law_19 : decode cL_law 19 = .ok (.astore_n 3, 1) := by decide +kernel
theorem dL_law_20 : decode cL_law 20 = .ok (.iconst 1, 1) := by decide +kernel
theorem dL_law_21 : decode cL_law 21 = .ok (.newarray .double, 2) := by decide +kernel
theorem dL_law_23 : decode cL_law 23 = .ok (.astore 4, 2) := by decide +kernel
theorem dL_law_25 : decode cL_law 25 = .ok (.iconst 0, 1) := by decide +kernel
theorem dL_law_26 : decode cL_law 26 = .ok (.istore 5, 2) := by decide +kernel
theorem dL_law_28 : decode cL_law 28 = .ok (.iload 5, 2) := by decide +kernel
theorem dL_law_30 : decode cL_law 30 = .ok (.aload_n 0, 1) := by decide +kernel
theorem dL_law_31 : decode cL_law 31 = .ok (.arraylength, 1) := by decide +kernel
theorem dL_law_32 : decode cL_law 32 = .ok (.bipush 6, 2) := by decide +kernel
theorem dL_law_34 : decode cL_law 34 = .ok (.isub, 1) := by decide +kernel
theorem dL_law_35 : decode cL_law 35 = .ok (.if_icmp .gt 1884, 3) := by decide +kernel
theorem dL_law_38 : decode cL_law 38 = .ok (.aload_n 0, 1) := by decide +kernel
theorem dL_law_39 : decode cL_law 39 = .ok (.iload 5, 2) := by decide +kernel
theorem dL_law_41 : decode cL_law 41 = .ok (.iaload, 1) := by decide +kernel
theorem dL_law_42 : decode cL_law 42 = .ok (.bipush 31, 2) := by decide +kernel
theorem dL_law_44 : decode cL_law 44 = .ok (.iand, 1) := by decide +kernel
theorem dL_law_45 : decode cL_law 45 = .ok (.tableswitch 1868 0 30 #[139, 243, 299, 343, 356, 369, 425, 481, 549, 617, 685, 741, 809, 865, 952, 1044, 1112, 1168, 1245, 1258, 1314, 1370, 1383, 1451, 1519, 1563, 1619, 1687, 1731, 1799, 1855], 139) := by decide +kernel
theorem dL_law_184 : decode cL_law 184 = .ok (.aload_n 1, 1) := by decide +kernel
theorem dL_law_185 : decode cL_law 185 = .ok (.aload_n 0, 1) := by decide +kernel
theorem dL_law_186 : decode cL_law 186 = .ok (.iload 5, 2) := by decide +kernel
theorem dL_law_188 : decode cL_law 188 = .ok (.iconst 1, 1) := by decide +kernel
theorem dL_law_189 : decode cL_law 189 = .ok (.iadd, 1) := by decide +kernel
theorem dL_law_190 : decode cL_law 190 = .ok (.iaload, 1) := by decide +kernel
theorem dL_law_191 : decode cL_law 191 = .ok (.aload_n 0, 1) := by decide +kernel
theorem dL_law_192 : decode cL_law 192 = .ok (.iload 5, 2) := by decide +kernel
theorem dL_law_194 : decode cL_law 194 = .ok (.iconst 2, 1) := by decide +kernel
theorem dL_law_195 : decode cL_law 195 = .ok (.iadd, 1) := by decide +kernel
theorem dL_law_196 : decode cL_law 196 = .ok (.iaload, 1) := by decide +kernel
theorem dL_law_197 : decode cL_law 197 = .ok (.aload_n 0, 1) := by decide +kernel
theorem dL_law_198 : decode cL_law 198 = .ok (.iload 5, 2) := by decide +kernel
theorem dL_law_200 : decode cL_law 200 = .ok (.iconst 3, 1) := by decide +kernel
theorem dL_law_201 : decode cL_law 201 = .ok (.iadd, 1) := by decide +kernel
theorem dL_law_202 : decode cL_law 202 = .ok (.iaload, 1) := by decide +kernel
theorem dL_law_203 : decode cL_law 203 = .ok (.aload_n 0, 1) := by decide +kernel
theorem dL_law_204 : decode cL_law 204 = .ok (.iload 5, 2) := by decide +kernel
theorem dL_law_206 : decode cL_law 206 = .ok (.iconst 4, 1) := by decide +kernel
theorem dL_law_207 : decode cL_law 207 = .ok (.iadd, 1) := by decide +kernel
theorem dL_law_208 : decode cL_law 208 = .ok (.iaload, 1) := by decide +kernel
theorem dL_law_209 : decode cL_law 209 = .ok (.aload_n 0, 1) := by decide +kernel
theorem dL_law_210 : decode cL_law 210 = .ok (.iload 5, 2) := by decide +kernel
theorem dL_law_212 : decode cL_law 212 = .ok (.iconst 5, 1) := by decide +kernel
theorem dL_law_213 : decode cL_law 213 = .ok (.iadd, 1) := by decide +kernel
theorem dL_law_214 : decode cL_law 214 = .ok (.iaload, 1) := by decide +kernel
theorem dL_law_215 : decode cL_law 215 = .ok (.aload_n 3, 1) := by decide +kernel
theorem dL_law_216 : decode cL_law 216 = .ok (.invokestatic 106, 3) := by decide +kernel
theorem dL_law_219 : decode cL_law 219 = .ok (.istore 6, 2) := by decide +kernel
theorem dL_law_221 : decode cL_law 221 = .ok (.aload_n 2, 1) := by decide +kernel
theorem dL_law_222 : decode cL_law 222 = .ok (.aload_n 0, 1) := by decide +kernel
theorem dL_law_223 : decode cL_law 223 = .ok (.iload 5, 2) := by decide +kernel
theorem dL_law_225 : decode cL_law 225 = .ok (.iconst 1, 1) := by decide +kernel
theorem dL_law_226 : decode cL_law 226 = .ok (.iadd, 1) := by decide +kernel
theorem dL_law_227 : decode cL_law 227 = .ok (.iaload, 1) := by decide +kernel
theorem dL_law_228 : decode cL_law 228 = .ok (.aload_n 0, 1) := by decide +kernel
theorem dL_law_229 : decode cL_law 229 = .ok (.iload 5, 2) := by decide +kernel
theorem dL_law_231 : decode cL_law 231 = .ok (.iconst 2, 1) := by decide +kernel
theorem dL_law_232 : decode cL_law 232 = .ok (.iadd, 1) := by decide +kernel
theorem dL_law_233 : decode cL_law 233 = .ok (.iaload, 1) := by decide +kernel
theorem dL_law_234 : decode cL_law 234 = .ok (.aload_n 0, 1) := by decide +kernel
theorem dL_law_235 : decode cL_law 235 = .ok (.iload 5, 2) := by decide +kernel
theorem dL_law_237 : decode cL_law 237 = .ok (.iconst 3, 1) := by decide +kernel
theorem dL_law_238 : decode cL_law 238 = .ok (.iadd, 1) := by decide +kernel
theorem dL_law_239 : decode cL_law 239 = .ok (.iaload, 1) := by decide +kernel
theorem dL_law_240 : decode cL_law 240 = .ok (.aload_n 0, 1) := by decide +kernel
theorem dL_law_241 : decode cL_law 241 = .ok (.iload 5, 2) := by decide +kernel
theorem dL_law_243 : decode cL_law 243 = .ok (.iconst 4, 1) := by decide +kernel
theorem dL_law_244 : decode cL_law 244 = .ok (.iadd, 1) := by decide +kernel
theorem dL_law_245 : decode cL_law 245 = .ok (.iaload, 1) := by decide +kernel
theorem dL_law_246 : decode cL_law 246 = .ok (.aload_n 0, 1) := by decide +kernel
theorem dL_law_247 : decode cL_law 247 = .ok (.iload 5, 2) := by decide +kernel
theorem dL_law_249 : decode cL_law 249 = .ok (.iconst 5, 1) := by decide +kernel
theorem dL_law_250 : decode cL_law 250 = .ok (.iadd, 1) := by decide +kernel
theorem dL_law_251 : decode cL_law 251 = .ok (.iaload, 1) := by decide +kernel
theorem dL_law_252 : decode cL_law 252 = .ok (.invokevirtual 111, 3) := by decide +kernel
theorem dL_law_255 : decode cL_law 255 = .ok (.istore 7, 2) := by decide +kernel
theorem dL_law_257 : decode cL_law 257 = .ok (.aload_n 2, 1) := by decide +kernel
theorem dL_law_258 : decode cL_law 258 = .ok (.invokevirtual 112, 3) := by decide +kernel
theorem dL_law_261 : decode cL_law 261 = .ok (.iload 6, 2) := by decide +kernel
theorem dL_law_263 : decode cL_law 263 = .ok (.if_icmp .eq 5, 3) := by decide +kernel
theorem dL_law_266 : decode cL_law 266 = .ok (.iconst 0, 1) := by decide +kernel
theorem dL_law_267 : decode cL_law 267 = .ok (.ireturn, 1) := by decide +kernel
theorem dL_law_268 : decode cL_law 268 = .ok (.iload 6, 2) := by decide +kernel
theorem dL_law_270 : decode cL_law 270 = .ok (.ifCond .ne 15, 3) := by decide +kernel
theorem dL_law_273 : decode cL_law 273 = .ok (.aload_n 3, 1) := by decide +kernel
theorem dL_law_274 : decode cL_law 274 = .ok (.iconst 0, 1) := by decide +kernel
theorem dL_law_275 : decode cL_law 275 = .ok (.laload, 1) := by decide +kernel
theorem dL_law_276 : decode cL_law 276 = .ok (.iload 7, 2) := by decide +kernel
theorem dL_law_278 : decode cL_law 278 = .ok (.i2l, 1) := by decide +kernel
theorem dL_law_279 : decode cL_law 279 = .ok (.lcmp, 1) := by decide +kernel
theorem dL_law_280 : decode cL_law 280 = .ok (.ifCond .eq 5, 3) := by decide +kernel
theorem dL_law_283 : decode cL_law 283 = .ok (.iconst 0, 1) := by decide +kernel
theorem dL_law_284 : decode cL_law 284 = .ok (.ireturn, 1) := by decide +kernel
theorem dL_law_285 : decode cL_law 285 = .ok (.goto 1628, 3) := by decide +kernel
theorem dL_law_288 : decode cL_law 288 = .ok (.aload_n 1, 1) := by decide +kernel
theorem dL_law_289 : decode cL_law 289 = .ok (.aload_n 0, 1) := by decide +kernel
theorem dL_law_290 : decode cL_law 290 = .ok (.iload 5, 2) := by decide +kernel
theorem dL_law_292 : decode cL_law 292 = .ok (.iconst 1, 1) := by decide +kernel
theorem dL_law_293 : decode cL_law 293 = .ok (.iadd, 1) := by decide +kernel
theorem dL_law_294 : decode cL_law 294 = .ok (.iaload, 1) := by decide +kernel
theorem dL_law_295 : decode cL_law 295 = .ok (.aload_n 3, 1) := by decide +kernel
theorem dL_law_296 : decode cL_law 296 = .ok (.invokestatic 115, 3) := by decide +kernel
theorem dL_law_299 : decode cL_law 299 = .ok (.istore 6, 2) := by decide +kernel
theorem dL_law_301 : decode cL_law 301 = .ok (.aload_n 2, 1) := by decide +kernel
theorem dL_law_302 : decode cL_law 302 = .ok (.aload_n 0, 1) := by decide +kernel
theorem dL_law_303 : decode cL_law 303 = .ok (.iload 5, 2) := by decide +kernel
theorem dL_law_305 : decode cL_law 305 = .ok (.iconst 1, 1) := by decide +kernel
theorem dL_law_306 : decode cL_law 306 = .ok (.iadd, 1) := by decide +kernel
theorem dL_law_307 : decode cL_law 307 = .ok (.iaload, 1) := by decide +kernel
theorem dL_law_308 : decode cL_law 308 = .ok (.invokevirtual 118, 3) := by decide +kernel
theorem dL_law_311 : decode cL_law 311 = .ok (.istore 7, 2) := by decide +kernel
theorem dL_law_313 : decode cL_law 313 = .ok (.aload_n 2, 1) := by decide +kernel
theorem dL_law_314 : decode cL_law 314 = .ok (.invokevirtual 112, 3) := by decide +kernel
theorem dL_law_317 : decode cL_law 317 = .ok (.iload 6, 2) := by decide +kernel
theorem dL_law_319 : decode cL_law 319 = .ok (.if_icmp .eq 5, 3) := by decide +kernel
theorem dL_law_322 : decode cL_law 322 = .ok (.iconst 0, 1) := by decide +kernel
theorem dL_law_323 : decode cL_law 323 = .ok (.ireturn, 1) := by decide +kernel
theorem dL_law_324 : decode cL_law 324 = .ok (.iload 6, 2) := by decide +kernel
theorem dL_law_326 : decode cL_law 326 = .ok (.ifCond .ne 15, 3) := by decide +kernel
theorem dL_law_329 : decode cL_law 329 = .ok (.aload_n 3, 1) := by decide +kernel
theorem dL_law_330 : decode cL_law 330 = .ok (.iconst 0, 1) := by decide +kernel
theorem dL_law_331 : decode cL_law 331 = .ok (.laload, 1) := by decide +kernel
theorem dL_law_332 : decode cL_law 332 = .ok (.iload 7, 2) := by decide +kernel
theorem dL_law_334 : decode cL_law 334 = .ok (.i2l, 1) := by decide +kernel
theorem dL_law_335 : decode cL_law 335 = .ok (.lcmp, 1) := by decide +kernel
theorem dL_law_336 : decode cL_law 336 = .ok (.ifCond .eq 5, 3) := by decide +kernel
theorem dL_law_339 : decode cL_law 339 = .ok (.iconst 0, 1) := by decide +kernel
theorem dL_law_340 : decode cL_law 340 = .ok (.ireturn, 1) := by decide +kernel
theorem dL_law_341 : decode cL_law 341 = .ok (.goto 1572, 3) := by decide +kernel
theorem dL_law_344 : decode cL_law 344 = .ok (.aload_n 1, 1) := by decide +kernel
theorem dL_law_345 : decode cL_law 345 = .ok (.aload_n 3, 1) := by decide +kernel
theorem dL_law_346 : decode cL_law 346 = .ok (.invokestatic 119, 3) := by decide +kernel
theorem dL_law_349 : decode cL_law 349 = .ok (.istore 6, 2) := by decide +kernel
theorem dL_law_351 : decode cL_law 351 = .ok (.aload_n 2, 1) := by decide +kernel
theorem dL_law_352 : decode cL_law 352 = .ok (.invokevirtual 122, 3) := by decide +kernel
theorem dL_law_355 : decode cL_law 355 = .ok (.istore 7, 2) := by decide +kernel
theorem dL_law_357 : decode cL_law 357 = .ok (.aload_n 2, 1) := by decide +kernel
theorem dL_law_358 : decode cL_law 358 = .ok (.invokevirtual 112, 3) := by decide +kernel
theorem dL_law_361 : decode cL_law 361 = .ok (.iload 6, 2) := by decide +kernel
theorem dL_law_363 : decode cL_law 363 = .ok (.if_icmp .eq 5, 3) := by decide +kernel
theorem dL_law_366 : decode cL_law 366 = .ok (.iconst 0, 1) := by decide +kernel
theorem dL_law_367 : decode cL_law 367 = .ok (.ireturn, 1) := by decide +kernel
theorem dL_law_368 : decode cL_law 368 = .ok (.iload 6, 2) := by decide +kernel
theorem dL_law_370 : decode cL_law 370 = .ok (.ifCond .ne 15, 3) := by decide +kernel
theorem dL_law_373 : decode cL_law 373 = .ok (.aload_n 3, 1) := by decide +kernel
theorem dL_law_374 : decode cL_law 374 = .ok (.iconst 0, 1) := by decide +kernel
theorem dL_law_375 : decode cL_law 375 = .ok (.laload, 1) := by decide +kernel
theorem dL_law_376 : decode cL_law 376 = .ok (.iload 7, 2) := by decide +kernel
theorem dL_law_378 : decode cL_law 378 = .ok (.i2l, 1) := by decide +kernel
theorem dL_law_379 : decode cL_law 379 = .ok (.lcmp, 1) := by decide +kernel
theorem dL_law_380 : decode cL_law 380 = .ok (.ifCond .eq 5, 3) := by decide +kernel
theorem dL_law_383 : decode cL_law 383 = .ok (.iconst 0, 1) := by decide +kernel
theorem dL_law_384 : decode cL_law 384 = .ok (.ireturn, 1) := by decide +kernel
theorem dL_law_385 : decode cL_law 385 = .ok (.goto 1528, 3) := by decide +kernel
theorem dL_law_388 : decode cL_law 388 = .ok (.aload_n 1, 1) := by decide +kernel
theorem dL_law_389 : decode cL_law 389 = .ok (.invokevirtual 123, 3) := by decide +kernel
theorem dL_law_392 : decode cL_law 392 = .ok (.aload_n 2, 1) := by decide +kernel
theorem dL_law_393 : decode cL_law 393 = .ok (.invokevirtual 126, 3) := by decide +kernel
theorem dL_law_396 : decode cL_law 396 = .ok (.if_icmp .eq 1517, 3) := by decide +kernel
theorem dL_law_399 : decode cL_law 399 = .ok (.iconst 0, 1) := by decide +kernel
theorem dL_law_400 : decode cL_law 400 = .ok (.ireturn, 1) := by decide +kernel
theorem dL_law_401 : decode cL_law 401 = .ok (.aload_n 1, 1) := by decide +kernel
theorem dL_law_402 : decode cL_law 402 = .ok (.invokevirtual 127, 3) := by decide +kernel
theorem dL_law_405 : decode cL_law 405 = .ok (.aload_n 2, 1) := by decide +kernel
theorem dL_law_406 : decode cL_law 406 = .ok (.invokevirtual 130, 3) := by decide +kernel
theorem dL_law_409 : decode cL_law 409 = .ok (.if_icmp .eq 1504, 3) := by decide +kernel
theorem dL_law_412 : decode cL_law 412 = .ok (.iconst 0, 1) := by decide +kernel
theorem dL_law_413 : decode cL_law 413 = .ok (.ireturn, 1) := by decide +kernel
theorem dL_law_414 : decode cL_law 414 = .ok (.aload_n 1, 1) := by decide +kernel
theorem dL_law_415 : decode cL_law 415 = .ok (.aload_n 0, 1) := by decide +kernel
theorem dL_law_416 : decode cL_law 416 = .ok (.iload 5, 2) := by decide +kernel
theorem dL_law_418 : decode cL_law 418 = .ok (.iconst 1, 1) := by decide +kernel
theorem dL_law_419 : decode cL_law 419 = .ok (.iadd, 1) := by decide +kernel
theorem dL_law_420 : decode cL_law 420 = .ok (.iaload, 1) := by decide +kernel
theorem dL_law_421 : decode cL_law 421 = .ok (.aload_n 3, 1) := by decide +kernel
theorem dL_law_422 : decode cL_law 422 = .ok (.invokestatic 131, 3) := by decide +kernel
theorem dL_law_425 : decode cL_law 425 = .ok (.istore 6, 2) := by decide +kernel
theorem dL_law_427 : decode cL_law 427 = .ok (.aload_n 2, 1) := by decide +kernel
theorem dL_law_428 : decode cL_law 428 = .ok (.aload_n 0, 1) := by decide +kernel
theorem dL_law_429 : decode cL_law 429 = .ok (.iload 5, 2) := by decide +kernel
theorem dL_law_431 : decode cL_law 431 = .ok (.iconst 1, 1) := by decide +kernel
theorem dL_law_432 : decode cL_law 432 = .ok (.iadd, 1) := by decide +kernel
theorem dL_law_433 : decode cL_law 433 = .ok (.iaload, 1) := by decide +kernel
theorem dL_law_434 : decode cL_law 434 = .ok (.invokevirtual 133, 3) := by decide +kernel
theorem dL_law_437 : decode cL_law 437 = .ok (.istore 7, 2) := by decide +kernel
theorem dL_law_439 : decode cL_law 439 = .ok (.aload_n 2, 1) := by decide +kernel
theorem dL_law_440 : decode cL_law 440 = .ok (.invokevirtual 112, 3) := by decide +kernel
theorem dL_law_443 : decode cL_law 443 = .ok (.iload 6, 2) := by decide +kernel
theorem dL_law_445 : decode cL_law 445 = .ok (.if_icmp .eq 5, 3) := by decide +kernel
theorem dL_law_448 : decode cL_law 448 = .ok (.iconst 0, 1) := by decide +kernel
theorem dL_law_449 : decode cL_law 449 = .ok (.ireturn, 1) := by decide +kernel
theorem dL_law_450 : decode cL_law 450 = .ok (.iload 6, 2) := by decide +kernel
theorem dL_law_452 : decode cL_law 452 = .ok (.ifCond .ne 15, 3) := by decide +kernel
theorem dL_law_455 : decode cL_law 455 = .ok (.aload_n 3, 1) := by decide +kernel
theorem dL_law_456 : decode cL_law 456 = .ok (.iconst 0, 1) := by decide +kernel
theorem dL_law_457 : decode cL_law 457 = .ok (.laload, 1) := by decide +kernel
theorem dL_law_458 : decode cL_law 458 = .ok (.iload 7, 2) := by decide +kernel
theorem dL_law_460 : decode cL_law 460 = .ok (.i2l, 1) := by decide +kernel
theorem dL_law_461 : decode cL_law 461 = .ok (.lcmp, 1) := by decide +kernel
theorem dL_law_462 : decode cL_law 462 = .ok (.ifCond .eq 5, 3) := by decide +kernel
theorem dL_law_465 : decode cL_law 465 = .ok (.iconst 0, 1) := by decide +kernel
theorem dL_law_466 : decode cL_law 466 = .ok (.ireturn, 1) := by decide +kernel
theorem dL_law_467 : decode cL_law 467 = .ok (.goto 1446, 3) := by decide +kernel
theorem dL_law_470 : decode cL_law 470 = .ok (.aload_n 1, 1) := by decide +kernel
theorem dL_law_471 : decode cL_law 471 = .ok (.aload_n 0, 1) := by decide +kernel
theorem dL_law_472 : decode cL_law 472 = .ok (.iload 5, 2) := by decide +kernel
theorem dL_law_474 : decode cL_law 474 = .ok (.iconst 1, 1) := by decide +kernel
theorem dL_law_475 : decode cL_law 475 = .ok (.iadd, 1) := by decide +kernel
theorem dL_law_476 : decode cL_law 476 = .ok (.iaload, 1) := by decide +kernel
theorem dL_law_477 : decode cL_law 477 = .ok (.aload_n 3, 1) := by decide +kernel
theorem dL_law_478 : decode cL_law 478 = .ok (.invokestatic 134, 3) := by decide +kernel
theorem dL_law_481 : decode cL_law 481 = .ok (.istore 6, 2) := by decide +kernel
theorem dL_law_483 : decode cL_law 483 = .ok (.aload_n 2, 1) := by decide +kernel
theorem dL_law_484 : decode cL_law 484 = .ok (.aload_n 0, 1) := by decide +kernel
theorem dL_law_485 : decode cL_law 485 = .ok (.iload 5, 2) := by decide +kernel
theorem dL_law_487 : decode cL_law 487 = .ok (.iconst 1, 1) := by decide +kernel
theorem dL_law_488 : decode cL_law 488 = .ok (.iadd, 1) := by decide +kernel
theorem dL_law_489 : decode cL_law 489 = .ok (.iaload, 1) := by decide +kernel
theorem dL_law_490 : decode cL_law 490 = .ok (.invokevirtual 136, 3) := by decide +kernel
theorem dL_law_493 : decode cL_law 493 = .ok (.istore 7, 2) := by decide +kernel
theorem dL_law_495 : decode cL_law 495 = .ok (.aload_n 2, 1) := by decide +kernel
theorem dL_law_496 : decode cL_law 496 = .ok (.invokevirtual 112, 3) := by decide +kernel
theorem dL_law_499 : decode cL_law 499 = .ok (.iload 6, 2) := by decide +kernel
theorem dL_law_501 : decode cL_law 501 = .ok (.if_icmp .eq 5, 3) := by decide +kernel
theorem dL_law_504 : decode cL_law 504 = .ok (.iconst 0, 1) := by decide +kernel
theorem dL_law_505 : decode cL_law 505 = .ok (.ireturn, 1) := by decide +kernel
theorem dL_law_506 : decode cL_law 506 = .ok (.iload 6, 2) := by decide +kernel
theorem dL_law_508 : decode cL_law 508 = .ok (.ifCond .ne 15, 3) := by decide +kernel
theorem dL_law_511 : decode cL_law 511 = .ok (.aload_n 3, 1) := by decide +kernel
theorem dL_law_512 : decode cL_law 512 = .ok (.iconst 0, 1) := by decide +kernel
theorem dL_law_513 : decode cL_law 513 = .ok (.laload, 1) := by decide +kernel
theorem dL_law_514 : decode cL_law 514 = .ok (.iload 7, 2) := by decide +kernel
theorem dL_law_516 : decode cL_law 516 = .ok (.i2l, 1) := by decide +kernel
theorem dL_law_517 : decode cL_law 517 = .ok (.lcmp, 1) := by decide +kernel
theorem dL_law_518 : decode cL_law 518 = .ok (.ifCond .eq 5, 3) := by decide +kernel
theorem dL_law_521 : decode cL_law 521 = .ok (.iconst 0, 1) := by decide +kernel
theorem dL_law_522 : decode cL_law 522 = .ok (.ireturn, 1) := by decide +kernel
theorem dL_law_523 : decode cL_law 523 = .ok (.goto 1390, 3) := by decide +kernel
theorem dL_law_526 : decode cL_law 526 = .ok (.aload_n 1, 1) := by decide +kernel
theorem dL_law_527 : decode cL_law 527 = .ok (.aload_n 0, 1) := by decide +kernel
theorem dL_law_528 : decode cL_law 528 = .ok (.iload 5, 2) := by decide +kernel
theorem dL_law_530 : decode cL_law 530 = .ok (.iconst 1, 1) := by decide +kernel
theorem dL_law_531 : decode cL_law 531 = .ok (.iadd, 1) := by decide +kernel
theorem dL_law_532 : decode cL_law 532 = .ok (.iaload, 1) := by decide +kernel
theorem dL_law_533 : decode cL_law 533 = .ok (.aload_n 0, 1) := by decide +kernel
theorem dL_law_534 : decode cL_law 534 = .ok (.iload 5, 2) := by decide +kernel
theorem dL_law_536 : decode cL_law 536 = .ok (.iconst 2, 1) := by decide +kernel
theorem dL_law_537 : decode cL_law 537 = .ok (.iadd, 1) := by decide +kernel
theorem dL_law_538 : decode cL_law 538 = .ok (.iaload, 1) := by decide +kernel
theorem dL_law_539 : decode cL_law 539 = .ok (.aload_n 3, 1) := by decide +kernel
theorem dL_law_540 : decode cL_law 540 = .ok (.invokestatic 137, 3) := by decide +kernel
theorem dL_law_543 : decode cL_law 543 = .ok (.istore 6, 2) := by decide +kernel
theorem dL_law_545 : decode cL_law 545 = .ok (.aload_n 2, 1) := by decide +kernel
theorem dL_law_546 : decode cL_law 546 = .ok (.aload_n 0, 1) := by decide +kernel
theorem dL_law_547 : decode cL_law 547 = .ok (.iload 5, 2) := by decide +kernel
theorem dL_law_549 : decode cL_law 549 = .ok (.iconst 1, 1) := by decide +kernel
theorem dL_law_550 : decode cL_law 550 = .ok (.iadd, 1) := by decide +kernel
theorem dL_law_551 : decode cL_law 551 = .ok (.iaload, 1) := by decide +kernel
theorem dL_law_552 : decode cL_law 552 = .ok (.aload_n 0, 1) := by decide +kernel
theorem dL_law_553 : decode cL_law 553 = .ok (.iload 5, 2) := by decide +kernel
theorem dL_law_555 : decode cL_law 555 = .ok (.iconst 2, 1) := by decide +kernel
theorem dL_law_556 : decode cL_law 556 = .ok (.iadd, 1) := by decide +kernel
theorem dL_law_557 : decode cL_law 557 = .ok (.iaload, 1) := by decide +kernel
theorem dL_law_558 : decode cL_law 558 = .ok (.invokevirtual 140, 3) := by decide +kernel
theorem dL_law_561 : decode cL_law 561 = .ok (.istore 7, 2) := by decide +kernel
theorem dL_law_563 : decode cL_law 563 = .ok (.aload_n 2, 1) := by decide +kernel
theorem dL_law_564 : decode cL_law 564 = .ok (.invokevirtual 112, 3) := by decide +kernel
theorem dL_law_567 : decode cL_law 567 = .ok (.iload 6, 2) := by decide +kernel
theorem dL_law_569 : decode cL_law 569 = .ok (.if_icmp .eq 5, 3) := by decide +kernel
theorem dL_law_572 : decode cL_law 572 = .ok (.iconst 0, 1) := by decide +kernel
theorem dL_law_573 : decode cL_law 573 = .ok (.ireturn, 1) := by decide +kernel
theorem dL_law_574 : decode cL_law 574 = .ok (.iload 6, 2) := by decide +kernel
theorem dL_law_576 : decode cL_law 576 = .ok (.ifCond .ne 15, 3) := by decide +kernel
theorem dL_law_579 : decode cL_law 579 = .ok (.aload_n 3, 1) := by decide +kernel
theorem dL_law_580 : decode cL_law 580 = .ok (.iconst 0, 1) := by decide +kernel
theorem dL_law_581 : decode cL_law 581 = .ok (.laload, 1) := by decide +kernel
theorem dL_law_582 : decode cL_law 582 = .ok (.iload 7, 2) := by decide +kernel
theorem dL_law_584 : decode cL_law 584 = .ok (.i2l, 1) := by decide +kernel
theorem dL_law_585 : decode cL_law 585 = .ok (.lcmp, 1) := by decide +kernel
theorem dL_law_586 : decode cL_law 586 = .ok (.ifCond .eq 5, 3) := by decide +kernel
theorem dL_law_589 : decode cL_law 589 = .ok (.iconst 0, 1) := by decide +kernel
theorem dL_law_590 : decode cL_law 590 = .ok (.ireturn, 1) := by decide +kernel
theorem dL_law_591 : decode cL_law 591 = .ok (.goto 1322, 3) := by decide +kernel
theorem dL_law_594 : decode cL_law 594 = .ok (.aload_n 1, 1) := by decide +kernel
theorem dL_law_595 : decode cL_law 595 = .ok (.aload_n 0, 1) := by decide +kernel
theorem dL_law_596 : decode cL_law 596 = .ok (.iload 5, 2) := by decide +kernel
theorem dL_law_598 : decode cL_law 598 = .ok (.iconst 1, 1) := by decide +kernel
theorem dL_law_599 : decode cL_law 599 = .ok (.iadd, 1) := by decide +kernel
theorem dL_law_600 : decode cL_law 600 = .ok (.iaload, 1) := by decide +kernel
theorem dL_law_601 : decode cL_law 601 = .ok (.aload_n 0, 1) := by decide +kernel
theorem dL_law_602 : decode cL_law 602 = .ok (.iload 5, 2) := by decide +kernel
theorem dL_law_604 : decode cL_law 604 = .ok (.iconst 2, 1) := by decide +kernel
theorem dL_law_605 : decode cL_law 605 = .ok (.iadd, 1) := by decide +kernel
theorem dL_law_606 : decode cL_law 606 = .ok (.iaload, 1) := by decide +kernel
theorem dL_law_607 : decode cL_law 607 = .ok (.aload_n 3, 1) := by decide +kernel
theorem dL_law_608 : decode cL_law 608 = .ok (.invokestatic 141, 3) := by decide +kernel
theorem dL_law_611 : decode cL_law 611 = .ok (.istore 6, 2) := by decide +kernel
theorem dL_law_613 : decode cL_law 613 = .ok (.aload_n 2, 1) := by decide +kernel
theorem dL_law_614 : decode cL_law 614 = .ok (.aload_n 0, 1) := by decide +kernel
theorem dL_law_615 : decode cL_law 615 = .ok (.iload 5, 2) := by decide +kernel
theorem dL_law_617 : decode cL_law 617 = .ok (.iconst 1, 1) := by decide +kernel
theorem dL_law_618 : decode cL_law 618 = .ok (.iadd, 1) := by decide +kernel
theorem dL_law_619 : decode cL_law 619 = .ok (.iaload, 1) := by decide +kernel
theorem dL_law_620 : decode cL_law 620 = .ok (.aload_n 0, 1) := by decide +kernel
theorem dL_law_621 : decode cL_law 621 = .ok (.iload 5, 2) := by decide +kernel
theorem dL_law_623 : decode cL_law 623 = .ok (.iconst 2, 1) := by decide +kernel
theorem dL_law_624 : decode cL_law 624 = .ok (.iadd, 1) := by decide +kernel
theorem dL_law_625 : decode cL_law 625 = .ok (.iaload, 1) := by decide +kernel
theorem dL_law_626 : decode cL_law 626 = .ok (.invokevirtual 143, 3) := by decide +kernel
theorem dL_law_629 : decode cL_law 629 = .ok (.istore 7, 2) := by decide +kernel
theorem dL_law_631 : decode cL_law 631 = .ok (.aload_n 2, 1) := by decide +kernel
theorem dL_law_632 : decode cL_law 632 = .ok (.invokevirtual 112, 3) := by decide +kernel
theorem dL_law_635 : decode cL_law 635 = .ok (.iload 6, 2) := by decide +kernel
theorem dL_law_637 : decode cL_law 637 = .ok (.if_icmp .eq 5, 3) := by decide +kernel
theorem dL_law_640 : decode cL_law 640 = .ok (.iconst 0, 1) := by decide +kernel
theorem dL_law_641 : decode cL_law 641 = .ok (.ireturn, 1) := by decide +kernel
theorem dL_law_642 : decode cL_law 642 = .ok (.iload 6, 2) := by decide +kernel
theorem dL_law_644 : decode cL_law 644 = .ok (.ifCond .ne 15, 3) := by decide +kernel
theorem dL_law_647 : decode cL_law 647 = .ok (.aload_n 3, 1) := by decide +kernel
theorem dL_law_648 : decode cL_law 648 = .ok (.iconst 0, 1) := by decide +kernel
theorem dL_law_649 : decode cL_law 649 = .ok (.laload, 1) := by decide +kernel
theorem dL_law_650 : decode cL_law 650 = .ok (.iload 7, 2) := by decide +kernel
theorem dL_law_652 : decode cL_law 652 = .ok (.i2l, 1) := by decide +kernel
theorem dL_law_653 : decode cL_law 653 = .ok (.lcmp, 1) := by decide +kernel
theorem dL_law_654 : decode cL_law 654 = .ok (.ifCond .eq 5, 3) := by decide +kernel
theorem dL_law_657 : decode cL_law 657 = .ok (.iconst 0, 1) := by decide +kernel
theorem dL_law_658 : decode cL_law 658 = .ok (.ireturn, 1) := by decide +kernel
theorem dL_law_659 : decode cL_law 659 = .ok (.goto 1254, 3) := by decide +kernel
theorem dL_law_662 : decode cL_law 662 = .ok (.aload_n 1, 1) := by decide +kernel
theorem dL_law_663 : decode cL_law 663 = .ok (.aload_n 0, 1) := by decide +kernel
theorem dL_law_664 : decode cL_law 664 = .ok (.iload 5, 2) := by decide +kernel
theorem dL_law_666 : decode cL_law 666 = .ok (.iconst 1, 1) := by decide +kernel
theorem dL_law_667 : decode cL_law 667 = .ok (.iadd, 1) := by decide +kernel
theorem dL_law_668 : decode cL_law 668 = .ok (.iaload, 1) := by decide +kernel
theorem dL_law_669 : decode cL_law 669 = .ok (.aload_n 0, 1) := by decide +kernel
theorem dL_law_670 : decode cL_law 670 = .ok (.iload 5, 2) := by decide +kernel
theorem dL_law_672 : decode cL_law 672 = .ok (.iconst 2, 1) := by decide +kernel
theorem dL_law_673 : decode cL_law 673 = .ok (.iadd, 1) := by decide +kernel
theorem dL_law_674 : decode cL_law 674 = .ok (.iaload, 1) := by decide +kernel
theorem dL_law_675 : decode cL_law 675 = .ok (.aload_n 3, 1) := by decide +kernel
theorem dL_law_676 : decode cL_law 676 = .ok (.invokestatic 144, 3) := by decide +kernel
theorem dL_law_679 : decode cL_law 679 = .ok (.istore 6, 2) := by decide +kernel
theorem dL_law_681 : decode cL_law 681 = .ok (.aload_n 2, 1) := by decide +kernel
theorem dL_law_682 : decode cL_law 682 = .ok (.aload_n 0, 1) := by decide +kernel
theorem dL_law_683 : decode cL_law 683 = .ok (.iload 5, 2) := by decide +kernel
theorem dL_law_685 : decode cL_law 685 = .ok (.iconst 1, 1) := by decide +kernel
theorem dL_law_686 : decode cL_law 686 = .ok (.iadd, 1) := by decide +kernel
theorem dL_law_687 : decode cL_law 687 = .ok (.iaload, 1) := by decide +kernel
theorem dL_law_688 : decode cL_law 688 = .ok (.aload_n 0, 1) := by decide +kernel
theorem dL_law_689 : decode cL_law 689 = .ok (.iload 5, 2) := by decide +kernel
theorem dL_law_691 : decode cL_law 691 = .ok (.iconst 2, 1) := by decide +kernel
theorem dL_law_692 : decode cL_law 692 = .ok (.iadd, 1) := by decide +kernel
theorem dL_law_693 : decode cL_law 693 = .ok (.iaload, 1) := by decide +kernel
theorem dL_law_694 : decode cL_law 694 = .ok (.invokevirtual 146, 3) := by decide +kernel
theorem dL_law_697 : decode cL_law 697 = .ok (.istore 7, 2) := by decide +kernel
theorem dL_law_699 : decode cL_law 699 = .ok (.aload_n 2, 1) := by decide +kernel
theorem dL_law_700 : decode cL_law 700 = .ok (.invokevirtual 112, 3) := by decide +kernel
theorem dL_law_703 : decode cL_law 703 = .ok (.iload 6, 2) := by decide +kernel
theorem dL_law_705 : decode cL_law 705 = .ok (.if_icmp .eq 5, 3) := by decide +kernel
theorem dL_law_708 : decode cL_law 708 = .ok (.iconst 0, 1) := by decide +kernel
theorem dL_law_709 : decode cL_law 709 = .ok (.ireturn, 1) := by decide +kernel
theorem dL_law_710 : decode cL_law 710 = .ok (.iload 6, 2) := by decide +kernel
theorem dL_law_712 : decode cL_law 712 = .ok (.ifCond .ne 15, 3) := by decide +kernel
theorem dL_law_715 : decode cL_law 715 = .ok (.aload_n 3, 1) := by decide +kernel
theorem dL_law_716 : decode cL_law 716 = .ok (.iconst 0, 1) := by decide +kernel
theorem dL_law_717 : decode cL_law 717 = .ok (.laload, 1) := by decide +kernel
theorem dL_law_718 : decode cL_law 718 = .ok (.iload 7, 2) := by decide +kernel
theorem dL_law_720 : decode cL_law 720 = .ok (.i2l, 1) := by decide +kernel
theorem dL_law_721 : decode cL_law 721 = .ok (.lcmp, 1) := by decide +kernel
theorem dL_law_722 : decode cL_law 722 = .ok (.ifCond .eq 5, 3) := by decide +kernel
theorem dL_law_725 : decode cL_law 725 = .ok (.iconst 0, 1) := by decide +kernel
theorem dL_law_726 : decode cL_law 726 = .ok (.ireturn, 1) := by decide +kernel
theorem dL_law_727 : decode cL_law 727 = .ok (.goto 1186, 3) := by decide +kernel
theorem dL_law_730 : decode cL_law 730 = .ok (.aload_n 1, 1) := by decide +kernel
theorem dL_law_731 : decode cL_law 731 = .ok (.aload_n 0, 1) := by decide +kernel
theorem dL_law_732 : decode cL_law 732 = .ok (.iload 5, 2) := by decide +kernel
theorem dL_law_734 : decode cL_law 734 = .ok (.iconst 1, 1) := by decide +kernel
theorem dL_law_735 : decode cL_law 735 = .ok (.iadd, 1) := by decide +kernel
theorem dL_law_736 : decode cL_law 736 = .ok (.iaload, 1) := by decide +kernel
theorem dL_law_737 : decode cL_law 737 = .ok (.aload_n 3, 1) := by decide +kernel
theorem dL_law_738 : decode cL_law 738 = .ok (.invokestatic 147, 3) := by decide +kernel
theorem dL_law_741 : decode cL_law 741 = .ok (.istore 6, 2) := by decide +kernel
theorem dL_law_743 : decode cL_law 743 = .ok (.aload_n 2, 1) := by decide +kernel
theorem dL_law_744 : decode cL_law 744 = .ok (.aload_n 0, 1) := by decide +kernel
theorem dL_law_745 : decode cL_law 745 = .ok (.iload 5, 2) := by decide +kernel
theorem dL_law_747 : decode cL_law 747 = .ok (.iconst 1, 1) := by decide +kernel
theorem dL_law_748 : decode cL_law 748 = .ok (.iadd, 1) := by decide +kernel
theorem dL_law_749 : decode cL_law 749 = .ok (.iaload, 1) := by decide +kernel
theorem dL_law_750 : decode cL_law 750 = .ok (.invokevirtual 149, 3) := by decide +kernel
theorem dL_law_753 : decode cL_law 753 = .ok (.istore 7, 2) := by decide +kernel
theorem dL_law_755 : decode cL_law 755 = .ok (.aload_n 2, 1) := by decide +kernel
theorem dL_law_756 : decode cL_law 756 = .ok (.invokevirtual 112, 3) := by decide +kernel
theorem dL_law_759 : decode cL_law 759 = .ok (.iload 6, 2) := by decide +kernel
theorem dL_law_761 : decode cL_law 761 = .ok (.if_icmp .eq 5, 3) := by decide +kernel
theorem dL_law_764 : decode cL_law 764 = .ok (.iconst 0, 1) := by decide +kernel
theorem dL_law_765 : decode cL_law 765 = .ok (.ireturn, 1) := by decide +kernel
theorem dL_law_766 : decode cL_law 766 = .ok (.iload 6, 2) := by decide +kernel
theorem dL_law_768 : decode cL_law 768 = .ok (.ifCond .ne 15, 3) := by decide +kernel
theorem dL_law_771 : decode cL_law 771 = .ok (.aload_n 3, 1) := by decide +kernel
theorem dL_law_772 : decode cL_law 772 = .ok (.iconst 0, 1) := by decide +kernel
theorem dL_law_773 : decode cL_law 773 = .ok (.laload, 1) := by decide +kernel
theorem dL_law_774 : decode cL_law 774 = .ok (.iload 7, 2) := by decide +kernel
theorem dL_law_776 : decode cL_law 776 = .ok (.i2l, 1) := by decide +kernel
theorem dL_law_777 : decode cL_law 777 = .ok (.lcmp, 1) := by decide +kernel
theorem dL_law_778 : decode cL_law 778 = .ok (.ifCond .eq 5, 3) := by decide +kernel
theorem dL_law_781 : decode cL_law 781 = .ok (.iconst 0, 1) := by decide +kernel
theorem dL_law_782 : decode cL_law 782 = .ok (.ireturn, 1) := by decide +kernel
theorem dL_law_783 : decode cL_law 783 = .ok (.goto 1130, 3) := by decide +kernel
theorem dL_law_786 : decode cL_law 786 = .ok (.aload_n 1, 1) := by decide +kernel
theorem dL_law_787 : decode cL_law 787 = .ok (.aload_n 0, 1) := by decide +kernel
theorem dL_law_788 : decode cL_law 788 = .ok (.iload 5, 2) := by decide +kernel
theorem dL_law_790 : decode cL_law 790 = .ok (.iconst 1, 1) := by decide +kernel
theorem dL_law_791 : decode cL_law 791 = .ok (.iadd, 1) := by decide +kernel
theorem dL_law_792 : decode cL_law 792 = .ok (.iaload, 1) := by decide +kernel
theorem dL_law_793 : decode cL_law 793 = .ok (.aload_n 0, 1) := by decide +kernel
theorem dL_law_794 : decode cL_law 794 = .ok (.iload 5, 2) := by decide +kernel
theorem dL_law_796 : decode cL_law 796 = .ok (.iconst 2, 1) := by decide +kernel
theorem dL_law_797 : decode cL_law 797 = .ok (.iadd, 1) := by decide +kernel
theorem dL_law_798 : decode cL_law 798 = .ok (.iaload, 1) := by decide +kernel
theorem dL_law_799 : decode cL_law 799 = .ok (.aload_n 3, 1) := by decide +kernel
theorem dL_law_800 : decode cL_law 800 = .ok (.invokestatic 150, 3) := by decide +kernel
theorem dL_law_803 : decode cL_law 803 = .ok (.istore 6, 2) := by decide +kernel
theorem dL_law_805 : decode cL_law 805 = .ok (.aload_n 2, 1) := by decide +kernel
theorem dL_law_806 : decode cL_law 806 = .ok (.aload_n 0, 1) := by decide +kernel
theorem dL_law_807 : decode cL_law 807 = .ok (.iload 5, 2) := by decide +kernel
theorem dL_law_809 : decode cL_law 809 = .ok (.iconst 1, 1) := by decide +kernel
theorem dL_law_810 : decode cL_law 810 = .ok (.iadd, 1) := by decide +kernel
theorem dL_law_811 : decode cL_law 811 = .ok (.iaload, 1) := by decide +kernel
theorem dL_law_812 : decode cL_law 812 = .ok (.aload_n 0, 1) := by decide +kernel
theorem dL_law_813 : decode cL_law 813 = .ok (.iload 5, 2) := by decide +kernel
theorem dL_law_815 : decode cL_law 815 = .ok (.iconst 2, 1) := by decide +kernel
theorem dL_law_816 : decode cL_law 816 = .ok (.iadd, 1) := by decide +kernel
theorem dL_law_817 : decode cL_law 817 = .ok (.iaload, 1) := by decide +kernel
theorem dL_law_818 : decode cL_law 818 = .ok (.invokevirtual 152, 3) := by decide +kernel
theorem dL_law_821 : decode cL_law 821 = .ok (.istore 7, 2) := by decide +kernel
theorem dL_law_823 : decode cL_law 823 = .ok (.aload_n 2, 1) := by decide +kernel
theorem dL_law_824 : decode cL_law 824 = .ok (.invokevirtual 112, 3) := by decide +kernel
theorem dL_law_827 : decode cL_law 827 = .ok (.iload 6, 2) := by decide +kernel
theorem dL_law_829 : decode cL_law 829 = .ok (.if_icmp .eq 5, 3) := by decide +kernel
theorem dL_law_832 : decode cL_law 832 = .ok (.iconst 0, 1) := by decide +kernel
theorem dL_law_833 : decode cL_law 833 = .ok (.ireturn, 1) := by decide +kernel
theorem dL_law_834 : decode cL_law 834 = .ok (.iload 6, 2) := by decide +kernel
theorem dL_law_836 : decode cL_law 836 = .ok (.ifCond .ne 15, 3) := by decide +kernel
theorem dL_law_839 : decode cL_law 839 = .ok (.aload_n 3, 1) := by decide +kernel
theorem dL_law_840 : decode cL_law 840 = .ok (.iconst 0, 1) := by decide +kernel
theorem dL_law_841 : decode cL_law 841 = .ok (.laload, 1) := by decide +kernel
theorem dL_law_842 : decode cL_law 842 = .ok (.iload 7, 2) := by decide +kernel
theorem dL_law_844 : decode cL_law 844 = .ok (.i2l, 1) := by decide +kernel
theorem dL_law_845 : decode cL_law 845 = .ok (.lcmp, 1) := by decide +kernel
theorem dL_law_846 : decode cL_law 846 = .ok (.ifCond .eq 5, 3) := by decide +kernel
theorem dL_law_849 : decode cL_law 849 = .ok (.iconst 0, 1) := by decide +kernel
theorem dL_law_850 : decode cL_law 850 = .ok (.ireturn, 1) := by decide +kernel
theorem dL_law_851 : decode cL_law 851 = .ok (.goto 1062, 3) := by decide +kernel
theorem dL_law_854 : decode cL_law 854 = .ok (.aload_n 1, 1) := by decide +kernel
theorem dL_law_855 : decode cL_law 855 = .ok (.aload_n 0, 1) := by decide +kernel
theorem dL_law_856 : decode cL_law 856 = .ok (.iload 5, 2) := by decide +kernel
theorem dL_law_858 : decode cL_law 858 = .ok (.iconst 1, 1) := by decide +kernel
theorem dL_law_859 : decode cL_law 859 = .ok (.iadd, 1) := by decide +kernel
theorem dL_law_860 : decode cL_law 860 = .ok (.iaload, 1) := by decide +kernel
theorem dL_law_861 : decode cL_law 861 = .ok (.aload_n 3, 1) := by decide +kernel
theorem dL_law_862 : decode cL_law 862 = .ok (.invokestatic 153, 3) := by decide +kernel
theorem dL_law_865 : decode cL_law 865 = .ok (.istore 6, 2) := by decide +kernel
theorem dL_law_867 : decode cL_law 867 = .ok (.aload_n 2, 1) := by decide +kernel
theorem dL_law_868 : decode cL_law 868 = .ok (.aload_n 0, 1) := by decide +kernel
theorem dL_law_869 : decode cL_law 869 = .ok (.iload 5, 2) := by decide +kernel
theorem dL_law_871 : decode cL_law 871 = .ok (.iconst 1, 1) := by decide +kernel
theorem dL_law_872 : decode cL_law 872 = .ok (.iadd, 1) := by decide +kernel
theorem dL_law_873 : decode cL_law 873 = .ok (.iaload, 1) := by decide +kernel
theorem dL_law_874 : decode cL_law 874 = .ok (.invokevirtual 155, 3) := by decide +kernel
theorem dL_law_877 : decode cL_law 877 = .ok (.istore 7, 2) := by decide +kernel
theorem dL_law_879 : decode cL_law 879 = .ok (.aload_n 2, 1) := by decide +kernel
theorem dL_law_880 : decode cL_law 880 = .ok (.invokevirtual 112, 3) := by decide +kernel
theorem dL_law_883 : decode cL_law 883 = .ok (.iload 6, 2) := by decide +kernel
theorem dL_law_885 : decode cL_law 885 = .ok (.if_icmp .eq 5, 3) := by decide +kernel
theorem dL_law_888 : decode cL_law 888 = .ok (.iconst 0, 1) := by decide +kernel
theorem dL_law_889 : decode cL_law 889 = .ok (.ireturn, 1) := by decide +kernel
theorem dL_law_890 : decode cL_law 890 = .ok (.iload 6, 2) := by decide +kernel
theorem dL_law_892 : decode cL_law 892 = .ok (.ifCond .ne 15, 3) := by decide +kernel
theorem dL_law_895 : decode cL_law 895 = .ok (.aload_n 3, 1) := by decide +kernel
theorem dL_law_896 : decode cL_law 896 = .ok (.iconst 0, 1) := by decide +kernel
theorem dL_law_897 : decode cL_law 897 = .ok (.laload, 1) := by decide +kernel
theorem dL_law_898 : decode cL_law 898 = .ok (.iload 7, 2) := by decide +kernel
theorem dL_law_900 : decode cL_law 900 = .ok (.i2l, 1) := by decide +kernel
theorem dL_law_901 : decode cL_law 901 = .ok (.lcmp, 1) := by decide +kernel
theorem dL_law_902 : decode cL_law 902 = .ok (.ifCond .eq 5, 3) := by decide +kernel
theorem dL_law_905 : decode cL_law 905 = .ok (.iconst 0, 1) := by decide +kernel
theorem dL_law_906 : decode cL_law 906 = .ok (.ireturn, 1) := by decide +kernel
theorem dL_law_907 : decode cL_law 907 = .ok (.goto 1006, 3) := by decide +kernel
theorem dL_law_910 : decode cL_law 910 = .ok (.aload_n 1, 1) := by decide +kernel
theorem dL_law_911 : decode cL_law 911 = .ok (.aload_n 0, 1) := by decide +kernel
theorem dL_law_912 : decode cL_law 912 = .ok (.iload 5, 2) := by decide +kernel
theorem dL_law_914 : decode cL_law 914 = .ok (.iconst 1, 1) := by decide +kernel
theorem dL_law_915 : decode cL_law 915 = .ok (.iadd, 1) := by decide +kernel
theorem dL_law_916 : decode cL_law 916 = .ok (.iaload, 1) := by decide +kernel
theorem dL_law_917 : decode cL_law 917 = .ok (.aload_n 0, 1) := by decide +kernel
theorem dL_law_918 : decode cL_law 918 = .ok (.iload 5, 2) := by decide +kernel
theorem dL_law_920 : decode cL_law 920 = .ok (.iconst 2, 1) := by decide +kernel
theorem dL_law_921 : decode cL_law 921 = .ok (.iadd, 1) := by decide +kernel
theorem dL_law_922 : decode cL_law 922 = .ok (.iaload, 1) := by decide +kernel
theorem dL_law_923 : decode cL_law 923 = .ok (.aload_n 0, 1) := by decide +kernel
theorem dL_law_924 : decode cL_law 924 = .ok (.iload 5, 2) := by decide +kernel
theorem dL_law_926 : decode cL_law 926 = .ok (.iconst 3, 1) := by decide +kernel
theorem dL_law_927 : decode cL_law 927 = .ok (.iadd, 1) := by decide +kernel
theorem dL_law_928 : decode cL_law 928 = .ok (.iaload, 1) := by decide +kernel
theorem dL_law_929 : decode cL_law 929 = .ok (.aload_n 3, 1) := by decide +kernel
theorem dL_law_930 : decode cL_law 930 = .ok (.invokestatic 156, 3) := by decide +kernel
theorem dL_law_933 : decode cL_law 933 = .ok (.istore 6, 2) := by decide +kernel
theorem dL_law_935 : decode cL_law 935 = .ok (.aload_n 2, 1) := by decide +kernel
theorem dL_law_936 : decode cL_law 936 = .ok (.aload_n 0, 1) := by decide +kernel
theorem dL_law_937 : decode cL_law 937 = .ok (.iload 5, 2) := by decide +kernel
theorem dL_law_939 : decode cL_law 939 = .ok (.iconst 1, 1) := by decide +kernel
theorem dL_law_940 : decode cL_law 940 = .ok (.iadd, 1) := by decide +kernel
theorem dL_law_941 : decode cL_law 941 = .ok (.iaload, 1) := by decide +kernel
theorem dL_law_942 : decode cL_law 942 = .ok (.aload_n 0, 1) := by decide +kernel
theorem dL_law_943 : decode cL_law 943 = .ok (.iload 5, 2) := by decide +kernel
theorem dL_law_945 : decode cL_law 945 = .ok (.iconst 2, 1) := by decide +kernel
theorem dL_law_946 : decode cL_law 946 = .ok (.iadd, 1) := by decide +kernel
theorem dL_law_947 : decode cL_law 947 = .ok (.iaload, 1) := by decide +kernel
theorem dL_law_948 : decode cL_law 948 = .ok (.aload_n 0, 1) := by decide +kernel
theorem dL_law_949 : decode cL_law 949 = .ok (.iload 5, 2) := by decide +kernel
theorem dL_law_951 : decode cL_law 951 = .ok (.iconst 3, 1) := by decide +kernel
theorem dL_law_952 : decode cL_law 952 = .ok (.iadd, 1) := by decide +kernel
theorem dL_law_953 : decode cL_law 953 = .ok (.iaload, 1) := by decide +kernel
theorem dL_law_954 : decode cL_law 954 = .ok (.invokevirtual 159, 3) := by decide +kernel
theorem dL_law_957 : decode cL_law 957 = .ok (.istore 7, 2) := by decide +kernel
theorem dL_law_959 : decode cL_law 959 = .ok (.aload_n 2, 1) := by decide +kernel
theorem dL_law_960 : decode cL_law 960 = .ok (.invokevirtual 112, 3) := by decide +kernel
theorem dL_law_963 : decode cL_law 963 = .ok (.iload 6, 2) := by decide +kernel
theorem dL_law_965 : decode cL_law 965 = .ok (.if_icmp .eq 5, 3) := by decide +kernel
theorem dL_law_968 : decode cL_law 968 = .ok (.iconst 0, 1) := by decide +kernel
theorem dL_law_969 : decode cL_law 969 = .ok (.ireturn, 1) := by decide +kernel
theorem dL_law_970 : decode cL_law 970 = .ok (.iload 6, 2) := by decide +kernel
theorem dL_law_972 : decode cL_law 972 = .ok (.ifCond .ne 22, 3) := by decide +kernel
theorem dL_law_975 : decode cL_law 975 = .ok (.aload_n 3, 1) := by decide +kernel
theorem dL_law_976 : decode cL_law 976 = .ok (.iconst 0, 1) := by decide +kernel
theorem dL_law_977 : decode cL_law 977 = .ok (.laload, 1) := by decide +kernel
theorem dL_law_978 : decode cL_law 978 = .ok (.iload 7, 2) := by decide +kernel
theorem dL_law_980 : decode cL_law 980 = .ok (.ifCond .eq 7, 3) := by decide +kernel
theorem dL_law_983 : decode cL_law 983 = .ok (.lconst 1, 1) := by decide +kernel
theorem dL_law_984 : decode cL_law 984 = .ok (.goto 4, 3) := by decide +kernel
theorem dL_law_987 : decode cL_law 987 = .ok (.lconst 0, 1) := by decide +kernel
theorem dL_law_988 : decode cL_law 988 = .ok (.lcmp, 1) := by decide +kernel
theorem dL_law_989 : decode cL_law 989 = .ok (.ifCond .eq 5, 3) := by decide +kernel
theorem dL_law_992 : decode cL_law 992 = .ok (.iconst 0, 1) := by decide +kernel
theorem dL_law_993 : decode cL_law 993 = .ok (.ireturn, 1) := by decide +kernel
theorem dL_law_994 : decode cL_law 994 = .ok (.goto 919, 3) := by decide +kernel
theorem dL_law_997 : decode cL_law 997 = .ok (.aload_n 1, 1) := by decide +kernel
theorem dL_law_998 : decode cL_law 998 = .ok (.aload_n 0, 1) := by decide +kernel
theorem dL_law_999 : decode cL_law 999 = .ok (.iload 5, 2) := by decide +kernel
theorem dL_law_1001 : decode cL_law 1001 = .ok (.iconst 1, 1) := by decide +kernel
theorem dL_law_1002 : decode cL_law 1002 = .ok (.iadd, 1) := by decide +kernel
theorem dL_law_1003 : decode cL_law 1003 = .ok (.iaload, 1) := by decide +kernel
theorem dL_law_1004 : decode cL_law 1004 = .ok (.aload_n 0, 1) := by decide +kernel
theorem dL_law_1005 : decode cL_law 1005 = .ok (.iload 5, 2) := by decide +kernel
theorem dL_law_1007 : decode cL_law 1007 = .ok (.iconst 2, 1) := by decide +kernel
theorem dL_law_1008 : decode cL_law 1008 = .ok (.iadd, 1) := by decide +kernel
theorem dL_law_1009 : decode cL_law 1009 = .ok (.iaload, 1) := by decide +kernel
theorem dL_law_1010 : decode cL_law 1010 = .ok (.aload_n 0, 1) := by decide +kernel
theorem dL_law_1011 : decode cL_law 1011 = .ok (.iload 5, 2) := by decide +kernel
theorem dL_law_1013 : decode cL_law 1013 = .ok (.iconst 3, 1) := by decide +kernel
theorem dL_law_1014 : decode cL_law 1014 = .ok (.iadd, 1) := by decide +kernel
theorem dL_law_1015 : decode cL_law 1015 = .ok (.iaload, 1) := by decide +kernel
theorem dL_law_1016 : decode cL_law 1016 = .ok (.aload_n 0, 1) := by decide +kernel
theorem dL_law_1017 : decode cL_law 1017 = .ok (.iload 5, 2) := by decide +kernel
theorem dL_law_1019 : decode cL_law 1019 = .ok (.iconst 4, 1) := by decide +kernel
theorem dL_law_1020 : decode cL_law 1020 = .ok (.iadd, 1) := by decide +kernel
theorem dL_law_1021 : decode cL_law 1021 = .ok (.iaload, 1) := by decide +kernel
theorem dL_law_1022 : decode cL_law 1022 = .ok (.aload_n 3, 1) := by decide +kernel
theorem dL_law_1023 : decode cL_law 1023 = .ok (.invokestatic 160, 3) := by decide +kernel
theorem dL_law_1026 : decode cL_law 1026 = .ok (.istore 6, 2) := by decide +kernel
theorem dL_law_1028 : decode cL_law 1028 = .ok (.aload_n 2, 1) := by decide +kernel
theorem dL_law_1029 : decode cL_law 1029 = .ok (.aload_n 0, 1) := by decide +kernel
theorem dL_law_1030 : decode cL_law 1030 = .ok (.iload 5, 2) := by decide +kernel
theorem dL_law_1032 : decode cL_law 1032 = .ok (.iconst 1, 1) := by decide +kernel
theorem dL_law_1033 : decode cL_law 1033 = .ok (.iadd, 1) := by decide +kernel
theorem dL_law_1034 : decode cL_law 1034 = .ok (.iaload, 1) := by decide +kernel
theorem dL_law_1035 : decode cL_law 1035 = .ok (.aload_n 0, 1) := by decide +kernel
theorem dL_law_1036 : decode cL_law 1036 = .ok (.iload 5, 2) := by decide +kernel
theorem dL_law_1038 : decode cL_law 1038 = .ok (.iconst 2, 1) := by decide +kernel
theorem dL_law_1039 : decode cL_law 1039 = .ok (.iadd, 1) := by decide +kernel
theorem dL_law_1040 : decode cL_law 1040 = .ok (.iaload, 1) := by decide +kernel
theorem dL_law_1041 : decode cL_law 1041 = .ok (.aload_n 0, 1) := by decide +kernel
theorem dL_law_1042 : decode cL_law 1042 = .ok (.iload 5, 2) := by decide +kernel
theorem dL_law_1044 : decode cL_law 1044 = .ok (.iconst 3, 1) := by decide +kernel
theorem dL_law_1045 : decode cL_law 1045 = .ok (.iadd, 1) := by decide +kernel
theorem dL_law_1046 : decode cL_law 1046 = .ok (.iaload, 1) := by decide +kernel
theorem dL_law_1047 : decode cL_law 1047 = .ok (.aload_n 0, 1) := by decide +kernel
theorem dL_law_1048 : decode cL_law 1048 = .ok (.iload 5, 2) := by decide +kernel
theorem dL_law_1050 : decode cL_law 1050 = .ok (.iconst 4, 1) := by decide +kernel
theorem dL_law_1051 : decode cL_law 1051 = .ok (.iadd, 1) := by decide +kernel
theorem dL_law_1052 : decode cL_law 1052 = .ok (.iaload, 1) := by decide +kernel
theorem dL_law_1053 : decode cL_law 1053 = .ok (.invokevirtual 163, 3) := by decide +kernel
theorem dL_law_1056 : decode cL_law 1056 = .ok (.istore 7, 2) := by decide +kernel
theorem dL_law_1058 : decode cL_law 1058 = .ok (.aload_n 2, 1) := by decide +kernel
theorem dL_law_1059 : decode cL_law 1059 = .ok (.invokevirtual 112, 3) := by decide +kernel
theorem dL_law_1062 : decode cL_law 1062 = .ok (.iload 6, 2) := by decide +kernel
theorem dL_law_1064 : decode cL_law 1064 = .ok (.if_icmp .eq 5, 3) := by decide +kernel
theorem dL_law_1067 : decode cL_law 1067 = .ok (.iconst 0, 1) := by decide +kernel
theorem dL_law_1068 : decode cL_law 1068 = .ok (.ireturn, 1) := by decide +kernel
theorem dL_law_1069 : decode cL_law 1069 = .ok (.iload 6, 2) := by decide +kernel
theorem dL_law_1071 : decode cL_law 1071 = .ok (.ifCond .ne 15, 3) := by decide +kernel
theorem dL_law_1074 : decode cL_law 1074 = .ok (.aload_n 3, 1) := by decide +kernel
theorem dL_law_1075 : decode cL_law 1075 = .ok (.iconst 0, 1) := by decide +kernel
theorem dL_law_1076 : decode cL_law 1076 = .ok (.laload, 1) := by decide +kernel
theorem dL_law_1077 : decode cL_law 1077 = .ok (.iload 7, 2) := by decide +kernel
theorem dL_law_1079 : decode cL_law 1079 = .ok (.i2l, 1) := by decide +kernel
theorem dL_law_1080 : decode cL_law 1080 = .ok (.lcmp, 1) := by decide +kernel
theorem dL_law_1081 : decode cL_law 1081 = .ok (.ifCond .eq 5, 3) := by decide +kernel
theorem dL_law_1084 : decode cL_law 1084 = .ok (.iconst 0, 1) := by decide +kernel
theorem dL_law_1085 : decode cL_law 1085 = .ok (.ireturn, 1) := by decide +kernel
theorem dL_law_1086 : decode cL_law 1086 = .ok (.goto 827, 3) := by decide +kernel
theorem dL_law_1089 : decode cL_law 1089 = .ok (.aload_n 1, 1) := by decide +kernel
theorem dL_law_1090 : decode cL_law 1090 = .ok (.aload_n 0, 1) := by decide +kernel
theorem dL_law_1091 : decode cL_law 1091 = .ok (.iload 5, 2) := by decide +kernel
theorem dL_law_1093 : decode cL_law 1093 = .ok (.iconst 1, 1) := by decide +kernel
theorem dL_law_1094 : decode cL_law 1094 = .ok (.iadd, 1) := by decide +kernel
theorem dL_law_1095 : decode cL_law 1095 = .ok (.iaload, 1) := by decide +kernel
theorem dL_law_1096 : decode cL_law 1096 = .ok (.aload_n 0, 1) := by decide +kernel
theorem dL_law_1097 : decode cL_law 1097 = .ok (.iload 5, 2) := by decide +kernel
theorem dL_law_1099 : decode cL_law 1099 = .ok (.iconst 2, 1) := by decide +kernel
theorem dL_law_1100 : decode cL_law 1100 = .ok (.iadd, 1) := by decide +kernel
theorem dL_law_1101 : decode cL_law 1101 = .ok (.iaload, 1) := by decide +kernel
theorem dL_law_1102 : decode cL_law 1102 = .ok (.aload_n 3, 1) := by decide +kernel
theorem dL_law_1103 : decode cL_law 1103 = .ok (.invokestatic 164, 3) := by decide +kernel
theorem dL_law_1106 : decode cL_law 1106 = .ok (.istore 6, 2) := by decide +kernel
theorem dL_law_1108 : decode cL_law 1108 = .ok (.aload_n 2, 1) := by decide +kernel
theorem dL_law_1109 : decode cL_law 1109 = .ok (.aload_n 0, 1) := by decide +kernel
theorem dL_law_1110 : decode cL_law 1110 = .ok (.iload 5, 2) := by decide +kernel
theorem dL_law_1112 : decode cL_law 1112 = .ok (.iconst 1, 1) := by decide +kernel
theorem dL_law_1113 : decode cL_law 1113 = .ok (.iadd, 1) := by decide +kernel
theorem dL_law_1114 : decode cL_law 1114 = .ok (.iaload, 1) := by decide +kernel
theorem dL_law_1115 : decode cL_law 1115 = .ok (.aload_n 0, 1) := by decide +kernel
theorem dL_law_1116 : decode cL_law 1116 = .ok (.iload 5, 2) := by decide +kernel
theorem dL_law_1118 : decode cL_law 1118 = .ok (.iconst 2, 1) := by decide +kernel
theorem dL_law_1119 : decode cL_law 1119 = .ok (.iadd, 1) := by decide +kernel
theorem dL_law_1120 : decode cL_law 1120 = .ok (.iaload, 1) := by decide +kernel
theorem dL_law_1121 : decode cL_law 1121 = .ok (.invokevirtual 166, 3) := by decide +kernel
theorem dL_law_1124 : decode cL_law 1124 = .ok (.istore 7, 2) := by decide +kernel
theorem dL_law_1126 : decode cL_law 1126 = .ok (.aload_n 2, 1) := by decide +kernel
theorem dL_law_1127 : decode cL_law 1127 = .ok (.invokevirtual 112, 3) := by decide +kernel
theorem dL_law_1130 : decode cL_law 1130 = .ok (.iload 6, 2) := by decide +kernel
theorem dL_law_1132 : decode cL_law 1132 = .ok (.if_icmp .eq 5, 3) := by decide +kernel
theorem dL_law_1135 : decode cL_law 1135 = .ok (.iconst 0, 1) := by decide +kernel
theorem dL_law_1136 : decode cL_law 1136 = .ok (.ireturn, 1) := by decide +kernel
theorem dL_law_1137 : decode cL_law 1137 = .ok (.iload 6, 2) := by decide +kernel
theorem dL_law_1139 : decode cL_law 1139 = .ok (.ifCond .ne 15, 3) := by decide +kernel
theorem dL_law_1142 : decode cL_law 1142 = .ok (.aload_n 3, 1) := by decide +kernel
theorem dL_law_1143 : decode cL_law 1143 = .ok (.iconst 0, 1) := by decide +kernel
theorem dL_law_1144 : decode cL_law 1144 = .ok (.laload, 1) := by decide +kernel
theorem dL_law_1145 : decode cL_law 1145 = .ok (.iload 7, 2) := by decide +kernel
theorem dL_law_1147 : decode cL_law 1147 = .ok (.i2l, 1) := by decide +kernel
theorem dL_law_1148 : decode cL_law 1148 = .ok (.lcmp, 1) := by decide +kernel
theorem dL_law_1149 : decode cL_law 1149 = .ok (.ifCond .eq 5, 3) := by decide +kernel
theorem dL_law_1152 : decode cL_law 1152 = .ok (.iconst 0, 1) := by decide +kernel
theorem dL_law_1153 : decode cL_law 1153 = .ok (.ireturn, 1) := by decide +kernel
theorem dL_law_1154 : decode cL_law 1154 = .ok (.goto 759, 3) := by decide +kernel
theorem dL_law_1157 : decode cL_law 1157 = .ok (.aload_n 1, 1) := by decide +kernel
theorem dL_law_1158 : decode cL_law 1158 = .ok (.aload_n 0, 1) := by decide +kernel
theorem dL_law_1159 : decode cL_law 1159 = .ok (.iload 5, 2) := by decide +kernel
theorem dL_law_1161 : decode cL_law 1161 = .ok (.iconst 1, 1) := by decide +kernel
theorem dL_law_1162 : decode cL_law 1162 = .ok (.iadd, 1) := by decide +kernel
theorem dL_law_1163 : decode cL_law 1163 = .ok (.iaload, 1) := by decide +kernel
theorem dL_law_1164 : decode cL_law 1164 = .ok (.aload_n 3, 1) := by decide +kernel
theorem dL_law_1165 : decode cL_law 1165 = .ok (.invokestatic 167, 3) := by decide +kernel
theorem dL_law_1168 : decode cL_law 1168 = .ok (.istore 6, 2) := by decide +kernel
theorem dL_law_1170 : decode cL_law 1170 = .ok (.aload_n 2, 1) := by decide +kernel
theorem dL_law_1171 : decode cL_law 1171 = .ok (.aload_n 0, 1) := by decide +kernel
theorem dL_law_1172 : decode cL_law 1172 = .ok (.iload 5, 2) := by decide +kernel
theorem dL_law_1174 : decode cL_law 1174 = .ok (.iconst 1, 1) := by decide +kernel
theorem dL_law_1175 : decode cL_law 1175 = .ok (.iadd, 1) := by decide +kernel
theorem dL_law_1176 : decode cL_law 1176 = .ok (.iaload, 1) := by decide +kernel
theorem dL_law_1177 : decode cL_law 1177 = .ok (.invokevirtual 169, 3) := by decide +kernel
theorem dL_law_1180 : decode cL_law 1180 = .ok (.istore 7, 2) := by decide +kernel
theorem dL_law_1182 : decode cL_law 1182 = .ok (.aload_n 2, 1) := by decide +kernel
theorem dL_law_1183 : decode cL_law 1183 = .ok (.invokevirtual 112, 3) := by decide +kernel
theorem dL_law_1186 : decode cL_law 1186 = .ok (.iload 6, 2) := by decide +kernel
theorem dL_law_1188 : decode cL_law 1188 = .ok (.if_icmp .eq 5, 3) := by decide +kernel
theorem dL_law_1191 : decode cL_law 1191 = .ok (.iconst 0, 1) := by decide +kernel
theorem dL_law_1192 : decode cL_law 1192 = .ok (.ireturn, 1) := by decide +kernel
theorem dL_law_1193 : decode cL_law 1193 = .ok (.iload 6, 2) := by decide +kernel
theorem dL_law_1195 : decode cL_law 1195 = .ok (.ifCond .ne 15, 3) := by decide +kernel
theorem dL_law_1198 : decode cL_law 1198 = .ok (.aload_n 3, 1) := by decide +kernel
theorem dL_law_1199 : decode cL_law 1199 = .ok (.iconst 0, 1) := by decide +kernel
theorem dL_law_1200 : decode cL_law 1200 = .ok (.laload, 1) := by decide +kernel
theorem dL_law_1201 : decode cL_law 1201 = .ok (.iload 7, 2) := by decide +kernel
theorem dL_law_1203 : decode cL_law 1203 = .ok (.i2l, 1) := by decide +kernel
theorem dL_law_1204 : decode cL_law 1204 = .ok (.lcmp, 1) := by decide +kernel
theorem dL_law_1205 : decode cL_law 1205 = .ok (.ifCond .eq 5, 3) := by decide +kernel
theorem dL_law_1208 : decode cL_law 1208 = .ok (.iconst 0, 1) := by decide +kernel
theorem dL_law_1209 : decode cL_law 1209 = .ok (.ireturn, 1) := by decide +kernel
theorem dL_law_1210 : decode cL_law 1210 = .ok (.goto 703, 3) := by decide +kernel
theorem dL_law_1213 : decode cL_law 1213 = .ok (.aload_n 1, 1) := by decide +kernel
theorem dL_law_1214 : decode cL_law 1214 = .ok (.aload_n 0, 1) := by decide +kernel
theorem dL_law_1215 : decode cL_law 1215 = .ok (.iload 5, 2) := by decide +kernel
theorem dL_law_1217 : decode cL_law 1217 = .ok (.iconst 1, 1) := by decide +kernel
theorem dL_law_1218 : decode cL_law 1218 = .ok (.iadd, 1) := by decide +kernel
theorem dL_law_1219 : decode cL_law 1219 = .ok (.iaload, 1) := by decide +kernel
theorem dL_law_1220 : decode cL_law 1220 = .ok (.aload 4, 2) := by decide +kernel
theorem dL_law_1222 : decode cL_law 1222 = .ok (.invokestatic 170, 3) := by decide +kernel
theorem dL_law_1225 : decode cL_law 1225 = .ok (.istore 6, 2) := by decide +kernel
theorem dL_law_1227 : decode cL_law 1227 = .ok (.aload_n 2, 1) := by decide +kernel
theorem dL_law_1228 : decode cL_law 1228 = .ok (.aload_n 0, 1) := by decide +kernel
theorem dL_law_1229 : decode cL_law 1229 = .ok (.iload 5, 2) := by decide +kernel
theorem dL_law_1231 : decode cL_law 1231 = .ok (.iconst 1, 1) := by decide +kernel
theorem dL_law_1232 : decode cL_law 1232 = .ok (.iadd, 1) := by decide +kernel
theorem dL_law_1233 : decode cL_law 1233 = .ok (.iaload, 1) := by decide +kernel
theorem dL_law_1234 : decode cL_law 1234 = .ok (.invokevirtual 173, 3) := by decide +kernel
theorem dL_law_1237 : decode cL_law 1237 = .ok (.dstore 7, 2) := by decide +kernel
theorem dL_law_1239 : decode cL_law 1239 = .ok (.aload_n 2, 1) := by decide +kernel
theorem dL_law_1240 : decode cL_law 1240 = .ok (.invokevirtual 112, 3) := by decide +kernel
theorem dL_law_1243 : decode cL_law 1243 = .ok (.iload 6, 2) := by decide +kernel
theorem dL_law_1245 : decode cL_law 1245 = .ok (.if_icmp .eq 5, 3) := by decide +kernel
theorem dL_law_1248 : decode cL_law 1248 = .ok (.iconst 0, 1) := by decide +kernel
theorem dL_law_1249 : decode cL_law 1249 = .ok (.ireturn, 1) := by decide +kernel
theorem dL_law_1250 : decode cL_law 1250 = .ok (.iload 6, 2) := by decide +kernel
theorem dL_law_1252 : decode cL_law 1252 = .ok (.ifCond .ne 35, 3) := by decide +kernel
theorem dL_law_1255 : decode cL_law 1255 = .ok (.aload 4, 2) := by decide +kernel
theorem dL_law_1257 : decode cL_law 1257 = .ok (.iconst 0, 1) := by decide +kernel
theorem dL_law_1258 : decode cL_law 1258 = .ok (.daload, 1) := by decide +kernel
theorem dL_law_1259 : decode cL_law 1259 = .ok (.dload 7, 2) := by decide +kernel
theorem dL_law_1261 : decode cL_law 1261 = .ok (.dcmp .l, 1) := by decide +kernel
theorem dL_law_1262 : decode cL_law 1262 = .ok (.ifCond .eq 25, 3) := by decide +kernel
theorem dL_law_1265 : decode cL_law 1265 = .ok (.aload 4, 2) := by decide +kernel
theorem dL_law_1267 : decode cL_law 1267 = .ok (.iconst 0, 1) := by decide +kernel
theorem dL_law_1268 : decode cL_law 1268 = .ok (.daload, 1) := by decide +kernel
theorem dL_law_1269 : decode cL_law 1269 = .ok (.aload 4, 2) := by decide +kernel
theorem dL_law_1271 : decode cL_law 1271 = .ok (.iconst 0, 1) := by decide +kernel
theorem dL_law_1272 : decode cL_law 1272 = .ok (.daload, 1) := by decide +kernel
theorem dL_law_1273 : decode cL_law 1273 = .ok (.dcmp .l, 1) := by decide +kernel
theorem dL_law_1274 : decode cL_law 1274 = .ok (.ifCond .eq 11, 3) := by decide +kernel
theorem dL_law_1277 : decode cL_law 1277 = .ok (.dload 7, 2) := by decide +kernel
theorem dL_law_1279 : decode cL_law 1279 = .ok (.dload 7, 2) := by decide +kernel
theorem dL_law_1281 : decode cL_law 1281 = .ok (.dcmp .l, 1) := by decide +kernel
theorem dL_law_1282 : decode cL_law 1282 = .ok (.ifCond .ne 5, 3) := by decide +kernel
theorem dL_law_1285 : decode cL_law 1285 = .ok (.iconst 0, 1) := by decide +kernel
theorem dL_law_1286 : decode cL_law 1286 = .ok (.ireturn, 1) := by decide +kernel
theorem dL_law_1287 : decode cL_law 1287 = .ok (.goto 626, 3) := by decide +kernel
theorem dL_law_1290 : decode cL_law 1290 = .ok (.aload_n 1, 1) := by decide +kernel
theorem dL_law_1291 : decode cL_law 1291 = .ok (.invokevirtual 174, 3) := by decide +kernel
theorem dL_law_1294 : decode cL_law 1294 = .ok (.aload_n 2, 1) := by decide +kernel
theorem dL_law_1295 : decode cL_law 1295 = .ok (.invokevirtual 177, 3) := by decide +kernel
theorem dL_law_1298 : decode cL_law 1298 = .ok (.if_icmp .eq 615, 3) := by decide +kernel
theorem dL_law_1301 : decode cL_law 1301 = .ok (.iconst 0, 1) := by decide +kernel
theorem dL_law_1302 : decode cL_law 1302 = .ok (.ireturn, 1) := by decide +kernel
theorem dL_law_1303 : decode cL_law 1303 = .ok (.aload_n 1, 1) := by decide +kernel
theorem dL_law_1304 : decode cL_law 1304 = .ok (.aload_n 0, 1) := by decide +kernel
theorem dL_law_1305 : decode cL_law 1305 = .ok (.iload 5, 2) := by decide +kernel
theorem dL_law_1307 : decode cL_law 1307 = .ok (.iconst 1, 1) := by decide +kernel
theorem dL_law_1308 : decode cL_law 1308 = .ok (.iadd, 1) := by decide +kernel
theorem dL_law_1309 : decode cL_law 1309 = .ok (.iaload, 1) := by decide +kernel
theorem dL_law_1310 : decode cL_law 1310 = .ok (.aload_n 3, 1) := by decide +kernel
theorem dL_law_1311 : decode cL_law 1311 = .ok (.invokestatic 178, 3) := by decide +kernel
theorem dL_law_1314 : decode cL_law 1314 = .ok (.istore 6, 2) := by decide +kernel
theorem dL_law_1316 : decode cL_law 1316 = .ok (.aload_n 2, 1) := by decide +kernel
theorem dL_law_1317 : decode cL_law 1317 = .ok (.aload_n 0, 1) := by decide +kernel
theorem dL_law_1318 : decode cL_law 1318 = .ok (.iload 5, 2) := by decide +kernel
theorem dL_law_1320 : decode cL_law 1320 = .ok (.iconst 1, 1) := by decide +kernel
theorem dL_law_1321 : decode cL_law 1321 = .ok (.iadd, 1) := by decide +kernel
theorem dL_law_1322 : decode cL_law 1322 = .ok (.iaload, 1) := by decide +kernel
theorem dL_law_1323 : decode cL_law 1323 = .ok (.invokevirtual 180, 3) := by decide +kernel
theorem dL_law_1326 : decode cL_law 1326 = .ok (.istore 7, 2) := by decide +kernel
theorem dL_law_1328 : decode cL_law 1328 = .ok (.aload_n 2, 1) := by decide +kernel
theorem dL_law_1329 : decode cL_law 1329 = .ok (.invokevirtual 112, 3) := by decide +kernel
theorem dL_law_1332 : decode cL_law 1332 = .ok (.iload 6, 2) := by decide +kernel
theorem dL_law_1334 : decode cL_law 1334 = .ok (.if_icmp .eq 5, 3) := by decide +kernel
theorem dL_law_1337 : decode cL_law 1337 = .ok (.iconst 0, 1) := by decide +kernel
theorem dL_law_1338 : decode cL_law 1338 = .ok (.ireturn, 1) := by decide +kernel
theorem dL_law_1339 : decode cL_law 1339 = .ok (.iload 6, 2) := by decide +kernel
theorem dL_law_1341 : decode cL_law 1341 = .ok (.ifCond .ne 15, 3) := by decide +kernel
theorem dL_law_1344 : decode cL_law 1344 = .ok (.aload_n 3, 1) := by decide +kernel
theorem dL_law_1345 : decode cL_law 1345 = .ok (.iconst 0, 1) := by decide +kernel
theorem dL_law_1346 : decode cL_law 1346 = .ok (.laload, 1) := by decide +kernel
theorem dL_law_1347 : decode cL_law 1347 = .ok (.iload 7, 2) := by decide +kernel
theorem dL_law_1349 : decode cL_law 1349 = .ok (.i2l, 1) := by decide +kernel
theorem dL_law_1350 : decode cL_law 1350 = .ok (.lcmp, 1) := by decide +kernel
theorem dL_law_1351 : decode cL_law 1351 = .ok (.ifCond .eq 5, 3) := by decide +kernel
theorem dL_law_1354 : decode cL_law 1354 = .ok (.iconst 0, 1) := by decide +kernel
theorem dL_law_1355 : decode cL_law 1355 = .ok (.ireturn, 1) := by decide +kernel
theorem dL_law_1356 : decode cL_law 1356 = .ok (.goto 557, 3) := by decide +kernel
theorem dL_law_1359 : decode cL_law 1359 = .ok (.aload_n 1, 1) := by decide +kernel
theorem dL_law_1360 : decode cL_law 1360 = .ok (.aload_n 0, 1) := by decide +kernel
theorem dL_law_1361 : decode cL_law 1361 = .ok (.iload 5, 2) := by decide +kernel
theorem dL_law_1363 : decode cL_law 1363 = .ok (.iconst 1, 1) := by decide +kernel
theorem dL_law_1364 : decode cL_law 1364 = .ok (.iadd, 1) := by decide +kernel
theorem dL_law_1365 : decode cL_law 1365 = .ok (.iaload, 1) := by decide +kernel
theorem dL_law_1366 : decode cL_law 1366 = .ok (.aload_n 3, 1) := by decide +kernel
theorem dL_law_1367 : decode cL_law 1367 = .ok (.invokestatic 181, 3) := by decide +kernel
theorem dL_law_1370 : decode cL_law 1370 = .ok (.istore 6, 2) := by decide +kernel
theorem dL_law_1372 : decode cL_law 1372 = .ok (.aload_n 2, 1) := by decide +kernel
theorem dL_law_1373 : decode cL_law 1373 = .ok (.aload_n 0, 1) := by decide +kernel
theorem dL_law_1374 : decode cL_law 1374 = .ok (.iload 5, 2) := by decide +kernel
theorem dL_law_1376 : decode cL_law 1376 = .ok (.iconst 1, 1) := by decide +kernel
theorem dL_law_1377 : decode cL_law 1377 = .ok (.iadd, 1) := by decide +kernel
theorem dL_law_1378 : decode cL_law 1378 = .ok (.iaload, 1) := by decide +kernel
theorem dL_law_1379 : decode cL_law 1379 = .ok (.invokevirtual 183, 3) := by decide +kernel
theorem dL_law_1382 : decode cL_law 1382 = .ok (.istore 7, 2) := by decide +kernel
theorem dL_law_1384 : decode cL_law 1384 = .ok (.aload_n 2, 1) := by decide +kernel
theorem dL_law_1385 : decode cL_law 1385 = .ok (.invokevirtual 112, 3) := by decide +kernel
theorem dL_law_1388 : decode cL_law 1388 = .ok (.iload 6, 2) := by decide +kernel
theorem dL_law_1390 : decode cL_law 1390 = .ok (.if_icmp .eq 5, 3) := by decide +kernel
theorem dL_law_1393 : decode cL_law 1393 = .ok (.iconst 0, 1) := by decide +kernel
theorem dL_law_1394 : decode cL_law 1394 = .ok (.ireturn, 1) := by decide +kernel
theorem dL_law_1395 : decode cL_law 1395 = .ok (.iload 6, 2) := by decide +kernel
theorem dL_law_1397 : decode cL_law 1397 = .ok (.ifCond .ne 15, 3) := by decide +kernel
theorem dL_law_1400 : decode cL_law 1400 = .ok (.aload_n 3, 1) := by decide +kernel
theorem dL_law_1401 : decode cL_law 1401 = .ok (.iconst 0, 1) := by decide +kernel
theorem dL_law_1402 : decode cL_law 1402 = .ok (.laload, 1) := by decide +kernel
theorem dL_law_1403 : decode cL_law 1403 = .ok (.iload 7, 2) := by decide +kernel
theorem dL_law_1405 : decode cL_law 1405 = .ok (.i2l, 1) := by decide +kernel
theorem dL_law_1406 : decode cL_law 1406 = .ok (.lcmp, 1) := by decide +kernel
theorem dL_law_1407 : decode cL_law 1407 = .ok (.ifCond .eq 5, 3) := by decide +kernel
theorem dL_law_1410 : decode cL_law 1410 = .ok (.iconst 0, 1) := by decide +kernel
theorem dL_law_1411 : decode cL_law 1411 = .ok (.ireturn, 1) := by decide +kernel
theorem dL_law_1412 : decode cL_law 1412 = .ok (.goto 501, 3) := by decide +kernel
theorem dL_law_1415 : decode cL_law 1415 = .ok (.aload_n 1, 1) := by decide +kernel
theorem dL_law_1416 : decode cL_law 1416 = .ok (.invokevirtual 184, 3) := by decide +kernel
theorem dL_law_1419 : decode cL_law 1419 = .ok (.aload_n 2, 1) := by decide +kernel
theorem dL_law_1420 : decode cL_law 1420 = .ok (.invokevirtual 187, 3) := by decide +kernel
theorem dL_law_1423 : decode cL_law 1423 = .ok (.if_icmp .eq 490, 3) := by decide +kernel
theorem dL_law_1426 : decode cL_law 1426 = .ok (.iconst 0, 1) := by decide +kernel
theorem dL_law_1427 : decode cL_law 1427 = .ok (.ireturn, 1) := by decide +kernel
theorem dL_law_1428 : decode cL_law 1428 = .ok (.aload_n 1, 1) := by decide +kernel
theorem dL_law_1429 : decode cL_law 1429 = .ok (.aload_n 0, 1) := by decide +kernel
theorem dL_law_1430 : decode cL_law 1430 = .ok (.iload 5, 2) := by decide +kernel
theorem dL_law_1432 : decode cL_law 1432 = .ok (.iconst 1, 1) := by decide +kernel
theorem dL_law_1433 : decode cL_law 1433 = .ok (.iadd, 1) := by decide +kernel
theorem dL_law_1434 : decode cL_law 1434 = .ok (.iaload, 1) := by decide +kernel
theorem dL_law_1435 : decode cL_law 1435 = .ok (.aload_n 0, 1) := by decide +kernel
theorem dL_law_1436 : decode cL_law 1436 = .ok (.iload 5, 2) := by decide +kernel
theorem dL_law_1438 : decode cL_law 1438 = .ok (.iconst 2, 1) := by decide +kernel
theorem dL_law_1439 : decode cL_law 1439 = .ok (.iadd, 1) := by decide +kernel
theorem dL_law_1440 : decode cL_law 1440 = .ok (.iaload, 1) := by decide +kernel
theorem dL_law_1441 : decode cL_law 1441 = .ok (.aload_n 3, 1) := by decide +kernel
theorem dL_law_1442 : decode cL_law 1442 = .ok (.invokestatic 188, 3) := by decide +kernel
theorem dL_law_1445 : decode cL_law 1445 = .ok (.istore 6, 2) := by decide +kernel
theorem dL_law_1447 : decode cL_law 1447 = .ok (.aload_n 2, 1) := by decide +kernel
theorem dL_law_1448 : decode cL_law 1448 = .ok (.aload_n 0, 1) := by decide +kernel
theorem dL_law_1449 : decode cL_law 1449 = .ok (.iload 5, 2) := by decide +kernel
theorem dL_law_1451 : decode cL_law 1451 = .ok (.iconst 1, 1) := by decide +kernel
theorem dL_law_1452 : decode cL_law 1452 = .ok (.iadd, 1) := by decide +kernel
theorem dL_law_1453 : decode cL_law 1453 = .ok (.iaload, 1) := by decide +kernel
theorem dL_law_1454 : decode cL_law 1454 = .ok (.aload_n 0, 1) := by decide +kernel
theorem dL_law_1455 : decode cL_law 1455 = .ok (.iload 5, 2) := by decide +kernel
theorem dL_law_1457 : decode cL_law 1457 = .ok (.iconst 2, 1) := by decide +kernel
theorem dL_law_1458 : decode cL_law 1458 = .ok (.iadd, 1) := by decide +kernel
theorem dL_law_1459 : decode cL_law 1459 = .ok (.iaload, 1) := by decide +kernel
theorem dL_law_1460 : decode cL_law 1460 = .ok (.invokevirtual 190, 3) := by decide +kernel
theorem dL_law_1463 : decode cL_law 1463 = .ok (.istore 7, 2) := by decide +kernel
theorem dL_law_1465 : decode cL_law 1465 = .ok (.aload_n 2, 1) := by decide +kernel
theorem dL_law_1466 : decode cL_law 1466 = .ok (.invokevirtual 112, 3) := by decide +kernel
theorem dL_law_1469 : decode cL_law 1469 = .ok (.iload 6, 2) := by decide +kernel
theorem dL_law_1471 : decode cL_law 1471 = .ok (.if_icmp .eq 5, 3) := by decide +kernel
theorem dL_law_1474 : decode cL_law 1474 = .ok (.iconst 0, 1) := by decide +kernel
theorem dL_law_1475 : decode cL_law 1475 = .ok (.ireturn, 1) := by decide +kernel
theorem dL_law_1476 : decode cL_law 1476 = .ok (.iload 6, 2) := by decide +kernel
theorem dL_law_1478 : decode cL_law 1478 = .ok (.ifCond .ne 15, 3) := by decide +kernel
theorem dL_law_1481 : decode cL_law 1481 = .ok (.aload_n 3, 1) := by decide +kernel
theorem dL_law_1482 : decode cL_law 1482 = .ok (.iconst 0, 1) := by decide +kernel
theorem dL_law_1483 : decode cL_law 1483 = .ok (.laload, 1) := by decide +kernel
theorem dL_law_1484 : decode cL_law 1484 = .ok (.iload 7, 2) := by decide +kernel
theorem dL_law_1486 : decode cL_law 1486 = .ok (.i2l, 1) := by decide +kernel
theorem dL_law_1487 : decode cL_law 1487 = .ok (.lcmp, 1) := by decide +kernel
theorem dL_law_1488 : decode cL_law 1488 = .ok (.ifCond .eq 5, 3) := by decide +kernel
theorem dL_law_1491 : decode cL_law 1491 = .ok (.iconst 0, 1) := by decide +kernel
theorem dL_law_1492 : decode cL_law 1492 = .ok (.ireturn, 1) := by decide +kernel
theorem dL_law_1493 : decode cL_law 1493 = .ok (.goto 420, 3) := by decide +kernel
theorem dL_law_1496 : decode cL_law 1496 = .ok (.aload_n 1, 1) := by decide +kernel
theorem dL_law_1497 : decode cL_law 1497 = .ok (.aload_n 0, 1) := by decide +kernel
theorem dL_law_1498 : decode cL_law 1498 = .ok (.iload 5, 2) := by decide +kernel
theorem dL_law_1500 : decode cL_law 1500 = .ok (.iconst 1, 1) := by decide +kernel
theorem dL_law_1501 : decode cL_law 1501 = .ok (.iadd, 1) := by decide +kernel
theorem dL_law_1502 : decode cL_law 1502 = .ok (.iaload, 1) := by decide +kernel
theorem dL_law_1503 : decode cL_law 1503 = .ok (.aload_n 0, 1) := by decide +kernel
theorem dL_law_1504 : decode cL_law 1504 = .ok (.iload 5, 2) := by decide +kernel
theorem dL_law_1506 : decode cL_law 1506 = .ok (.iconst 2, 1) := by decide +kernel
theorem dL_law_1507 : decode cL_law 1507 = .ok (.iadd, 1) := by decide +kernel
theorem dL_law_1508 : decode cL_law 1508 = .ok (.iaload, 1) := by decide +kernel
theorem dL_law_1509 : decode cL_law 1509 = .ok (.aload_n 3, 1) := by decide +kernel
theorem dL_law_1510 : decode cL_law 1510 = .ok (.invokestatic 191, 3) := by decide +kernel
theorem dL_law_1513 : decode cL_law 1513 = .ok (.istore 6, 2) := by decide +kernel
theorem dL_law_1515 : decode cL_law 1515 = .ok (.aload_n 2, 1) := by decide +kernel
theorem dL_law_1516 : decode cL_law 1516 = .ok (.aload_n 0, 1) := by decide +kernel
theorem dL_law_1517 : decode cL_law 1517 = .ok (.iload 5, 2) := by decide +kernel
theorem dL_law_1519 : decode cL_law 1519 = .ok (.iconst 1, 1) := by decide +kernel
theorem dL_law_1520 : decode cL_law 1520 = .ok (.iadd, 1) := by decide +kernel
theorem dL_law_1521 : decode cL_law 1521 = .ok (.iaload, 1) := by decide +kernel
theorem dL_law_1522 : decode cL_law 1522 = .ok (.aload_n 0, 1) := by decide +kernel
theorem dL_law_1523 : decode cL_law 1523 = .ok (.iload 5, 2) := by decide +kernel
theorem dL_law_1525 : decode cL_law 1525 = .ok (.iconst 2, 1) := by decide +kernel
theorem dL_law_1526 : decode cL_law 1526 = .ok (.iadd, 1) := by decide +kernel
theorem dL_law_1527 : decode cL_law 1527 = .ok (.iaload, 1) := by decide +kernel
theorem dL_law_1528 : decode cL_law 1528 = .ok (.invokevirtual 193, 3) := by decide +kernel
theorem dL_law_1531 : decode cL_law 1531 = .ok (.istore 7, 2) := by decide +kernel
theorem dL_law_1533 : decode cL_law 1533 = .ok (.aload_n 2, 1) := by decide +kernel
theorem dL_law_1534 : decode cL_law 1534 = .ok (.invokevirtual 112, 3) := by decide +kernel
theorem dL_law_1537 : decode cL_law 1537 = .ok (.iload 6, 2) := by decide +kernel
theorem dL_law_1539 : decode cL_law 1539 = .ok (.if_icmp .eq 5, 3) := by decide +kernel
theorem dL_law_1542 : decode cL_law 1542 = .ok (.iconst 0, 1) := by decide +kernel
theorem dL_law_1543 : decode cL_law 1543 = .ok (.ireturn, 1) := by decide +kernel
theorem dL_law_1544 : decode cL_law 1544 = .ok (.iload 6, 2) := by decide +kernel
theorem dL_law_1546 : decode cL_law 1546 = .ok (.ifCond .ne 15, 3) := by decide +kernel
theorem dL_law_1549 : decode cL_law 1549 = .ok (.aload_n 3, 1) := by decide +kernel
theorem dL_law_1550 : decode cL_law 1550 = .ok (.iconst 0, 1) := by decide +kernel
theorem dL_law_1551 : decode cL_law 1551 = .ok (.laload, 1) := by decide +kernel
theorem dL_law_1552 : decode cL_law 1552 = .ok (.iload 7, 2) := by decide +kernel
theorem dL_law_1554 : decode cL_law 1554 = .ok (.i2l, 1) := by decide +kernel
theorem dL_law_1555 : decode cL_law 1555 = .ok (.lcmp, 1) := by decide +kernel
theorem dL_law_1556 : decode cL_law 1556 = .ok (.ifCond .eq 5, 3) := by decide +kernel
theorem dL_law_1559 : decode cL_law 1559 = .ok (.iconst 0, 1) := by decide +kernel
theorem dL_law_1560 : decode cL_law 1560 = .ok (.ireturn, 1) := by decide +kernel
theorem dL_law_1561 : decode cL_law 1561 = .ok (.goto 352, 3) := by decide +kernel
theorem dL_law_1564 : decode cL_law 1564 = .ok (.aload_n 1, 1) := by decide +kernel
theorem dL_law_1565 : decode cL_law 1565 = .ok (.aload_n 3, 1) := by decide +kernel
theorem dL_law_1566 : decode cL_law 1566 = .ok (.invokestatic 194, 3) := by decide +kernel
theorem dL_law_1569 : decode cL_law 1569 = .ok (.istore 6, 2) := by decide +kernel
theorem dL_law_1571 : decode cL_law 1571 = .ok (.aload_n 2, 1) := by decide +kernel
theorem dL_law_1572 : decode cL_law 1572 = .ok (.invokevirtual 196, 3) := by decide +kernel
theorem dL_law_1575 : decode cL_law 1575 = .ok (.istore 7, 2) := by decide +kernel
theorem dL_law_1577 : decode cL_law 1577 = .ok (.aload_n 2, 1) := by decide +kernel
theorem dL_law_1578 : decode cL_law 1578 = .ok (.invokevirtual 112, 3) := by decide +kernel
theorem dL_law_1581 : decode cL_law 1581 = .ok (.iload 6, 2) := by decide +kernel
theorem dL_law_1583 : decode cL_law 1583 = .ok (.if_icmp .eq 5, 3) := by decide +kernel
theorem dL_law_1586 : decode cL_law 1586 = .ok (.iconst 0, 1) := by decide +kernel
theorem dL_law_1587 : decode cL_law 1587 = .ok (.ireturn, 1) := by decide +kernel
theorem dL_law_1588 : decode cL_law 1588 = .ok (.iload 6, 2) := by decide +kernel
theorem dL_law_1590 : decode cL_law 1590 = .ok (.ifCond .ne 15, 3) := by decide +kernel
theorem dL_law_1593 : decode cL_law 1593 = .ok (.aload_n 3, 1) := by decide +kernel
theorem dL_law_1594 : decode cL_law 1594 = .ok (.iconst 0, 1) := by decide +kernel
theorem dL_law_1595 : decode cL_law 1595 = .ok (.laload, 1) := by decide +kernel
theorem dL_law_1596 : decode cL_law 1596 = .ok (.iload 7, 2) := by decide +kernel
theorem dL_law_1598 : decode cL_law 1598 = .ok (.i2l, 1) := by decide +kernel
theorem dL_law_1599 : decode cL_law 1599 = .ok (.lcmp, 1) := by decide +kernel
theorem dL_law_1600 : decode cL_law 1600 = .ok (.ifCond .eq 5, 3) := by decide +kernel
theorem dL_law_1603 : decode cL_law 1603 = .ok (.iconst 0, 1) := by decide +kernel
theorem dL_law_1604 : decode cL_law 1604 = .ok (.ireturn, 1) := by decide +kernel
theorem dL_law_1605 : decode cL_law 1605 = .ok (.goto 308, 3) := by decide +kernel
theorem dL_law_1608 : decode cL_law 1608 = .ok (.aload_n 1, 1) := by decide +kernel
theorem dL_law_1609 : decode cL_law 1609 = .ok (.aload_n 0, 1) := by decide +kernel
theorem dL_law_1610 : decode cL_law 1610 = .ok (.iload 5, 2) := by decide +kernel
theorem dL_law_1612 : decode cL_law 1612 = .ok (.iconst 1, 1) := by decide +kernel
theorem dL_law_1613 : decode cL_law 1613 = .ok (.iadd, 1) := by decide +kernel
theorem dL_law_1614 : decode cL_law 1614 = .ok (.iaload, 1) := by decide +kernel
theorem dL_law_1615 : decode cL_law 1615 = .ok (.aload_n 3, 1) := by decide +kernel
theorem dL_law_1616 : decode cL_law 1616 = .ok (.invokestatic 197, 3) := by decide +kernel
theorem dL_law_1619 : decode cL_law 1619 = .ok (.istore 6, 2) := by decide +kernel
theorem dL_law_1621 : decode cL_law 1621 = .ok (.aload_n 2, 1) := by decide +kernel
theorem dL_law_1622 : decode cL_law 1622 = .ok (.aload_n 0, 1) := by decide +kernel
theorem dL_law_1623 : decode cL_law 1623 = .ok (.iload 5, 2) := by decide +kernel
theorem dL_law_1625 : decode cL_law 1625 = .ok (.iconst 1, 1) := by decide +kernel
theorem dL_law_1626 : decode cL_law 1626 = .ok (.iadd, 1) := by decide +kernel
theorem dL_law_1627 : decode cL_law 1627 = .ok (.iaload, 1) := by decide +kernel
theorem dL_law_1628 : decode cL_law 1628 = .ok (.invokevirtual 199, 3) := by decide +kernel
theorem dL_law_1631 : decode cL_law 1631 = .ok (.istore 7, 2) := by decide +kernel
theorem dL_law_1633 : decode cL_law 1633 = .ok (.aload_n 2, 1) := by decide +kernel
theorem dL_law_1634 : decode cL_law 1634 = .ok (.invokevirtual 112, 3) := by decide +kernel
theorem dL_law_1637 : decode cL_law 1637 = .ok (.iload 6, 2) := by decide +kernel
theorem dL_law_1639 : decode cL_law 1639 = .ok (.if_icmp .eq 5, 3) := by decide +kernel
theorem dL_law_1642 : decode cL_law 1642 = .ok (.iconst 0, 1) := by decide +kernel
theorem dL_law_1643 : decode cL_law 1643 = .ok (.ireturn, 1) := by decide +kernel
theorem dL_law_1644 : decode cL_law 1644 = .ok (.iload 6, 2) := by decide +kernel
theorem dL_law_1646 : decode cL_law 1646 = .ok (.ifCond .ne 15, 3) := by decide +kernel
theorem dL_law_1649 : decode cL_law 1649 = .ok (.aload_n 3, 1) := by decide +kernel
theorem dL_law_1650 : decode cL_law 1650 = .ok (.iconst 0, 1) := by decide +kernel
theorem dL_law_1651 : decode cL_law 1651 = .ok (.laload, 1) := by decide +kernel
theorem dL_law_1652 : decode cL_law 1652 = .ok (.iload 7, 2) := by decide +kernel
theorem dL_law_1654 : decode cL_law 1654 = .ok (.i2l, 1) := by decide +kernel
theorem dL_law_1655 : decode cL_law 1655 = .ok (.lcmp, 1) := by decide +kernel
theorem dL_law_1656 : decode cL_law 1656 = .ok (.ifCond .eq 5, 3) := by decide +kernel
theorem dL_law_1659 : decode cL_law 1659 = .ok (.iconst 0, 1) := by decide +kernel
theorem dL_law_1660 : decode cL_law 1660 = .ok (.ireturn, 1) := by decide +kernel
theorem dL_law_1661 : decode cL_law 1661 = .ok (.goto 252, 3) := by decide +kernel
theorem dL_law_1664 : decode cL_law 1664 = .ok (.aload_n 1, 1) := by decide +kernel
theorem dL_law_1665 : decode cL_law 1665 = .ok (.aload_n 0, 1) := by decide +kernel
theorem dL_law_1666 : decode cL_law 1666 = .ok (.iload 5, 2) := by decide +kernel
theorem dL_law_1668 : decode cL_law 1668 = .ok (.iconst 1, 1) := by decide +kernel
theorem dL_law_1669 : decode cL_law 1669 = .ok (.iadd, 1) := by decide +kernel
theorem dL_law_1670 : decode cL_law 1670 = .ok (.iaload, 1) := by decide +kernel
theorem dL_law_1671 : decode cL_law 1671 = .ok (.aload_n 0, 1) := by decide +kernel
theorem dL_law_1672 : decode cL_law 1672 = .ok (.iload 5, 2) := by decide +kernel
theorem dL_law_1674 : decode cL_law 1674 = .ok (.iconst 2, 1) := by decide +kernel
theorem dL_law_1675 : decode cL_law 1675 = .ok (.iadd, 1) := by decide +kernel
theorem dL_law_1676 : decode cL_law 1676 = .ok (.iaload, 1) := by decide +kernel
theorem dL_law_1677 : decode cL_law 1677 = .ok (.aload_n 3, 1) := by decide +kernel
theorem dL_law_1678 : decode cL_law 1678 = .ok (.invokestatic 200, 3) := by decide +kernel
theorem dL_law_1681 : decode cL_law 1681 = .ok (.istore 6, 2) := by decide +kernel
theorem dL_law_1683 : decode cL_law 1683 = .ok (.aload_n 2, 1) := by decide +kernel
theorem dL_law_1684 : decode cL_law 1684 = .ok (.aload_n 0, 1) := by decide +kernel
theorem dL_law_1685 : decode cL_law 1685 = .ok (.iload 5, 2) := by decide +kernel
theorem dL_law_1687 : decode cL_law 1687 = .ok (.iconst 1, 1) := by decide +kernel
theorem dL_law_1688 : decode cL_law 1688 = .ok (.iadd, 1) := by decide +kernel
theorem dL_law_1689 : decode cL_law 1689 = .ok (.iaload, 1) := by decide +kernel
theorem dL_law_1690 : decode cL_law 1690 = .ok (.aload_n 0, 1) := by decide +kernel
theorem dL_law_1691 : decode cL_law 1691 = .ok (.iload 5, 2) := by decide +kernel
theorem dL_law_1693 : decode cL_law 1693 = .ok (.iconst 2, 1) := by decide +kernel
theorem dL_law_1694 : decode cL_law 1694 = .ok (.iadd, 1) := by decide +kernel
theorem dL_law_1695 : decode cL_law 1695 = .ok (.iaload, 1) := by decide +kernel
theorem dL_law_1696 : decode cL_law 1696 = .ok (.invokevirtual 202, 3) := by decide +kernel
theorem dL_law_1699 : decode cL_law 1699 = .ok (.istore 7, 2) := by decide +kernel
theorem dL_law_1701 : decode cL_law 1701 = .ok (.aload_n 2, 1) := by decide +kernel
theorem dL_law_1702 : decode cL_law 1702 = .ok (.invokevirtual 112, 3) := by decide +kernel
theorem dL_law_1705 : decode cL_law 1705 = .ok (.iload 6, 2) := by decide +kernel
theorem dL_law_1707 : decode cL_law 1707 = .ok (.if_icmp .eq 5, 3) := by decide +kernel
theorem dL_law_1710 : decode cL_law 1710 = .ok (.iconst 0, 1) := by decide +kernel
theorem dL_law_1711 : decode cL_law 1711 = .ok (.ireturn, 1) := by decide +kernel
theorem dL_law_1712 : decode cL_law 1712 = .ok (.iload 6, 2) := by decide +kernel
theorem dL_law_1714 : decode cL_law 1714 = .ok (.ifCond .ne 15, 3) := by decide +kernel
theorem dL_law_1717 : decode cL_law 1717 = .ok (.aload_n 3, 1) := by decide +kernel
theorem dL_law_1718 : decode cL_law 1718 = .ok (.iconst 0, 1) := by decide +kernel
theorem dL_law_1719 : decode cL_law 1719 = .ok (.laload, 1) := by decide +kernel
theorem dL_law_1720 : decode cL_law 1720 = .ok (.iload 7, 2) := by decide +kernel
theorem dL_law_1722 : decode cL_law 1722 = .ok (.i2l, 1) := by decide +kernel
theorem dL_law_1723 : decode cL_law 1723 = .ok (.lcmp, 1) := by decide +kernel
theorem dL_law_1724 : decode cL_law 1724 = .ok (.ifCond .eq 5, 3) := by decide +kernel
theorem dL_law_1727 : decode cL_law 1727 = .ok (.iconst 0, 1) := by decide +kernel
theorem dL_law_1728 : decode cL_law 1728 = .ok (.ireturn, 1) := by decide +kernel
theorem dL_law_1729 : decode cL_law 1729 = .ok (.goto 184, 3) := by decide +kernel
theorem dL_law_1732 : decode cL_law 1732 = .ok (.aload_n 1, 1) := by decide +kernel
theorem dL_law_1733 : decode cL_law 1733 = .ok (.aload_n 3, 1) := by decide +kernel
theorem dL_law_1734 : decode cL_law 1734 = .ok (.invokestatic 203, 3) := by decide +kernel
theorem dL_law_1737 : decode cL_law 1737 = .ok (.istore 6, 2) := by decide +kernel
theorem dL_law_1739 : decode cL_law 1739 = .ok (.aload_n 2, 1) := by decide +kernel
theorem dL_law_1740 : decode cL_law 1740 = .ok (.invokevirtual 205, 3) := by decide +kernel
theorem dL_law_1743 : decode cL_law 1743 = .ok (.istore 7, 2) := by decide +kernel
theorem dL_law_1745 : decode cL_law 1745 = .ok (.aload_n 2, 1) := by decide +kernel
theorem dL_law_1746 : decode cL_law 1746 = .ok (.invokevirtual 112, 3) := by decide +kernel
theorem dL_law_1749 : decode cL_law 1749 = .ok (.iload 6, 2) := by decide +kernel
theorem dL_law_1751 : decode cL_law 1751 = .ok (.if_icmp .eq 5, 3) := by decide +kernel
theorem dL_law_1754 : decode cL_law 1754 = .ok (.iconst 0, 1) := by decide +kernel
theorem dL_law_1755 : decode cL_law 1755 = .ok (.ireturn, 1) := by decide +kernel
theorem dL_law_1756 : decode cL_law 1756 = .ok (.iload 6, 2) := by decide +kernel
theorem dL_law_1758 : decode cL_law 1758 = .ok (.ifCond .ne 15, 3) := by decide +kernel
theorem dL_law_1761 : decode cL_law 1761 = .ok (.aload_n 3, 1) := by decide +kernel
theorem dL_law_1762 : decode cL_law 1762 = .ok (.iconst 0, 1) := by decide +kernel
theorem dL_law_1763 : decode cL_law 1763 = .ok (.laload, 1) := by decide +kernel
theorem dL_law_1764 : decode cL_law 1764 = .ok (.iload 7, 2) := by decide +kernel
theorem dL_law_1766 : decode cL_law 1766 = .ok (.i2l, 1) := by decide +kernel
theorem dL_law_1767 : decode cL_law 1767 = .ok (.lcmp, 1) := by decide +kernel
theorem dL_law_1768 : decode cL_law 1768 = .ok (.ifCond .eq 5, 3) := by decide +kernel
theorem dL_law_1771 : decode cL_law 1771 = .ok (.iconst 0, 1) := by decide +kernel
theorem dL_law_1772 : decode cL_law 1772 = .ok (.ireturn, 1) := by decide +kernel
theorem dL_law_1773 : decode cL_law 1773 = .ok (.goto 140, 3) := by decide +kernel
theorem dL_law_1776 : decode cL_law 1776 = .ok (.aload_n 1, 1) := by decide +kernel
theorem dL_law_1777 : decode cL_law 1777 = .ok (.aload_n 0, 1) := by decide +kernel
theorem dL_law_1778 : decode cL_law 1778 = .ok (.iload 5, 2) := by decide +kernel
theorem dL_law_1780 : decode cL_law 1780 = .ok (.iconst 1, 1) := by decide +kernel
theorem dL_law_1781 : decode cL_law 1781 = .ok (.iadd, 1) := by decide +kernel
theorem dL_law_1782 : decode cL_law 1782 = .ok (.iaload, 1) := by decide +kernel
theorem dL_law_1783 : decode cL_law 1783 = .ok (.aload_n 0, 1) := by decide +kernel
theorem dL_law_1784 : decode cL_law 1784 = .ok (.iload 5, 2) := by decide +kernel
theorem dL_law_1786 : decode cL_law 1786 = .ok (.iconst 2, 1) := by decide +kernel
theorem dL_law_1787 : decode cL_law 1787 = .ok (.iadd, 1) := by decide +kernel
theorem dL_law_1788 : decode cL_law 1788 = .ok (.iaload, 1) := by decide +kernel
theorem dL_law_1789 : decode cL_law 1789 = .ok (.aload_n 3, 1) := by decide +kernel
theorem dL_law_1790 : decode cL_law 1790 = .ok (.invokestatic 206, 3) := by decide +kernel
theorem dL_law_1793 : decode cL_law 1793 = .ok (.istore 6, 2) := by decide +kernel
theorem dL_law_1795 : decode cL_law 1795 = .ok (.aload_n 2, 1) := by decide +kernel
theorem dL_law_1796 : decode cL_law 1796 = .ok (.aload_n 0, 1) := by decide +kernel
theorem dL_law_1797 : decode cL_law 1797 = .ok (.iload 5, 2) := by decide +kernel
theorem dL_law_1799 : decode cL_law 1799 = .ok (.iconst 1, 1) := by decide +kernel
theorem dL_law_1800 : decode cL_law 1800 = .ok (.iadd, 1) := by decide +kernel
theorem dL_law_1801 : decode cL_law 1801 = .ok (.iaload, 1) := by decide +kernel
theorem dL_law_1802 : decode cL_law 1802 = .ok (.aload_n 0, 1) := by decide +kernel
theorem dL_law_1803 : decode cL_law 1803 = .ok (.iload 5, 2) := by decide +kernel
theorem dL_law_1805 : decode cL_law 1805 = .ok (.iconst 2, 1) := by decide +kernel
theorem dL_law_1806 : decode cL_law 1806 = .ok (.iadd, 1) := by decide +kernel
theorem dL_law_1807 : decode cL_law 1807 = .ok (.iaload, 1) := by decide +kernel
theorem dL_law_1808 : decode cL_law 1808 = .ok (.invokevirtual 208, 3) := by decide +kernel
theorem dL_law_1811 : decode cL_law 1811 = .ok (.istore 7, 2) := by decide +kernel
theorem dL_law_1813 : decode cL_law 1813 = .ok (.aload_n 2, 1) := by decide +kernel
theorem dL_law_1814 : decode cL_law 1814 = .ok (.invokevirtual 112, 3) := by decide +kernel
theorem dL_law_1817 : decode cL_law 1817 = .ok (.iload 6, 2) := by decide +kernel
theorem dL_law_1819 : decode cL_law 1819 = .ok (.if_icmp .eq 5, 3) := by decide +kernel
theorem dL_law_1822 : decode cL_law 1822 = .ok (.iconst 0, 1) := by decide +kernel
theorem dL_law_1823 : decode cL_law 1823 = .ok (.ireturn, 1) := by decide +kernel
theorem dL_law_1824 : decode cL_law 1824 = .ok (.iload 6, 2) := by decide +kernel
theorem dL_law_1826 : decode cL_law 1826 = .ok (.ifCond .ne 15, 3) := by decide +kernel
theorem dL_law_1829 : decode cL_law 1829 = .ok (.aload_n 3, 1) := by decide +kernel
theorem dL_law_1830 : decode cL_law 1830 = .ok (.iconst 0, 1) := by decide +kernel
theorem dL_law_1831 : decode cL_law 1831 = .ok (.laload, 1) := by decide +kernel
theorem dL_law_1832 : decode cL_law 1832 = .ok (.iload 7, 2) := by decide +kernel
theorem dL_law_1834 : decode cL_law 1834 = .ok (.i2l, 1) := by decide +kernel
theorem dL_law_1835 : decode cL_law 1835 = .ok (.lcmp, 1) := by decide +kernel
theorem dL_law_1836 : decode cL_law 1836 = .ok (.ifCond .eq 5, 3) := by decide +kernel
theorem dL_law_1839 : decode cL_law 1839 = .ok (.iconst 0, 1) := by decide +kernel
theorem dL_law_1840 : decode cL_law 1840 = .ok (.ireturn, 1) := by decide +kernel
theorem dL_law_1841 : decode cL_law 1841 = .ok (.goto 72, 3) := by decide +kernel
theorem dL_law_1844 : decode cL_law 1844 = .ok (.aload_n 1, 1) := by decide +kernel
theorem dL_law_1845 : decode cL_law 1845 = .ok (.aload_n 0, 1) := by decide +kernel
theorem dL_law_1846 : decode cL_law 1846 = .ok (.iload 5, 2) := by decide +kernel
theorem dL_law_1848 : decode cL_law 1848 = .ok (.iconst 1, 1) := by decide +kernel
theorem dL_law_1849 : decode cL_law 1849 = .ok (.iadd, 1) := by decide +kernel
theorem dL_law_1850 : decode cL_law 1850 = .ok (.iaload, 1) := by decide +kernel
theorem dL_law_1851 : decode cL_law 1851 = .ok (.aload_n 3, 1) := by decide +kernel
theorem dL_law_1852 : decode cL_law 1852 = .ok (.invokestatic 209, 3) := by decide +kernel
theorem dL_law_1855 : decode cL_law 1855 = .ok (.istore 6, 2) := by decide +kernel
theorem dL_law_1857 : decode cL_law 1857 = .ok (.aload_n 2, 1) := by decide +kernel
theorem dL_law_1858 : decode cL_law 1858 = .ok (.aload_n 0, 1) := by decide +kernel
theorem dL_law_1859 : decode cL_law 1859 = .ok (.iload 5, 2) := by decide +kernel
theorem dL_law_1861 : decode cL_law 1861 = .ok (.iconst 1, 1) := by decide +kernel
theorem dL_law_1862 : decode cL_law 1862 = .ok (.iadd, 1) := by decide +kernel
theorem dL_law_1863 : decode cL_law 1863 = .ok (.iaload, 1) := by decide +kernel
theorem dL_law_1864 : decode cL_law 1864 = .ok (.invokevirtual 211, 3) := by decide +kernel
theorem dL_law_1867 : decode cL_law 1867 = .ok (.istore 7, 2) := by decide +kernel
theorem dL_law_1869 : decode cL_law 1869 = .ok (.aload_n 2, 1) := by decide +kernel
theorem dL_law_1870 : decode cL_law 1870 = .ok (.invokevirtual 112, 3) := by decide +kernel
theorem dL_law_1873 : decode cL_law 1873 = .ok (.iload 6, 2) := by decide +kernel
theorem dL_law_1875 : decode cL_law 1875 = .ok (.if_icmp .eq 5, 3) := by decide +kernel
theorem dL_law_1878 : decode cL_law 1878 = .ok (.iconst 0, 1) := by decide +kernel
theorem dL_law_1879 : decode cL_law 1879 = .ok (.ireturn, 1) := by decide +kernel
theorem dL_law_1880 : decode cL_law 1880 = .ok (.iload 6, 2) := by decide +kernel
theorem dL_law_1882 : decode cL_law 1882 = .ok (.ifCond .ne 15, 3) := by decide +kernel
theorem dL_law_1885 : decode cL_law 1885 = .ok (.aload_n 3, 1) := by decide +kernel
theorem dL_law_1886 : decode cL_law 1886 = .ok (.iconst 0, 1) := by decide +kernel
theorem dL_law_1887 : decode cL_law 1887 = .ok (.laload, 1) := by decide +kernel
theorem dL_law_1888 : decode cL_law 1888 = .ok (.iload 7, 2) := by decide +kernel
theorem dL_law_1890 : decode cL_law 1890 = .ok (.i2l, 1) := by decide +kernel
theorem dL_law_1891 : decode cL_law 1891 = .ok (.lcmp, 1) := by decide +kernel
theorem dL_law_1892 : decode cL_law 1892 = .ok (.ifCond .eq 5, 3) := by decide +kernel
theorem dL_law_1895 : decode cL_law 1895 = .ok (.iconst 0, 1) := by decide +kernel
theorem dL_law_1896 : decode cL_law 1896 = .ok (.ireturn, 1) := by decide +kernel
theorem dL_law_1897 : decode cL_law 1897 = .ok (.goto 16, 3) := by decide +kernel
theorem dL_law_1900 : decode cL_law 1900 = .ok (.aload_n 1, 1) := by decide +kernel
theorem dL_law_1901 : decode cL_law 1901 = .ok (.invokevirtual 212, 3) := by decide +kernel
theorem dL_law_1904 : decode cL_law 1904 = .ok (.aload_n 2, 1) := by decide +kernel
theorem dL_law_1905 : decode cL_law 1905 = .ok (.invokevirtual 215, 3) := by decide +kernel
theorem dL_law_1908 : decode cL_law 1908 = .ok (.if_icmp .eq 5, 3) := by decide +kernel
theorem dL_law_1911 : decode cL_law 1911 = .ok (.iconst 0, 1) := by decide +kernel
theorem dL_law_1912 : decode cL_law 1912 = .ok (.ireturn, 1) := by decide +kernel
theorem dL_law_1913 : decode cL_law 1913 = .ok (.iinc 5 6, 3) := by decide +kernel
theorem dL_law_1916 : decode cL_law 1916 = .ok (.goto (-1888), 3) := by decide +kernel
theorem dL_law_1919 : decode cL_law 1919 = .ok (.iconst 1, 1) := by decide +kernel
theorem dL_law_1920 : decode cL_law 1920 = .ok (.ireturn, 1) := by decide +kernel
abbrev vwCl : List vw_C := [(RX0, TX0, 4), (RX2, TX2, 7), (RX3, TX3, 7), (RX4, TX4, 5), (RX6, TX6, 4), (RX7, TX7, 5), (RX8, TX8, 10), (RX9, TX9, 6), (RX10, TX10, 8), (RX11, TX11, 9), (RX12, TX12, 32)]
