theorem dX11_load_106 : decode cX11_load 106 = .ok (.aload_n 0, 1) := by decide +kernel
theorem dX11_load_107 : decode cX11_load 107 = .ok (.getfield 19, 3) := by decide +kernel
theorem dX11_load_110 : decode cX11_load 110 = .ok (.invokevirtual 107, 3) := by decide +kernel
theorem dX11_load_113 : decode cX11_load 113 = .ok (.aload_n 0, 1) := by decide +kernel
theorem dX11_load_114 : decode cX11_load 114 = .ok (.getfield 19, 3) := by decide +kernel
theorem dX11_load_117 : decode cX11_load 117 = .ok (.getfield 111, 3) := by decide +kernel
theorem dX11_load_120 : decode cX11_load 120 = .ok (.ireturn, 1) := by decide +kernel
theorem dX11_errorCode_0 : decode cX11_errorCode 0 = .ok (.aload_n 0, 1) := by decide +kernel
theorem dX11_errorCode_1 : decode cX11_errorCode 1 = .ok (.getfield 12, 3) := by decide +kernel
theorem dX11_errorCode_4 : decode cX11_errorCode 4 = .ok (.getfield 114, 3) := by decide +kernel
theorem dX11_errorCode_7 : decode cX11_errorCode 7 = .ok (.ireturn, 1) := by decide +kernel
theorem dX11_errorPosition_0 : decode cX11_errorPosition 0 = .ok (.aload_n 0, 1) := by decide +kernel
theorem dX11_errorPosition_1 : decode cX11_errorPosition 1 = .ok (.getfield 12, 3) := by decide +kernel
theorem dX11_errorPosition_4 : decode cX11_errorPosition 4 = .ok (.getfield 117, 3) := by decide +kernel
theorem dX11_errorPosition_7 : decode cX11_errorPosition 7 = .ok (.ireturn, 1) := by decide +kernel
set_option maxRecDepth 20000 in
theorem ggX11_report_X9_hasFailed : GoodIn wsX11_report wsX9_hasFailed := goodIn_r _ [15, 16, 17, 18, 19, 20, 21, 22, 23, 24, 25, 26, 27, 28, 29, 30, 31, 32, 66, 67, 68, 69, 70, 71] (by decide +kernel) (by decide +kernel)
set_option maxRecDepth 20000 in
theorem gX11_report_X9_hasFailed : GoodIn wsX11_report (wsV RX11 126 RX9 yX9_hasFailed wsX9_hasFailed) := goodIn_app (goodIn_of _ (by decide +kernel)) ggX11_report_X9_hasFailed
set_option maxRecDepth 20000 in
theorem ggX11_report_X11_fixedVariables : GoodIn wsX11_report wsX11_fixedVariables := goodIn_r _ [37, 3, 4, 38, 39, 40, 36, 41, 6, 42, 43, 44, 20, 45, 46, 47, 48, 49, 50, 51, 52, 53, 54, 55, 56, 57, 58, 59, 60, 61, 62, 63, 64, 65, 66, 67, 68, 69, 70, 71] (by decide +kernel) (by decide +kernel)
set_option maxRecDepth 20000 in
theorem gX11_report_X11_fixedVariables : GoodIn wsX11_report (wsV RX11 129 RX11 yX11_fixedVariables wsX11_fixedVariables) := goodIn_app (goodIn_of _ (by decide +kernel)) ggX11_report_X11_fixedVariables
theorem dX11_report_0 : decode cX11_report 0 = .ok (.iload_n 1, 1) := by decide +kernel
theorem dX11_report_1 : decode cX11_report 1 = .ok (.tableswitch 110 0 7 #[47, 55, 63, 71, 79, 84, 100, 105], 47) := by decide +kernel
theorem dX11_report_48 : decode cX11_report 48 = .ok (.aload_n 0, 1) := by decide +kernel
theorem dX11_report_49 : decode cX11_report 49 = .ok (.getfield 47, 3) := by decide +kernel
theorem dX11_report_52 : decode cX11_report 52 = .ok (.getfield 93, 3) := by decide +kernel
theorem dX11_report_55 : decode cX11_report 55 = .ok (.ireturn, 1) := by decide +kernel
theorem dX11_report_56 : decode cX11_report 56 = .ok (.aload_n 0, 1) := by decide +kernel
theorem dX11_report_57 : decode cX11_report 57 = .ok (.getfield 47, 3) := by decide +kernel
theorem dX11_report_60 : decode cX11_report 60 = .ok (.getfield 120, 3) := by decide +kernel
theorem dX11_report_63 : decode cX11_report 63 = .ok (.ireturn, 1) := by decide +kernel
theorem dX11_report_64 : decode cX11_report 64 = .ok (.aload_n 0, 1) := by decide +kernel
theorem dX11_report_65 : decode cX11_report 65 = .ok (.getfield 19, 3) := by decide +kernel
theorem dX11_report_68 : decode cX11_report 68 = .ok (.getfield 123, 3) := by decide +kernel
theorem dX11_report_71 : decode cX11_report 71 = .ok (.ireturn, 1) := by decide +kernel
theorem dX11_report_72 : decode cX11_report 72 = .ok (.aload_n 0, 1) := by decide +kernel
theorem dX11_report_73 : decode cX11_report 73 = .ok (.getfield 19, 3) := by decide +kernel
theorem dX11_report_76 : decode cX11_report 76 = .ok (.getfield 111, 3) := by decide +kernel
theorem dX11_report_79 : decode cX11_report 79 = .ok (.ireturn, 1) := by decide +kernel
theorem dX11_report_80 : decode cX11_report 80 = .ok (.aload_n 0, 1) := by decide +kernel
theorem dX11_report_81 : decode cX11_report 81 = .ok (.getfield 51, 3) := by decide +kernel
theorem dX11_report_84 : decode cX11_report 84 = .ok (.ireturn, 1) := by decide +kernel
theorem dX11_report_85 : decode cX11_report 85 = .ok (.aload_n 0, 1) := by decide +kernel
theorem dX11_report_86 : decode cX11_report 86 = .ok (.getfield 19, 3) := by decide +kernel
theorem dX11_report_89 : decode cX11_report 89 = .ok (.invokevirtual 126, 3) := by decide +kernel
theorem dX11_report_92 : decode cX11_report 92 = .ok (.ifCond .eq 7, 3) := by decide +kernel
theorem dX11_report_95 : decode cX11_report 95 = .ok (.iconst 1, 1) := by decide +kernel
theorem dX11_report_96 : decode cX11_report 96 = .ok (.goto 4, 3) := by decide +kernel
theorem dX11_report_99 : decode cX11_report 99 = .ok (.iconst 0, 1) := by decide +kernel
theorem dX11_report_100 : decode cX11_report 100 = .ok (.ireturn, 1) := by decide +kernel
theorem dX11_report_101 : decode cX11_report 101 = .ok (.aload_n 0, 1) := by decide +kernel
theorem dX11_report_102 : decode cX11_report 102 = .ok (.invokevirtual 129, 3) := by decide +kernel
theorem dX11_report_105 : decode cX11_report 105 = .ok (.ireturn, 1) := by decide +kernel
theorem dX11_report_106 : decode cX11_report 106 = .ok (.aload_n 0, 1) := by decide +kernel
theorem dX11_report_107 : decode cX11_report 107 = .ok (.getfield 55, 3) := by decide +kernel
theorem dX11_report_110 : decode cX11_report 110 = .ok (.ireturn, 1) := by decide +kernel
theorem dX11_report_111 : decode cX11_report 111 = .ok (.new 87, 3) := by decide +kernel
theorem dX11_report_114 : decode cX11_report 114 = .ok (.dup, 1) := by decide +kernel
theorem dX11_report_115 : decode cX11_report 115 = .ok (.ldc 133, 2) := by decide +kernel
theorem dX11_report_117 : decode cX11_report 117 = .ok (.invokespecial 91, 3) := by decide +kernel
theorem dX11_report_120 : decode cX11_report 120 = .ok (.athrow, 1) := by decide +kernel
set_option maxRecDepth 20000 in
theorem ggX11_fixedVariables_X11_isFixed : GoodIn wsX11_fixedVariables wsX11_isFixed := goodIn_r _ [7, 8, 9, 10, 11, 12, 13, 14, 15, 16, 17, 18, 19, 20, 21, 22, 23, 24, 25, 26, 27, 28, 29, 34, 35, 36, 37, 38, 39] (by decide +kernel) (by decide +kernel)
set_option maxRecDepth 20000 in
theorem gX11_fixedVariables_X11_isFixed : GoodIn wsX11_fixedVariables (wsV RX11 135 RX11 yX11_isFixed wsX11_isFixed) := goodIn_app (goodIn_of _ (by decide +kernel)) ggX11_fixedVariables_X11_isFixed
theorem dX11_fixedVariables_0 : decode cX11_fixedVariables 0 = .ok (.iconst 0, 1) := by decide +kernel
theorem dX11_fixedVariables_1 : decode cX11_fixedVariables 1 = .ok (.istore_n 1, 1) := by decide +kernel
theorem dX11_fixedVariables_2 : decode cX11_fixedVariables 2 = .ok (.iconst 0, 1) := by decide +kernel
theorem dX11_fixedVariables_3 : decode cX11_fixedVariables 3 = .ok (.istore_n 2, 1) := by decide +kernel
theorem dX11_fixedVariables_4 : decode cX11_fixedVariables 4 = .ok (.iload_n 2, 1) := by decide +kernel
theorem dX11_fixedVariables_5 : decode cX11_fixedVariables 5 = .ok (.aload_n 0, 1) := by decide +kernel
theorem dX11_fixedVariables_6 : decode cX11_fixedVariables 6 = .ok (.getfield 47, 3) := by decide +kernel
theorem dX11_fixedVariables_9 : decode cX11_fixedVariables 9 = .ok (.getfield 93, 3) := by decide +kernel
theorem dX11_fixedVariables_12 : decode cX11_fixedVariables 12 = .ok (.if_icmp .ge 20, 3) := by decide +kernel
theorem dX11_fixedVariables_15 : decode cX11_fixedVariables 15 = .ok (.aload_n 0, 1) := by decide +kernel
theorem dX11_fixedVariables_16 : decode cX11_fixedVariables 16 = .ok (.iload_n 2, 1) := by decide +kernel
theorem dX11_fixedVariables_17 : decode cX11_fixedVariables 17 = .ok (.invokevirtual 135, 3) := by decide +kernel
theorem dX11_fixedVariables_20 : decode cX11_fixedVariables 20 = .ok (.ifCond .eq 6, 3) := by decide +kernel
theorem dX11_fixedVariables_23 : decode cX11_fixedVariables 23 = .ok (.iinc 1 1, 3) := by decide +kernel
theorem dX11_fixedVariables_26 : decode cX11_fixedVariables 26 = .ok (.iinc 2 1, 3) := by decide +kernel
theorem dX11_fixedVariables_29 : decode cX11_fixedVariables 29 = .ok (.goto (-25), 3) := by decide +kernel
theorem dX11_fixedVariables_32 : decode cX11_fixedVariables 32 = .ok (.iload_n 1, 1) := by decide +kernel
theorem dX11_fixedVariables_33 : decode cX11_fixedVariables 33 = .ok (.ireturn, 1) := by decide +kernel
set_option maxRecDepth 20000 in
theorem ggX11_isFixed_X5_valuesOf : GoodIn wsX11_isFixed wsX5_valuesOf := goodIn_r _ [6] (by decide +kernel) (by decide +kernel)
set_option maxRecDepth 20000 in
theorem gX11_isFixed_X5_valuesOf : GoodIn wsX11_isFixed (va_wsS RX11 142 yX5_valuesOf wsX5_valuesOf) := goodIn_app (goodIn_of _ (by decide +kernel)) ggX11_isFixed_X5_valuesOf
set_option maxRecDepth 20000 in
theorem ggX11_isFixed_J6_bitCount_0f7a4 : GoodIn wsX11_isFixed wsJ6_bitCount_0f7a4 := goodIn_r _ [10, 11, 12, 13] (by decide +kernel) (by decide +kernel)
set_option maxRecDepth 20000 in
theorem gX11_isFixed_J6_bitCount_0f7a4 : GoodIn wsX11_isFixed (va_wsS RX11 148 yJ6_bitCount_0f7a4 wsJ6_bitCount_0f7a4) := goodIn_app (goodIn_of _ (by decide +kernel)) ggX11_isFixed_J6_bitCount_0f7a4
theorem dX11_isFixed_0 : decode cX11_isFixed 0 = .ok (.aload_n 0, 1) := by decide +kernel
theorem dX11_isFixed_1 : decode cX11_isFixed 1 = .ok (.getfield 19, 3) := by decide +kernel
theorem dX11_isFixed_4 : decode cX11_isFixed 4 = .ok (.getfield 139, 3) := by decide +kernel
theorem dX11_isFixed_7 : decode cX11_isFixed 7 = .ok (.iload_n 1, 1) := by decide +kernel
theorem dX11_isFixed_8 : decode cX11_isFixed 8 = .ok (.invokestatic 142, 3) := by decide +kernel
theorem dX11_isFixed_11 : decode cX11_isFixed 11 = .ok (.invokestatic 148, 3) := by decide +kernel
theorem dX11_isFixed_14 : decode cX11_isFixed 14 = .ok (.iconst 1, 1) := by decide +kernel
theorem dX11_isFixed_15 : decode cX11_isFixed 15 = .ok (.if_icmp .ne 7, 3) := by decide +kernel
theorem dX11_isFixed_18 : decode cX11_isFixed 18 = .ok (.iconst 1, 1) := by decide +kernel
theorem dX11_isFixed_19 : decode cX11_isFixed 19 = .ok (.goto 4, 3) := by decide +kernel
theorem dX11_isFixed_22 : decode cX11_isFixed 22 = .ok (.iconst 0, 1) := by decide +kernel
theorem dX11_isFixed_23 : decode cX11_isFixed 23 = .ok (.ireturn, 1) := by decide +kernel
theorem dX11_isVariable_0 : decode cX11_isVariable 0 = .ok (.iload_n 1, 1) := by decide +kernel
theorem dX11_isVariable_1 : decode cX11_isVariable 1 = .ok (.ifCond .lt 18, 3) := by decide +kernel
theorem dX11_isVariable_4 : decode cX11_isVariable 4 = .ok (.iload_n 1, 1) := by decide +kernel
theorem dX11_isVariable_5 : decode cX11_isVariable 5 = .ok (.aload_n 0, 1) := by decide +kernel
theorem dX11_isVariable_6 : decode cX11_isVariable 6 = .ok (.getfield 47, 3) := by decide +kernel
theorem dX11_isVariable_9 : decode cX11_isVariable 9 = .ok (.getfield 93, 3) := by decide +kernel
theorem dX11_isVariable_12 : decode cX11_isVariable 12 = .ok (.if_icmp .ge 7, 3) := by decide +kernel
theorem dX11_isVariable_15 : decode cX11_isVariable 15 = .ok (.iconst 1, 1) := by decide +kernel
theorem dX11_isVariable_16 : decode cX11_isVariable 16 = .ok (.goto 4, 3) := by decide +kernel
theorem dX11_isVariable_19 : decode cX11_isVariable 19 = .ok (.iconst 0, 1) := by decide +kernel
theorem dX11_isVariable_20 : decode cX11_isVariable 20 = .ok (.ireturn, 1) := by decide +kernel
theorem dX11_isValue_0 : decode cX11_isValue 0 = .ok (.iload_n 0, 1) := by decide +kernel
theorem dX11_isValue_1 : decode cX11_isValue 1 = .ok (.ifCond .lt 12, 3) := by decide +kernel
theorem dX11_isValue_4 : decode cX11_isValue 4 = .ok (.iload_n 0, 1) := by decide +kernel
theorem dX11_isValue_5 : decode cX11_isValue 5 = .ok (.iconst 5, 1) := by decide +kernel
theorem dX11_isValue_6 : decode cX11_isValue 6 = .ok (.if_icmp .ge 7, 3) := by decide +kernel
theorem dX11_isValue_9 : decode cX11_isValue 9 = .ok (.iconst 1, 1) := by decide +kernel
theorem dX11_isValue_10 : decode cX11_isValue 10 = .ok (.goto 4, 3) := by decide +kernel
theorem dX11_isValue_13 : decode cX11_isValue 13 = .ok (.iconst 0, 1) := by decide +kernel
theorem dX11_isValue_14 : decode cX11_isValue 14 = .ok (.ireturn, 1) := by decide +kernel
set_option maxRecDepth 20000 in
theorem ggX11_domain_X11_isVariable : GoodIn wsX11_domain wsX11_isVariable := goodIn_r _ [9, 10, 11, 16, 17, 18, 19, 20, 21, 22, 23, 24, 31, 32, 33, 34] (by decide +kernel) (by decide +kernel)
set_option maxRecDepth 20000 in
theorem gX11_domain_X11_isVariable : GoodIn wsX11_domain (wsV RX11 154 RX11 yX11_isVariable wsX11_isVariable) := goodIn_app (goodIn_of _ (by decide +kernel)) ggX11_domain_X11_isVariable
set_option maxRecDepth 20000 in
theorem ggX11_domain_X5_valuesOf : GoodIn wsX11_domain wsX5_valuesOf := goodIn_r _ [15] (by decide +kernel) (by decide +kernel)
set_option maxRecDepth 20000 in
theorem gX11_domain_X5_valuesOf : GoodIn wsX11_domain (va_wsS RX11 142 yX5_valuesOf wsX5_valuesOf) := goodIn_app (goodIn_of _ (by decide +kernel)) ggX11_domain_X5_valuesOf
theorem dX11_domain_0 : decode cX11_domain 0 = .ok (.aload_n 0, 1) := by decide +kernel
theorem dX11_domain_1 : decode cX11_domain 1 = .ok (.iload_n 1, 1) := by decide +kernel
theorem dX11_domain_2 : decode cX11_domain 2 = .ok (.invokevirtual 154, 3) := by decide +kernel
theorem dX11_domain_5 : decode cX11_domain 5 = .ok (.ifCond .ne 13, 3) := by decide +kernel
theorem dX11_domain_8 : decode cX11_domain 8 = .ok (.new 72, 3) := by decide +kernel
theorem dX11_domain_11 : decode cX11_domain 11 = .ok (.dup, 1) := by decide +kernel
theorem dX11_domain_12 : decode cX11_domain 12 = .ok (.ldc 157, 2) := by decide +kernel
theorem dX11_domain_14 : decode cX11_domain 14 = .ok (.invokespecial 76, 3) := by decide +kernel
theorem dX11_domain_17 : decode cX11_domain 17 = .ok (.athrow, 1) := by decide +kernel
theorem dX11_domain_18 : decode cX11_domain 18 = .ok (.aload_n 0, 1) := by decide +kernel
theorem dX11_domain_19 : decode cX11_domain 19 = .ok (.getfield 19, 3) := by decide +kernel
theorem dX11_domain_22 : decode cX11_domain 22 = .ok (.getfield 139, 3) := by decide +kernel
theorem dX11_domain_25 : decode cX11_domain 25 = .ok (.iload_n 1, 1) := by decide +kernel
theorem dX11_domain_26 : decode cX11_domain 26 = .ok (.invokestatic 142, 3) := by decide +kernel
theorem dX11_domain_29 : decode cX11_domain 29 = .ok (.ireturn, 1) := by decide +kernel
set_option maxRecDepth 20000 in
theorem ggX11_constraint_X6_constraintAt : GoodIn wsX11_constraint wsX6_constraintAt := goodIn_r _ [12, 13, 14, 81, 82, 83, 84] (by decide +kernel) (by decide +kernel)
set_option maxRecDepth 20000 in
theorem gX11_constraint_X6_constraintAt : GoodIn wsX11_constraint (wsV RX11 159 RX6 yX6_constraintAt wsX6_constraintAt) := goodIn_app (goodIn_of _ (by decide +kernel)) ggX11_constraint_X6_constraintAt
set_option maxRecDepth 20000 in
theorem ggX11_constraint_X11_setOfVariables : GoodIn wsX11_constraint wsX11_setOfVariables := goodIn_r _ [18, 19, 20, 21, 22, 23, 24, 25, 26, 27, 28, 29, 30, 31, 32, 33, 57, 58, 59, 60, 61, 62, 63, 64, 65, 66, 67, 68, 69, 70, 71, 72, 73, 74, 75, 76, 77, 78, 79, 80] (by decide +kernel) (by decide +kernel)
set_option maxRecDepth 20000 in
theorem gX11_constraint_X11_setOfVariables : GoodIn wsX11_constraint (va_wsS RX11 171 yX11_setOfVariables wsX11_setOfVariables) := goodIn_app (goodIn_of _ (by decide +kernel)) ggX11_constraint_X11_setOfVariables
set_option maxRecDepth 20000 in
theorem ggX11_constraint_X11_factsWithReason : GoodIn wsX11_constraint wsX11_factsWithReason := goodIn_r _ [37, 38, 39, 40, 41, 42, 43, 44, 45, 46, 47, 48, 49, 50, 51, 52, 53, 54, 55, 56, 85, 86, 87, 88, 89, 90, 91, 92, 93, 94, 95, 96, 97] (by decide +kernel) (by decide +kernel)
set_option maxRecDepth 20000 in
theorem gX11_constraint_X11_factsWithReason : GoodIn wsX11_constraint (wsV RX11 175 RX11 yX11_factsWithReason wsX11_factsWithReason) := goodIn_app (goodIn_of _ (by decide +kernel)) ggX11_constraint_X11_factsWithReason
theorem dX11_constraint_0 : decode cX11_constraint 0 = .ok (.aload_n 0, 1) := by decide +kernel
theorem dX11_constraint_1 : decode cX11_constraint 1 = .ok (.getfield 47, 3) := by decide +kernel
theorem dX11_constraint_4 : decode cX11_constraint 4 = .ok (.iload_n 1, 1) := by decide +kernel
theorem dX11_constraint_5 : decode cX11_constraint 5 = .ok (.invokevirtual 159, 3) := by decide +kernel
theorem dX11_constraint_8 : decode cX11_constraint 8 = .ok (.astore_n 3, 1) := by decide +kernel
theorem dX11_constraint_9 : decode cX11_constraint 9 = .ok (.aload_n 3, 1) := by decide +kernel
theorem dX11_constraint_10 : decode cX11_constraint 10 = .ok (.ifnonnull 13, 3) := by decide +kernel
theorem dX11_constraint_13 : decode cX11_constraint 13 = .ok (.new 72, 3) := by decide +kernel
theorem dX11_constraint_16 : decode cX11_constraint 16 = .ok (.dup, 1) := by decide +kernel
theorem dX11_constraint_17 : decode cX11_constraint 17 = .ok (.ldc 163, 2) := by decide +kernel
theorem dX11_constraint_19 : decode cX11_constraint 19 = .ok (.invokespecial 76, 3) := by decide +kernel
theorem dX11_constraint_22 : decode cX11_constraint 22 = .ok (.athrow, 1) := by decide +kernel
theorem dX11_constraint_23 : decode cX11_constraint 23 = .ok (.iload_n 2, 1) := by decide +kernel
theorem dX11_constraint_24 : decode cX11_constraint 24 = .ok (.tableswitch 53 0 3 #[32, 37, 42, 47], 32) := by decide +kernel
theorem dX11_constraint_56 : decode cX11_constraint 56 = .ok (.aload_n 3, 1) := by decide +kernel
theorem dX11_constraint_57 : decode cX11_constraint 57 = .ok (.getfield 165, 3) := by decide +kernel
theorem dX11_constraint_60 : decode cX11_constraint 60 = .ok (.ireturn, 1) := by decide +kernel
theorem dX11_constraint_61 : decode cX11_constraint 61 = .ok (.aload_n 3, 1) := by decide +kernel
theorem dX11_constraint_62 : decode cX11_constraint 62 = .ok (.getfield 170, 3) := by decide +kernel
theorem dX11_constraint_65 : decode cX11_constraint 65 = .ok (.ireturn, 1) := by decide +kernel
theorem dX11_constraint_66 : decode cX11_constraint 66 = .ok (.aload_n 3, 1) := by decide +kernel
theorem dX11_constraint_67 : decode cX11_constraint 67 = .ok (.invokestatic 171, 3) := by decide +kernel
theorem dX11_constraint_70 : decode cX11_constraint 70 = .ok (.ireturn, 1) := by decide +kernel
theorem dX11_constraint_71 : decode cX11_constraint 71 = .ok (.aload_n 0, 1) := by decide +kernel
theorem dX11_constraint_72 : decode cX11_constraint 72 = .ok (.iload_n 1, 1) := by decide +kernel
theorem dX11_constraint_73 : decode cX11_constraint 73 = .ok (.invokevirtual 175, 3) := by decide +kernel
theorem dX11_constraint_76 : decode cX11_constraint 76 = .ok (.ireturn, 1) := by decide +kernel
theorem dX11_constraint_77 : decode cX11_constraint 77 = .ok (.new 87, 3) := by decide +kernel
theorem dX11_constraint_80 : decode cX11_constraint 80 = .ok (.dup, 1) := by decide +kernel
theorem dX11_constraint_81 : decode cX11_constraint 81 = .ok (.ldc 133, 2) := by decide +kernel
theorem dX11_constraint_83 : decode cX11_constraint 83 = .ok (.invokespecial 91, 3) := by decide +kernel
theorem dX11_constraint_86 : decode cX11_constraint 86 = .ok (.athrow, 1) := by decide +kernel
set_option maxRecDepth 20000 in
theorem ggX11_setOfVariables_X1_hasVariable : GoodIn wsX11_setOfVariables wsX1_hasVariable := goodIn_r _ [6, 7, 8, 9, 10, 11, 12, 16, 17, 18, 19, 20, 21, 22, 23, 24, 25, 26, 27, 28, 29, 30, 31, 32, 33, 34, 35, 36, 37, 38, 39] (by decide +kernel) (by decide +kernel)
set_option maxRecDepth 20000 in
theorem gX11_setOfVariables_X1_hasVariable_u178X0 : GoodIn wsX11_setOfVariables (va_wsU RX11 178 RX0 "SupportSolver$Constraint" ⟨"SupportSolver$Constraint", "hasVariable", "(I)Z"⟩ yX1_hasVariable wsX1_hasVariable) := goodIn_app (goodIn_of _ (by decide +kernel)) ggX11_setOfVariables_X1_hasVariable
set_option maxRecDepth 20000 in
theorem gX11_setOfVariables_X1_hasVariable_u178X2 : GoodIn wsX11_setOfVariables (va_wsU RX11 178 RX2 "SupportSolver$Constraint" ⟨"SupportSolver$Constraint", "hasVariable", "(I)Z"⟩ yX1_hasVariable wsX1_hasVariable) := goodIn_app (goodIn_of _ (by decide +kernel)) ggX11_setOfVariables_X1_hasVariable
set_option maxRecDepth 20000 in
theorem gX11_setOfVariables_X1_hasVariable_u178X4 : GoodIn wsX11_setOfVariables (va_wsU RX11 178 RX4 "SupportSolver$Constraint" ⟨"SupportSolver$Constraint", "hasVariable", "(I)Z"⟩ yX1_hasVariable wsX1_hasVariable) := goodIn_app (goodIn_of _ (by decide +kernel)) ggX11_setOfVariables_X1_hasVariable
set_option maxRecDepth 20000 in
theorem gX11_setOfVariables_X1_hasVariable_u178X10 : GoodIn wsX11_setOfVariables (va_wsU RX11 178 RX10 "SupportSolver$Constraint" ⟨"SupportSolver$Constraint", "hasVariable", "(I)Z"⟩ yX1_hasVariable wsX1_hasVariable) := goodIn_app (goodIn_of _ (by decide +kernel)) ggX11_setOfVariables_X1_hasVariable
theorem dX11_setOfVariables_0 : decode cX11_setOfVariables 0 = .ok (.iconst 0, 1) := by decide +kernel
theorem dX11_setOfVariables_1 : decode cX11_setOfVariables 1 = .ok (.istore_n 1, 1) := by decide +kernel
theorem dX11_setOfVariables_2 : decode cX11_setOfVariables 2 = .ok (.iconst 0, 1) := by decide +kernel
theorem dX11_setOfVariables_3 : decode cX11_setOfVariables 3 = .ok (.istore_n 2, 1) := by decide +kernel
theorem dX11_setOfVariables_4 : decode cX11_setOfVariables 4 = .ok (.iload_n 2, 1) := by decide +kernel
theorem dX11_setOfVariables_5 : decode cX11_setOfVariables 5 = .ok (.bipush 7, 2) := by decide +kernel
theorem dX11_setOfVariables_7 : decode cX11_setOfVariables 7 = .ok (.if_icmp .ge 23, 3) := by decide +kernel
theorem dX11_setOfVariables_10 : decode cX11_setOfVariables 10 = .ok (.aload_n 0, 1) := by decide +kernel
theorem dX11_setOfVariables_11 : decode cX11_setOfVariables 11 = .ok (.iload_n 2, 1) := by decide +kernel
theorem dX11_setOfVariables_12 : decode cX11_setOfVariables 12 = .ok (.invokevirtual 178, 3) := by decide +kernel
theorem dX11_setOfVariables_15 : decode cX11_setOfVariables 15 = .ok (.ifCond .eq 9, 3) := by decide +kernel
theorem dX11_setOfVariables_18 : decode cX11_setOfVariables 18 = .ok (.iload_n 1, 1) := by decide +kernel
theorem dX11_setOfVariables_19 : decode cX11_setOfVariables 19 = .ok (.iconst 1, 1) := by decide +kernel
theorem dX11_setOfVariables_20 : decode cX11_setOfVariables 20 = .ok (.iload_n 2, 1) := by decide +kernel
theorem dX11_setOfVariables_21 : decode cX11_setOfVariables 21 = .ok (.ishl, 1) := by decide +kernel
theorem dX11_setOfVariables_22 : decode cX11_setOfVariables 22 = .ok (.ior, 1) := by decide +kernel
theorem dX11_setOfVariables_23 : decode cX11_setOfVariables 23 = .ok (.istore_n 1, 1) := by decide +kernel
theorem dX11_setOfVariables_24 : decode cX11_setOfVariables 24 = .ok (.iinc 2 1, 3) := by decide +kernel
theorem dX11_setOfVariables_27 : decode cX11_setOfVariables 27 = .ok (.goto (-23), 3) := by decide +kernel
theorem dX11_setOfVariables_30 : decode cX11_setOfVariables 30 = .ok (.iload_n 1, 1) := by decide +kernel
theorem dX11_setOfVariables_31 : decode cX11_setOfVariables 31 = .ok (.ireturn, 1) := by decide +kernel
set_option maxRecDepth 20000 in
theorem ggX11_factsWithReason_X9_factAt : GoodIn wsX11_factsWithReason wsX9_factAt := goodIn_r _ [8, 9, 10, 20, 21, 22, 23, 24, 25] (by decide +kernel) (by decide +kernel)
set_option maxRecDepth 20000 in
theorem gX11_factsWithReason_X9_factAt : GoodIn wsX11_factsWithReason (wsV RX11 181 RX9 yX9_factAt wsX9_factAt) := goodIn_app (goodIn_of _ (by decide +kernel)) ggX11_factsWithReason_X9_factAt
theorem dX11_factsWithReason_0 : decode cX11_factsWithReason 0 = .ok (.iconst 0, 1) := by decide +kernel
theorem dX11_factsWithReason_1 : decode cX11_factsWithReason 1 = .ok (.istore_n 2, 1) := by decide +kernel
theorem dX11_factsWithReason_2 : decode cX11_factsWithReason 2 = .ok (.iconst 0, 1) := by decide +kernel
theorem dX11_factsWithReason_3 : decode cX11_factsWithReason 3 = .ok (.istore_n 3, 1) := by decide +kernel
theorem dX11_factsWithReason_4 : decode cX11_factsWithReason 4 = .ok (.iload_n 3, 1) := by decide +kernel
theorem dX11_factsWithReason_5 : decode cX11_factsWithReason 5 = .ok (.aload_n 0, 1) := by decide +kernel
theorem dX11_factsWithReason_6 : decode cX11_factsWithReason 6 = .ok (.getfield 19, 3) := by decide +kernel
theorem dX11_factsWithReason_9 : decode cX11_factsWithReason 9 = .ok (.getfield 111, 3) := by decide +kernel
theorem dX11_factsWithReason_12 : decode cX11_factsWithReason 12 = .ok (.if_icmp .ge 36, 3) := by decide +kernel
theorem dX11_factsWithReason_15 : decode cX11_factsWithReason 15 = .ok (.aload_n 0, 1) := by decide +kernel
theorem dX11_factsWithReason_16 : decode cX11_factsWithReason 16 = .ok (.getfield 19, 3) := by decide +kernel
theorem dX11_factsWithReason_19 : decode cX11_factsWithReason 19 = .ok (.iload_n 3, 1) := by decide +kernel
theorem dX11_factsWithReason_20 : decode cX11_factsWithReason 20 = .ok (.invokevirtual 181, 3) := by decide +kernel
theorem dX11_factsWithReason_23 : decode cX11_factsWithReason 23 = .ok (.astore 4, 2) := by decide +kernel
theorem dX11_factsWithReason_25 : decode cX11_factsWithReason 25 = .ok (.aload 4, 2) := by decide +kernel
theorem dX11_factsWithReason_27 : decode cX11_factsWithReason 27 = .ok (.ifnull 15, 3) := by decide +kernel
theorem dX11_factsWithReason_30 : decode cX11_factsWithReason 30 = .ok (.aload 4, 2) := by decide +kernel
theorem dX11_factsWithReason_32 : decode cX11_factsWithReason 32 = .ok (.getfield 185, 3) := by decide +kernel
theorem dX11_factsWithReason_35 : decode cX11_factsWithReason 35 = .ok (.iload_n 1, 1) := by decide +kernel
theorem dX11_factsWithReason_36 : decode cX11_factsWithReason 36 = .ok (.if_icmp .ne 6, 3) := by decide +kernel
theorem dX11_factsWithReason_39 : decode cX11_factsWithReason 39 = .ok (.iinc 2 1, 3) := by decide +kernel
theorem dX11_factsWithReason_42 : decode cX11_factsWithReason 42 = .ok (.iinc 3 1, 3) := by decide +kernel
theorem dX11_factsWithReason_45 : decode cX11_factsWithReason 45 = .ok (.goto (-41), 3) := by decide +kernel
theorem dX11_factsWithReason_48 : decode cX11_factsWithReason 48 = .ok (.iload_n 2, 1) := by decide +kernel
theorem dX11_factsWithReason_49 : decode cX11_factsWithReason 49 = .ok (.ireturn, 1) := by decide +kernel
set_option maxRecDepth 20000 in
theorem ggX11_fact_X9_factAt : GoodIn wsX11_fact wsX9_factAt := goodIn_r _ [14, 15, 16, 33, 34, 35, 36, 37, 38] (by decide +kernel) (by decide +kernel)
set_option maxRecDepth 20000 in
theorem gX11_fact_X9_factAt : GoodIn wsX11_fact (wsV RX11 181 RX9 yX9_factAt wsX9_factAt) := goodIn_app (goodIn_of _ (by decide +kernel)) ggX11_fact_X9_factAt
theorem dX11_fact_0 : decode cX11_fact 0 = .ok (.aload_n 0, 1) := by decide +kernel
theorem dX11_fact_1 : decode cX11_fact 1 = .ok (.getfield 19, 3) := by decide +kernel
theorem dX11_fact_4 : decode cX11_fact 4 = .ok (.iload_n 1, 1) := by decide +kernel
theorem dX11_fact_5 : decode cX11_fact 5 = .ok (.invokevirtual 181, 3) := by decide +kernel
theorem dX11_fact_8 : decode cX11_fact 8 = .ok (.astore_n 3, 1) := by decide +kernel
theorem dX11_fact_9 : decode cX11_fact 9 = .ok (.aload_n 3, 1) := by decide +kernel
theorem dX11_fact_10 : decode cX11_fact 10 = .ok (.ifnonnull 13, 3) := by decide +kernel
theorem dX11_fact_13 : decode cX11_fact 13 = .ok (.new 72, 3) := by decide +kernel
theorem dX11_fact_16 : decode cX11_fact 16 = .ok (.dup, 1) := by decide +kernel
theorem dX11_fact_17 : decode cX11_fact 17 = .ok (.ldc 190, 2) := by decide +kernel
theorem dX11_fact_19 : decode cX11_fact 19 = .ok (.invokespecial 76, 3) := by decide +kernel
theorem dX11_fact_22 : decode cX11_fact 22 = .ok (.athrow, 1) := by decide +kernel
theorem dX11_fact_23 : decode cX11_fact 23 = .ok (.iload_n 2, 1) := by decide +kernel
theorem dX11_fact_24 : decode cX11_fact 24 = .ok (.tableswitch 52 0 3 #[32, 37, 42, 47], 32) := by decide +kernel
theorem dX11_fact_56 : decode cX11_fact 56 = .ok (.aload_n 3, 1) := by decide +kernel
theorem dX11_fact_57 : decode cX11_fact 57 = .ok (.getfield 192, 3) := by decide +kernel
theorem dX11_fact_60 : decode cX11_fact 60 = .ok (.ireturn, 1) := by decide +kernel
theorem dX11_fact_61 : decode cX11_fact 61 = .ok (.aload_n 3, 1) := by decide +kernel
theorem dX11_fact_62 : decode cX11_fact 62 = .ok (.getfield 195, 3) := by decide +kernel
theorem dX11_fact_65 : decode cX11_fact 65 = .ok (.ireturn, 1) := by decide +kernel
theorem dX11_fact_66 : decode cX11_fact 66 = .ok (.aload_n 3, 1) := by decide +kernel
theorem dX11_fact_67 : decode cX11_fact 67 = .ok (.getfield 185, 3) := by decide +kernel
theorem dX11_fact_70 : decode cX11_fact 70 = .ok (.ireturn, 1) := by decide +kernel
theorem dX11_fact_71 : decode cX11_fact 71 = .ok (.aload_n 3, 1) := by decide +kernel
theorem dX11_fact_72 : decode cX11_fact 72 = .ok (.getfield 198, 3) := by decide +kernel
theorem dX11_fact_75 : decode cX11_fact 75 = .ok (.ireturn, 1) := by decide +kernel
theorem dX11_fact_76 : decode cX11_fact 76 = .ok (.new 87, 3) := by decide +kernel
theorem dX11_fact_79 : decode cX11_fact 79 = .ok (.dup, 1) := by decide +kernel
theorem dX11_fact_80 : decode cX11_fact 80 = .ok (.ldc 133, 2) := by decide +kernel
theorem dX11_fact_82 : decode cX11_fact 82 = .ok (.invokespecial 91, 3) := by decide +kernel
theorem dX11_fact_85 : decode cX11_fact 85 = .ok (.athrow, 1) := by decide +kernel
set_option maxRecDepth 20000 in
theorem ggX11_factOf_X11_isVariable : GoodIn wsX11_factOf wsX11_isVariable := goodIn_r _ [13, 14, 15, 42, 43, 44, 45, 46, 47, 48, 49, 50, 57, 58, 59, 60] (by decide +kernel) (by decide +kernel)
set_option maxRecDepth 20000 in
theorem gX11_factOf_X11_isVariable : GoodIn wsX11_factOf (wsV RX11 154 RX11 yX11_isVariable wsX11_isVariable) := goodIn_app (goodIn_of _ (by decide +kernel)) ggX11_factOf_X11_isVariable
set_option maxRecDepth 20000 in
theorem ggX11_factOf_X11_isValue : GoodIn wsX11_factOf wsX11_isValue := goodIn_r _ [18] (by decide +kernel) (by decide +kernel)
set_option maxRecDepth 20000 in
theorem gX11_factOf_X11_isValue : GoodIn wsX11_factOf (va_wsS RX11 199 yX11_isValue wsX11_isValue) := goodIn_app (goodIn_of _ (by decide +kernel)) ggX11_factOf_X11_isValue
set_option maxRecDepth 20000 in
theorem ggX11_factOf_X5_pair : GoodIn wsX11_factOf wsX5_pair := goodIn_r _ [22] (by decide +kernel) (by decide +kernel)
set_option maxRecDepth 20000 in
theorem gX11_factOf_X5_pair : GoodIn wsX11_factOf (va_wsS RX11 204 yX5_pair wsX5_pair) := goodIn_app (goodIn_of _ (by decide +kernel)) ggX11_factOf_X5_pair
set_option maxRecDepth 20000 in
theorem ggX11_factOf_X9_pairAt : GoodIn wsX11_factOf wsX9_pairAt := goodIn_r _ [27, 28, 29, 30, 26, 31, 32, 33, 34, 35, 36, 37, 38, 39, 40, 41, 20, 21, 22, 51, 52, 53, 54, 55, 56, 61, 62, 63, 64, 65, 66, 67] (by decide +kernel) (by decide +kernel)
set_option maxRecDepth 20000 in
theorem gX11_factOf_X9_pairAt : GoodIn wsX11_factOf (wsV RX11 208 RX9 yX9_pairAt wsX9_pairAt) := goodIn_app (goodIn_of _ (by decide +kernel)) ggX11_factOf_X9_pairAt
theorem dX11_factOf_0 : decode cX11_factOf 0 = .ok (.aload_n 0, 1) := by decide +kernel
theorem dX11_factOf_1 : decode cX11_factOf 1 = .ok (.iload_n 1, 1) := by decide +kernel
theorem dX11_factOf_2 : decode cX11_factOf 2 = .ok (.invokevirtual 154, 3) := by decide +kernel
theorem dX11_factOf_5 : decode cX11_factOf 5 = .ok (.ifCond .ne 13, 3) := by decide +kernel
theorem dX11_factOf_8 : decode cX11_factOf 8 = .ok (.new 72, 3) := by decide +kernel
theorem dX11_factOf_11 : decode cX11_factOf 11 = .ok (.dup, 1) := by decide +kernel
theorem dX11_factOf_12 : decode cX11_factOf 12 = .ok (.ldc 157, 2) := by decide +kernel
theorem dX11_factOf_14 : decode cX11_factOf 14 = .ok (.invokespecial 76, 3) := by decide +kernel
theorem dX11_factOf_17 : decode cX11_factOf 17 = .ok (.athrow, 1) := by decide +kernel
theorem dX11_factOf_18 : decode cX11_factOf 18 = .ok (.iload_n 2, 1) := by decide +kernel
theorem dX11_factOf_19 : decode cX11_factOf 19 = .ok (.invokestatic 199, 3) := by decide +kernel
theorem dX11_factOf_22 : decode cX11_factOf 22 = .ok (.ifCond .ne 13, 3) := by decide +kernel
theorem dX11_factOf_25 : decode cX11_factOf 25 = .ok (.new 87, 3) := by decide +kernel
theorem dX11_factOf_28 : decode cX11_factOf 28 = .ok (.dup, 1) := by decide +kernel
theorem dX11_factOf_29 : decode cX11_factOf 29 = .ok (.ldc 202, 2) := by decide +kernel
theorem dX11_factOf_31 : decode cX11_factOf 31 = .ok (.invokespecial 91, 3) := by decide +kernel
theorem dX11_factOf_34 : decode cX11_factOf 34 = .ok (.athrow, 1) := by decide +kernel
theorem dX11_factOf_35 : decode cX11_factOf 35 = .ok (.iload_n 1, 1) := by decide +kernel
theorem dX11_factOf_36 : decode cX11_factOf 36 = .ok (.iload_n 2, 1) := by decide +kernel
theorem dX11_factOf_37 : decode cX11_factOf 37 = .ok (.invokestatic 204, 3) := by decide +kernel
theorem dX11_factOf_40 : decode cX11_factOf 40 = .ok (.lstore_n 3, 1) := by decide +kernel
theorem dX11_factOf_41 : decode cX11_factOf 41 = .ok (.iconst 0, 1) := by decide +kernel
theorem dX11_factOf_42 : decode cX11_factOf 42 = .ok (.istore 5, 2) := by decide +kernel
theorem dX11_factOf_44 : decode cX11_factOf 44 = .ok (.iload 5, 2) := by decide +kernel
theorem dX11_factOf_46 : decode cX11_factOf 46 = .ok (.aload_n 0, 1) := by decide +kernel
theorem dX11_factOf_47 : decode cX11_factOf 47 = .ok (.getfield 19, 3) := by decide +kernel
theorem dX11_factOf_50 : decode cX11_factOf 50 = .ok (.getfield 111, 3) := by decide +kernel
theorem dX11_factOf_53 : decode cX11_factOf 53 = .ok (.if_icmp .ge 26, 3) := by decide +kernel
theorem dX11_factOf_56 : decode cX11_factOf 56 = .ok (.aload_n 0, 1) := by decide +kernel
theorem dX11_factOf_57 : decode cX11_factOf 57 = .ok (.getfield 19, 3) := by decide +kernel
theorem dX11_factOf_60 : decode cX11_factOf 60 = .ok (.iload 5, 2) := by decide +kernel
theorem dX11_factOf_62 : decode cX11_factOf 62 = .ok (.invokevirtual 208, 3) := by decide +kernel
theorem dX11_factOf_65 : decode cX11_factOf 65 = .ok (.lload_n 3, 1) := by decide +kernel
theorem dX11_factOf_66 : decode cX11_factOf 66 = .ok (.lcmp, 1) := by decide +kernel
theorem dX11_factOf_67 : decode cX11_factOf 67 = .ok (.ifCond .ne 6, 3) := by decide +kernel
theorem dX11_factOf_70 : decode cX11_factOf 70 = .ok (.iload 5, 2) := by decide +kernel
theorem dX11_factOf_72 : decode cX11_factOf 72 = .ok (.ireturn, 1) := by decide +kernel
theorem dX11_factOf_73 : decode cX11_factOf 73 = .ok (.iinc 5 1, 3) := by decide +kernel
theorem dX11_factOf_76 : decode cX11_factOf 76 = .ok (.goto (-32), 3) := by decide +kernel
theorem dX11_factOf_79 : decode cX11_factOf 79 = .ok (.new 212, 3) := by decide +kernel
theorem dX11_factOf_82 : decode cX11_factOf 82 = .ok (.dup, 1) := by decide +kernel
theorem dX11_factOf_83 : decode cX11_factOf 83 = .ok (.ldc 214, 2) := by decide +kernel
theorem dX11_factOf_85 : decode cX11_factOf 85 = .ok (.invokespecial 216, 3) := by decide +kernel
theorem dX11_factOf_88 : decode cX11_factOf 88 = .ok (.athrow, 1) := by decide +kernel
set_option maxRecDepth 20000 in
theorem ggX11_explanationSize_X9_factAt : GoodIn wsX11_explanationSize wsX9_factAt := goodIn_r _ [8, 9, 10, 217, 218, 219, 220, 221, 222] (by decide +kernel) (by decide +kernel)
set_option maxRecDepth 20000 in
theorem gX11_explanationSize_X9_factAt : GoodIn wsX11_explanationSize (wsV RX11 181 RX9 yX9_factAt wsX9_factAt) := goodIn_app (goodIn_of _ (by decide +kernel)) ggX11_explanationSize_X9_factAt
set_option maxRecDepth 20000 in
theorem ggX11_explanationSize_X11_explanationOf : GoodIn wsX11_explanationSize wsX11_explanationOf := goodIn_r _ [15, 16, 17, 18, 19, 20, 14, 21, 22, 23, 24, 25, 26, 27, 28, 29, 30, 31, 32, 33, 34, 35, 36, 37, 38, 39, 40, 41, 42, 43, 44, 45, 46, 47, 48, 49, 50, 51, 52, 53, 54, 55, 56, 57, 58, 59, 60, 61, 62, 63, 64, 3, 65, 66, 67, 68, 69, 70, 71, 7, 72, 73, 5, 6, 8, 9, 10, 74, 75, 76, 77, 78, 79, 80, 81, 82, 83, 84, 85, 86, 87, 88, 89, 90, 91, 92, 93, 94, 95, 96, 97, 98, 99, 100, 101, 102, 103, 104, 105, 106, 107, 108, 109, 110, 111, 112, 113, 114, 115, 116, 117, 118, 119, 120, 121, 122, 123, 124, 125, 126, 127, 128, 129, 130, 131, 132, 133, 134, 135, 136, 137, 138, 139, 140, 141, 142, 143, 144, 145, 146, 147, 148, 149, 150, 151, 152, 153, 154, 155, 156, 157, 158, 159, 160, 161, 162, 163, 164, 165, 166, 167, 168, 169, 170, 171, 172, 173, 174, 175, 176, 177, 178, 179, 180, 181, 182, 183, 184, 185, 186, 187, 188, 189, 190, 191, 192, 193, 194, 195, 196, 197, 198, 199, 200, 201, 202, 203, 204, 205, 206, 223, 224, 225, 226, 227, 228, 229, 208, 209, 210, 211, 212, 213, 214, 215, 216, 230, 231, 232, 233, 234, 235, 236, 237, 238, 239, 240, 241, 242, 243, 244, 245, 246, 247, 248, 249, 250, 251, 252, 253, 254, 255, 256, 257, 217, 218, 219, 220, 221, 222] (by decide +kernel) (by decide +kernel)
set_option maxRecDepth 20000 in
theorem gX11_explanationSize_X11_explanationOf : GoodIn wsX11_explanationSize (wsV RX11 217 RX11 yX11_explanationOf wsX11_explanationOf) := goodIn_app (goodIn_of _ (by decide +kernel)) ggX11_explanationSize_X11_explanationOf
set_option maxRecDepth 20000 in
theorem ggX11_explanationSize_J13_bitCount_95d88 : GoodIn wsX11_explanationSize wsJ13_bitCount_95d88 := goodIn_r _ [138, 139, 140, 141] (by decide +kernel) (by decide +kernel)
set_option maxRecDepth 20000 in
theorem gX11_explanationSize_J13_bitCount_95d88 : GoodIn wsX11_explanationSize (va_wsS RX11 221 yJ13_bitCount_95d88 wsJ13_bitCount_95d88) := goodIn_app (goodIn_of _ (by decide +kernel)) ggX11_explanationSize_J13_bitCount_95d88
theorem dX11_explanationSize_0 : decode cX11_explanationSize 0 = .ok (.aload_n 0, 1) := by decide +kernel
theorem dX11_explanationSize_1 : decode cX11_explanationSize 1 = .ok (.getfield 19, 3) := by decide +kernel
theorem dX11_explanationSize_4 : decode cX11_explanationSize 4 = .ok (.iload_n 1, 1) := by decide +kernel
theorem dX11_explanationSize_5 : decode cX11_explanationSize 5 = .ok (.invokevirtual 181, 3) := by decide +kernel
theorem dX11_explanationSize_8 : decode cX11_explanationSize 8 = .ok (.astore_n 2, 1) := by decide +kernel
theorem dX11_explanationSize_9 : decode cX11_explanationSize 9 = .ok (.aload_n 2, 1) := by decide +kernel
theorem dX11_explanationSize_10 : decode cX11_explanationSize 10 = .ok (.ifnonnull 13, 3) := by decide +kernel
theorem dX11_explanationSize_13 : decode cX11_explanationSize 13 = .ok (.new 72, 3) := by decide +kernel
theorem dX11_explanationSize_16 : decode cX11_explanationSize 16 = .ok (.dup, 1) := by decide +kernel
theorem dX11_explanationSize_17 : decode cX11_explanationSize 17 = .ok (.ldc 190, 2) := by decide +kernel
theorem dX11_explanationSize_19 : decode cX11_explanationSize 19 = .ok (.invokespecial 76, 3) := by decide +kernel
theorem dX11_explanationSize_22 : decode cX11_explanationSize 22 = .ok (.athrow, 1) := by decide +kernel
theorem dX11_explanationSize_23 : decode cX11_explanationSize 23 = .ok (.aload_n 0, 1) := by decide +kernel
theorem dX11_explanationSize_24 : decode cX11_explanationSize 24 = .ok (.aload_n 2, 1) := by decide +kernel
theorem dX11_explanationSize_25 : decode cX11_explanationSize 25 = .ok (.iload_n 1, 1) := by decide +kernel
theorem dX11_explanationSize_26 : decode cX11_explanationSize 26 = .ok (.invokevirtual 217, 3) := by decide +kernel
theorem dX11_explanationSize_29 : decode cX11_explanationSize 29 = .ok (.invokestatic 221, 3) := by decide +kernel
theorem dX11_explanationSize_32 : decode cX11_explanationSize 32 = .ok (.ireturn, 1) := by decide +kernel
set_option maxRecDepth 20000 in
theorem ggX11_explained_X9_factAt : GoodIn wsX11_explained wsX9_factAt := goodIn_r _ [8, 9, 10, 216, 217, 218, 219, 220, 221] (by decide +kernel) (by decide +kernel)
set_option maxRecDepth 20000 in
theorem gX11_explained_X9_factAt : GoodIn wsX11_explained (wsV RX11 181 RX9 yX9_factAt wsX9_factAt) := goodIn_app (goodIn_of _ (by decide +kernel)) ggX11_explained_X9_factAt
set_option maxRecDepth 20000 in
theorem ggX11_explained_X11_explanationOf : GoodIn wsX11_explained wsX11_explanationOf := goodIn_r _ [15, 16, 17, 18, 19, 20, 14, 21, 22, 23, 24, 25, 26, 27, 28, 29, 30, 31, 32, 33, 34, 35, 36, 37, 38, 39, 40, 41, 42, 43, 44, 45, 46, 47, 48, 49, 50, 51, 52, 53, 54, 55, 56, 57, 58, 59, 60, 61, 62, 63, 64, 3, 65, 66, 67, 68, 69, 70, 71, 7, 72, 73, 5, 6, 8, 9, 10, 74, 75, 76, 77, 78, 79, 80, 81, 82, 83, 84, 85, 86, 87, 88, 89, 90, 91, 92, 93, 94, 95, 96, 97, 98, 99, 100, 101, 102, 103, 104, 105, 106, 107, 108, 109, 110, 111, 112, 113, 114, 115, 116, 117, 118, 119, 120, 121, 122, 123, 124, 125, 126, 127, 128, 129, 130, 131, 132, 133, 134, 135, 136, 137, 138, 139, 140, 141, 142, 143, 144, 145, 146, 147, 148, 149, 150, 151, 152, 153, 154, 155, 156, 157, 158, 159, 160, 161, 162, 163, 164, 165, 166, 167, 168, 169, 170, 171, 172, 173, 174, 175, 176, 177, 178, 179, 180, 181, 182, 183, 184, 185, 186, 187, 188, 189, 190, 191, 192, 193, 194, 195, 196, 197, 198, 199, 200, 201, 202, 203, 204, 205, 206, 222, 223, 224, 225, 226, 227, 228, 207, 208, 209, 210, 211, 212, 213, 214, 215, 229, 230, 231, 232, 233, 234, 235, 236, 237, 238, 239, 240, 241, 242, 243, 244, 245, 246, 247, 248, 249, 250, 251, 252, 253, 254, 255, 256, 216, 217, 218, 219, 220, 221] (by decide +kernel) (by decide +kernel)
set_option maxRecDepth 20000 in
theorem gX11_explained_X11_explanationOf : GoodIn wsX11_explained (wsV RX11 217 RX11 yX11_explanationOf wsX11_explanationOf) := goodIn_app (goodIn_of _ (by decide +kernel)) ggX11_explained_X11_explanationOf
set_option maxRecDepth 20000 in
theorem ggX11_explained_X9_pairAt : GoodIn wsX11_explained wsX9_pairAt := goodIn_r _ [72, 73, 5, 6, 7, 8, 9, 10, 74, 75, 76, 77, 78, 79, 80, 81, 82, 43, 83, 216, 217, 218, 219, 220, 221, 222, 223, 224, 225, 226, 227, 228] (by decide +kernel) (by decide +kernel)
set_option maxRecDepth 20000 in
theorem gX11_explained_X9_pairAt : GoodIn wsX11_explained (wsV RX11 208 RX9 yX9_pairAt wsX9_pairAt) := goodIn_app (goodIn_of _ (by decide +kernel)) ggX11_explained_X9_pairAt
theorem dX11_explained_0 : decode cX11_explained 0 = .ok (.aload_n 0, 1) := by decide +kernel
theorem dX11_explained_1 : decode cX11_explained 1 = .ok (.getfield 19, 3) := by decide +kernel
theorem dX11_explained_4 : decode cX11_explained 4 = .ok (.iload_n 1, 1) := by decide +kernel
theorem dX11_explained_5 : decode cX11_explained 5 = .ok (.invokevirtual 181, 3) := by decide +kernel
theorem dX11_explained_8 : decode cX11_explained 8 = .ok (.astore_n 3, 1) := by decide +kernel
theorem dX11_explained_9 : decode cX11_explained 9 = .ok (.aload_n 3, 1) := by decide +kernel
theorem dX11_explained_10 : decode cX11_explained 10 = .ok (.ifnonnull 13, 3) := by decide +kernel
theorem dX11_explained_13 : decode cX11_explained 13 = .ok (.new 72, 3) := by decide +kernel
theorem dX11_explained_16 : decode cX11_explained 16 = .ok (.dup, 1) := by decide +kernel
theorem dX11_explained_17 : decode cX11_explained 17 = .ok (.ldc 190, 2) := by decide +kernel
theorem dX11_explained_19 : decode cX11_explained 19 = .ok (.invokespecial 76, 3) := by decide +kernel
theorem dX11_explained_22 : decode cX11_explained 22 = .ok (.athrow, 1) := by decide +kernel
theorem dX11_explained_23 : decode cX11_explained 23 = .ok (.aload_n 0, 1) := by decide +kernel
theorem dX11_explained_24 : decode cX11_explained 24 = .ok (.aload_n 3, 1) := by decide +kernel
theorem dX11_explained_25 : decode cX11_explained 25 = .ok (.iload_n 1, 1) := by decide +kernel
theorem dX11_explained_26 : decode cX11_explained 26 = .ok (.invokevirtual 217, 3) := by decide +kernel
theorem dX11_explained_29 : decode cX11_explained 29 = .ok (.lstore 4, 2) := by decide +kernel
theorem dX11_explained_31 : decode cX11_explained 31 = .ok (.iconst 0, 1) := by decide +kernel
theorem dX11_explained_32 : decode cX11_explained 32 = .ok (.istore 6, 2) := by decide +kernel
theorem dX11_explained_34 : decode cX11_explained 34 = .ok (.iconst 0, 1) := by decide +kernel
theorem dX11_explained_35 : decode cX11_explained 35 = .ok (.istore 7, 2) := by decide +kernel
theorem dX11_explained_37 : decode cX11_explained 37 = .ok (.iload 7, 2) := by decide +kernel
theorem dX11_explained_39 : decode cX11_explained 39 = .ok (.iload_n 1, 1) := by decide +kernel
theorem dX11_explained_40 : decode cX11_explained 40 = .ok (.if_icmp .ge 38, 3) := by decide +kernel
theorem dX11_explained_43 : decode cX11_explained 43 = .ok (.aload_n 0, 1) := by decide +kernel
theorem dX11_explained_44 : decode cX11_explained 44 = .ok (.getfield 19, 3) := by decide +kernel
theorem dX11_explained_47 : decode cX11_explained 47 = .ok (.iload 7, 2) := by decide +kernel
theorem dX11_explained_49 : decode cX11_explained 49 = .ok (.invokevirtual 208, 3) := by decide +kernel
theorem dX11_explained_52 : decode cX11_explained 52 = .ok (.lload 4, 2) := by decide +kernel
theorem dX11_explained_54 : decode cX11_explained 54 = .ok (.land, 1) := by decide +kernel
theorem dX11_explained_55 : decode cX11_explained 55 = .ok (.lconst 0, 1) := by decide +kernel
theorem dX11_explained_56 : decode cX11_explained 56 = .ok (.lcmp, 1) := by decide +kernel
theorem dX11_explained_57 : decode cX11_explained 57 = .ok (.ifCond .eq 15, 3) := by decide +kernel
theorem dX11_explained_60 : decode cX11_explained 60 = .ok (.iload 6, 2) := by decide +kernel
theorem dX11_explained_62 : decode cX11_explained 62 = .ok (.iload_n 2, 1) := by decide +kernel
theorem dX11_explained_63 : decode cX11_explained 63 = .ok (.if_icmp .ne 6, 3) := by decide +kernel
theorem dX11_explained_66 : decode cX11_explained 66 = .ok (.iload 7, 2) := by decide +kernel
theorem dX11_explained_68 : decode cX11_explained 68 = .ok (.ireturn, 1) := by decide +kernel
theorem dX11_explained_69 : decode cX11_explained 69 = .ok (.iinc 6 1, 3) := by decide +kernel
theorem dX11_explained_72 : decode cX11_explained 72 = .ok (.iinc 7 1, 3) := by decide +kernel
theorem dX11_explained_75 : decode cX11_explained 75 = .ok (.goto (-38), 3) := by decide +kernel
theorem dX11_explained_78 : decode cX11_explained 78 = .ok (.new 72, 3) := by decide +kernel
theorem dX11_explained_81 : decode cX11_explained 81 = .ok (.dup, 1) := by decide +kernel
theorem dX11_explained_82 : decode cX11_explained 82 = .ok (.ldc 226, 2) := by decide +kernel
theorem dX11_explained_84 : decode cX11_explained 84 = .ok (.invokespecial 76, 3) := by decide +kernel
theorem dX11_explained_87 : decode cX11_explained 87 = .ok (.athrow, 1) := by decide +kernel
set_option maxRecDepth 20000 in
theorem ggX11_depth_X9_factAt : GoodIn wsX11_depth wsX9_factAt := goodIn_r _ [9, 10, 11, 230, 231, 232, 233, 234, 235] (by decide +kernel) (by decide +kernel)
set_option maxRecDepth 20000 in
theorem gX11_depth_X9_factAt : GoodIn wsX11_depth (wsV RX11 181 RX9 yX9_factAt wsX9_factAt) := goodIn_app (goodIn_of _ (by decide +kernel)) ggX11_depth_X9_factAt
set_option maxRecDepth 20000 in
theorem ggX11_depth_X11_explanationOf : GoodIn wsX11_depth wsX11_explanationOf := goodIn_r _ [16, 17, 18, 19, 20, 21, 15, 22, 23, 24, 25, 26, 27, 28, 29, 30, 31, 32, 33, 34, 35, 36, 37, 38, 39, 40, 41, 42, 43, 44, 45, 46, 47, 48, 49, 50, 51, 52, 53, 54, 55, 56, 57, 58, 59, 60, 61, 62, 63, 64, 65, 3, 66, 67, 68, 69, 70, 71, 72, 8, 73, 74, 6, 7, 9, 10, 11, 75, 76, 77, 78, 79, 80, 81, 82, 83, 84, 85, 86, 87, 88, 89, 90, 91, 92, 93, 94, 95, 96, 97, 98, 99, 100, 101, 102, 103, 104, 105, 106, 107, 108, 109, 110, 111, 112, 113, 114, 115, 116, 117, 118, 119, 120, 121, 122, 123, 124, 125, 126, 127, 128, 129, 130, 131, 132, 133, 134, 135, 136, 137, 138, 139, 140, 141, 142, 143, 144, 145, 146, 147, 148, 149, 150, 151, 152, 153, 154, 155, 156, 157, 158, 159, 160, 161, 162, 163, 164, 165, 166, 167, 168, 169, 170, 171, 172, 173, 174, 175, 176, 177, 178, 179, 180, 181, 182, 183, 184, 185, 186, 187, 188, 189, 190, 191, 192, 193, 194, 195, 196, 197, 198, 199, 200, 201, 202, 203, 204, 205, 206, 207, 223, 224, 225, 226, 227, 228, 229, 214, 215, 216, 217, 218, 219, 220, 221, 222, 236, 237, 238, 239, 240, 241, 242, 243, 244, 245, 246, 247, 248, 249, 250, 251, 252, 253, 254, 255, 256, 257, 258, 259, 260, 261, 262, 263, 230, 231, 232, 233, 234, 235] (by decide +kernel) (by decide +kernel)
set_option maxRecDepth 20000 in
theorem gX11_depth_X11_explanationOf : GoodIn wsX11_depth (wsV RX11 217 RX11 yX11_explanationOf wsX11_explanationOf) := goodIn_app (goodIn_of _ (by decide +kernel)) ggX11_depth_X11_explanationOf
set_option maxRecDepth 20000 in
theorem ggX11_depth_X11_depthAbove : GoodIn wsX11_depth wsX11_depthAbove := goodIn_r _ [211, 3, 4, 212, 134, 131, 135, 5, 6, 7, 8, 9, 10, 11, 213, 76, 77, 78, 79, 80, 81, 82, 83, 44, 84, 214, 215, 216, 217, 218, 219, 220, 221, 222, 223, 224, 225, 226, 227, 228, 229, 230, 231, 232, 233, 234, 235] (by decide +kernel) (by decide +kernel)
set_option maxRecDepth 20000 in
theorem gX11_depth_X11_depthAbove : GoodIn wsX11_depth (wsV RX11 228 RX11 yX11_depthAbove wsX11_depthAbove) := goodIn_app (goodIn_of _ (by decide +kernel)) ggX11_depth_X11_depthAbove
theorem dX11_depth_0 : decode cX11_depth 0 = .ok (.aload_n 0, 1) := by decide +kernel
theorem dX11_depth_1 : decode cX11_depth 1 = .ok (.getfield 19, 3) := by decide +kernel
theorem dX11_depth_4 : decode cX11_depth 4 = .ok (.iload_n 1, 1) := by decide +kernel
theorem dX11_depth_5 : decode cX11_depth 5 = .ok (.invokevirtual 181, 3) := by decide +kernel
theorem dX11_depth_8 : decode cX11_depth 8 = .ok (.astore_n 2, 1) := by decide +kernel
theorem dX11_depth_9 : decode cX11_depth 9 = .ok (.aload_n 2, 1) := by decide +kernel
theorem dX11_depth_10 : decode cX11_depth 10 = .ok (.ifnonnull 13, 3) := by decide +kernel
theorem dX11_depth_13 : decode cX11_depth 13 = .ok (.new 72, 3) := by decide +kernel
theorem dX11_depth_16 : decode cX11_depth 16 = .ok (.dup, 1) := by decide +kernel
theorem dX11_depth_17 : decode cX11_depth 17 = .ok (.ldc 190, 2) := by decide +kernel
theorem dX11_depth_19 : decode cX11_depth 19 = .ok (.invokespecial 76, 3) := by decide +kernel
theorem dX11_depth_22 : decode cX11_depth 22 = .ok (.athrow, 1) := by decide +kernel
theorem dX11_depth_23 : decode cX11_depth 23 = .ok (.iconst 0, 1) := by decide +kernel
theorem dX11_depth_24 : decode cX11_depth 24 = .ok (.istore_n 3, 1) := by decide +kernel
theorem dX11_depth_25 : decode cX11_depth 25 = .ok (.iload_n 3, 1) := by decide +kernel
theorem dX11_depth_26 : decode cX11_depth 26 = .ok (.iload_n 1, 1) := by decide +kernel
theorem dX11_depth_27 : decode cX11_depth 27 = .ok (.if_icmp .gt 41, 3) := by decide +kernel
theorem dX11_depth_30 : decode cX11_depth 30 = .ok (.aload_n 0, 1) := by decide +kernel
theorem dX11_depth_31 : decode cX11_depth 31 = .ok (.getfield 19, 3) := by decide +kernel
theorem dX11_depth_34 : decode cX11_depth 34 = .ok (.iload_n 3, 1) := by decide +kernel
theorem dX11_depth_35 : decode cX11_depth 35 = .ok (.invokevirtual 181, 3) := by decide +kernel
theorem dX11_depth_38 : decode cX11_depth 38 = .ok (.astore 4, 2) := by decide +kernel
theorem dX11_depth_40 : decode cX11_depth 40 = .ok (.aload 4, 2) := by decide +kernel
theorem dX11_depth_42 : decode cX11_depth 42 = .ok (.ifnull 20, 3) := by decide +kernel
theorem dX11_depth_45 : decode cX11_depth 45 = .ok (.aload 4, 2) := by decide +kernel
theorem dX11_depth_47 : decode cX11_depth 47 = .ok (.aload_n 0, 1) := by decide +kernel
theorem dX11_depth_48 : decode cX11_depth 48 = .ok (.aload_n 0, 1) := by decide +kernel
theorem dX11_depth_49 : decode cX11_depth 49 = .ok (.aload 4, 2) := by decide +kernel
theorem dX11_depth_51 : decode cX11_depth 51 = .ok (.iload_n 3, 1) := by decide +kernel
theorem dX11_depth_52 : decode cX11_depth 52 = .ok (.invokevirtual 217, 3) := by decide +kernel
theorem dX11_depth_55 : decode cX11_depth 55 = .ok (.iload_n 3, 1) := by decide +kernel
theorem dX11_depth_56 : decode cX11_depth 56 = .ok (.invokevirtual 228, 3) := by decide +kernel
theorem dX11_depth_59 : decode cX11_depth 59 = .ok (.putfield 231, 3) := by decide +kernel
theorem dX11_depth_62 : decode cX11_depth 62 = .ok (.iinc 3 1, 3) := by decide +kernel
theorem dX11_depth_65 : decode cX11_depth 65 = .ok (.goto (-40), 3) := by decide +kernel
theorem dX11_depth_68 : decode cX11_depth 68 = .ok (.aload_n 2, 1) := by decide +kernel
theorem dX11_depth_69 : decode cX11_depth 69 = .ok (.getfield 231, 3) := by decide +kernel
theorem dX11_depth_72 : decode cX11_depth 72 = .ok (.ireturn, 1) := by decide +kernel
set_option maxRecDepth 20000 in
theorem ggX11_depthAbove_X9_factAt : GoodIn wsX11_depthAbove wsX9_factAt := goodIn_r _ [11, 12, 13, 41, 42, 43, 44, 45, 46] (by decide +kernel) (by decide +kernel)
set_option maxRecDepth 20000 in
theorem gX11_depthAbove_X9_factAt : GoodIn wsX11_depthAbove (wsV RX11 181 RX9 yX9_factAt wsX9_factAt) := goodIn_app (goodIn_of _ (by decide +kernel)) ggX11_depthAbove_X9_factAt
set_option maxRecDepth 20000 in
theorem ggX11_depthAbove_X3_pair : GoodIn wsX11_depthAbove wsX3_pair := goodIn_r _ [18, 19, 20, 21, 22, 23, 24, 34, 35, 36, 37, 38, 39, 40] (by decide +kernel) (by decide +kernel)
set_option maxRecDepth 20000 in
theorem gX11_depthAbove_X3_pair : GoodIn wsX11_depthAbove (wsV RX11 234 RX3 yX3_pair wsX3_pair) := goodIn_app (goodIn_of _ (by decide +kernel)) ggX11_depthAbove_X3_pair
theorem dX11_depthAbove_0 : decode cX11_depthAbove 0 = .ok (.iconst 0, 1) := by decide +kernel
theorem dX11_depthAbove_1 : decode cX11_depthAbove 1 = .ok (.istore 4, 2) := by decide +kernel
theorem dX11_depthAbove_3 : decode cX11_depthAbove 3 = .ok (.iconst 0, 1) := by decide +kernel
theorem dX11_depthAbove_4 : decode cX11_depthAbove 4 = .ok (.istore 5, 2) := by decide +kernel
theorem dX11_depthAbove_6 : decode cX11_depthAbove 6 = .ok (.iload 5, 2) := by decide +kernel
theorem dX11_depthAbove_8 : decode cX11_depthAbove 8 = .ok (.iload_n 3, 1) := by decide +kernel
theorem dX11_depthAbove_9 : decode cX11_depthAbove 9 = .ok (.if_icmp .ge 51, 3) := by decide +kernel
theorem dX11_depthAbove_12 : decode cX11_depthAbove 12 = .ok (.aload_n 0, 1) := by decide +kernel
theorem dX11_depthAbove_13 : decode cX11_depthAbove 13 = .ok (.getfield 19, 3) := by decide +kernel
theorem dX11_depthAbove_16 : decode cX11_depthAbove 16 = .ok (.iload 5, 2) := by decide +kernel
theorem dX11_depthAbove_18 : decode cX11_depthAbove 18 = .ok (.invokevirtual 181, 3) := by decide +kernel
theorem dX11_depthAbove_21 : decode cX11_depthAbove 21 = .ok (.astore 6, 2) := by decide +kernel
theorem dX11_depthAbove_23 : decode cX11_depthAbove 23 = .ok (.aload 6, 2) := by decide +kernel
theorem dX11_depthAbove_25 : decode cX11_depthAbove 25 = .ok (.ifnull 29, 3) := by decide +kernel
theorem dX11_depthAbove_28 : decode cX11_depthAbove 28 = .ok (.aload 6, 2) := by decide +kernel
theorem dX11_depthAbove_30 : decode cX11_depthAbove 30 = .ok (.invokevirtual 234, 3) := by decide +kernel
theorem dX11_depthAbove_33 : decode cX11_depthAbove 33 = .ok (.lload_n 1, 1) := by decide +kernel
theorem dX11_depthAbove_34 : decode cX11_depthAbove 34 = .ok (.land, 1) := by decide +kernel
theorem dX11_depthAbove_35 : decode cX11_depthAbove 35 = .ok (.lconst 0, 1) := by decide +kernel
theorem dX11_depthAbove_36 : decode cX11_depthAbove 36 = .ok (.lcmp, 1) := by decide +kernel
theorem dX11_depthAbove_37 : decode cX11_depthAbove 37 = .ok (.ifCond .eq 17, 3) := by decide +kernel
theorem dX11_depthAbove_40 : decode cX11_depthAbove 40 = .ok (.iload 4, 2) := by decide +kernel
theorem dX11_depthAbove_42 : decode cX11_depthAbove 42 = .ok (.aload 6, 2) := by decide +kernel
theorem dX11_depthAbove_44 : decode cX11_depthAbove 44 = .ok (.getfield 231, 3) := by decide +kernel
theorem dX11_depthAbove_47 : decode cX11_depthAbove 47 = .ok (.iconst 1, 1) := by decide +kernel
theorem dX11_depthAbove_48 : decode cX11_depthAbove 48 = .ok (.iadd, 1) := by decide +kernel
theorem dX11_depthAbove_49 : decode cX11_depthAbove 49 = .ok (.invokestatic 237, 3) := by decide +kernel
theorem dX11_depthAbove_52 : decode cX11_depthAbove 52 = .ok (.istore 4, 2) := by decide +kernel
theorem dX11_depthAbove_54 : decode cX11_depthAbove 54 = .ok (.iinc 5 1, 3) := by decide +kernel
theorem dX11_depthAbove_57 : decode cX11_depthAbove 57 = .ok (.goto (-51), 3) := by decide +kernel
theorem dX11_depthAbove_60 : decode cX11_depthAbove 60 = .ok (.iload 4, 2) := by decide +kernel
theorem dX11_depthAbove_62 : decode cX11_depthAbove 62 = .ok (.ireturn, 1) := by decide +kernel
set_option maxRecDepth 20000 in
theorem ggX11_explanationOf_X11_sourceOf : GoodIn wsX11_explanationOf wsX11_sourceOf := goodIn_r _ [7, 8, 9, 10, 11, 12, 13, 14, 15, 16, 17, 18, 19, 20, 21, 22, 23, 24, 25, 26, 27, 28, 29, 30, 31, 32, 33, 34, 35, 36, 37, 38, 39, 40, 41, 42, 43, 44, 45, 46, 200, 201, 202, 203, 204, 205, 206, 207, 208, 209, 210, 211, 212, 213, 214, 215, 216, 217, 218, 219, 220, 221, 222, 223, 224, 225, 226, 227, 228, 229, 230, 231, 232, 233, 234, 235, 236, 237, 238, 239, 240, 241, 242, 243] (by decide +kernel) (by decide +kernel)
set_option maxRecDepth 20000 in
theorem gX11_explanationOf_X11_sourceOf : GoodIn wsX11_explanationOf (wsV RX11 248 RX11 yX11_sourceOf wsX11_sourceOf) := goodIn_app (goodIn_of _ (by decide +kernel)) ggX11_explanationOf_X11_sourceOf
set_option maxRecDepth 20000 in
theorem ggX11_explanationOf_X11_leastExplanation : GoodIn wsX11_explanationOf wsX11_leastExplanation := goodIn_r _ [50, 51, 52, 2, 11, 53, 54, 55, 56, 57, 58, 59, 60, 61, 62, 63, 64, 65, 66, 67, 68, 69, 70, 71, 72, 73, 74, 75, 29, 76, 77, 78, 79, 80, 81, 37, 38, 39, 82, 83, 22, 84, 26, 25, 85, 86, 87, 88, 89, 90, 91, 92, 93, 94, 95, 96, 97, 24, 98, 28, 30, 99, 100, 101, 102, 103, 104, 105, 106, 107, 108, 109, 110, 111, 112, 113, 114, 115, 116, 117, 118, 119, 120, 121, 122, 123, 124, 125, 126, 127, 128, 129, 130, 131, 132, 133, 134, 135, 136, 137, 138, 139, 140, 141, 142, 143, 144, 15, 145, 17, 146, 147, 148, 149, 150, 151, 152, 153, 154, 155, 156, 157, 158, 159, 160, 161, 162, 163, 164, 165, 166, 167, 168, 169, 170, 171, 172, 173, 174, 175, 176, 177, 178, 179, 180, 181, 182, 183, 184, 185, 186, 187, 188, 189, 190, 191, 192, 6, 193, 194, 195, 196, 197, 198, 199, 207, 208, 209, 210, 211, 212, 213, 214, 215, 221, 222, 223, 224, 225, 226, 227, 228, 229, 230, 231, 216, 217, 218, 219, 220, 232, 233, 234, 235, 236, 237, 238, 239, 240, 241, 242, 243, 200, 201, 202, 203, 204, 205, 206, 244, 245, 246, 247, 248, 249] (by decide +kernel) (by decide +kernel)
set_option maxRecDepth 20000 in
theorem gX11_explanationOf_X11_leastExplanation : GoodIn wsX11_explanationOf (wsV RX11 252 RX11 yX11_leastExplanation wsX11_leastExplanation) := goodIn_app (goodIn_of _ (by decide +kernel)) ggX11_explanationOf_X11_leastExplanation
theorem dX11_explanationOf_0 : decode cX11_explanationOf 0 = .ok (.aload_n 1, 1) := by decide +kernel
theorem dX11_explanationOf_1 : decode cX11_explanationOf 1 = .ok (.getfield 243, 3) := by decide +kernel
theorem dX11_explanationOf_4 : decode cX11_explanationOf 4 = .ok (.ldc2_w 246, 3) := by decide +kernel
theorem dX11_explanationOf_7 : decode cX11_explanationOf 7 = .ok (.lcmp, 1) := by decide +kernel
theorem dX11_explanationOf_8 : decode cX11_explanationOf 8 = .ok (.ifCond .ne 28, 3) := by decide +kernel
theorem dX11_explanationOf_11 : decode cX11_explanationOf 11 = .ok (.aload_n 0, 1) := by decide +kernel
theorem dX11_explanationOf_12 : decode cX11_explanationOf 12 = .ok (.aload_n 1, 1) := by decide +kernel
theorem dX11_explanationOf_13 : decode cX11_explanationOf 13 = .ok (.invokevirtual 248, 3) := by decide +kernel
theorem dX11_explanationOf_16 : decode cX11_explanationOf 16 = .ok (.astore_n 3, 1) := by decide +kernel
theorem dX11_explanationOf_17 : decode cX11_explanationOf 17 = .ok (.aload_n 1, 1) := by decide +kernel
theorem dX11_explanationOf_18 : decode cX11_explanationOf 18 = .ok (.aload_n 3, 1) := by decide +kernel
theorem dX11_explanationOf_19 : decode cX11_explanationOf 19 = .ok (.ifnonnull 7, 3) := by decide +kernel
theorem dX11_explanationOf_22 : decode cX11_explanationOf 22 = .ok (.lconst 0, 1) := by decide +kernel
theorem dX11_explanationOf_23 : decode cX11_explanationOf 23 = .ok (.goto 10, 3) := by decide +kernel
theorem dX11_explanationOf_26 : decode cX11_explanationOf 26 = .ok (.aload_n 0, 1) := by decide +kernel
theorem dX11_explanationOf_27 : decode cX11_explanationOf 27 = .ok (.aload_n 1, 1) := by decide +kernel
theorem dX11_explanationOf_28 : decode cX11_explanationOf 28 = .ok (.iload_n 2, 1) := by decide +kernel
theorem dX11_explanationOf_29 : decode cX11_explanationOf 29 = .ok (.aload_n 3, 1) := by decide +kernel
theorem dX11_explanationOf_30 : decode cX11_explanationOf 30 = .ok (.invokevirtual 252, 3) := by decide +kernel
theorem dX11_explanationOf_33 : decode cX11_explanationOf 33 = .ok (.putfield 243, 3) := by decide +kernel
theorem dX11_explanationOf_36 : decode cX11_explanationOf 36 = .ok (.aload_n 1, 1) := by decide +kernel
theorem dX11_explanationOf_37 : decode cX11_explanationOf 37 = .ok (.getfield 243, 3) := by decide +kernel
theorem dX11_explanationOf_40 : decode cX11_explanationOf 40 = .ok (.lreturn, 1) := by decide +kernel
set_option maxRecDepth 20000 in
theorem ggX11_sourceOf_X4_show : GoodIn wsX11_sourceOf wsX4_show := goodIn_r _ [9, 10, 11, 12, 13, 14, 15, 16, 17, 18, 19, 20, 21, 22, 23, 24, 25, 26, 27, 28, 29, 30, 31, 32, 56, 57, 58, 59, 60, 61, 62, 63, 64, 65, 66, 67, 68, 69, 70, 71, 72, 73, 74, 75, 76, 77, 78, 79] (by decide +kernel) (by decide +kernel)
set_option maxRecDepth 20000 in
theorem gX11_sourceOf_X4_show : GoodIn wsX11_sourceOf (wsV RX11 259 RX4 yX4_show wsX4_show) := goodIn_app (goodIn_of _ (by decide +kernel)) ggX11_sourceOf_X4_show
set_option maxRecDepth 20000 in
theorem ggX11_sourceOf_X6_constraintAt : GoodIn wsX11_sourceOf wsX6_constraintAt := goodIn_r _ [37, 38, 39, 80, 81, 82, 83] (by decide +kernel) (by decide +kernel)
set_option maxRecDepth 20000 in
theorem gX11_sourceOf_X6_constraintAt : GoodIn wsX11_sourceOf (wsV RX11 159 RX6 yX6_constraintAt wsX6_constraintAt) := goodIn_app (goodIn_of _ (by decide +kernel)) ggX11_sourceOf_X6_constraintAt
theorem dX11_sourceOf_0 : decode cX11_sourceOf 0 = .ok (.aload_n 1, 1) := by decide +kernel
theorem dX11_sourceOf_1 : decode cX11_sourceOf 1 = .ok (.getfield 185, 3) := by decide +kernel
theorem dX11_sourceOf_4 : decode cX11_sourceOf 4 = .ok (.bipush 100, 2) := by decide +kernel
theorem dX11_sourceOf_6 : decode cX11_sourceOf 6 = .ok (.if_icmp .ne 19, 3) := by decide +kernel
theorem dX11_sourceOf_9 : decode cX11_sourceOf 9 = .ok (.aload_n 0, 1) := by decide +kernel
theorem dX11_sourceOf_10 : decode cX11_sourceOf 10 = .ok (.getfield 29, 3) := by decide +kernel
theorem dX11_sourceOf_13 : decode cX11_sourceOf 13 = .ok (.aload_n 1, 1) := by decide +kernel
theorem dX11_sourceOf_14 : decode cX11_sourceOf 14 = .ok (.getfield 256, 3) := by decide +kernel
theorem dX11_sourceOf_17 : decode cX11_sourceOf 17 = .ok (.invokevirtual 259, 3) := by decide +kernel
theorem dX11_sourceOf_20 : decode cX11_sourceOf 20 = .ok (.aload_n 0, 1) := by decide +kernel
theorem dX11_sourceOf_21 : decode cX11_sourceOf 21 = .ok (.getfield 29, 3) := by decide +kernel
theorem dX11_sourceOf_24 : decode cX11_sourceOf 24 = .ok (.areturn, 1) := by decide +kernel
theorem dX11_sourceOf_25 : decode cX11_sourceOf 25 = .ok (.aload_n 0, 1) := by decide +kernel
theorem dX11_sourceOf_26 : decode cX11_sourceOf 26 = .ok (.getfield 47, 3) := by decide +kernel
theorem dX11_sourceOf_29 : decode cX11_sourceOf 29 = .ok (.aload_n 1, 1) := by decide +kernel
theorem dX11_sourceOf_30 : decode cX11_sourceOf 30 = .ok (.getfield 185, 3) := by decide +kernel
theorem dX11_sourceOf_33 : decode cX11_sourceOf 33 = .ok (.invokevirtual 159, 3) := by decide +kernel
theorem dX11_sourceOf_36 : decode cX11_sourceOf 36 = .ok (.areturn, 1) := by decide +kernel
set_option maxRecDepth 20000 in
theorem ggX11_leastExplanation_X9_pairAt : GoodIn wsX11_leastExplanation wsX9_pairAt := goodIn_r _ [12, 13, 14, 15, 11, 16, 17, 18, 19, 20, 21, 22, 23, 24, 25, 26, 27, 28, 29, 209, 210, 211, 212, 213, 214, 202, 203, 204, 205, 206, 207, 208] (by decide +kernel) (by decide +kernel)
set_option maxRecDepth 20000 in
theorem gX11_leastExplanation_X9_pairAt : GoodIn wsX11_leastExplanation (wsV RX11 208 RX9 yX9_pairAt wsX9_pairAt) := goodIn_app (goodIn_of _ (by decide +kernel)) ggX11_leastExplanation_X9_pairAt
set_option maxRecDepth 20000 in
theorem ggX11_leastExplanation_X5_narrowed : GoodIn wsX11_leastExplanation wsX5_narrowed := goodIn_r _ [32, 33, 34, 35, 28, 36, 37, 38, 27, 29] (by decide +kernel) (by decide +kernel)
set_option maxRecDepth 20000 in
theorem gX11_leastExplanation_X5_narrowed : GoodIn wsX11_leastExplanation (va_wsS RX11 266 yX5_narrowed wsX5_narrowed) := goodIn_app (goodIn_of _ (by decide +kernel)) ggX11_leastExplanation_X5_narrowed
set_option maxRecDepth 20000 in
theorem ggX11_leastExplanation_X1_leastFrom : GoodIn wsX11_leastExplanation wsX1_leastFrom := goodIn_r _ [41, 42, 43, 44, 45, 46, 47, 48, 49, 50, 51, 52, 53, 54, 55, 40, 56, 57, 58, 59, 28, 60, 61, 62, 63, 64, 65, 66, 67, 68, 69, 70, 71, 72, 73, 74, 75, 76, 77, 78, 79, 80, 81, 82, 83, 84, 85, 86, 87, 88, 89, 90, 91, 92, 93, 94, 95, 96, 97, 98, 99, 100, 101, 102, 103, 104, 105, 106, 107, 108, 109, 110, 111, 112, 113, 114, 115, 116, 117, 118, 119, 120, 121, 122, 123, 124, 125, 126, 127, 128, 35, 36, 37, 129, 130, 131, 132, 34, 133, 134, 135, 136, 137, 138, 139, 140, 141, 31, 32, 33, 38, 27, 29, 142, 39, 143, 144, 145, 146, 147, 148, 149, 150, 151, 152, 153, 154, 155, 156, 157, 158, 159, 160, 161, 162, 163, 164, 174, 175, 176, 177, 178, 179, 180, 181, 182, 183, 184, 185, 186, 187, 188, 189, 190, 191, 192, 193, 194, 195, 196, 197] (by decide +kernel) (by decide +kernel)
set_option maxRecDepth 20000 in
theorem gX11_leastExplanation_X1_leastFrom_n270 : GoodIn wsX11_leastExplanation (wsX1_leastFrom) := ggX11_leastExplanation_X1_leastFrom
theorem dX11_leastExplanation_0 : decode cX11_leastExplanation 0 = .ok (.lconst 0, 1) := by decide +kernel
theorem dX11_leastExplanation_1 : decode cX11_leastExplanation 1 = .ok (.lstore 4, 2) := by decide +kernel
theorem dX11_leastExplanation_3 : decode cX11_leastExplanation 3 = .ok (.iconst 0, 1) := by decide +kernel
theorem dX11_leastExplanation_4 : decode cX11_leastExplanation 4 = .ok (.istore 6, 2) := by decide +kernel
theorem dX11_leastExplanation_6 : decode cX11_leastExplanation 6 = .ok (.iload 6, 2) := by decide +kernel
theorem dX11_leastExplanation_8 : decode cX11_leastExplanation 8 = .ok (.iload_n 2, 1) := by decide +kernel
theorem dX11_leastExplanation_9 : decode cX11_leastExplanation 9 = .ok (.if_icmp .ge 28, 3) := by decide +kernel
theorem dX11_leastExplanation_12 : decode cX11_leastExplanation 12 = .ok (.lload 4, 2) := by decide +kernel
theorem dX11_leastExplanation_14 : decode cX11_leastExplanation 14 = .ok (.aload_n 0, 1) := by decide +kernel
theorem dX11_leastExplanation_15 : decode cX11_leastExplanation 15 = .ok (.getfield 19, 3) := by decide +kernel
theorem dX11_leastExplanation_18 : decode cX11_leastExplanation 18 = .ok (.iload 6, 2) := by decide +kernel
theorem dX11_leastExplanation_20 : decode cX11_leastExplanation 20 = .ok (.invokevirtual 208, 3) := by decide +kernel
theorem dX11_leastExplanation_23 : decode cX11_leastExplanation 23 = .ok (.aload_n 3, 1) := by decide +kernel
theorem dX11_leastExplanation_24 : decode cX11_leastExplanation 24 = .ok (.getfield 263, 3) := by decide +kernel
theorem dX11_leastExplanation_27 : decode cX11_leastExplanation 27 = .ok (.land, 1) := by decide +kernel
theorem dX11_leastExplanation_28 : decode cX11_leastExplanation 28 = .ok (.lor, 1) := by decide +kernel
theorem dX11_leastExplanation_29 : decode cX11_leastExplanation 29 = .ok (.lstore 4, 2) := by decide +kernel
theorem dX11_leastExplanation_31 : decode cX11_leastExplanation 31 = .ok (.iinc 6 1, 3) := by decide +kernel
theorem dX11_leastExplanation_34 : decode cX11_leastExplanation 34 = .ok (.goto (-28), 3) := by decide +kernel
theorem dX11_leastExplanation_37 : decode cX11_leastExplanation 37 = .ok (.iload_n 2, 1) := by decide +kernel
theorem dX11_leastExplanation_38 : decode cX11_leastExplanation 38 = .ok (.iconst 1, 1) := by decide +kernel
theorem dX11_leastExplanation_39 : decode cX11_leastExplanation 39 = .ok (.isub, 1) := by decide +kernel
theorem dX11_leastExplanation_40 : decode cX11_leastExplanation 40 = .ok (.istore 6, 2) := by decide +kernel
theorem dX11_leastExplanation_42 : decode cX11_leastExplanation 42 = .ok (.iload 6, 2) := by decide +kernel
theorem dX11_leastExplanation_44 : decode cX11_leastExplanation 44 = .ok (.ifCond .lt 78, 3) := by decide +kernel
theorem dX11_leastExplanation_47 : decode cX11_leastExplanation 47 = .ok (.lload 4, 2) := by decide +kernel
theorem dX11_leastExplanation_49 : decode cX11_leastExplanation 49 = .ok (.aload_n 0, 1) := by decide +kernel
theorem dX11_leastExplanation_50 : decode cX11_leastExplanation 50 = .ok (.getfield 19, 3) := by decide +kernel
theorem dX11_leastExplanation_53 : decode cX11_leastExplanation 53 = .ok (.iload 6, 2) := by decide +kernel
theorem dX11_leastExplanation_55 : decode cX11_leastExplanation 55 = .ok (.invokevirtual 208, 3) := by decide +kernel
theorem dX11_leastExplanation_58 : decode cX11_leastExplanation 58 = .ok (.ldc2_w 246, 3) := by decide +kernel
theorem dX11_leastExplanation_61 : decode cX11_leastExplanation 61 = .ok (.lxor, 1) := by decide +kernel
theorem dX11_leastExplanation_62 : decode cX11_leastExplanation 62 = .ok (.land, 1) := by decide +kernel
theorem dX11_leastExplanation_63 : decode cX11_leastExplanation 63 = .ok (.lstore 7, 2) := by decide +kernel
theorem dX11_leastExplanation_65 : decode cX11_leastExplanation 65 = .ok (.aload_n 0, 1) := by decide +kernel
theorem dX11_leastExplanation_66 : decode cX11_leastExplanation 66 = .ok (.getfield 47, 3) := by decide +kernel
theorem dX11_leastExplanation_69 : decode cX11_leastExplanation 69 = .ok (.getfield 96, 3) := by decide +kernel
theorem dX11_leastExplanation_72 : decode cX11_leastExplanation 72 = .ok (.lload 7, 2) := by decide +kernel
theorem dX11_leastExplanation_74 : decode cX11_leastExplanation 74 = .ok (.ldc2_w 246, 3) := by decide +kernel
theorem dX11_leastExplanation_77 : decode cX11_leastExplanation 77 = .ok (.lxor, 1) := by decide +kernel
theorem dX11_leastExplanation_78 : decode cX11_leastExplanation 78 = .ok (.land, 1) := by decide +kernel
theorem dX11_leastExplanation_79 : decode cX11_leastExplanation 79 = .ok (.aload_n 1, 1) := by decide +kernel
theorem dX11_leastExplanation_80 : decode cX11_leastExplanation 80 = .ok (.getfield 192, 3) := by decide +kernel
theorem dX11_leastExplanation_83 : decode cX11_leastExplanation 83 = .ok (.aload_n 1, 1) := by decide +kernel
theorem dX11_leastExplanation_84 : decode cX11_leastExplanation 84 = .ok (.getfield 195, 3) := by decide +kernel
theorem dX11_leastExplanation_87 : decode cX11_leastExplanation 87 = .ok (.invokestatic 266, 3) := by decide +kernel
theorem dX11_leastExplanation_90 : decode cX11_leastExplanation 90 = .ok (.lstore 9, 2) := by decide +kernel
theorem dX11_leastExplanation_92 : decode cX11_leastExplanation 92 = .ok (.lload 7, 2) := by decide +kernel
theorem dX11_leastExplanation_94 : decode cX11_leastExplanation 94 = .ok (.lload 4, 2) := by decide +kernel
theorem dX11_leastExplanation_96 : decode cX11_leastExplanation 96 = .ok (.lcmp, 1) := by decide +kernel
theorem dX11_leastExplanation_97 : decode cX11_leastExplanation 97 = .ok (.ifCond .eq 19, 3) := by decide +kernel
theorem dX11_leastExplanation_100 : decode cX11_leastExplanation 100 = .ok (.aload_n 3, 1) := by decide +kernel
theorem dX11_leastExplanation_101 : decode cX11_leastExplanation 101 = .ok (.lload 9, 2) := by decide +kernel
theorem dX11_leastExplanation_103 : decode cX11_leastExplanation 103 = .ok (.iconst 0, 1) := by decide +kernel
theorem dX11_leastExplanation_104 : decode cX11_leastExplanation 104 = .ok (.invokestatic 270, 3) := by decide +kernel
theorem dX11_leastExplanation_107 : decode cX11_leastExplanation 107 = .ok (.lconst 0, 1) := by decide +kernel
theorem dX11_leastExplanation_108 : decode cX11_leastExplanation 108 = .ok (.lcmp, 1) := by decide +kernel
theorem dX11_leastExplanation_109 : decode cX11_leastExplanation 109 = .ok (.ifCond .ne 7, 3) := by decide +kernel
theorem dX11_leastExplanation_112 : decode cX11_leastExplanation 112 = .ok (.lload 7, 2) := by decide +kernel
theorem dX11_leastExplanation_114 : decode cX11_leastExplanation 114 = .ok (.lstore 4, 2) := by decide +kernel
theorem dX11_leastExplanation_116 : decode cX11_leastExplanation 116 = .ok (.iinc 6 (-1), 3) := by decide +kernel
theorem dX11_leastExplanation_119 : decode cX11_leastExplanation 119 = .ok (.goto (-77), 3) := by decide +kernel
theorem dX11_leastExplanation_122 : decode cX11_leastExplanation 122 = .ok (.lload 4, 2) := by decide +kernel
theorem dX11_leastExplanation_124 : decode cX11_leastExplanation 124 = .ok (.lreturn, 1) := by decide +kernel
set_option maxRecDepth 20000 in
theorem ggX11_isSupported_X6_constraintAt : GoodIn wsX11_isSupported wsX6_constraintAt := goodIn_r _ [10, 11, 12, 176, 177, 178, 179] (by decide +kernel) (by decide +kernel)
set_option maxRecDepth 20000 in
theorem gX11_isSupported_X6_constraintAt : GoodIn wsX11_isSupported (wsV RX11 159 RX6 yX6_constraintAt wsX6_constraintAt) := goodIn_app (goodIn_of _ (by decide +kernel)) ggX11_isSupported_X6_constraintAt
set_option maxRecDepth 20000 in
theorem ggX11_isSupported_X1_hasVariable : GoodIn wsX11_isSupported wsX1_hasVariable := goodIn_r _ [18, 19, 20, 21, 22, 23, 24, 180, 181, 182, 183, 184, 185, 186, 187, 188, 189, 190, 191, 192, 193, 194, 195, 196, 197, 198, 199, 200, 201, 202, 203] (by decide +kernel) (by decide +kernel)
set_option maxRecDepth 20000 in
theorem gX11_isSupported_X1_hasVariable_u178X0 : GoodIn wsX11_isSupported (va_wsU RX11 178 RX0 "SupportSolver$Constraint" ⟨"SupportSolver$Constraint", "hasVariable", "(I)Z"⟩ yX1_hasVariable wsX1_hasVariable) := goodIn_app (goodIn_of _ (by decide +kernel)) ggX11_isSupported_X1_hasVariable
set_option maxRecDepth 20000 in
theorem gX11_isSupported_X1_hasVariable_u178X2 : GoodIn wsX11_isSupported (va_wsU RX11 178 RX2 "SupportSolver$Constraint" ⟨"SupportSolver$Constraint", "hasVariable", "(I)Z"⟩ yX1_hasVariable wsX1_hasVariable) := goodIn_app (goodIn_of _ (by decide +kernel)) ggX11_isSupported_X1_hasVariable
set_option maxRecDepth 20000 in
theorem gX11_isSupported_X1_hasVariable_u178X4 : GoodIn wsX11_isSupported (va_wsU RX11 178 RX4 "SupportSolver$Constraint" ⟨"SupportSolver$Constraint", "hasVariable", "(I)Z"⟩ yX1_hasVariable wsX1_hasVariable) := goodIn_app (goodIn_of _ (by decide +kernel)) ggX11_isSupported_X1_hasVariable
set_option maxRecDepth 20000 in
theorem gX11_isSupported_X1_hasVariable_u178X10 : GoodIn wsX11_isSupported (va_wsU RX11 178 RX10 "SupportSolver$Constraint" ⟨"SupportSolver$Constraint", "hasVariable", "(I)Z"⟩ yX1_hasVariable wsX1_hasVariable) := goodIn_app (goodIn_of _ (by decide +kernel)) ggX11_isSupported_X1_hasVariable
set_option maxRecDepth 20000 in
theorem ggX11_isSupported_X11_isValue : GoodIn wsX11_isSupported wsX11_isValue := goodIn_r _ [31] (by decide +kernel) (by decide +kernel)
set_option maxRecDepth 20000 in
theorem gX11_isSupported_X11_isValue : GoodIn wsX11_isSupported (va_wsS RX11 199 yX11_isValue wsX11_isValue) := goodIn_app (goodIn_of _ (by decide +kernel)) ggX11_isSupported_X11_isValue
set_option maxRecDepth 20000 in
theorem ggX11_isSupported_X11_presentSupport : GoodIn wsX11_isSupported wsX11_presentSupport := goodIn_r _ [35, 36, 37, 38, 39, 22, 40, 41, 42, 21, 23, 24, 43, 44, 45, 46, 17, 47, 48, 19, 49, 50, 51, 52, 53, 54, 55, 56, 57, 58, 59, 60, 61, 62, 63, 64, 65, 66, 67, 68, 69, 70, 71, 72, 73, 74, 75, 76, 77, 78, 79, 80, 81, 82, 83, 84, 85, 86, 87, 88, 89, 90, 91, 92, 93, 94, 95, 96, 97, 98, 99, 100, 101, 102, 103, 104, 105, 106, 107, 108, 109, 110, 111, 112, 113, 114, 115, 116, 117, 118, 119, 120, 121, 122, 123, 124, 125, 126, 127, 128, 129, 130, 131, 132, 133, 134, 135, 136, 137, 138, 139, 140, 141, 142, 143, 144, 145, 146, 147, 148, 149, 150, 151, 152, 153, 154, 155, 156, 157, 158, 159, 160, 29, 30, 31, 161, 162, 163, 164, 165, 166, 167, 168, 169, 170, 171, 172, 173, 174, 175, 204, 205, 206, 207, 208, 209, 180, 181, 182, 183, 184, 185, 186, 187, 188, 189, 190, 191, 192, 193, 194, 195, 196, 197, 198, 199, 200, 201, 202, 203] (by decide +kernel) (by decide +kernel)
set_option maxRecDepth 20000 in
theorem gX11_isSupported_X11_presentSupport : GoodIn wsX11_isSupported (wsV RX11 276 RX11 yX11_presentSupport wsX11_presentSupport) := goodIn_app (goodIn_of _ (by decide +kernel)) ggX11_isSupported_X11_presentSupport
theorem dX11_isSupported_0 : decode cX11_isSupported 0 = .ok (.aload_n 0, 1) := by decide +kernel
theorem dX11_isSupported_1 : decode cX11_isSupported 1 = .ok (.getfield 47, 3) := by decide +kernel
theorem dX11_isSupported_4 : decode cX11_isSupported 4 = .ok (.iload_n 1, 1) := by decide +kernel
theorem dX11_isSupported_5 : decode cX11_isSupported 5 = .ok (.invokevirtual 159, 3) := by decide +kernel
theorem dX11_isSupported_8 : decode cX11_isSupported 8 = .ok (.astore 4, 2) := by decide +kernel
theorem dX11_isSupported_10 : decode cX11_isSupported 10 = .ok (.aload 4, 2) := by decide +kernel
theorem dX11_isSupported_12 : decode cX11_isSupported 12 = .ok (.ifnull 12, 3) := by decide +kernel
theorem dX11_isSupported_15 : decode cX11_isSupported 15 = .ok (.aload 4, 2) := by decide +kernel
theorem dX11_isSupported_17 : decode cX11_isSupported 17 = .ok (.iload_n 2, 1) := by decide +kernel
theorem dX11_isSupported_18 : decode cX11_isSupported 18 = .ok (.invokevirtual 178, 3) := by decide +kernel
theorem dX11_isSupported_21 : decode cX11_isSupported 21 = .ok (.ifCond .ne 14, 3) := by decide +kernel
theorem dX11_isSupported_24 : decode cX11_isSupported 24 = .ok (.new 72, 3) := by decide +kernel
theorem dX11_isSupported_27 : decode cX11_isSupported 27 = .ok (.dup, 1) := by decide +kernel
theorem dX11_isSupported_28 : decode cX11_isSupported 28 = .ok (.ldc_w 274, 3) := by decide +kernel
theorem dX11_isSupported_31 : decode cX11_isSupported 31 = .ok (.invokespecial 76, 3) := by decide +kernel
theorem dX11_isSupported_34 : decode cX11_isSupported 34 = .ok (.athrow, 1) := by decide +kernel
theorem dX11_isSupported_35 : decode cX11_isSupported 35 = .ok (.iload_n 3, 1) := by decide +kernel
theorem dX11_isSupported_36 : decode cX11_isSupported 36 = .ok (.invokestatic 199, 3) := by decide +kernel
theorem dX11_isSupported_39 : decode cX11_isSupported 39 = .ok (.ifCond .ne 13, 3) := by decide +kernel
theorem dX11_isSupported_42 : decode cX11_isSupported 42 = .ok (.new 87, 3) := by decide +kernel
theorem dX11_isSupported_45 : decode cX11_isSupported 45 = .ok (.dup, 1) := by decide +kernel
theorem dX11_isSupported_46 : decode cX11_isSupported 46 = .ok (.ldc 202, 2) := by decide +kernel
theorem dX11_isSupported_48 : decode cX11_isSupported 48 = .ok (.invokespecial 91, 3) := by decide +kernel
theorem dX11_isSupported_51 : decode cX11_isSupported 51 = .ok (.athrow, 1) := by decide +kernel
theorem dX11_isSupported_52 : decode cX11_isSupported 52 = .ok (.aload_n 0, 1) := by decide +kernel
theorem dX11_isSupported_53 : decode cX11_isSupported 53 = .ok (.aload 4, 2) := by decide +kernel
theorem dX11_isSupported_55 : decode cX11_isSupported 55 = .ok (.iload_n 2, 1) := by decide +kernel
theorem dX11_isSupported_56 : decode cX11_isSupported 56 = .ok (.iload_n 3, 1) := by decide +kernel
theorem dX11_isSupported_57 : decode cX11_isSupported 57 = .ok (.invokevirtual 276, 3) := by decide +kernel
theorem dX11_isSupported_60 : decode cX11_isSupported 60 = .ok (.lconst 0, 1) := by decide +kernel
theorem dX11_isSupported_61 : decode cX11_isSupported 61 = .ok (.lcmp, 1) := by decide +kernel
theorem dX11_isSupported_62 : decode cX11_isSupported 62 = .ok (.ifCond .eq 7, 3) := by decide +kernel
theorem dX11_isSupported_65 : decode cX11_isSupported 65 = .ok (.iconst 1, 1) := by decide +kernel
theorem dX11_isSupported_66 : decode cX11_isSupported 66 = .ok (.goto 4, 3) := by decide +kernel
theorem dX11_isSupported_69 : decode cX11_isSupported 69 = .ok (.iconst 0, 1) := by decide +kernel
theorem dX11_isSupported_70 : decode cX11_isSupported 70 = .ok (.ireturn, 1) := by decide +kernel
set_option maxRecDepth 20000 in
theorem ggX11_support_X6_constraintAt : GoodIn wsX11_support wsX6_constraintAt := goodIn_r _ [12, 13, 14, 184, 185, 186, 187] (by decide +kernel) (by decide +kernel)
set_option maxRecDepth 20000 in
theorem gX11_support_X6_constraintAt : GoodIn wsX11_support (wsV RX11 159 RX6 yX6_constraintAt wsX6_constraintAt) := goodIn_app (goodIn_of _ (by decide +kernel)) ggX11_support_X6_constraintAt
set_option maxRecDepth 20000 in
theorem ggX11_support_X1_hasVariable : GoodIn wsX11_support wsX1_hasVariable := goodIn_r _ [20, 21, 22, 23, 24, 25, 26, 188, 189, 190, 191, 192, 193, 194, 195, 196, 197, 198, 199, 200, 201, 202, 203, 204, 205, 206, 207, 208, 209, 210, 211] (by decide +kernel) (by decide +kernel)
set_option maxRecDepth 20000 in
theorem gX11_support_X1_hasVariable_u178X0 : GoodIn wsX11_support (va_wsU RX11 178 RX0 "SupportSolver$Constraint" ⟨"SupportSolver$Constraint", "hasVariable", "(I)Z"⟩ yX1_hasVariable wsX1_hasVariable) := goodIn_app (goodIn_of _ (by decide +kernel)) ggX11_support_X1_hasVariable
set_option maxRecDepth 20000 in
theorem gX11_support_X1_hasVariable_u178X2 : GoodIn wsX11_support (va_wsU RX11 178 RX2 "SupportSolver$Constraint" ⟨"SupportSolver$Constraint", "hasVariable", "(I)Z"⟩ yX1_hasVariable wsX1_hasVariable) := goodIn_app (goodIn_of _ (by decide +kernel)) ggX11_support_X1_hasVariable
set_option maxRecDepth 20000 in
theorem gX11_support_X1_hasVariable_u178X4 : GoodIn wsX11_support (va_wsU RX11 178 RX4 "SupportSolver$Constraint" ⟨"SupportSolver$Constraint", "hasVariable", "(I)Z"⟩ yX1_hasVariable wsX1_hasVariable) := goodIn_app (goodIn_of _ (by decide +kernel)) ggX11_support_X1_hasVariable
set_option maxRecDepth 20000 in
theorem gX11_support_X1_hasVariable_u178X10 : GoodIn wsX11_support (va_wsU RX11 178 RX10 "SupportSolver$Constraint" ⟨"SupportSolver$Constraint", "hasVariable", "(I)Z"⟩ yX1_hasVariable wsX1_hasVariable) := goodIn_app (goodIn_of _ (by decide +kernel)) ggX11_support_X1_hasVariable
set_option maxRecDepth 20000 in
theorem ggX11_support_X11_isValue : GoodIn wsX11_support wsX11_isValue := goodIn_r _ [33] (by decide +kernel) (by decide +kernel)
set_option maxRecDepth 20000 in
theorem gX11_support_X11_isValue : GoodIn wsX11_support (va_wsS RX11 199 yX11_isValue wsX11_isValue) := goodIn_app (goodIn_of _ (by decide +kernel)) ggX11_support_X11_isValue
set_option maxRecDepth 20000 in
theorem ggX11_support_X11_presentSupport : GoodIn wsX11_support wsX11_presentSupport := goodIn_r _ [37, 38, 39, 40, 41, 24, 42, 43, 44, 23, 25, 26, 45, 46, 47, 48, 19, 49, 50, 21, 51, 52, 53, 54, 55, 56, 57, 58, 59, 60, 61, 62, 63, 64, 65, 66, 67, 68, 69, 70, 71, 72, 73, 74, 75, 76, 77, 78, 79, 80, 81, 82, 83, 84, 85, 86, 87, 88, 89, 90, 91, 92, 93, 94, 95, 96, 97, 98, 99, 100, 101, 102, 103, 104, 105, 106, 107, 108, 109, 110, 111, 112, 113, 114, 115, 116, 117, 118, 119, 120, 121, 122, 123, 124, 125, 126, 127, 128, 129, 130, 131, 132, 133, 134, 135, 136, 137, 138, 139, 140, 141, 142, 143, 144, 145, 146, 147, 148, 149, 150, 151, 152, 153, 154, 155, 156, 157, 158, 159, 160, 161, 162, 31, 32, 33, 163, 164, 165, 166, 167, 168, 175, 176, 177, 178, 179, 180, 181, 182, 183, 212, 213, 214, 215, 216, 217, 188, 189, 190, 191, 192, 193, 194, 195, 196, 197, 198, 199, 200, 201, 202, 203, 204, 205, 206, 207, 208, 209, 210, 211] (by decide +kernel) (by decide +kernel)
set_option maxRecDepth 20000 in
theorem gX11_support_X11_presentSupport : GoodIn wsX11_support (wsV RX11 276 RX11 yX11_presentSupport wsX11_presentSupport) := goodIn_app (goodIn_of _ (by decide +kernel)) ggX11_support_X11_presentSupport
set_option maxRecDepth 20000 in
theorem ggX11_support_X5_leastValueOf : GoodIn wsX11_support wsX5_leastValueOf := goodIn_r _ [171, 172, 173, 24, 174, 31, 32, 33, 45, 46, 47] (by decide +kernel) (by decide +kernel)
set_option maxRecDepth 20000 in
theorem gX11_support_X5_leastValueOf : GoodIn wsX11_support (va_wsS RX11 282 yX5_leastValueOf wsX5_leastValueOf) := goodIn_app (goodIn_of _ (by decide +kernel)) ggX11_support_X5_leastValueOf
theorem dX11_support_0 : decode cX11_support 0 = .ok (.aload_n 0, 1) := by decide +kernel
theorem dX11_support_1 : decode cX11_support 1 = .ok (.getfield 47, 3) := by decide +kernel
theorem dX11_support_4 : decode cX11_support 4 = .ok (.iload_n 1, 1) := by decide +kernel
theorem dX11_support_5 : decode cX11_support 5 = .ok (.invokevirtual 159, 3) := by decide +kernel
theorem dX11_support_8 : decode cX11_support 8 = .ok (.astore 5, 2) := by decide +kernel
theorem dX11_support_10 : decode cX11_support 10 = .ok (.aload 5, 2) := by decide +kernel
theorem dX11_support_12 : decode cX11_support 12 = .ok (.ifnull 22, 3) := by decide +kernel
theorem dX11_support_15 : decode cX11_support 15 = .ok (.aload 5, 2) := by decide +kernel
theorem dX11_support_17 : decode cX11_support 17 = .ok (.iload_n 2, 1) := by decide +kernel
theorem dX11_support_18 : decode cX11_support 18 = .ok (.invokevirtual 178, 3) := by decide +kernel
theorem dX11_support_21 : decode cX11_support 21 = .ok (.ifCond .eq 13, 3) := by decide +kernel
theorem dX11_support_24 : decode cX11_support 24 = .ok (.aload 5, 2) := by decide +kernel
theorem dX11_support_26 : decode cX11_support 26 = .ok (.iload 4, 2) := by decide +kernel
theorem dX11_support_28 : decode cX11_support 28 = .ok (.invokevirtual 178, 3) := by decide +kernel
theorem dX11_support_31 : decode cX11_support 31 = .ok (.ifCond .ne 14, 3) := by decide +kernel
theorem dX11_support_34 : decode cX11_support 34 = .ok (.new 72, 3) := by decide +kernel
theorem dX11_support_37 : decode cX11_support 37 = .ok (.dup, 1) := by decide +kernel
theorem dX11_support_38 : decode cX11_support 38 = .ok (.ldc_w 274, 3) := by decide +kernel
theorem dX11_support_41 : decode cX11_support 41 = .ok (.invokespecial 76, 3) := by decide +kernel
theorem dX11_support_44 : decode cX11_support 44 = .ok (.athrow, 1) := by decide +kernel
theorem dX11_support_45 : decode cX11_support 45 = .ok (.iload_n 3, 1) := by decide +kernel
theorem dX11_support_46 : decode cX11_support 46 = .ok (.invokestatic 199, 3) := by decide +kernel
theorem dX11_support_49 : decode cX11_support 49 = .ok (.ifCond .ne 13, 3) := by decide +kernel
theorem dX11_support_52 : decode cX11_support 52 = .ok (.new 87, 3) := by decide +kernel
theorem dX11_support_55 : decode cX11_support 55 = .ok (.dup, 1) := by decide +kernel
theorem dX11_support_56 : decode cX11_support 56 = .ok (.ldc 202, 2) := by decide +kernel
theorem dX11_support_58 : decode cX11_support 58 = .ok (.invokespecial 91, 3) := by decide +kernel
theorem dX11_support_61 : decode cX11_support 61 = .ok (.athrow, 1) := by decide +kernel
theorem dX11_support_62 : decode cX11_support 62 = .ok (.aload_n 0, 1) := by decide +kernel
theorem dX11_support_63 : decode cX11_support 63 = .ok (.aload 5, 2) := by decide +kernel
theorem dX11_support_65 : decode cX11_support 65 = .ok (.iload_n 2, 1) := by decide +kernel
theorem dX11_support_66 : decode cX11_support 66 = .ok (.iload_n 3, 1) := by decide +kernel
theorem dX11_support_67 : decode cX11_support 67 = .ok (.invokevirtual 276, 3) := by decide +kernel
theorem dX11_support_70 : decode cX11_support 70 = .ok (.lstore 6, 2) := by decide +kernel
theorem dX11_support_72 : decode cX11_support 72 = .ok (.lload 6, 2) := by decide +kernel
theorem dX11_support_74 : decode cX11_support 74 = .ok (.lconst 0, 1) := by decide +kernel
theorem dX11_support_75 : decode cX11_support 75 = .ok (.lcmp, 1) := by decide +kernel
theorem dX11_support_76 : decode cX11_support 76 = .ok (.ifCond .ne 14, 3) := by decide +kernel
theorem dX11_support_79 : decode cX11_support 79 = .ok (.new 212, 3) := by decide +kernel
theorem dX11_support_82 : decode cX11_support 82 = .ok (.dup, 1) := by decide +kernel
theorem dX11_support_83 : decode cX11_support 83 = .ok (.ldc_w 280, 3) := by decide +kernel
theorem dX11_support_86 : decode cX11_support 86 = .ok (.invokespecial 216, 3) := by decide +kernel
theorem dX11_support_89 : decode cX11_support 89 = .ok (.athrow, 1) := by decide +kernel
theorem dX11_support_90 : decode cX11_support 90 = .ok (.lload 6, 2) := by decide +kernel
theorem dX11_support_92 : decode cX11_support 92 = .ok (.iload 4, 2) := by decide +kernel
theorem dX11_support_94 : decode cX11_support 94 = .ok (.invokestatic 282, 3) := by decide +kernel
theorem dX11_support_97 : decode cX11_support 97 = .ok (.ireturn, 1) := by decide +kernel
set_option maxRecDepth 20000 in
theorem ggX11_presentSupport_X5_narrowed : GoodIn wsX11_presentSupport wsX5_narrowed := goodIn_r _ [6, 7, 8, 9, 5, 10, 11, 12, 13, 14] (by decide +kernel) (by decide +kernel)
set_option maxRecDepth 20000 in
theorem gX11_presentSupport_X5_narrowed : GoodIn wsX11_presentSupport (va_wsS RX11 266 yX5_narrowed wsX5_narrowed) := goodIn_app (goodIn_of _ (by decide +kernel)) ggX11_presentSupport_X5_narrowed
set_option maxRecDepth 20000 in
theorem ggX11_presentSupport_X1_leastFrom : GoodIn wsX11_presentSupport wsX1_leastFrom := goodIn_r _ [17, 18, 19, 20, 21, 22, 23, 24, 25, 26, 27, 28, 29, 30, 31, 16, 32, 33, 34, 35, 5, 36, 37, 38, 39, 40, 41, 42, 43, 44, 45, 46, 47, 48, 49, 50, 51, 52, 53, 54, 55, 56, 57, 58, 59, 60, 61, 62, 63, 64, 65, 66, 67, 68, 69, 70, 71, 72, 73, 74, 75, 76, 77, 78, 79, 80, 81, 82, 83, 84, 85, 86, 87, 88, 89, 90, 91, 92, 93, 94, 95, 96, 97, 98, 99, 100, 101, 102, 103, 104, 9, 10, 11, 105, 106, 107, 108, 8, 109, 110, 111, 112, 113, 114, 115, 116, 117, 4, 6, 7, 12, 13, 14, 118, 15, 119, 120, 121, 122, 123, 124, 125, 126, 127, 128, 129, 130, 131, 132, 133, 134, 135, 136, 137, 138, 139, 140, 156, 157, 158, 159, 160, 161, 162, 163, 164, 165, 166, 167, 168, 169, 170, 171, 172, 173, 174, 175, 176, 177, 178, 179] (by decide +kernel) (by decide +kernel)
set_option maxRecDepth 20000 in
theorem gX11_presentSupport_X1_leastFrom_n270 : GoodIn wsX11_presentSupport (wsX1_leastFrom) := ggX11_presentSupport_X1_leastFrom
theorem dX11_presentSupport_0 : decode cX11_presentSupport 0 = .ok (.aload_n 1, 1) := by decide +kernel
theorem dX11_presentSupport_1 : decode cX11_presentSupport 1 = .ok (.aload_n 0, 1) := by decide +kernel
theorem dX11_presentSupport_2 : decode cX11_presentSupport 2 = .ok (.getfield 19, 3) := by decide +kernel
theorem dX11_presentSupport_5 : decode cX11_presentSupport 5 = .ok (.getfield 139, 3) := by decide +kernel
theorem dX11_presentSupport_8 : decode cX11_presentSupport 8 = .ok (.iload_n 2, 1) := by decide +kernel
theorem dX11_presentSupport_9 : decode cX11_presentSupport 9 = .ok (.iload_n 3, 1) := by decide +kernel
theorem dX11_presentSupport_10 : decode cX11_presentSupport 10 = .ok (.invokestatic 266, 3) := by decide +kernel
theorem dX11_presentSupport_13 : decode cX11_presentSupport 13 = .ok (.iconst 0, 1) := by decide +kernel
theorem dX11_presentSupport_14 : decode cX11_presentSupport 14 = .ok (.invokestatic 270, 3) := by decide +kernel
theorem dX11_presentSupport_17 : decode cX11_presentSupport 17 = .ok (.lreturn, 1) := by decide +kernel
set_option maxRecDepth 20000 in
theorem ggX11_watchers_X11_isVariable : GoodIn wsX11_watchers wsX11_isVariable := goodIn_r _ [11, 5, 12, 182, 183, 184, 185, 186, 187, 188, 189, 190, 191, 192, 193, 194] (by decide +kernel) (by decide +kernel)
set_option maxRecDepth 20000 in
theorem gX11_watchers_X11_isVariable : GoodIn wsX11_watchers (wsV RX11 154 RX11 yX11_isVariable wsX11_isVariable) := goodIn_app (goodIn_of _ (by decide +kernel)) ggX11_watchers_X11_isVariable
set_option maxRecDepth 20000 in
theorem ggX11_watchers_X11_isValue : GoodIn wsX11_watchers wsX11_isValue := goodIn_r _ [15] (by decide +kernel) (by decide +kernel)
set_option maxRecDepth 20000 in
theorem gX11_watchers_X11_isValue : GoodIn wsX11_watchers (va_wsS RX11 199 yX11_isValue wsX11_isValue) := goodIn_app (goodIn_of _ (by decide +kernel)) ggX11_watchers_X11_isValue
set_option maxRecDepth 20000 in
theorem ggX11_watchers_X6_constraintAt : GoodIn wsX11_watchers wsX6_constraintAt := goodIn_r _ [20, 21, 22, 191, 192, 193, 194] (by decide +kernel) (by decide +kernel)
set_option maxRecDepth 20000 in
theorem gX11_watchers_X6_constraintAt : GoodIn wsX11_watchers (wsV RX11 159 RX6 yX6_constraintAt wsX6_constraintAt) := goodIn_app (goodIn_of _ (by decide +kernel)) ggX11_watchers_X6_constraintAt
set_option maxRecDepth 20000 in
theorem ggX11_watchers_X1_hasVariable : GoodIn wsX11_watchers wsX1_hasVariable := goodIn_r _ [28, 29, 30, 31, 32, 33, 34, 195, 196, 197, 198, 199, 200, 201, 202, 203, 204, 205, 206, 207, 208, 209, 210, 211, 212, 213, 214, 215, 216, 217, 218] (by decide +kernel) (by decide +kernel)
set_option maxRecDepth 20000 in
theorem gX11_watchers_X1_hasVariable_u178X0 : GoodIn wsX11_watchers (va_wsU RX11 178 RX0 "SupportSolver$Constraint" ⟨"SupportSolver$Constraint", "hasVariable", "(I)Z"⟩ yX1_hasVariable wsX1_hasVariable) := goodIn_app (goodIn_of _ (by decide +kernel)) ggX11_watchers_X1_hasVariable
set_option maxRecDepth 20000 in
theorem gX11_watchers_X1_hasVariable_u178X2 : GoodIn wsX11_watchers (va_wsU RX11 178 RX2 "SupportSolver$Constraint" ⟨"SupportSolver$Constraint", "hasVariable", "(I)Z"⟩ yX1_hasVariable wsX1_hasVariable) := goodIn_app (goodIn_of _ (by decide +kernel)) ggX11_watchers_X1_hasVariable
set_option maxRecDepth 20000 in
theorem gX11_watchers_X1_hasVariable_u178X4 : GoodIn wsX11_watchers (va_wsU RX11 178 RX4 "SupportSolver$Constraint" ⟨"SupportSolver$Constraint", "hasVariable", "(I)Z"⟩ yX1_hasVariable wsX1_hasVariable) := goodIn_app (goodIn_of _ (by decide +kernel)) ggX11_watchers_X1_hasVariable
set_option maxRecDepth 20000 in
theorem gX11_watchers_X1_hasVariable_u178X10 : GoodIn wsX11_watchers (va_wsU RX11 178 RX10 "SupportSolver$Constraint" ⟨"SupportSolver$Constraint", "hasVariable", "(I)Z"⟩ yX1_hasVariable wsX1_hasVariable) := goodIn_app (goodIn_of _ (by decide +kernel)) ggX11_watchers_X1_hasVariable
set_option maxRecDepth 20000 in
theorem ggX11_watchers_X11_watchersIn : GoodIn wsX11_watchers wsX11_watchersIn := goodIn_r _ [41, 42, 43, 44, 45, 46, 27, 47, 48, 49, 50, 51, 52, 53, 54, 10, 55, 56, 57, 58, 59, 32, 60, 61, 62, 31, 33, 34, 63, 64, 65, 66, 67, 68, 29, 69, 70, 71, 72, 73, 74, 75, 76, 77, 78, 79, 80, 81, 82, 83, 84, 85, 86, 87, 88, 89, 90, 91, 92, 93, 94, 95, 96, 97, 98, 99, 100, 101, 102, 103, 104, 105, 106, 107, 108, 109, 110, 111, 112, 113, 114, 115, 116, 117, 118, 119, 120, 121, 122, 123, 124, 125, 126, 127, 128, 129, 130, 131, 132, 133, 134, 135, 136, 137, 138, 139, 140, 141, 142, 143, 144, 145, 146, 147, 148, 149, 150, 151, 152, 153, 154, 155, 156, 157, 158, 159, 160, 161, 162, 163, 164, 165, 166, 167, 168, 169, 170, 171, 172, 14, 15, 173, 174, 175, 176, 177, 178, 179, 180, 181, 195, 196, 197, 198, 199, 200, 201, 202, 203, 204, 205, 206, 207, 208, 209, 210, 211, 212, 213, 214, 215, 216, 217, 218, 182, 183, 184, 185, 186, 187, 188, 189, 190, 219, 220, 221, 222, 223, 224] (by decide +kernel) (by decide +kernel)
set_option maxRecDepth 20000 in
theorem gX11_watchers_X11_watchersIn : GoodIn wsX11_watchers (wsV RX11 285 RX11 yX11_watchersIn wsX11_watchersIn) := goodIn_app (goodIn_of _ (by decide +kernel)) ggX11_watchers_X11_watchersIn
theorem dX11_watchers_0 : decode cX11_watchers 0 = .ok (.aload_n 0, 1) := by decide +kernel
theorem dX11_watchers_1 : decode cX11_watchers 1 = .ok (.iload_n 1, 1) := by decide +kernel
theorem dX11_watchers_2 : decode cX11_watchers 2 = .ok (.invokevirtual 154, 3) := by decide +kernel
theorem dX11_watchers_5 : decode cX11_watchers 5 = .ok (.ifCond .ne 13, 3) := by decide +kernel
theorem dX11_watchers_8 : decode cX11_watchers 8 = .ok (.new 72, 3) := by decide +kernel
theorem dX11_watchers_11 : decode cX11_watchers 11 = .ok (.dup, 1) := by decide +kernel
theorem dX11_watchers_12 : decode cX11_watchers 12 = .ok (.ldc 157, 2) := by decide +kernel
theorem dX11_watchers_14 : decode cX11_watchers 14 = .ok (.invokespecial 76, 3) := by decide +kernel
theorem dX11_watchers_17 : decode cX11_watchers 17 = .ok (.athrow, 1) := by decide +kernel
theorem dX11_watchers_18 : decode cX11_watchers 18 = .ok (.iload_n 2, 1) := by decide +kernel
theorem dX11_watchers_19 : decode cX11_watchers 19 = .ok (.invokestatic 199, 3) := by decide +kernel
theorem dX11_watchers_22 : decode cX11_watchers 22 = .ok (.ifCond .ne 13, 3) := by decide +kernel
theorem dX11_watchers_25 : decode cX11_watchers 25 = .ok (.new 87, 3) := by decide +kernel
theorem dX11_watchers_28 : decode cX11_watchers 28 = .ok (.dup, 1) := by decide +kernel
theorem dX11_watchers_29 : decode cX11_watchers 29 = .ok (.ldc 202, 2) := by decide +kernel
theorem dX11_watchers_31 : decode cX11_watchers 31 = .ok (.invokespecial 91, 3) := by decide +kernel
theorem dX11_watchers_34 : decode cX11_watchers 34 = .ok (.athrow, 1) := by decide +kernel
theorem dX11_watchers_35 : decode cX11_watchers 35 = .ok (.iconst 0, 1) := by decide +kernel
theorem dX11_watchers_36 : decode cX11_watchers 36 = .ok (.istore_n 3, 1) := by decide +kernel
theorem dX11_watchers_37 : decode cX11_watchers 37 = .ok (.iconst 0, 1) := by decide +kernel
theorem dX11_watchers_38 : decode cX11_watchers 38 = .ok (.istore 4, 2) := by decide +kernel
theorem dX11_watchers_40 : decode cX11_watchers 40 = .ok (.iload 4, 2) := by decide +kernel
theorem dX11_watchers_42 : decode cX11_watchers 42 = .ok (.aload_n 0, 1) := by decide +kernel
theorem dX11_watchers_43 : decode cX11_watchers 43 = .ok (.getfield 47, 3) := by decide +kernel
theorem dX11_watchers_46 : decode cX11_watchers 46 = .ok (.getfield 120, 3) := by decide +kernel
theorem dX11_watchers_49 : decode cX11_watchers 49 = .ok (.if_icmp .ge 45, 3) := by decide +kernel
theorem dX11_watchers_52 : decode cX11_watchers 52 = .ok (.aload_n 0, 1) := by decide +kernel
theorem dX11_watchers_53 : decode cX11_watchers 53 = .ok (.getfield 47, 3) := by decide +kernel
theorem dX11_watchers_56 : decode cX11_watchers 56 = .ok (.iload 4, 2) := by decide +kernel
theorem dX11_watchers_58 : decode cX11_watchers 58 = .ok (.invokevirtual 159, 3) := by decide +kernel
theorem dX11_watchers_61 : decode cX11_watchers 61 = .ok (.astore 5, 2) := by decide +kernel
theorem dX11_watchers_63 : decode cX11_watchers 63 = .ok (.aload 5, 2) := by decide +kernel
theorem dX11_watchers_65 : decode cX11_watchers 65 = .ok (.ifnull 23, 3) := by decide +kernel
theorem dX11_watchers_68 : decode cX11_watchers 68 = .ok (.aload 5, 2) := by decide +kernel
theorem dX11_watchers_70 : decode cX11_watchers 70 = .ok (.iload_n 1, 1) := by decide +kernel
theorem dX11_watchers_71 : decode cX11_watchers 71 = .ok (.invokevirtual 178, 3) := by decide +kernel
theorem dX11_watchers_74 : decode cX11_watchers 74 = .ok (.ifCond .eq 14, 3) := by decide +kernel
theorem dX11_watchers_77 : decode cX11_watchers 77 = .ok (.iload_n 3, 1) := by decide +kernel
theorem dX11_watchers_78 : decode cX11_watchers 78 = .ok (.aload_n 0, 1) := by decide +kernel
theorem dX11_watchers_79 : decode cX11_watchers 79 = .ok (.aload 5, 2) := by decide +kernel
theorem dX11_watchers_81 : decode cX11_watchers 81 = .ok (.iload_n 1, 1) := by decide +kernel
theorem dX11_watchers_82 : decode cX11_watchers 82 = .ok (.iload_n 2, 1) := by decide +kernel
theorem dX11_watchers_83 : decode cX11_watchers 83 = .ok (.invokevirtual 285, 3) := by decide +kernel
theorem dX11_watchers_86 : decode cX11_watchers 86 = .ok (.iadd, 1) := by decide +kernel
theorem dX11_watchers_87 : decode cX11_watchers 87 = .ok (.istore_n 3, 1) := by decide +kernel
theorem dX11_watchers_88 : decode cX11_watchers 88 = .ok (.iinc 4 1, 3) := by decide +kernel
theorem dX11_watchers_91 : decode cX11_watchers 91 = .ok (.goto (-51), 3) := by decide +kernel
theorem dX11_watchers_94 : decode cX11_watchers 94 = .ok (.iload_n 3, 1) := by decide +kernel
theorem dX11_watchers_95 : decode cX11_watchers 95 = .ok (.ireturn, 1) := by decide +kernel
set_option maxRecDepth 20000 in
theorem ggX11_watchersIn_X1_variableAt : GoodIn wsX11_watchersIn wsX1_variableAt := goodIn_r _ [7, 8, 150, 151, 152, 153, 154, 155, 156, 157, 158, 159, 160, 161, 162, 163, 164, 165, 166, 167, 168, 169, 170, 171, 172, 173] (by decide +kernel) (by decide +kernel)
set_option maxRecDepth 20000 in
theorem gX11_watchersIn_X1_variableAt_u289X0 : GoodIn wsX11_watchersIn (va_wsU RX11 289 RX0 "SupportSolver$Constraint" ⟨"SupportSolver$Constraint", "variableAt", "(I)I"⟩ yX1_variableAt wsX1_variableAt) := goodIn_app (goodIn_of _ (by decide +kernel)) ggX11_watchersIn_X1_variableAt
set_option maxRecDepth 20000 in
theorem gX11_watchersIn_X1_variableAt_u289X2 : GoodIn wsX11_watchersIn (va_wsU RX11 289 RX2 "SupportSolver$Constraint" ⟨"SupportSolver$Constraint", "variableAt", "(I)I"⟩ yX1_variableAt wsX1_variableAt) := goodIn_app (goodIn_of _ (by decide +kernel)) ggX11_watchersIn_X1_variableAt
set_option maxRecDepth 20000 in
theorem gX11_watchersIn_X1_variableAt_u289X4 : GoodIn wsX11_watchersIn (va_wsU RX11 289 RX4 "SupportSolver$Constraint" ⟨"SupportSolver$Constraint", "variableAt", "(I)I"⟩ yX1_variableAt wsX1_variableAt) := goodIn_app (goodIn_of _ (by decide +kernel)) ggX11_watchersIn_X1_variableAt
set_option maxRecDepth 20000 in
theorem gX11_watchersIn_X1_variableAt_u289X10 : GoodIn wsX11_watchersIn (va_wsU RX11 289 RX10 "SupportSolver$Constraint" ⟨"SupportSolver$Constraint", "variableAt", "(I)I"⟩ yX1_variableAt wsX1_variableAt) := goodIn_app (goodIn_of _ (by decide +kernel)) ggX11_watchersIn_X1_variableAt
set_option maxRecDepth 20000 in
theorem ggX11_watchersIn_X11_presentSupport : GoodIn wsX11_watchersIn wsX11_presentSupport := goodIn_r _ [16, 17, 18, 19, 20, 21, 22, 23, 24, 25, 26, 27, 28, 29, 30, 31, 6, 32, 33, 34, 35, 36, 37, 38, 39, 40, 41, 42, 43, 44, 45, 5, 7, 8, 46, 47, 48, 49, 50, 51, 52, 53, 54, 55, 56, 57, 58, 59, 60, 61, 62, 63, 64, 65, 66, 67, 68, 69, 70, 71, 72, 73, 74, 75, 76, 77, 78, 79, 80, 81, 82, 83, 84, 85, 86, 87, 88, 89, 90, 91, 92, 93, 94, 95, 96, 97, 98, 99, 100, 101, 102, 103, 104, 105, 106, 107, 108, 109, 110, 111, 112, 113, 114, 115, 116, 117, 118, 119, 120, 121, 122, 3, 4, 9, 10, 11, 123, 124, 125, 126, 127, 128, 129, 130, 131, 132, 133, 134, 135, 136, 137, 138, 139, 15, 140, 141, 142, 143, 144, 145, 146, 174, 175, 176, 177, 178, 179, 180, 181, 182, 183, 184, 185, 186, 187, 188, 150, 151, 152, 153, 154, 155, 156, 157, 158, 159, 160, 161, 162, 163, 164, 165, 166, 167, 168, 169, 170, 171, 172, 173] (by decide +kernel) (by decide +kernel)
set_option maxRecDepth 20000 in
theorem gX11_watchersIn_X11_presentSupport : GoodIn wsX11_watchersIn (wsV RX11 276 RX11 yX11_presentSupport wsX11_presentSupport) := goodIn_app (goodIn_of _ (by decide +kernel)) ggX11_watchersIn_X11_presentSupport
set_option maxRecDepth 20000 in
theorem ggX11_watchersIn_X5_has : GoodIn wsX11_watchersIn wsX5_has := goodIn_r _ [149, 139, 15, 140, 28, 29, 21, 30] (by decide +kernel) (by decide +kernel)
set_option maxRecDepth 20000 in
theorem gX11_watchersIn_X5_has : GoodIn wsX11_watchersIn (va_wsS RX11 292 yX5_has wsX5_has) := goodIn_app (goodIn_of _ (by decide +kernel)) ggX11_watchersIn_X5_has
theorem dX11_watchersIn_0 : decode cX11_watchersIn 0 = .ok (.iconst 0, 1) := by decide +kernel
theorem dX11_watchersIn_1 : decode cX11_watchersIn 1 = .ok (.istore 4, 2) := by decide +kernel
theorem dX11_watchersIn_3 : decode cX11_watchersIn 3 = .ok (.iconst 0, 1) := by decide +kernel
theorem dX11_watchersIn_4 : decode cX11_watchersIn 4 = .ok (.istore 5, 2) := by decide +kernel
theorem dX11_watchersIn_6 : decode cX11_watchersIn 6 = .ok (.iload 5, 2) := by decide +kernel
theorem dX11_watchersIn_8 : decode cX11_watchersIn 8 = .ok (.aload_n 1, 1) := by decide +kernel
theorem dX11_watchersIn_9 : decode cX11_watchersIn 9 = .ok (.getfield 170, 3) := by decide +kernel
theorem dX11_watchersIn_12 : decode cX11_watchersIn 12 = .ok (.if_icmp .ge 58, 3) := by decide +kernel
theorem dX11_watchersIn_15 : decode cX11_watchersIn 15 = .ok (.aload_n 1, 1) := by decide +kernel
theorem dX11_watchersIn_16 : decode cX11_watchersIn 16 = .ok (.iload 5, 2) := by decide +kernel
theorem dX11_watchersIn_18 : decode cX11_watchersIn 18 = .ok (.invokevirtual 289, 3) := by decide +kernel
theorem dX11_watchersIn_21 : decode cX11_watchersIn 21 = .ok (.istore 6, 2) := by decide +kernel
theorem dX11_watchersIn_23 : decode cX11_watchersIn 23 = .ok (.iconst 0, 1) := by decide +kernel
theorem dX11_watchersIn_24 : decode cX11_watchersIn 24 = .ok (.istore 7, 2) := by decide +kernel
theorem dX11_watchersIn_26 : decode cX11_watchersIn 26 = .ok (.iload 7, 2) := by decide +kernel
theorem dX11_watchersIn_28 : decode cX11_watchersIn 28 = .ok (.iconst 5, 1) := by decide +kernel
theorem dX11_watchersIn_29 : decode cX11_watchersIn 29 = .ok (.if_icmp .ge 35, 3) := by decide +kernel
theorem dX11_watchersIn_32 : decode cX11_watchersIn 32 = .ok (.iload 6, 2) := by decide +kernel
theorem dX11_watchersIn_34 : decode cX11_watchersIn 34 = .ok (.iload_n 2, 1) := by decide +kernel
theorem dX11_watchersIn_35 : decode cX11_watchersIn 35 = .ok (.if_icmp .eq 29, 3) := by decide +kernel
theorem dX11_watchersIn_38 : decode cX11_watchersIn 38 = .ok (.aload_n 0, 1) := by decide +kernel
theorem dX11_watchersIn_39 : decode cX11_watchersIn 39 = .ok (.aload_n 1, 1) := by decide +kernel
theorem dX11_watchersIn_40 : decode cX11_watchersIn 40 = .ok (.iload 6, 2) := by decide +kernel
theorem dX11_watchersIn_42 : decode cX11_watchersIn 42 = .ok (.iload 7, 2) := by decide +kernel
theorem dX11_watchersIn_44 : decode cX11_watchersIn 44 = .ok (.invokevirtual 276, 3) := by decide +kernel
theorem dX11_watchersIn_47 : decode cX11_watchersIn 47 = .ok (.iload_n 2, 1) := by decide +kernel
theorem dX11_watchersIn_48 : decode cX11_watchersIn 48 = .ok (.iload_n 3, 1) := by decide +kernel
theorem dX11_watchersIn_49 : decode cX11_watchersIn 49 = .ok (.invokestatic 292, 3) := by decide +kernel
theorem dX11_watchersIn_52 : decode cX11_watchersIn 52 = .ok (.ifCond .eq 6, 3) := by decide +kernel
theorem dX11_watchersIn_55 : decode cX11_watchersIn 55 = .ok (.iinc 4 1, 3) := by decide +kernel
theorem dX11_watchersIn_58 : decode cX11_watchersIn 58 = .ok (.iinc 7 1, 3) := by decide +kernel
theorem dX11_watchersIn_61 : decode cX11_watchersIn 61 = .ok (.goto (-35), 3) := by decide +kernel
theorem dX11_watchersIn_64 : decode cX11_watchersIn 64 = .ok (.iinc 5 1, 3) := by decide +kernel
theorem dX11_watchersIn_67 : decode cX11_watchersIn 67 = .ok (.goto (-61), 3) := by decide +kernel
theorem dX11_watchersIn_70 : decode cX11_watchersIn 70 = .ok (.iload 4, 2) := by decide +kernel
theorem dX11_watchersIn_72 : decode cX11_watchersIn 72 = .ok (.ireturn, 1) := by decide +kernel
set_option maxRecDepth 20000 in
theorem ggX11_tuples_X6_constraintAt : GoodIn wsX11_tuples wsX6_constraintAt := goodIn_r _ [10, 11, 12, 167, 168, 169, 170] (by decide +kernel) (by decide +kernel)
set_option maxRecDepth 20000 in
theorem gX11_tuples_X6_constraintAt : GoodIn wsX11_tuples (wsV RX11 159 RX6 yX6_constraintAt wsX6_constraintAt) := goodIn_app (goodIn_of _ (by decide +kernel)) ggX11_tuples_X6_constraintAt
set_option maxRecDepth 20000 in
theorem ggX11_tuples_X1_countFrom : GoodIn wsX11_tuples wsX1_countFrom := goodIn_r _ [15, 16, 17, 18, 19, 20, 21, 22, 23, 24, 25, 26, 27, 28, 29, 14, 30, 31, 32, 33, 34, 35, 36, 37, 38, 39, 40, 41, 42, 43, 44, 45, 46, 47, 48, 49, 50, 51, 52, 53, 54, 55, 56, 57, 58, 59, 60, 61, 62, 63, 64, 65, 66, 67, 68, 69, 70, 71, 72, 73, 74, 75, 76, 77, 78, 79, 80, 81, 82, 83, 84, 85, 86, 87, 88, 89, 90, 91, 92, 93, 94, 95, 96, 97, 98, 99, 100, 101, 102, 103, 104, 105, 106, 107, 108, 109, 110, 111, 112, 113, 114, 115, 116, 117, 118, 119, 120, 121, 122, 123, 124, 125, 126, 127, 128, 129, 130, 131, 132, 133, 134, 135, 136, 137, 138, 139, 140, 141, 142, 143, 144, 145, 146, 147, 148, 149, 150, 151, 13, 171, 172, 173, 174, 175, 176, 177, 178, 179, 180, 181, 182, 183, 184, 185, 186, 187, 188, 189, 190, 191, 192, 193, 194] (by decide +kernel) (by decide +kernel)
set_option maxRecDepth 20000 in
theorem gX11_tuples_X1_countFrom_n296 : GoodIn wsX11_tuples (wsX1_countFrom) := ggX11_tuples_X1_countFrom
theorem dX11_tuples_0 : decode cX11_tuples 0 = .ok (.aload_n 0, 1) := by decide +kernel
theorem dX11_tuples_1 : decode cX11_tuples 1 = .ok (.getfield 47, 3) := by decide +kernel
theorem dX11_tuples_4 : decode cX11_tuples 4 = .ok (.iload_n 1, 1) := by decide +kernel
theorem dX11_tuples_5 : decode cX11_tuples 5 = .ok (.invokevirtual 159, 3) := by decide +kernel
theorem dX11_tuples_8 : decode cX11_tuples 8 = .ok (.astore_n 2, 1) := by decide +kernel
theorem dX11_tuples_9 : decode cX11_tuples 9 = .ok (.aload_n 2, 1) := by decide +kernel
theorem dX11_tuples_10 : decode cX11_tuples 10 = .ok (.ifnonnull 13, 3) := by decide +kernel
theorem dX11_tuples_13 : decode cX11_tuples 13 = .ok (.new 72, 3) := by decide +kernel
theorem dX11_tuples_16 : decode cX11_tuples 16 = .ok (.dup, 1) := by decide +kernel
theorem dX11_tuples_17 : decode cX11_tuples 17 = .ok (.ldc 163, 2) := by decide +kernel
theorem dX11_tuples_19 : decode cX11_tuples 19 = .ok (.invokespecial 76, 3) := by decide +kernel
theorem dX11_tuples_22 : decode cX11_tuples 22 = .ok (.athrow, 1) := by decide +kernel
theorem dX11_tuples_23 : decode cX11_tuples 23 = .ok (.aload_n 2, 1) := by decide +kernel
theorem dX11_tuples_24 : decode cX11_tuples 24 = .ok (.aload_n 0, 1) := by decide +kernel
theorem dX11_tuples_25 : decode cX11_tuples 25 = .ok (.getfield 19, 3) := by decide +kernel
theorem dX11_tuples_28 : decode cX11_tuples 28 = .ok (.getfield 139, 3) := by decide +kernel
theorem dX11_tuples_31 : decode cX11_tuples 31 = .ok (.iconst 0, 1) := by decide +kernel
theorem dX11_tuples_32 : decode cX11_tuples 32 = .ok (.invokestatic 296, 3) := by decide +kernel
theorem dX11_tuples_35 : decode cX11_tuples 35 = .ok (.ireturn, 1) := by decide +kernel
set_option maxRecDepth 20000 in
theorem ggX11_tightness_X6_constraintAt : GoodIn wsX11_tightness wsX6_constraintAt := goodIn_r _ [13, 14, 15, 195, 196, 197, 198] (by decide +kernel) (by decide +kernel)
set_option maxRecDepth 20000 in
theorem gX11_tightness_X6_constraintAt : GoodIn wsX11_tightness (wsV RX11 159 RX6 yX6_constraintAt wsX6_constraintAt) := goodIn_app (goodIn_of _ (by decide +kernel)) ggX11_tightness_X6_constraintAt
set_option maxRecDepth 20000 in
theorem ggX11_tightness_X5_assignments : GoodIn wsX11_tightness wsX5_assignments := goodIn_r _ [19, 20, 21, 18, 22, 23, 24, 25, 26, 27, 28, 29, 30, 31, 32, 33] (by decide +kernel) (by decide +kernel)
set_option maxRecDepth 20000 in
theorem gX11_tightness_X5_assignments : GoodIn wsX11_tightness (va_wsS RX11 300 yX5_assignments wsX5_assignments) := goodIn_app (goodIn_of _ (by decide +kernel)) ggX11_tightness_X5_assignments
set_option maxRecDepth 20000 in
theorem ggX11_tightness_X1_countFrom : GoodIn wsX11_tightness wsX1_countFrom := goodIn_r _ [36, 37, 38, 39, 40, 41, 42, 43, 44, 45, 46, 47, 48, 49, 50, 35, 51, 52, 53, 25, 18, 26, 54, 55, 56, 57, 28, 29, 30, 31, 32, 33, 58, 59, 60, 61, 62, 63, 64, 65, 66, 67, 68, 69, 70, 71, 72, 73, 74, 75, 76, 77, 78, 79, 80, 81, 82, 83, 84, 85, 86, 87, 88, 89, 90, 91, 92, 93, 94, 95, 96, 97, 98, 99, 100, 101, 102, 103, 104, 105, 106, 107, 108, 109, 110, 111, 112, 113, 114, 115, 21, 22, 23, 116, 117, 17, 19, 20, 24, 27, 118, 119, 120, 121, 122, 123, 124, 125, 126, 127, 128, 129, 130, 131, 132, 133, 134, 135, 136, 137, 138, 139, 140, 141, 142, 143, 144, 145, 146, 147, 148, 149, 150, 151, 152, 153, 154, 155, 34, 171, 172, 173, 174, 175, 176, 177, 178, 179, 180, 181, 182, 183, 184, 185, 186, 187, 188, 189, 190, 191, 192, 193, 194] (by decide +kernel) (by decide +kernel)
set_option maxRecDepth 20000 in
theorem gX11_tightness_X1_countFrom_n296 : GoodIn wsX11_tightness (wsX1_countFrom) := ggX11_tightness_X1_countFrom
theorem dX11_tightness_0 : decode cX11_tightness 0 = .ok (.aload_n 0, 1) := by decide +kernel
theorem dX11_tightness_1 : decode cX11_tightness 1 = .ok (.getfield 47, 3) := by decide +kernel
theorem dX11_tightness_4 : decode cX11_tightness 4 = .ok (.iload_n 1, 1) := by decide +kernel
theorem dX11_tightness_5 : decode cX11_tightness 5 = .ok (.invokevirtual 159, 3) := by decide +kernel
theorem dX11_tightness_8 : decode cX11_tightness 8 = .ok (.astore_n 2, 1) := by decide +kernel
theorem dX11_tightness_9 : decode cX11_tightness 9 = .ok (.aload_n 2, 1) := by decide +kernel
theorem dX11_tightness_10 : decode cX11_tightness 10 = .ok (.ifnonnull 13, 3) := by decide +kernel
theorem dX11_tightness_13 : decode cX11_tightness 13 = .ok (.new 72, 3) := by decide +kernel
theorem dX11_tightness_16 : decode cX11_tightness 16 = .ok (.dup, 1) := by decide +kernel
theorem dX11_tightness_17 : decode cX11_tightness 17 = .ok (.ldc 163, 2) := by decide +kernel
theorem dX11_tightness_19 : decode cX11_tightness 19 = .ok (.invokespecial 76, 3) := by decide +kernel
theorem dX11_tightness_22 : decode cX11_tightness 22 = .ok (.athrow, 1) := by decide +kernel
theorem dX11_tightness_23 : decode cX11_tightness 23 = .ok (.aload_n 0, 1) := by decide +kernel
theorem dX11_tightness_24 : decode cX11_tightness 24 = .ok (.getfield 19, 3) := by decide +kernel
theorem dX11_tightness_27 : decode cX11_tightness 27 = .ok (.getfield 139, 3) := by decide +kernel
theorem dX11_tightness_30 : decode cX11_tightness 30 = .ok (.aload_n 2, 1) := by decide +kernel
theorem dX11_tightness_31 : decode cX11_tightness 31 = .ok (.getfield 263, 3) := by decide +kernel
theorem dX11_tightness_34 : decode cX11_tightness 34 = .ok (.invokestatic 300, 3) := by decide +kernel
theorem dX11_tightness_37 : decode cX11_tightness 37 = .ok (.istore_n 3, 1) := by decide +kernel
theorem dX11_tightness_38 : decode cX11_tightness 38 = .ok (.iload_n 3, 1) := by decide +kernel
theorem dX11_tightness_39 : decode cX11_tightness 39 = .ok (.ifCond .ne 14, 3) := by decide +kernel
theorem dX11_tightness_42 : decode cX11_tightness 42 = .ok (.new 61, 3) := by decide +kernel
theorem dX11_tightness_45 : decode cX11_tightness 45 = .ok (.dup, 1) := by decide +kernel
theorem dX11_tightness_46 : decode cX11_tightness 46 = .ok (.ldc_w 304, 3) := by decide +kernel
theorem dX11_tightness_49 : decode cX11_tightness 49 = .ok (.invokespecial 65, 3) := by decide +kernel
theorem dX11_tightness_52 : decode cX11_tightness 52 = .ok (.athrow, 1) := by decide +kernel
theorem dX11_tightness_53 : decode cX11_tightness 53 = .ok (.aload_n 2, 1) := by decide +kernel
theorem dX11_tightness_54 : decode cX11_tightness 54 = .ok (.aload_n 0, 1) := by decide +kernel
theorem dX11_tightness_55 : decode cX11_tightness 55 = .ok (.getfield 19, 3) := by decide +kernel
theorem dX11_tightness_58 : decode cX11_tightness 58 = .ok (.getfield 139, 3) := by decide +kernel
theorem dX11_tightness_61 : decode cX11_tightness 61 = .ok (.iconst 0, 1) := by decide +kernel
theorem dX11_tightness_62 : decode cX11_tightness 62 = .ok (.invokestatic 296, 3) := by decide +kernel
theorem dX11_tightness_65 : decode cX11_tightness 65 = .ok (.istore 4, 2) := by decide +kernel
theorem dX11_tightness_67 : decode cX11_tightness 67 = .ok (.iload_n 3, 1) := by decide +kernel
theorem dX11_tightness_68 : decode cX11_tightness 68 = .ok (.iload 4, 2) := by decide +kernel
theorem dX11_tightness_70 : decode cX11_tightness 70 = .ok (.isub, 1) := by decide +kernel
theorem dX11_tightness_71 : decode cX11_tightness 71 = .ok (.i2d, 1) := by decide +kernel
theorem dX11_tightness_72 : decode cX11_tightness 72 = .ok (.iload_n 3, 1) := by decide +kernel
theorem dX11_tightness_73 : decode cX11_tightness 73 = .ok (.i2d, 1) := by decide +kernel
theorem dX11_tightness_74 : decode cX11_tightness 74 = .ok (.ddiv, 1) := by decide +kernel
theorem dX11_tightness_75 : decode cX11_tightness 75 = .ok (.dreturn, 1) := by decide +kernel
set_option maxRecDepth 20000 in
theorem ggX11_solutions_X7_find : GoodIn wsX11_solutions wsX7_find := goodIn_r _ [10, 11, 12, 13, 14, 15, 16, 17, 9, 18, 19, 20, 21, 22, 23, 24, 25, 26, 27, 28, 29, 30, 31, 32, 33, 34, 35, 36, 37, 38, 39, 40, 41, 42, 43, 44, 45, 46, 47, 48, 49, 50, 51, 52, 53, 54, 55, 56, 57, 58, 59, 60, 61, 62, 63, 64, 65, 66, 67, 68, 69, 70, 71, 72, 73, 74, 75, 76, 77, 78, 79, 80, 81, 82, 83, 84, 85, 86, 87, 88, 89, 90, 91, 92, 93, 94, 95, 96, 97, 98, 99, 100, 101, 102, 103, 104, 105, 106, 107, 108, 109, 110, 111, 112, 113, 114, 115, 116, 117, 118, 119, 120, 121, 122, 123, 124, 125, 126, 127, 128, 129, 130, 131, 132, 133, 134, 135, 136, 137, 138, 139, 140, 141, 142, 143, 144, 145, 146, 147, 148, 149, 150, 151, 152, 168, 169, 170, 171, 172, 173, 174, 175, 176, 177, 178, 179, 180, 181, 182, 183, 184, 185, 186, 187, 188, 189, 190, 191, 192, 193, 194, 195, 196, 197, 198, 199, 200] (by decide +kernel) (by decide +kernel)
set_option maxRecDepth 20000 in
theorem gX11_solutions_X7_find : GoodIn wsX11_solutions (wsV RX11 306 RX7 yX7_find wsX7_find) := goodIn_app (goodIn_of _ (by decide +kernel)) ggX11_solutions_X7_find
theorem dX11_solutions_0 : decode cX11_solutions 0 = .ok (.aload_n 0, 1) := by decide +kernel
theorem dX11_solutions_1 : decode cX11_solutions 1 = .ok (.getfield 36, 3) := by decide +kernel
theorem dX11_solutions_4 : decode cX11_solutions 4 = .ok (.aload_n 0, 1) := by decide +kernel
theorem dX11_solutions_5 : decode cX11_solutions 5 = .ok (.getfield 47, 3) := by decide +kernel
theorem dX11_solutions_8 : decode cX11_solutions 8 = .ok (.aload_n 0, 1) := by decide +kernel
theorem dX11_solutions_9 : decode cX11_solutions 9 = .ok (.getfield 19, 3) := by decide +kernel
theorem dX11_solutions_12 : decode cX11_solutions 12 = .ok (.getfield 139, 3) := by decide +kernel
theorem dX11_solutions_15 : decode cX11_solutions 15 = .ok (.invokevirtual 306, 3) := by decide +kernel
theorem dX11_solutions_18 : decode cX11_solutions 18 = .ok (.aload_n 0, 1) := by decide +kernel
theorem dX11_solutions_19 : decode cX11_solutions 19 = .ok (.getfield 36, 3) := by decide +kernel
theorem dX11_solutions_22 : decode cX11_solutions 22 = .ok (.getfield 310, 3) := by decide +kernel
theorem dX11_solutions_25 : decode cX11_solutions 25 = .ok (.ireturn, 1) := by decide +kernel
set_option maxRecDepth 20000 in
theorem ggX11_first_X11_isVariable : GoodIn wsX11_first wsX11_isVariable := goodIn_r _ [15, 6, 16, 167, 168, 169, 170, 171, 172, 173, 174, 175, 187, 188, 189, 190] (by decide +kernel) (by decide +kernel)
set_option maxRecDepth 20000 in
theorem gX11_first_X11_isVariable : GoodIn wsX11_first (wsV RX11 154 RX11 yX11_isVariable wsX11_isVariable) := goodIn_app (goodIn_of _ (by decide +kernel)) ggX11_first_X11_isVariable
set_option maxRecDepth 20000 in
theorem ggX11_first_X7_find : GoodIn wsX11_first wsX7_find := goodIn_r _ [21, 22, 23, 24, 25, 26, 27, 28, 20, 29, 30, 31, 32, 33, 34, 35, 36, 37, 38, 39, 40, 41, 42, 43, 44, 45, 46, 47, 48, 49, 50, 51, 52, 53, 54, 55, 56, 57, 58, 59, 60, 61, 62, 63, 64, 65, 66, 67, 68, 69, 70, 71, 72, 73, 74, 75, 76, 77, 78, 79, 80, 81, 82, 83, 84, 85, 86, 87, 88, 89, 90, 91, 92, 93, 94, 95, 96, 97, 98, 99, 100, 101, 102, 103, 104, 105, 106, 107, 108, 109, 110, 111, 112, 113, 114, 115, 116, 117, 118, 119, 120, 121, 122, 123, 124, 125, 126, 127, 128, 129, 130, 131, 132, 133, 134, 135, 136, 137, 138, 139, 140, 141, 142, 143, 144, 145, 146, 147, 148, 149, 150, 151, 152, 153, 154, 14, 155, 156, 157, 158, 159, 160, 161, 162, 182, 183, 184, 185, 186, 187, 188, 189, 190, 191, 192, 193, 194, 195, 196, 197, 198, 199, 200, 201, 202, 203, 204, 205, 206, 207, 208, 209, 210, 211, 212, 213, 214] (by decide +kernel) (by decide +kernel)
set_option maxRecDepth 20000 in
theorem gX11_first_X7_find : GoodIn wsX11_first (wsV RX11 306 RX7 yX7_find wsX7_find) := goodIn_app (goodIn_of _ (by decide +kernel)) ggX11_first_X7_find
set_option maxRecDepth 20000 in
theorem ggX11_first_X5_leastValueOf : GoodIn wsX11_first wsX5_leastValueOf := goodIn_r _ [165, 166, 152, 63, 153, 154, 14, 155, 156, 157, 158] (by decide +kernel) (by decide +kernel)
set_option maxRecDepth 20000 in
theorem gX11_first_X5_leastValueOf : GoodIn wsX11_first (va_wsS RX11 282 yX5_leastValueOf wsX5_leastValueOf) := goodIn_app (goodIn_of _ (by decide +kernel)) ggX11_first_X5_leastValueOf
theorem dX11_first_0 : decode cX11_first 0 = .ok (.aload_n 0, 1) := by decide +kernel
theorem dX11_first_1 : decode cX11_first 1 = .ok (.iload_n 1, 1) := by decide +kernel
theorem dX11_first_2 : decode cX11_first 2 = .ok (.invokevirtual 154, 3) := by decide +kernel
theorem dX11_first_5 : decode cX11_first 5 = .ok (.ifCond .ne 13, 3) := by decide +kernel
theorem dX11_first_8 : decode cX11_first 8 = .ok (.new 72, 3) := by decide +kernel
theorem dX11_first_11 : decode cX11_first 11 = .ok (.dup, 1) := by decide +kernel
theorem dX11_first_12 : decode cX11_first 12 = .ok (.ldc 157, 2) := by decide +kernel
theorem dX11_first_14 : decode cX11_first 14 = .ok (.invokespecial 76, 3) := by decide +kernel
theorem dX11_first_17 : decode cX11_first 17 = .ok (.athrow, 1) := by decide +kernel
theorem dX11_first_18 : decode cX11_first 18 = .ok (.aload_n 0, 1) := by decide +kernel
theorem dX11_first_19 : decode cX11_first 19 = .ok (.getfield 36, 3) := by decide +kernel
theorem dX11_first_22 : decode cX11_first 22 = .ok (.aload_n 0, 1) := by decide +kernel
theorem dX11_first_23 : decode cX11_first 23 = .ok (.getfield 47, 3) := by decide +kernel
theorem dX11_first_26 : decode cX11_first 26 = .ok (.aload_n 0, 1) := by decide +kernel
theorem dX11_first_27 : decode cX11_first 27 = .ok (.getfield 19, 3) := by decide +kernel
theorem dX11_first_30 : decode cX11_first 30 = .ok (.getfield 139, 3) := by decide +kernel
theorem dX11_first_33 : decode cX11_first 33 = .ok (.invokevirtual 306, 3) := by decide +kernel
theorem dX11_first_36 : decode cX11_first 36 = .ok (.aload_n 0, 1) := by decide +kernel
theorem dX11_first_37 : decode cX11_first 37 = .ok (.getfield 36, 3) := by decide +kernel
theorem dX11_first_40 : decode cX11_first 40 = .ok (.getfield 310, 3) := by decide +kernel
theorem dX11_first_43 : decode cX11_first 43 = .ok (.ifCond .ne 14, 3) := by decide +kernel
theorem dX11_first_46 : decode cX11_first 46 = .ok (.new 212, 3) := by decide +kernel
theorem dX11_first_49 : decode cX11_first 49 = .ok (.dup, 1) := by decide +kernel
theorem dX11_first_50 : decode cX11_first 50 = .ok (.ldc_w 313, 3) := by decide +kernel
theorem dX11_first_53 : decode cX11_first 53 = .ok (.invokespecial 216, 3) := by decide +kernel
theorem dX11_first_56 : decode cX11_first 56 = .ok (.athrow, 1) := by decide +kernel
theorem dX11_first_57 : decode cX11_first 57 = .ok (.aload_n 0, 1) := by decide +kernel
theorem dX11_first_58 : decode cX11_first 58 = .ok (.getfield 36, 3) := by decide +kernel
theorem dX11_first_61 : decode cX11_first 61 = .ok (.getfield 315, 3) := by decide +kernel
theorem dX11_first_64 : decode cX11_first 64 = .ok (.iload_n 1, 1) := by decide +kernel
theorem dX11_first_65 : decode cX11_first 65 = .ok (.invokestatic 282, 3) := by decide +kernel
theorem dX11_first_68 : decode cX11_first 68 = .ok (.ireturn, 1) := by decide +kernel
set_option maxRecDepth 20000 in
theorem ggX11_possible_X11_isVariable : GoodIn wsX11_possible wsX11_isVariable := goodIn_r _ [12, 4, 13, 161, 162, 163, 164, 165, 166, 167, 168, 169, 181, 182, 183, 184] (by decide +kernel) (by decide +kernel)
set_option maxRecDepth 20000 in
theorem gX11_possible_X11_isVariable : GoodIn wsX11_possible (wsV RX11 154 RX11 yX11_isVariable wsX11_isVariable) := goodIn_app (goodIn_of _ (by decide +kernel)) ggX11_possible_X11_isVariable
set_option maxRecDepth 20000 in
theorem ggX11_possible_X7_find : GoodIn wsX11_possible wsX7_find := goodIn_r _ [18, 19, 20, 21, 22, 23, 24, 25, 17, 26, 27, 28, 29, 30, 31, 32, 33, 34, 35, 36, 37, 38, 39, 40, 41, 42, 43, 44, 45, 46, 47, 48, 49, 50, 51, 52, 53, 54, 55, 56, 57, 58, 59, 60, 61, 62, 63, 64, 65, 66, 67, 68, 69, 70, 71, 72, 73, 74, 75, 76, 77, 78, 79, 80, 81, 82, 83, 84, 85, 86, 87, 88, 89, 90, 91, 92, 93, 94, 95, 96, 97, 98, 99, 100, 101, 102, 103, 104, 105, 106, 107, 108, 109, 110, 111, 112, 113, 114, 115, 116, 117, 118, 119, 120, 121, 122, 123, 124, 125, 126, 127, 128, 129, 130, 131, 132, 133, 134, 135, 136, 137, 138, 139, 140, 141, 142, 143, 144, 145, 146, 147, 148, 149, 150, 151, 11, 152, 153, 154, 155, 156, 157, 158, 159, 176, 177, 178, 179, 180, 181, 182, 183, 184, 185, 186, 187, 188, 189, 190, 191, 192, 193, 194, 195, 196, 197, 198, 199, 200, 201, 202, 203, 204, 205, 206, 207, 208] (by decide +kernel) (by decide +kernel)
set_option maxRecDepth 20000 in
theorem gX11_possible_X7_find : GoodIn wsX11_possible (wsV RX11 306 RX7 yX7_find wsX7_find) := goodIn_app (goodIn_of _ (by decide +kernel)) ggX11_possible_X7_find
set_option maxRecDepth 20000 in
theorem ggX11_possible_X5_valuesOf : GoodIn wsX11_possible wsX5_valuesOf := goodIn_r _ [61] (by decide +kernel) (by decide +kernel)
set_option maxRecDepth 20000 in
theorem gX11_possible_X5_valuesOf : GoodIn wsX11_possible (va_wsS RX11 142 yX5_valuesOf wsX5_valuesOf) := goodIn_app (goodIn_of _ (by decide +kernel)) ggX11_possible_X5_valuesOf
theorem dX11_possible_0 : decode cX11_possible 0 = .ok (.aload_n 0, 1) := by decide +kernel
theorem dX11_possible_1 : decode cX11_possible 1 = .ok (.iload_n 1, 1) := by decide +kernel
theorem dX11_possible_2 : decode cX11_possible 2 = .ok (.invokevirtual 154, 3) := by decide +kernel
theorem dX11_possible_5 : decode cX11_possible 5 = .ok (.ifCond .ne 13, 3) := by decide +kernel
theorem dX11_possible_8 : decode cX11_possible 8 = .ok (.new 72, 3) := by decide +kernel
theorem dX11_possible_11 : decode cX11_possible 11 = .ok (.dup, 1) := by decide +kernel
theorem dX11_possible_12 : decode cX11_possible 12 = .ok (.ldc 157, 2) := by decide +kernel
theorem dX11_possible_14 : decode cX11_possible 14 = .ok (.invokespecial 76, 3) := by decide +kernel
theorem dX11_possible_17 : decode cX11_possible 17 = .ok (.athrow, 1) := by decide +kernel
theorem dX11_possible_18 : decode cX11_possible 18 = .ok (.aload_n 0, 1) := by decide +kernel
theorem dX11_possible_19 : decode cX11_possible 19 = .ok (.getfield 36, 3) := by decide +kernel
theorem dX11_possible_22 : decode cX11_possible 22 = .ok (.aload_n 0, 1) := by decide +kernel
theorem dX11_possible_23 : decode cX11_possible 23 = .ok (.getfield 47, 3) := by decide +kernel
theorem dX11_possible_26 : decode cX11_possible 26 = .ok (.aload_n 0, 1) := by decide +kernel
theorem dX11_possible_27 : decode cX11_possible 27 = .ok (.getfield 19, 3) := by decide +kernel
theorem dX11_possible_30 : decode cX11_possible 30 = .ok (.getfield 139, 3) := by decide +kernel
theorem dX11_possible_33 : decode cX11_possible 33 = .ok (.invokevirtual 306, 3) := by decide +kernel
theorem dX11_possible_36 : decode cX11_possible 36 = .ok (.aload_n 0, 1) := by decide +kernel
theorem dX11_possible_37 : decode cX11_possible 37 = .ok (.getfield 36, 3) := by decide +kernel
theorem dX11_possible_40 : decode cX11_possible 40 = .ok (.getfield 318, 3) := by decide +kernel
theorem dX11_possible_43 : decode cX11_possible 43 = .ok (.iload_n 1, 1) := by decide +kernel
theorem dX11_possible_44 : decode cX11_possible 44 = .ok (.invokestatic 142, 3) := by decide +kernel
theorem dX11_possible_47 : decode cX11_possible 47 = .ok (.ireturn, 1) := by decide +kernel
set_option maxRecDepth 20000 in
theorem ggX11_overlooked_X7_find : GoodIn wsX11_overlooked wsX7_find := goodIn_r _ [11, 12, 13, 14, 15, 16, 17, 18, 10, 19, 20, 21, 22, 23, 24, 25, 26, 27, 28, 29, 30, 31, 32, 33, 34, 35, 36, 37, 38, 39, 40, 41, 42, 43, 44, 45, 46, 47, 48, 49, 50, 51, 52, 53, 54, 55, 56, 57, 58, 59, 60, 61, 62, 63, 64, 65, 66, 67, 68, 69, 70, 71, 72, 73, 74, 75, 76, 77, 78, 79, 80, 81, 82, 83, 84, 85, 86, 87, 88, 89, 90, 91, 92, 93, 94, 95, 96, 97, 98, 99, 100, 101, 102, 103, 104, 105, 106, 107, 108, 109, 110, 111, 112, 113, 114, 115, 116, 117, 118, 119, 120, 121, 122, 123, 124, 125, 126, 127, 128, 129, 130, 131, 132, 133, 134, 135, 136, 137, 138, 139, 140, 141, 142, 143, 144, 145, 146, 147, 148, 149, 150, 151, 152, 153, 170, 171, 172, 173, 174, 175, 176, 177, 178, 179, 180, 181, 182, 183, 184, 185, 186, 187, 188, 189, 190, 191, 192, 193, 194, 195, 196, 197, 198, 199, 200, 201, 202] (by decide +kernel) (by decide +kernel)
set_option maxRecDepth 20000 in
theorem gX11_overlooked_X7_find : GoodIn wsX11_overlooked (wsV RX11 306 RX7 yX7_find wsX7_find) := goodIn_app (goodIn_of _ (by decide +kernel)) ggX11_overlooked_X7_find
set_option maxRecDepth 20000 in
theorem ggX11_overlooked_J13_bitCount_95d88 : GoodIn wsX11_overlooked wsJ13_bitCount_95d88 := goodIn_r _ [87, 88, 89, 90] (by decide +kernel) (by decide +kernel)
set_option maxRecDepth 20000 in
theorem gX11_overlooked_J13_bitCount_95d88 : GoodIn wsX11_overlooked (va_wsS RX11 221 yJ13_bitCount_95d88 wsJ13_bitCount_95d88) := goodIn_app (goodIn_of _ (by decide +kernel)) ggX11_overlooked_J13_bitCount_95d88
theorem dX11_overlooked_0 : decode cX11_overlooked 0 = .ok (.aload_n 0, 1) := by decide +kernel
theorem dX11_overlooked_1 : decode cX11_overlooked 1 = .ok (.getfield 36, 3) := by decide +kernel
theorem dX11_overlooked_4 : decode cX11_overlooked 4 = .ok (.aload_n 0, 1) := by decide +kernel
theorem dX11_overlooked_5 : decode cX11_overlooked 5 = .ok (.getfield 47, 3) := by decide +kernel
theorem dX11_overlooked_8 : decode cX11_overlooked 8 = .ok (.aload_n 0, 1) := by decide +kernel
theorem dX11_overlooked_9 : decode cX11_overlooked 9 = .ok (.getfield 19, 3) := by decide +kernel
theorem dX11_overlooked_12 : decode cX11_overlooked 12 = .ok (.getfield 139, 3) := by decide +kernel
theorem dX11_overlooked_15 : decode cX11_overlooked 15 = .ok (.invokevirtual 306, 3) := by decide +kernel
theorem dX11_overlooked_18 : decode cX11_overlooked 18 = .ok (.aload_n 0, 1) := by decide +kernel
theorem dX11_overlooked_19 : decode cX11_overlooked 19 = .ok (.getfield 19, 3) := by decide +kernel
theorem dX11_overlooked_22 : decode cX11_overlooked 22 = .ok (.getfield 139, 3) := by decide +kernel
theorem dX11_overlooked_25 : decode cX11_overlooked 25 = .ok (.aload_n 0, 1) := by decide +kernel
theorem dX11_overlooked_26 : decode cX11_overlooked 26 = .ok (.getfield 36, 3) := by decide +kernel
theorem dX11_overlooked_29 : decode cX11_overlooked 29 = .ok (.getfield 318, 3) := by decide +kernel
theorem dX11_overlooked_32 : decode cX11_overlooked 32 = .ok (.ldc2_w 246, 3) := by decide +kernel
theorem dX11_overlooked_35 : decode cX11_overlooked 35 = .ok (.lxor, 1) := by decide +kernel
theorem dX11_overlooked_36 : decode cX11_overlooked 36 = .ok (.land, 1) := by decide +kernel
theorem dX11_overlooked_37 : decode cX11_overlooked 37 = .ok (.invokestatic 221, 3) := by decide +kernel
theorem dX11_overlooked_40 : decode cX11_overlooked 40 = .ok (.ireturn, 1) := by decide +kernel
set_option maxRecDepth 20000 in
theorem ggX11_forbid_X11_isVariable : GoodIn wsX11_forbid wsX11_isVariable := goodIn_r _ [15, 16, 17, 232, 233, 234, 235, 236, 237, 238, 239, 240, 247, 248, 249, 250] (by decide +kernel) (by decide +kernel)
set_option maxRecDepth 20000 in
theorem gX11_forbid_X11_isVariable : GoodIn wsX11_forbid (wsV RX11 154 RX11 yX11_isVariable wsX11_isVariable) := goodIn_app (goodIn_of _ (by decide +kernel)) ggX11_forbid_X11_isVariable
set_option maxRecDepth 20000 in
theorem ggX11_forbid_X5_has : GoodIn wsX11_forbid wsX5_has := goodIn_r _ [21, 22, 14, 23, 24, 25, 20, 26] (by decide +kernel) (by decide +kernel)
set_option maxRecDepth 20000 in
theorem gX11_forbid_X5_has : GoodIn wsX11_forbid (va_wsS RX11 292 yX5_has wsX5_has) := goodIn_app (goodIn_of _ (by decide +kernel)) ggX11_forbid_X5_has
set_option maxRecDepth 20000 in
theorem ggX11_forbid_X9_hasFailed : GoodIn wsX11_forbid wsX9_hasFailed := goodIn_r _ [31, 32, 33, 34, 35, 20, 36, 37, 38, 39, 40, 41, 42, 43, 44, 45, 46, 47, 241, 242, 243, 244, 245, 246] (by decide +kernel) (by decide +kernel)
set_option maxRecDepth 20000 in
theorem gX11_forbid_X9_hasFailed : GoodIn wsX11_forbid (wsV RX11 126 RX9 yX9_hasFailed wsX9_hasFailed) := goodIn_app (goodIn_of _ (by decide +kernel)) ggX11_forbid_X9_hasFailed
set_option maxRecDepth 20000 in
theorem ggX11_forbid_X9_remove : GoodIn wsX11_forbid wsX9_remove := goodIn_r _ [51, 52, 53, 54, 55, 56, 57, 58, 59, 60, 32, 61, 62, 63, 30, 64, 65, 66, 67, 68, 69, 70, 71, 72, 73, 25, 20, 26, 241, 242, 243, 244, 245, 246, 251, 252, 253, 254, 255, 256, 257] (by decide +kernel) (by decide +kernel)
set_option maxRecDepth 20000 in
theorem gX11_forbid_X9_remove : GoodIn wsX11_forbid (wsV RX11 325 RX9 yX9_remove wsX9_remove) := goodIn_app (goodIn_of _ (by decide +kernel)) ggX11_forbid_X9_remove
set_option maxRecDepth 20000 in
theorem ggX11_forbid_X11_propagate : GoodIn wsX11_forbid wsX11_propagate := goodIn_r _ [77, 10, 16, 78, 79, 80, 81, 82, 83, 84, 85, 86, 87, 88, 89, 14, 90, 91, 8, 92, 93, 94, 95, 96, 97, 98, 99, 100, 101, 27, 28, 29, 30, 31, 32, 33, 34, 35, 20, 36, 37, 38, 39, 40, 41, 42, 43, 44, 45, 46, 47, 18, 19, 21, 22, 23, 24, 25, 26, 102, 103, 104, 105, 106, 107, 108, 109, 110, 111, 112, 113, 114, 115, 116, 117, 118, 119, 120, 121, 122, 123, 124, 125, 126, 127, 128, 129, 130, 131, 132, 133, 134, 135, 136, 137, 138, 139, 140, 141, 142, 143, 144, 145, 146, 147, 148, 149, 150, 151, 152, 153, 154, 155, 156, 157, 158, 159, 160, 161, 162, 163, 164, 165, 166, 167, 168, 169, 170, 171, 172, 173, 174, 175, 176, 177, 178, 179, 180, 181, 182, 183, 184, 185, 186, 187, 188, 189, 190, 191, 192, 193, 194, 195, 196, 197, 198, 199, 200, 201, 202, 203, 204, 205, 206, 207, 208, 209, 210, 48, 49, 50, 51, 52, 53, 54, 55, 56, 57, 58, 59, 60, 61, 62, 63, 64, 65, 66, 67, 68, 69, 70, 71, 72, 73, 211, 212, 213, 214, 215, 216, 217, 218, 219, 220, 221, 222, 223, 224, 225, 226, 227, 228, 229, 230, 231, 241, 242, 243, 244, 245, 246, 232, 233, 234, 235, 236, 237, 238, 239, 240, 247, 248, 249, 250, 258, 259, 260, 261, 262, 263, 264, 265, 266, 267, 268, 269, 270, 271, 272, 273, 274, 275, 276, 277, 278, 279, 280, 281, 251, 252, 253, 254, 255, 256, 257] (by decide +kernel) (by decide +kernel)
set_option maxRecDepth 20000 in
theorem gX11_forbid_X11_propagate : GoodIn wsX11_forbid (wsV RX11 107 RX11 yX11_propagate wsX11_propagate) := goodIn_app (goodIn_of _ (by decide +kernel)) ggX11_forbid_X11_propagate
theorem dX11_forbid_0 : decode cX11_forbid 0 = .ok (.aload_n 0, 1) := by decide +kernel
theorem dX11_forbid_1 : decode cX11_forbid 1 = .ok (.iload_n 1, 1) := by decide +kernel
theorem dX11_forbid_2 : decode cX11_forbid 2 = .ok (.invokevirtual 154, 3) := by decide +kernel
theorem dX11_forbid_5 : decode cX11_forbid 5 = .ok (.ifCond .ne 13, 3) := by decide +kernel
theorem dX11_forbid_8 : decode cX11_forbid 8 = .ok (.new 72, 3) := by decide +kernel
theorem dX11_forbid_11 : decode cX11_forbid 11 = .ok (.dup, 1) := by decide +kernel
theorem dX11_forbid_12 : decode cX11_forbid 12 = .ok (.ldc 157, 2) := by decide +kernel
theorem dX11_forbid_14 : decode cX11_forbid 14 = .ok (.invokespecial 76, 3) := by decide +kernel
theorem dX11_forbid_17 : decode cX11_forbid 17 = .ok (.athrow, 1) := by decide +kernel
theorem dX11_forbid_18 : decode cX11_forbid 18 = .ok (.aload_n 0, 1) := by decide +kernel
theorem dX11_forbid_19 : decode cX11_forbid 19 = .ok (.getfield 19, 3) := by decide +kernel
theorem dX11_forbid_22 : decode cX11_forbid 22 = .ok (.getfield 139, 3) := by decide +kernel
theorem dX11_forbid_25 : decode cX11_forbid 25 = .ok (.iload_n 1, 1) := by decide +kernel
theorem dX11_forbid_26 : decode cX11_forbid 26 = .ok (.iload_n 2, 1) := by decide +kernel
theorem dX11_forbid_27 : decode cX11_forbid 27 = .ok (.invokestatic 292, 3) := by decide +kernel
theorem dX11_forbid_30 : decode cX11_forbid 30 = .ok (.ifCond .ne 14, 3) := by decide +kernel
theorem dX11_forbid_33 : decode cX11_forbid 33 = .ok (.new 87, 3) := by decide +kernel
theorem dX11_forbid_36 : decode cX11_forbid 36 = .ok (.dup, 1) := by decide +kernel
theorem dX11_forbid_37 : decode cX11_forbid 37 = .ok (.ldc_w 321, 3) := by decide +kernel
theorem dX11_forbid_40 : decode cX11_forbid 40 = .ok (.invokespecial 91, 3) := by decide +kernel
theorem dX11_forbid_43 : decode cX11_forbid 43 = .ok (.athrow, 1) := by decide +kernel
theorem dX11_forbid_44 : decode cX11_forbid 44 = .ok (.aload_n 0, 1) := by decide +kernel
theorem dX11_forbid_45 : decode cX11_forbid 45 = .ok (.getfield 19, 3) := by decide +kernel
theorem dX11_forbid_48 : decode cX11_forbid 48 = .ok (.getfield 123, 3) := by decide +kernel
theorem dX11_forbid_51 : decode cX11_forbid 51 = .ok (.ifCond .gt 13, 3) := by decide +kernel
theorem dX11_forbid_54 : decode cX11_forbid 54 = .ok (.aload_n 0, 1) := by decide +kernel
theorem dX11_forbid_55 : decode cX11_forbid 55 = .ok (.getfield 19, 3) := by decide +kernel
theorem dX11_forbid_58 : decode cX11_forbid 58 = .ok (.invokevirtual 126, 3) := by decide +kernel
theorem dX11_forbid_61 : decode cX11_forbid 61 = .ok (.ifCond .eq 14, 3) := by decide +kernel
theorem dX11_forbid_64 : decode cX11_forbid 64 = .ok (.new 61, 3) := by decide +kernel
theorem dX11_forbid_67 : decode cX11_forbid 67 = .ok (.dup, 1) := by decide +kernel
theorem dX11_forbid_68 : decode cX11_forbid 68 = .ok (.ldc_w 323, 3) := by decide +kernel
theorem dX11_forbid_71 : decode cX11_forbid 71 = .ok (.invokespecial 65, 3) := by decide +kernel
theorem dX11_forbid_74 : decode cX11_forbid 74 = .ok (.athrow, 1) := by decide +kernel
theorem dX11_forbid_75 : decode cX11_forbid 75 = .ok (.aload_n 0, 1) := by decide +kernel
theorem dX11_forbid_76 : decode cX11_forbid 76 = .ok (.getfield 19, 3) := by decide +kernel
theorem dX11_forbid_79 : decode cX11_forbid 79 = .ok (.getfield 111, 3) := by decide +kernel
theorem dX11_forbid_82 : decode cX11_forbid 82 = .ok (.istore_n 3, 1) := by decide +kernel
theorem dX11_forbid_83 : decode cX11_forbid 83 = .ok (.aload_n 0, 1) := by decide +kernel
theorem dX11_forbid_84 : decode cX11_forbid 84 = .ok (.getfield 19, 3) := by decide +kernel
theorem dX11_forbid_87 : decode cX11_forbid 87 = .ok (.iload_n 1, 1) := by decide +kernel
theorem dX11_forbid_88 : decode cX11_forbid 88 = .ok (.iload_n 2, 1) := by decide +kernel
theorem dX11_forbid_89 : decode cX11_forbid 89 = .ok (.bipush (-2), 2) := by decide +kernel
theorem dX11_forbid_91 : decode cX11_forbid 91 = .ok (.lconst 0, 1) := by decide +kernel
theorem dX11_forbid_92 : decode cX11_forbid 92 = .ok (.invokevirtual 325, 3) := by decide +kernel
theorem dX11_forbid_95 : decode cX11_forbid 95 = .ok (.aload_n 0, 1) := by decide +kernel
theorem dX11_forbid_96 : decode cX11_forbid 96 = .ok (.aload_n 0, 1) := by decide +kernel
theorem dX11_forbid_97 : decode cX11_forbid 97 = .ok (.getfield 19, 3) := by decide +kernel
theorem dX11_forbid_100 : decode cX11_forbid 100 = .ok (.invokevirtual 107, 3) := by decide +kernel
theorem dX11_forbid_103 : decode cX11_forbid 103 = .ok (.aload_n 0, 1) := by decide +kernel
theorem dX11_forbid_104 : decode cX11_forbid 104 = .ok (.getfield 19, 3) := by decide +kernel
theorem dX11_forbid_107 : decode cX11_forbid 107 = .ok (.getfield 111, 3) := by decide +kernel
theorem dX11_forbid_110 : decode cX11_forbid 110 = .ok (.iload_n 3, 1) := by decide +kernel
theorem dX11_forbid_111 : decode cX11_forbid 111 = .ok (.isub, 1) := by decide +kernel
theorem dX11_forbid_112 : decode cX11_forbid 112 = .ok (.ireturn, 1) := by decide +kernel
set_option maxRecDepth 20000 in
theorem ggX11_decide_X11_isVariable : GoodIn wsX11_decide wsX11_isVariable := goodIn_r _ [14, 15, 16, 250, 251, 252, 253, 254, 255, 256, 257, 258, 265, 266, 267, 268] (by decide +kernel) (by decide +kernel)
set_option maxRecDepth 20000 in
theorem gX11_decide_X11_isVariable : GoodIn wsX11_decide (wsV RX11 154 RX11 yX11_isVariable wsX11_isVariable) := goodIn_app (goodIn_of _ (by decide +kernel)) ggX11_decide_X11_isVariable
set_option maxRecDepth 20000 in
theorem ggX11_decide_X5_has : GoodIn wsX11_decide wsX5_has := goodIn_r _ [20, 21, 13, 22, 23, 24, 19, 25] (by decide +kernel) (by decide +kernel)
set_option maxRecDepth 20000 in
theorem gX11_decide_X5_has : GoodIn wsX11_decide (va_wsS RX11 292 yX5_has wsX5_has) := goodIn_app (goodIn_of _ (by decide +kernel)) ggX11_decide_X5_has
set_option maxRecDepth 20000 in
theorem ggX11_decide_X11_isFixed : GoodIn wsX11_decide wsX11_isFixed := goodIn_r _ [29, 7, 8, 30, 31, 19, 32, 33, 34, 35, 36, 37, 38, 39, 250, 251, 252, 253, 254, 255, 256, 257, 258, 259, 260, 261, 262, 263, 264] (by decide +kernel) (by decide +kernel)
set_option maxRecDepth 20000 in
theorem gX11_decide_X11_isFixed : GoodIn wsX11_decide (wsV RX11 135 RX11 yX11_isFixed wsX11_isFixed) := goodIn_app (goodIn_of _ (by decide +kernel)) ggX11_decide_X11_isFixed
set_option maxRecDepth 20000 in
theorem ggX11_decide_X9_hasFailed : GoodIn wsX11_decide wsX9_hasFailed := goodIn_r _ [44, 45, 46, 47, 48, 19, 49, 50, 51, 52, 53, 54, 55, 56, 57, 58, 59, 60, 259, 260, 261, 262, 263, 264] (by decide +kernel) (by decide +kernel)
set_option maxRecDepth 20000 in
theorem gX11_decide_X9_hasFailed : GoodIn wsX11_decide (wsV RX11 126 RX9 yX9_hasFailed wsX9_hasFailed) := goodIn_app (goodIn_of _ (by decide +kernel)) ggX11_decide_X9_hasFailed
set_option maxRecDepth 20000 in
theorem ggX11_decide_X11_makeDecision : GoodIn wsX11_decide wsX11_makeDecision := goodIn_r _ [64, 65, 7, 66, 67, 68, 43, 69, 70, 71, 45, 72, 24, 19, 25, 73, 18, 20, 21, 13, 22, 23, 74, 75, 76, 77, 78, 79, 80, 81, 82, 83, 84, 85, 86, 87, 88, 89, 90, 91, 92, 93, 94, 95, 96, 97, 98, 99, 100, 101, 102, 9, 15, 103, 104, 105, 106, 107, 108, 109, 110, 111, 112, 113, 114, 115, 116, 8, 117, 118, 119, 120, 121, 122, 123, 124, 125, 126, 40, 41, 42, 44, 46, 47, 48, 49, 50, 51, 52, 53, 54, 55, 56, 57, 58, 59, 60, 17, 127, 128, 129, 130, 131, 132, 133, 134, 135, 136, 137, 138, 139, 140, 141, 142, 143, 144, 145, 146, 147, 148, 149, 150, 31, 32, 151, 152, 153, 154, 34, 35, 36, 37, 38, 39, 155, 156, 157, 158, 159, 160, 161, 162, 163, 164, 165, 166, 167, 168, 169, 170, 171, 172, 173, 174, 175, 176, 177, 178, 179, 180, 181, 182, 183, 184, 185, 186, 187, 188, 189, 190, 191, 192, 193, 194, 195, 196, 197, 198, 199, 200, 201, 202, 203, 204, 205, 206, 207, 208, 209, 210, 211, 212, 213, 214, 215, 216, 217, 218, 219, 220, 221, 222, 223, 224, 225, 226, 227, 228, 229, 230, 231, 232, 233, 234, 235, 236, 237, 238, 239, 240, 241, 242, 243, 244, 245, 246, 247, 248, 249, 250, 251, 252, 253, 254, 255, 256, 257, 258, 259, 260, 261, 262, 263, 264, 269, 270, 271, 272, 273, 274, 275, 265, 266, 267, 268, 276, 277, 278, 279, 280, 281, 282, 283, 284, 285, 286, 287, 288, 289, 290, 291, 292, 293, 294, 295, 296, 297, 298, 299] (by decide +kernel) (by decide +kernel)
set_option maxRecDepth 20000 in
theorem gX11_decide_X11_makeDecision : GoodIn wsX11_decide (wsV RX11 331 RX11 yX11_makeDecision wsX11_makeDecision) := goodIn_app (goodIn_of _ (by decide +kernel)) ggX11_decide_X11_makeDecision
theorem dX11_decide_0 : decode cX11_decide 0 = .ok (.aload_n 0, 1) := by decide +kernel
theorem dX11_decide_1 : decode cX11_decide 1 = .ok (.iload_n 1, 1) := by decide +kernel
theorem dX11_decide_2 : decode cX11_decide 2 = .ok (.invokevirtual 154, 3) := by decide +kernel
theorem dX11_decide_5 : decode cX11_decide 5 = .ok (.ifCond .ne 13, 3) := by decide +kernel
theorem dX11_decide_8 : decode cX11_decide 8 = .ok (.new 72, 3) := by decide +kernel
theorem dX11_decide_11 : decode cX11_decide 11 = .ok (.dup, 1) := by decide +kernel
theorem dX11_decide_12 : decode cX11_decide 12 = .ok (.ldc 157, 2) := by decide +kernel
theorem dX11_decide_14 : decode cX11_decide 14 = .ok (.invokespecial 76, 3) := by decide +kernel
theorem dX11_decide_17 : decode cX11_decide 17 = .ok (.athrow, 1) := by decide +kernel
theorem dX11_decide_18 : decode cX11_decide 18 = .ok (.aload_n 0, 1) := by decide +kernel
theorem dX11_decide_19 : decode cX11_decide 19 = .ok (.getfield 19, 3) := by decide +kernel
theorem dX11_decide_22 : decode cX11_decide 22 = .ok (.getfield 139, 3) := by decide +kernel
theorem dX11_decide_25 : decode cX11_decide 25 = .ok (.iload_n 1, 1) := by decide +kernel
theorem dX11_decide_26 : decode cX11_decide 26 = .ok (.iload_n 2, 1) := by decide +kernel
theorem dX11_decide_27 : decode cX11_decide 27 = .ok (.invokestatic 292, 3) := by decide +kernel
theorem dX11_decide_30 : decode cX11_decide 30 = .ok (.ifCond .ne 14, 3) := by decide +kernel
theorem dX11_decide_33 : decode cX11_decide 33 = .ok (.new 87, 3) := by decide +kernel
theorem dX11_decide_36 : decode cX11_decide 36 = .ok (.dup, 1) := by decide +kernel
theorem dX11_decide_37 : decode cX11_decide 37 = .ok (.ldc_w 321, 3) := by decide +kernel
theorem dX11_decide_40 : decode cX11_decide 40 = .ok (.invokespecial 91, 3) := by decide +kernel
theorem dX11_decide_43 : decode cX11_decide 43 = .ok (.athrow, 1) := by decide +kernel
theorem dX11_decide_44 : decode cX11_decide 44 = .ok (.aload_n 0, 1) := by decide +kernel
theorem dX11_decide_45 : decode cX11_decide 45 = .ok (.iload_n 1, 1) := by decide +kernel
theorem dX11_decide_46 : decode cX11_decide 46 = .ok (.invokevirtual 135, 3) := by decide +kernel
theorem dX11_decide_49 : decode cX11_decide 49 = .ok (.ifCond .ne 13, 3) := by decide +kernel
theorem dX11_decide_52 : decode cX11_decide 52 = .ok (.aload_n 0, 1) := by decide +kernel
theorem dX11_decide_53 : decode cX11_decide 53 = .ok (.getfield 19, 3) := by decide +kernel
theorem dX11_decide_56 : decode cX11_decide 56 = .ok (.invokevirtual 126, 3) := by decide +kernel
theorem dX11_decide_59 : decode cX11_decide 59 = .ok (.ifCond .eq 14, 3) := by decide +kernel
theorem dX11_decide_62 : decode cX11_decide 62 = .ok (.new 61, 3) := by decide +kernel
theorem dX11_decide_65 : decode cX11_decide 65 = .ok (.dup, 1) := by decide +kernel
theorem dX11_decide_66 : decode cX11_decide 66 = .ok (.ldc_w 329, 3) := by decide +kernel
theorem dX11_decide_69 : decode cX11_decide 69 = .ok (.invokespecial 65, 3) := by decide +kernel
theorem dX11_decide_72 : decode cX11_decide 72 = .ok (.athrow, 1) := by decide +kernel
theorem dX11_decide_73 : decode cX11_decide 73 = .ok (.aload_n 0, 1) := by decide +kernel
theorem dX11_decide_74 : decode cX11_decide 74 = .ok (.getfield 19, 3) := by decide +kernel
theorem dX11_decide_77 : decode cX11_decide 77 = .ok (.getfield 111, 3) := by decide +kernel
theorem dX11_decide_80 : decode cX11_decide 80 = .ok (.istore_n 3, 1) := by decide +kernel
theorem dX11_decide_81 : decode cX11_decide 81 = .ok (.aload_n 0, 1) := by decide +kernel
theorem dX11_decide_82 : decode cX11_decide 82 = .ok (.iload_n 1, 1) := by decide +kernel
theorem dX11_decide_83 : decode cX11_decide 83 = .ok (.iload_n 2, 1) := by decide +kernel
theorem dX11_decide_84 : decode cX11_decide 84 = .ok (.invokevirtual 331, 3) := by decide +kernel
theorem dX11_decide_87 : decode cX11_decide 87 = .ok (.aload_n 0, 1) := by decide +kernel
theorem dX11_decide_88 : decode cX11_decide 88 = .ok (.getfield 19, 3) := by decide +kernel
theorem dX11_decide_91 : decode cX11_decide 91 = .ok (.getfield 111, 3) := by decide +kernel
theorem dX11_decide_94 : decode cX11_decide 94 = .ok (.iload_n 3, 1) := by decide +kernel
theorem dX11_decide_95 : decode cX11_decide 95 = .ok (.isub, 1) := by decide +kernel
theorem dX11_decide_96 : decode cX11_decide 96 = .ok (.ireturn, 1) := by decide +kernel
set_option maxRecDepth 20000 in
theorem ggX11_makeDecision_X9_assume : GoodIn wsX11_makeDecision wsX9_assume := goodIn_r _ [7, 8, 9, 10, 11, 12, 13, 14, 15, 16, 17, 18, 19, 20, 21, 22, 23, 24, 6, 25, 26, 27, 28, 29, 30, 31, 32, 33, 34, 35, 36, 37, 38, 39, 40, 41, 42, 43, 44, 45, 46, 238, 239, 240, 241, 242, 243, 244, 245, 246, 247, 248, 249, 250] (by decide +kernel) (by decide +kernel)
set_option maxRecDepth 20000 in
theorem gX11_makeDecision_X9_assume : GoodIn wsX11_makeDecision (wsV RX11 335 RX9 yX9_assume wsX9_assume) := goodIn_app (goodIn_of _ (by decide +kernel)) ggX11_makeDecision_X9_assume
set_option maxRecDepth 20000 in
theorem ggX11_makeDecision_X11_propagate : GoodIn wsX11_makeDecision wsX11_propagate := goodIn_r _ [50, 51, 52, 53, 54, 55, 56, 57, 58, 59, 60, 61, 62, 63, 64, 19, 65, 66, 67, 68, 69, 70, 71, 72, 73, 74, 75, 76, 77, 78, 79, 80, 6, 81, 10, 82, 83, 84, 13, 85, 86, 87, 88, 89, 90, 91, 92, 93, 94, 95, 96, 97, 16, 17, 18, 20, 21, 12, 14, 98, 99, 100, 101, 102, 103, 104, 105, 106, 107, 108, 109, 110, 111, 112, 113, 114, 115, 116, 117, 118, 119, 120, 121, 122, 123, 124, 125, 126, 127, 128, 129, 130, 131, 132, 133, 134, 135, 136, 137, 138, 139, 140, 141, 142, 143, 144, 145, 146, 147, 148, 149, 150, 151, 152, 153, 154, 155, 156, 157, 158, 159, 160, 161, 162, 163, 164, 165, 166, 167, 168, 169, 170, 171, 172, 173, 174, 175, 176, 177, 178, 179, 180, 181, 182, 183, 184, 185, 186, 187, 188, 189, 190, 191, 192, 193, 194, 195, 196, 197, 198, 199, 200, 201, 202, 203, 204, 205, 206, 207, 23, 24, 25, 26, 27, 28, 29, 8, 30, 31, 32, 33, 34, 35, 36, 37, 38, 39, 40, 41, 42, 43, 44, 45, 46, 208, 209, 210, 211, 212, 213, 214, 215, 216, 217, 218, 219, 220, 221, 222, 223, 224, 225, 226, 227, 228, 238, 239, 240, 241, 242, 243, 229, 230, 231, 232, 233, 234, 235, 236, 237, 251, 252, 253, 254, 255, 256, 257, 258, 259, 260, 261, 262, 263, 264, 265, 266, 267, 268, 269, 270, 271, 272, 273, 274, 275, 276, 277, 278, 244, 245, 246, 247, 248, 249, 250] (by decide +kernel) (by decide +kernel)
set_option maxRecDepth 20000 in
theorem gX11_makeDecision_X11_propagate : GoodIn wsX11_makeDecision (wsV RX11 107 RX11 yX11_propagate wsX11_propagate) := goodIn_app (goodIn_of _ (by decide +kernel)) ggX11_makeDecision_X11_propagate
theorem dX11_makeDecision_0 : decode cX11_makeDecision 0 = .ok (.aload_n 0, 1) := by decide +kernel
theorem dX11_makeDecision_1 : decode cX11_makeDecision 1 = .ok (.dup, 1) := by decide +kernel
theorem dX11_makeDecision_2 : decode cX11_makeDecision 2 = .ok (.getfield 55, 3) := by decide +kernel
theorem dX11_makeDecision_5 : decode cX11_makeDecision 5 = .ok (.iconst 1, 1) := by decide +kernel
theorem dX11_makeDecision_6 : decode cX11_makeDecision 6 = .ok (.iadd, 1) := by decide +kernel
theorem dX11_makeDecision_7 : decode cX11_makeDecision 7 = .ok (.putfield 55, 3) := by decide +kernel
theorem dX11_makeDecision_10 : decode cX11_makeDecision 10 = .ok (.aload_n 0, 1) := by decide +kernel
theorem dX11_makeDecision_11 : decode cX11_makeDecision 11 = .ok (.getfield 19, 3) := by decide +kernel
theorem dX11_makeDecision_14 : decode cX11_makeDecision 14 = .ok (.iload_n 1, 1) := by decide +kernel
theorem dX11_makeDecision_15 : decode cX11_makeDecision 15 = .ok (.iload_n 2, 1) := by decide +kernel
theorem dX11_makeDecision_16 : decode cX11_makeDecision 16 = .ok (.invokevirtual 335, 3) := by decide +kernel
theorem dX11_makeDecision_19 : decode cX11_makeDecision 19 = .ok (.aload_n 0, 1) := by decide +kernel
theorem dX11_makeDecision_20 : decode cX11_makeDecision 20 = .ok (.aload_n 0, 1) := by decide +kernel
theorem dX11_makeDecision_21 : decode cX11_makeDecision 21 = .ok (.getfield 19, 3) := by decide +kernel
theorem dX11_makeDecision_24 : decode cX11_makeDecision 24 = .ok (.invokevirtual 107, 3) := by decide +kernel
theorem dX11_makeDecision_27 : decode cX11_makeDecision 27 = .ok (.return_, 1) := by decide +kernel
set_option maxRecDepth 20000 in
theorem ggX11_back_X9_takeBack : GoodIn wsX11_back wsX9_takeBack := goodIn_r _ [9, 10, 11, 12, 13, 14, 15, 16, 8, 17, 18, 19, 20, 21, 22, 23, 24, 25, 26, 27, 28, 29, 39, 40, 41, 42, 43, 44, 45, 46, 47, 48, 49, 50, 51] (by decide +kernel) (by decide +kernel)
set_option maxRecDepth 20000 in
theorem gX11_back_X9_takeBack : GoodIn wsX11_back (wsV RX11 340 RX9 yX9_takeBack wsX9_takeBack) := goodIn_app (goodIn_of _ (by decide +kernel)) ggX11_back_X9_takeBack
theorem dX11_back_0 : decode cX11_back 0 = .ok (.aload_n 0, 1) := by decide +kernel
theorem dX11_back_1 : decode cX11_back 1 = .ok (.getfield 19, 3) := by decide +kernel
theorem dX11_back_4 : decode cX11_back 4 = .ok (.getfield 123, 3) := by decide +kernel
theorem dX11_back_7 : decode cX11_back 7 = .ok (.ifCond .ne 14, 3) := by decide +kernel
theorem dX11_back_10 : decode cX11_back 10 = .ok (.new 61, 3) := by decide +kernel
theorem dX11_back_13 : decode cX11_back 13 = .ok (.dup, 1) := by decide +kernel
theorem dX11_back_14 : decode cX11_back 14 = .ok (.ldc_w 338, 3) := by decide +kernel
theorem dX11_back_17 : decode cX11_back 17 = .ok (.invokespecial 65, 3) := by decide +kernel
theorem dX11_back_20 : decode cX11_back 20 = .ok (.athrow, 1) := by decide +kernel
theorem dX11_back_21 : decode cX11_back 21 = .ok (.aload_n 0, 1) := by decide +kernel
theorem dX11_back_22 : decode cX11_back 22 = .ok (.getfield 19, 3) := by decide +kernel
theorem dX11_back_25 : decode cX11_back 25 = .ok (.invokevirtual 340, 3) := by decide +kernel
theorem dX11_back_28 : decode cX11_back 28 = .ok (.ireturn, 1) := by decide +kernel
set_option maxRecDepth 20000 in
theorem ggX11_decision_X9_decisionAt : GoodIn wsX11_decision wsX9_decisionAt := goodIn_r _ [9, 10, 11, 25, 26, 27, 28, 29, 30] (by decide +kernel) (by decide +kernel)
set_option maxRecDepth 20000 in
theorem gX11_decision_X9_decisionAt : GoodIn wsX11_decision (wsV RX11 345 RX9 yX9_decisionAt wsX9_decisionAt) := goodIn_app (goodIn_of _ (by decide +kernel)) ggX11_decision_X9_decisionAt
set_option maxRecDepth 20000 in
theorem ggX11_decision_X5_toldPair : GoodIn wsX11_decision wsX5_toldPair := goodIn_r _ [15] (by decide +kernel) (by decide +kernel)
set_option maxRecDepth 20000 in
theorem gX11_decision_X5_toldPair : GoodIn wsX11_decision (va_wsS RX11 348 yX5_toldPair wsX5_toldPair) := goodIn_app (goodIn_of _ (by decide +kernel)) ggX11_decision_X5_toldPair
theorem dX11_decision_0 : decode cX11_decision 0 = .ok (.iload_n 1, 1) := by decide +kernel
theorem dX11_decision_1 : decode cX11_decision 1 = .ok (.ifCond .lt 14, 3) := by decide +kernel
theorem dX11_decision_4 : decode cX11_decision 4 = .ok (.iload_n 1, 1) := by decide +kernel
theorem dX11_decision_5 : decode cX11_decision 5 = .ok (.aload_n 0, 1) := by decide +kernel
theorem dX11_decision_6 : decode cX11_decision 6 = .ok (.getfield 19, 3) := by decide +kernel
theorem dX11_decision_9 : decode cX11_decision 9 = .ok (.getfield 123, 3) := by decide +kernel
theorem dX11_decision_12 : decode cX11_decision 12 = .ok (.if_icmp .lt 14, 3) := by decide +kernel
theorem dX11_decision_15 : decode cX11_decision 15 = .ok (.new 72, 3) := by decide +kernel
theorem dX11_decision_18 : decode cX11_decision 18 = .ok (.dup, 1) := by decide +kernel
theorem dX11_decision_19 : decode cX11_decision 19 = .ok (.ldc_w 343, 3) := by decide +kernel
theorem dX11_decision_22 : decode cX11_decision 22 = .ok (.invokespecial 76, 3) := by decide +kernel
theorem dX11_decision_25 : decode cX11_decision 25 = .ok (.athrow, 1) := by decide +kernel
theorem dX11_decision_26 : decode cX11_decision 26 = .ok (.aload_n 0, 1) := by decide +kernel
theorem dX11_decision_27 : decode cX11_decision 27 = .ok (.getfield 19, 3) := by decide +kernel
theorem dX11_decision_30 : decode cX11_decision 30 = .ok (.iload_n 1, 1) := by decide +kernel
theorem dX11_decision_31 : decode cX11_decision 31 = .ok (.invokevirtual 345, 3) := by decide +kernel
theorem dX11_decision_34 : decode cX11_decision 34 = .ok (.iconst 0, 1) := by decide +kernel
theorem dX11_decision_35 : decode cX11_decision 35 = .ok (.invokestatic 348, 3) := by decide +kernel
theorem dX11_decision_38 : decode cX11_decision 38 = .ok (.ireturn, 1) := by decide +kernel
set_option maxRecDepth 20000 in
theorem ggX11_probe_X11_isVariable : GoodIn wsX11_probe wsX11_isVariable := goodIn_r _ [17, 10, 11, 250, 251, 252, 253, 254, 255, 256, 257, 258, 265, 266, 267, 268] (by decide +kernel) (by decide +kernel)
set_option maxRecDepth 20000 in
theorem gX11_probe_X11_isVariable : GoodIn wsX11_probe (wsV RX11 154 RX11 yX11_isVariable wsX11_isVariable) := goodIn_app (goodIn_of _ (by decide +kernel)) ggX11_probe_X11_isVariable
set_option maxRecDepth 20000 in
theorem ggX11_probe_X5_has : GoodIn wsX11_probe wsX5_has := goodIn_r _ [21, 22, 16, 23, 24, 25, 20, 26] (by decide +kernel) (by decide +kernel)
set_option maxRecDepth 20000 in
theorem gX11_probe_X5_has : GoodIn wsX11_probe (va_wsS RX11 292 yX5_has wsX5_has) := goodIn_app (goodIn_of _ (by decide +kernel)) ggX11_probe_X5_has
set_option maxRecDepth 20000 in
theorem ggX11_probe_X11_isFixed : GoodIn wsX11_probe wsX11_isFixed := goodIn_r _ [30, 7, 8, 31, 32, 20, 33, 34, 35, 36, 37, 38, 39, 40, 250, 251, 252, 253, 254, 255, 256, 257, 258, 259, 260, 261, 262, 263, 264] (by decide +kernel) (by decide +kernel)
set_option maxRecDepth 20000 in
theorem gX11_probe_X11_isFixed : GoodIn wsX11_probe (wsV RX11 135 RX11 yX11_isFixed wsX11_isFixed) := goodIn_app (goodIn_of _ (by decide +kernel)) ggX11_probe_X11_isFixed
set_option maxRecDepth 20000 in
theorem ggX11_probe_X9_hasFailed : GoodIn wsX11_probe wsX9_hasFailed := goodIn_r _ [45, 46, 47, 48, 49, 20, 50, 51, 52, 53, 54, 55, 56, 57, 58, 59, 60, 61, 259, 260, 261, 262, 263, 264] (by decide +kernel) (by decide +kernel)
set_option maxRecDepth 20000 in
theorem gX11_probe_X9_hasFailed : GoodIn wsX11_probe (wsV RX11 126 RX9 yX9_hasFailed wsX9_hasFailed) := goodIn_app (goodIn_of _ (by decide +kernel)) ggX11_probe_X9_hasFailed
set_option maxRecDepth 20000 in
theorem ggX11_probe_X9_begin : GoodIn wsX11_probe wsX9_begin := goodIn_r _ [65, 47, 66, 67, 46, 259, 260, 261, 262, 263, 264] (by decide +kernel) (by decide +kernel)
set_option maxRecDepth 20000 in
theorem gX11_probe_X9_begin : GoodIn wsX11_probe (wsV RX11 100 RX9 yX9_begin wsX9_begin) := goodIn_app (goodIn_of _ (by decide +kernel)) ggX11_probe_X9_begin
set_option maxRecDepth 20000 in
theorem ggX11_probe_X9_assume : GoodIn wsX11_probe wsX9_assume := goodIn_r _ [71, 67, 72, 46, 73, 25, 20, 26, 74, 19, 21, 22, 16, 23, 24, 75, 76, 77, 44, 78, 66, 79, 80, 81, 82, 83, 84, 85, 86, 87, 88, 89, 90, 91, 92, 93, 94, 95, 96, 97, 98, 259, 260, 261, 262, 263, 264, 269, 270, 271, 272, 273, 274, 275] (by decide +kernel) (by decide +kernel)
set_option maxRecDepth 20000 in
theorem gX11_probe_X9_assume : GoodIn wsX11_probe (wsV RX11 335 RX9 yX9_assume wsX9_assume) := goodIn_app (goodIn_of _ (by decide +kernel)) ggX11_probe_X9_assume
set_option maxRecDepth 20000 in
theorem ggX11_probe_X11_propagate : GoodIn wsX11_probe wsX11_propagate := goodIn_r _ [102, 12, 10, 103, 104, 105, 106, 107, 108, 109, 110, 111, 112, 113, 114, 16, 115, 116, 8, 117, 118, 119, 120, 121, 122, 123, 124, 125, 126, 41, 42, 43, 44, 45, 46, 47, 48, 49, 20, 50, 51, 52, 53, 54, 55, 56, 57, 58, 59, 60, 61, 18, 19, 21, 22, 23, 24, 25, 26, 127, 128, 129, 130, 131, 132, 133, 134, 135, 136, 137, 138, 139, 140, 141, 142, 143, 144, 145, 146, 147, 148, 149, 150, 32, 33, 151, 152, 153, 154, 35, 36, 37, 38, 39, 40, 155, 156, 157, 158, 159, 160, 161, 162, 163, 164, 165, 166, 167, 168, 169, 170, 171, 172, 173, 174, 175, 176, 177, 178, 179, 180, 181, 182, 183, 184, 185, 186, 187, 188, 189, 190, 191, 192, 193, 194, 195, 196, 197, 198, 199, 200, 201, 202, 203, 204, 205, 206, 207, 208, 209, 210, 211, 212, 213, 214, 215, 216, 217, 218, 219, 220, 221, 222, 223, 224, 225, 226, 227, 228, 76, 77, 78, 66, 79, 80, 81, 67, 82, 83, 84, 85, 86, 87, 88, 89, 90, 91, 92, 93, 94, 95, 96, 97, 98, 229, 230, 231, 232, 233, 234, 235, 236, 237, 238, 239, 240, 241, 242, 243, 244, 245, 246, 247, 248, 249, 259, 260, 261, 262, 263, 264, 250, 251, 252, 253, 254, 255, 256, 257, 258, 265, 266, 267, 268, 276, 277, 278, 279, 280, 281, 282, 283, 284, 285, 286, 287, 288, 289, 290, 291, 292, 293, 294, 295, 296, 297, 298, 299, 269, 270, 271, 272, 273, 274, 275] (by decide +kernel) (by decide +kernel)
set_option maxRecDepth 20000 in
theorem gX11_probe_X11_propagate : GoodIn wsX11_probe (wsV RX11 107 RX11 yX11_propagate wsX11_propagate) := goodIn_app (goodIn_of _ (by decide +kernel)) ggX11_probe_X11_propagate
theorem dX11_probe_0 : decode cX11_probe 0 = .ok (.aload_n 0, 1) := by decide +kernel
theorem dX11_probe_1 : decode cX11_probe 1 = .ok (.iload_n 1, 1) := by decide +kernel
theorem dX11_probe_2 : decode cX11_probe 2 = .ok (.invokevirtual 154, 3) := by decide +kernel
theorem dX11_probe_5 : decode cX11_probe 5 = .ok (.ifCond .ne 13, 3) := by decide +kernel
theorem dX11_probe_8 : decode cX11_probe 8 = .ok (.new 72, 3) := by decide +kernel
theorem dX11_probe_11 : decode cX11_probe 11 = .ok (.dup, 1) := by decide +kernel
theorem dX11_probe_12 : decode cX11_probe 12 = .ok (.ldc 157, 2) := by decide +kernel
theorem dX11_probe_14 : decode cX11_probe 14 = .ok (.invokespecial 76, 3) := by decide +kernel
theorem dX11_probe_17 : decode cX11_probe 17 = .ok (.athrow, 1) := by decide +kernel
theorem dX11_probe_18 : decode cX11_probe 18 = .ok (.aload_n 0, 1) := by decide +kernel
theorem dX11_probe_19 : decode cX11_probe 19 = .ok (.getfield 19, 3) := by decide +kernel
theorem dX11_probe_22 : decode cX11_probe 22 = .ok (.getfield 139, 3) := by decide +kernel
theorem dX11_probe_25 : decode cX11_probe 25 = .ok (.iload_n 1, 1) := by decide +kernel
theorem dX11_probe_26 : decode cX11_probe 26 = .ok (.iload_n 2, 1) := by decide +kernel
theorem dX11_probe_27 : decode cX11_probe 27 = .ok (.invokestatic 292, 3) := by decide +kernel
theorem dX11_probe_30 : decode cX11_probe 30 = .ok (.ifCond .ne 14, 3) := by decide +kernel
theorem dX11_probe_33 : decode cX11_probe 33 = .ok (.new 87, 3) := by decide +kernel
theorem dX11_probe_36 : decode cX11_probe 36 = .ok (.dup, 1) := by decide +kernel
theorem dX11_probe_37 : decode cX11_probe 37 = .ok (.ldc_w 321, 3) := by decide +kernel
theorem dX11_probe_40 : decode cX11_probe 40 = .ok (.invokespecial 91, 3) := by decide +kernel
theorem dX11_probe_43 : decode cX11_probe 43 = .ok (.athrow, 1) := by decide +kernel
theorem dX11_probe_44 : decode cX11_probe 44 = .ok (.aload_n 0, 1) := by decide +kernel
theorem dX11_probe_45 : decode cX11_probe 45 = .ok (.iload_n 1, 1) := by decide +kernel
theorem dX11_probe_46 : decode cX11_probe 46 = .ok (.invokevirtual 135, 3) := by decide +kernel
theorem dX11_probe_49 : decode cX11_probe 49 = .ok (.ifCond .ne 13, 3) := by decide +kernel
theorem dX11_probe_52 : decode cX11_probe 52 = .ok (.aload_n 0, 1) := by decide +kernel
theorem dX11_probe_53 : decode cX11_probe 53 = .ok (.getfield 19, 3) := by decide +kernel
theorem dX11_probe_56 : decode cX11_probe 56 = .ok (.invokevirtual 126, 3) := by decide +kernel
theorem dX11_probe_59 : decode cX11_probe 59 = .ok (.ifCond .eq 14, 3) := by decide +kernel
theorem dX11_probe_62 : decode cX11_probe 62 = .ok (.new 61, 3) := by decide +kernel
theorem dX11_probe_65 : decode cX11_probe 65 = .ok (.dup, 1) := by decide +kernel
theorem dX11_probe_66 : decode cX11_probe 66 = .ok (.ldc_w 329, 3) := by decide +kernel
theorem dX11_probe_69 : decode cX11_probe 69 = .ok (.invokespecial 65, 3) := by decide +kernel
theorem dX11_probe_72 : decode cX11_probe 72 = .ok (.athrow, 1) := by decide +kernel
theorem dX11_probe_73 : decode cX11_probe 73 = .ok (.aload_n 0, 1) := by decide +kernel
theorem dX11_probe_74 : decode cX11_probe 74 = .ok (.getfield 23, 3) := by decide +kernel
theorem dX11_probe_77 : decode cX11_probe 77 = .ok (.aload_n 0, 1) := by decide +kernel
theorem dX11_probe_78 : decode cX11_probe 78 = .ok (.getfield 47, 3) := by decide +kernel
theorem dX11_probe_81 : decode cX11_probe 81 = .ok (.getfield 93, 3) := by decide +kernel
theorem dX11_probe_84 : decode cX11_probe 84 = .ok (.aload_n 0, 1) := by decide +kernel
theorem dX11_probe_85 : decode cX11_probe 85 = .ok (.getfield 19, 3) := by decide +kernel
theorem dX11_probe_88 : decode cX11_probe 88 = .ok (.getfield 139, 3) := by decide +kernel
theorem dX11_probe_91 : decode cX11_probe 91 = .ok (.invokevirtual 100, 3) := by decide +kernel
theorem dX11_probe_94 : decode cX11_probe 94 = .ok (.aload_n 0, 1) := by decide +kernel
theorem dX11_probe_95 : decode cX11_probe 95 = .ok (.getfield 23, 3) := by decide +kernel
theorem dX11_probe_98 : decode cX11_probe 98 = .ok (.iload_n 1, 1) := by decide +kernel
theorem dX11_probe_99 : decode cX11_probe 99 = .ok (.iload_n 2, 1) := by decide +kernel
theorem dX11_probe_100 : decode cX11_probe 100 = .ok (.invokevirtual 335, 3) := by decide +kernel
theorem dX11_probe_103 : decode cX11_probe 103 = .ok (.aload_n 0, 1) := by decide +kernel
theorem dX11_probe_104 : decode cX11_probe 104 = .ok (.aload_n 0, 1) := by decide +kernel
theorem dX11_probe_105 : decode cX11_probe 105 = .ok (.getfield 23, 3) := by decide +kernel
theorem dX11_probe_108 : decode cX11_probe 108 = .ok (.invokevirtual 107, 3) := by decide +kernel
theorem dX11_probe_111 : decode cX11_probe 111 = .ok (.aload_n 0, 1) := by decide +kernel
theorem dX11_probe_112 : decode cX11_probe 112 = .ok (.getfield 23, 3) := by decide +kernel
theorem dX11_probe_115 : decode cX11_probe 115 = .ok (.invokevirtual 126, 3) := by decide +kernel
theorem dX11_probe_118 : decode cX11_probe 118 = .ok (.ifCond .eq 7, 3) := by decide +kernel
theorem dX11_probe_121 : decode cX11_probe 121 = .ok (.iconst (-1), 1) := by decide +kernel
theorem dX11_probe_122 : decode cX11_probe 122 = .ok (.goto 10, 3) := by decide +kernel
theorem dX11_probe_125 : decode cX11_probe 125 = .ok (.aload_n 0, 1) := by decide +kernel
theorem dX11_probe_126 : decode cX11_probe 126 = .ok (.getfield 23, 3) := by decide +kernel
theorem dX11_probe_129 : decode cX11_probe 129 = .ok (.getfield 111, 3) := by decide +kernel
theorem dX11_probe_132 : decode cX11_probe 132 = .ok (.ireturn, 1) := by decide +kernel
set_option maxRecDepth 20000 in
theorem ggX11_propagate_X6_constraintAt : GoodIn wsX11_propagate wsX6_constraintAt := goodIn_r _ [10, 11, 12, 230, 231, 232, 233] (by decide +kernel) (by decide +kernel)
set_option maxRecDepth 20000 in
theorem gX11_propagate_X6_constraintAt : GoodIn wsX11_propagate (wsV RX11 159 RX6 yX6_constraintAt wsX6_constraintAt) := goodIn_app (goodIn_of _ (by decide +kernel)) ggX11_propagate_X6_constraintAt
set_option maxRecDepth 20000 in
theorem ggX11_propagate_X11_sweep : GoodIn wsX11_propagate wsX11_sweep := goodIn_r _ [16, 17, 18, 19, 20, 21, 22, 23, 24, 25, 26, 27, 28, 29, 30, 31, 32, 33, 34, 35, 36, 37, 38, 39, 40, 41, 42, 43, 44, 45, 46, 47, 48, 49, 50, 51, 52, 53, 54, 15, 55, 56, 57, 58, 59, 60, 61, 62, 63, 64, 65, 66, 67, 68, 69, 70, 71, 72, 73, 74, 75, 76, 77, 78, 79, 80, 81, 82, 83, 84, 85, 86, 87, 88, 89, 90, 91, 92, 93, 94, 95, 96, 97, 98, 99, 100, 101, 102, 103, 104, 105, 106, 107, 108, 109, 110, 111, 112, 113, 114, 115, 116, 117, 118, 119, 120, 121, 122, 123, 124, 125, 126, 127, 128, 129, 130, 131, 132, 133, 134, 135, 136, 137, 138, 139, 140, 141, 142, 143, 144, 145, 146, 147, 148, 149, 150, 151, 152, 153, 154, 155, 156, 157, 158, 159, 160, 161, 162, 163, 164, 165, 166, 167, 168, 169, 170, 171, 172, 173, 174, 175, 176, 177, 178, 179, 180, 181, 182, 183, 184, 185, 186, 187, 188, 189, 190, 191, 192, 193, 234, 235, 236, 237, 238, 239, 240, 241, 242, 243, 244, 245, 246, 247, 248, 249, 250, 251, 252, 253, 254, 255, 256, 257, 215, 216, 217, 218, 219, 220, 258, 259, 260, 261, 262, 263, 264] (by decide +kernel) (by decide +kernel)
set_option maxRecDepth 20000 in
theorem gX11_propagate_X11_sweep : GoodIn wsX11_propagate (va_wsS RX11 351 yX11_sweep wsX11_sweep) := goodIn_app (goodIn_of _ (by decide +kernel)) ggX11_propagate_X11_sweep
set_option maxRecDepth 20000 in
theorem ggX11_propagate_X11_setAt : GoodIn wsX11_propagate wsX11_setAt := goodIn_r _ [197, 4, 198, 221, 222, 223, 224, 225, 226, 227, 228, 229] (by decide +kernel) (by decide +kernel)
set_option maxRecDepth 20000 in
theorem gX11_propagate_X11_setAt : GoodIn wsX11_propagate (wsV RX11 355 RX11 yX11_setAt wsX11_setAt) := goodIn_app (goodIn_of _ (by decide +kernel)) ggX11_propagate_X11_setAt
set_option maxRecDepth 20000 in
theorem ggX11_propagate_X4_show : GoodIn wsX11_propagate wsX4_show := goodIn_r _ [202, 120, 203, 204, 205, 206, 23, 207, 25, 70, 69, 208, 83, 38, 84, 209, 210, 211, 212, 213, 214, 64, 65, 66, 245, 246, 247, 248, 249, 234, 235, 236, 237, 238, 239, 240, 241, 242, 243, 244, 250, 251, 252, 253, 254, 255, 256, 257] (by decide +kernel) (by decide +kernel)
set_option maxRecDepth 20000 in
theorem gX11_propagate_X4_show : GoodIn wsX11_propagate (wsV RX11 259 RX4 yX4_show wsX4_show) := goodIn_app (goodIn_of _ (by decide +kernel)) ggX11_propagate_X4_show
theorem dX11_propagate_0 : decode cX11_propagate 0 = .ok (.iconst 0, 1) := by decide +kernel
theorem dX11_propagate_1 : decode cX11_propagate 1 = .ok (.istore_n 2, 1) := by decide +kernel
theorem dX11_propagate_2 : decode cX11_propagate 2 = .ok (.iload_n 2, 1) := by decide +kernel
theorem dX11_propagate_3 : decode cX11_propagate 3 = .ok (.bipush 35, 2) := by decide +kernel
theorem dX11_propagate_5 : decode cX11_propagate 5 = .ok (.if_icmp .gt 116, 3) := by decide +kernel
theorem dX11_propagate_8 : decode cX11_propagate 8 = .ok (.aload_n 1, 1) := by decide +kernel
theorem dX11_propagate_9 : decode cX11_propagate 9 = .ok (.getfield 111, 3) := by decide +kernel
theorem dX11_propagate_12 : decode cX11_propagate 12 = .ok (.istore_n 3, 1) := by decide +kernel
theorem dX11_propagate_13 : decode cX11_propagate 13 = .ok (.iconst 0, 1) := by decide +kernel
theorem dX11_propagate_14 : decode cX11_propagate 14 = .ok (.istore 4, 2) := by decide +kernel
theorem dX11_propagate_16 : decode cX11_propagate 16 = .ok (.iload 4, 2) := by decide +kernel
theorem dX11_propagate_18 : decode cX11_propagate 18 = .ok (.aload_n 0, 1) := by decide +kernel
theorem dX11_propagate_19 : decode cX11_propagate 19 = .ok (.getfield 47, 3) := by decide +kernel
theorem dX11_propagate_22 : decode cX11_propagate 22 = .ok (.getfield 120, 3) := by decide +kernel
theorem dX11_propagate_25 : decode cX11_propagate 25 = .ok (.if_icmp .ge 34, 3) := by decide +kernel
theorem dX11_propagate_28 : decode cX11_propagate 28 = .ok (.aload_n 0, 1) := by decide +kernel
theorem dX11_propagate_29 : decode cX11_propagate 29 = .ok (.getfield 47, 3) := by decide +kernel
theorem dX11_propagate_32 : decode cX11_propagate 32 = .ok (.iload 4, 2) := by decide +kernel
theorem dX11_propagate_34 : decode cX11_propagate 34 = .ok (.invokevirtual 159, 3) := by decide +kernel
theorem dX11_propagate_37 : decode cX11_propagate 37 = .ok (.astore 5, 2) := by decide +kernel
theorem dX11_propagate_39 : decode cX11_propagate 39 = .ok (.aload 5, 2) := by decide +kernel
theorem dX11_propagate_41 : decode cX11_propagate 41 = .ok (.ifnull 12, 3) := by decide +kernel
theorem dX11_propagate_44 : decode cX11_propagate 44 = .ok (.aload_n 1, 1) := by decide +kernel
theorem dX11_propagate_45 : decode cX11_propagate 45 = .ok (.aload 5, 2) := by decide +kernel
theorem dX11_propagate_47 : decode cX11_propagate 47 = .ok (.iload 4, 2) := by decide +kernel
theorem dX11_propagate_49 : decode cX11_propagate 49 = .ok (.lconst 0, 1) := by decide +kernel
theorem dX11_propagate_50 : decode cX11_propagate 50 = .ok (.invokestatic 351, 3) := by decide +kernel
theorem dX11_propagate_53 : decode cX11_propagate 53 = .ok (.iinc 4 1, 3) := by decide +kernel
theorem dX11_propagate_56 : decode cX11_propagate 56 = .ok (.goto (-40), 3) := by decide +kernel
theorem dX11_propagate_59 : decode cX11_propagate 59 = .ok (.iconst 0, 1) := by decide +kernel
theorem dX11_propagate_60 : decode cX11_propagate 60 = .ok (.istore 4, 2) := by decide +kernel
theorem dX11_propagate_62 : decode cX11_propagate 62 = .ok (.iload 4, 2) := by decide +kernel
theorem dX11_propagate_64 : decode cX11_propagate 64 = .ok (.aload_n 0, 1) := by decide +kernel
theorem dX11_propagate_65 : decode cX11_propagate 65 = .ok (.getfield 51, 3) := by decide +kernel
theorem dX11_propagate_68 : decode cX11_propagate 68 = .ok (.if_icmp .ge 38, 3) := by decide +kernel
theorem dX11_propagate_71 : decode cX11_propagate 71 = .ok (.aload_n 0, 1) := by decide +kernel
theorem dX11_propagate_72 : decode cX11_propagate 72 = .ok (.iload 4, 2) := by decide +kernel
theorem dX11_propagate_74 : decode cX11_propagate 74 = .ok (.invokevirtual 355, 3) := by decide +kernel
theorem dX11_propagate_77 : decode cX11_propagate 77 = .ok (.lstore 5, 2) := by decide +kernel
theorem dX11_propagate_79 : decode cX11_propagate 79 = .ok (.aload_n 0, 1) := by decide +kernel
theorem dX11_propagate_80 : decode cX11_propagate 80 = .ok (.getfield 29, 3) := by decide +kernel
theorem dX11_propagate_83 : decode cX11_propagate 83 = .ok (.lload 5, 2) := by decide +kernel
theorem dX11_propagate_85 : decode cX11_propagate 85 = .ok (.invokevirtual 259, 3) := by decide +kernel
theorem dX11_propagate_88 : decode cX11_propagate 88 = .ok (.aload_n 1, 1) := by decide +kernel
theorem dX11_propagate_89 : decode cX11_propagate 89 = .ok (.aload_n 0, 1) := by decide +kernel
theorem dX11_propagate_90 : decode cX11_propagate 90 = .ok (.getfield 29, 3) := by decide +kernel
theorem dX11_propagate_93 : decode cX11_propagate 93 = .ok (.bipush 100, 2) := by decide +kernel
theorem dX11_propagate_95 : decode cX11_propagate 95 = .ok (.lload 5, 2) := by decide +kernel
theorem dX11_propagate_97 : decode cX11_propagate 97 = .ok (.invokestatic 351, 3) := by decide +kernel
theorem dX11_propagate_100 : decode cX11_propagate 100 = .ok (.iinc 4 1, 3) := by decide +kernel
theorem dX11_propagate_103 : decode cX11_propagate 103 = .ok (.goto (-41), 3) := by decide +kernel
theorem dX11_propagate_106 : decode cX11_propagate 106 = .ok (.aload_n 1, 1) := by decide +kernel
theorem dX11_propagate_107 : decode cX11_propagate 107 = .ok (.getfield 111, 3) := by decide +kernel
theorem dX11_propagate_110 : decode cX11_propagate 110 = .ok (.iload_n 3, 1) := by decide +kernel
theorem dX11_propagate_111 : decode cX11_propagate 111 = .ok (.if_icmp .ne 4, 3) := by decide +kernel
theorem dX11_propagate_114 : decode cX11_propagate 114 = .ok (.return_, 1) := by decide +kernel
theorem dX11_propagate_115 : decode cX11_propagate 115 = .ok (.iinc 2 1, 3) := by decide +kernel
theorem dX11_propagate_118 : decode cX11_propagate 118 = .ok (.goto (-116), 3) := by decide +kernel
theorem dX11_propagate_121 : decode cX11_propagate 121 = .ok (.return_, 1) := by decide +kernel
set_option maxRecDepth 20000 in
theorem ggX11_sweep_X1_variableAt : GoodIn wsX11_sweep wsX1_variableAt := goodIn_r _ [8, 9, 179, 180, 181, 182, 183, 184, 185, 186, 187, 188, 189, 190, 191, 192, 193, 194, 195, 196, 197, 198, 199, 200, 201, 202] (by decide +kernel) (by decide +kernel)
set_option maxRecDepth 20000 in
theorem gX11_sweep_X1_variableAt_u289X0 : GoodIn wsX11_sweep (va_wsU RX11 289 RX0 "SupportSolver$Constraint" ⟨"SupportSolver$Constraint", "variableAt", "(I)I"⟩ yX1_variableAt wsX1_variableAt) := goodIn_app (goodIn_of _ (by decide +kernel)) ggX11_sweep_X1_variableAt
set_option maxRecDepth 20000 in
theorem gX11_sweep_X1_variableAt_u289X2 : GoodIn wsX11_sweep (va_wsU RX11 289 RX2 "SupportSolver$Constraint" ⟨"SupportSolver$Constraint", "variableAt", "(I)I"⟩ yX1_variableAt wsX1_variableAt) := goodIn_app (goodIn_of _ (by decide +kernel)) ggX11_sweep_X1_variableAt
set_option maxRecDepth 20000 in
theorem gX11_sweep_X1_variableAt_u289X4 : GoodIn wsX11_sweep (va_wsU RX11 289 RX4 "SupportSolver$Constraint" ⟨"SupportSolver$Constraint", "variableAt", "(I)I"⟩ yX1_variableAt wsX1_variableAt) := goodIn_app (goodIn_of _ (by decide +kernel)) ggX11_sweep_X1_variableAt
set_option maxRecDepth 20000 in
theorem gX11_sweep_X1_variableAt_u289X10 : GoodIn wsX11_sweep (va_wsU RX11 289 RX10 "SupportSolver$Constraint" ⟨"SupportSolver$Constraint", "variableAt", "(I)I"⟩ yX1_variableAt wsX1_variableAt) := goodIn_app (goodIn_of _ (by decide +kernel)) ggX11_sweep_X1_variableAt
set_option maxRecDepth 20000 in
theorem ggX11_sweep_X9_hasFailed : GoodIn wsX11_sweep wsX9_hasFailed := goodIn_r _ [17, 18, 19, 20, 21, 22, 23, 24, 25, 26, 27, 28, 29, 30, 31, 32, 33, 34, 203, 204, 205, 206, 207, 208] (by decide +kernel) (by decide +kernel)
set_option maxRecDepth 20000 in
theorem gX11_sweep_X9_hasFailed : GoodIn wsX11_sweep (wsV RX11 126 RX9 yX9_hasFailed wsX9_hasFailed) := goodIn_app (goodIn_of _ (by decide +kernel)) ggX11_sweep_X9_hasFailed
set_option maxRecDepth 20000 in
theorem ggX11_sweep_X5_has : GoodIn wsX11_sweep wsX5_has := goodIn_r _ [37, 38, 39, 40, 41, 42, 22, 43] (by decide +kernel) (by decide +kernel)
set_option maxRecDepth 20000 in
theorem gX11_sweep_X5_has : GoodIn wsX11_sweep (va_wsS RX11 292 yX5_has wsX5_has) := goodIn_app (goodIn_of _ (by decide +kernel)) ggX11_sweep_X5_has
set_option maxRecDepth 20000 in
theorem ggX11_sweep_X5_narrowed : GoodIn wsX11_sweep wsX5_narrowed := goodIn_r _ [46, 47, 48, 49, 22, 50, 51, 41, 42, 43] (by decide +kernel) (by decide +kernel)
set_option maxRecDepth 20000 in
theorem gX11_sweep_X5_narrowed : GoodIn wsX11_sweep (va_wsS RX11 266 yX5_narrowed wsX5_narrowed) := goodIn_app (goodIn_of _ (by decide +kernel)) ggX11_sweep_X5_narrowed
set_option maxRecDepth 20000 in
theorem ggX11_sweep_X1_leastFrom : GoodIn wsX11_sweep wsX1_leastFrom := goodIn_r _ [53, 54, 55, 56, 57, 58, 59, 60, 61, 62, 63, 64, 65, 66, 6, 7, 8, 9, 67, 68, 22, 69, 70, 71, 72, 73, 74, 75, 76, 77, 78, 79, 80, 81, 82, 83, 84, 85, 86, 87, 88, 89, 90, 91, 92, 93, 94, 95, 96, 97, 98, 99, 29, 30, 31, 32, 33, 34, 100, 21, 23, 24, 25, 26, 27, 28, 101, 102, 103, 104, 105, 106, 107, 108, 109, 110, 111, 112, 113, 114, 115, 116, 117, 118, 119, 120, 121, 122, 123, 124, 49, 50, 51, 125, 126, 127, 128, 48, 129, 130, 4, 5, 10, 11, 12, 131, 132, 45, 46, 47, 41, 42, 43, 133, 52, 134, 135, 136, 137, 138, 139, 140, 141, 142, 143, 144, 145, 146, 38, 39, 40, 147, 148, 149, 150, 151, 152, 179, 180, 181, 182, 183, 184, 185, 186, 187, 188, 189, 190, 191, 192, 193, 194, 195, 196, 197, 198, 199, 200, 201, 202] (by decide +kernel) (by decide +kernel)
set_option maxRecDepth 20000 in
theorem gX11_sweep_X1_leastFrom_n270 : GoodIn wsX11_sweep (wsX1_leastFrom) := ggX11_sweep_X1_leastFrom
set_option maxRecDepth 20000 in
theorem ggX11_sweep_X9_remove : GoodIn wsX11_sweep wsX9_remove := goodIn_r _ [156, 157, 158, 159, 160, 161, 162, 163, 164, 165, 18, 166, 167, 168, 16, 169, 170, 171, 172, 173, 174, 175, 176, 177, 178, 42, 22, 43, 203, 204, 205, 206, 207, 208, 209, 210, 211, 212, 213, 214, 215] (by decide +kernel) (by decide +kernel)
set_option maxRecDepth 20000 in
theorem gX11_sweep_X9_remove : GoodIn wsX11_sweep (wsV RX11 325 RX9 yX9_remove wsX9_remove) := goodIn_app (goodIn_of _ (by decide +kernel)) ggX11_sweep_X9_remove
theorem dX11_sweep_0 : decode cX11_sweep 0 = .ok (.iconst 0, 1) := by decide +kernel
theorem dX11_sweep_1 : decode cX11_sweep 1 = .ok (.istore 5, 2) := by decide +kernel
theorem dX11_sweep_3 : decode cX11_sweep 3 = .ok (.iload 5, 2) := by decide +kernel
theorem dX11_sweep_5 : decode cX11_sweep 5 = .ok (.aload_n 1, 1) := by decide +kernel
theorem dX11_sweep_6 : decode cX11_sweep 6 = .ok (.getfield 170, 3) := by decide +kernel
theorem dX11_sweep_9 : decode cX11_sweep 9 = .ok (.if_icmp .ge 89, 3) := by decide +kernel
theorem dX11_sweep_12 : decode cX11_sweep 12 = .ok (.aload_n 1, 1) := by decide +kernel
theorem dX11_sweep_13 : decode cX11_sweep 13 = .ok (.iload 5, 2) := by decide +kernel
theorem dX11_sweep_15 : decode cX11_sweep 15 = .ok (.invokevirtual 289, 3) := by decide +kernel
theorem dX11_sweep_18 : decode cX11_sweep 18 = .ok (.istore 6, 2) := by decide +kernel
theorem dX11_sweep_20 : decode cX11_sweep 20 = .ok (.iconst 0, 1) := by decide +kernel
theorem dX11_sweep_21 : decode cX11_sweep 21 = .ok (.istore 7, 2) := by decide +kernel
theorem dX11_sweep_23 : decode cX11_sweep 23 = .ok (.iload 7, 2) := by decide +kernel
theorem dX11_sweep_25 : decode cX11_sweep 25 = .ok (.iconst 5, 1) := by decide +kernel
theorem dX11_sweep_26 : decode cX11_sweep 26 = .ok (.if_icmp .ge 66, 3) := by decide +kernel
theorem dX11_sweep_29 : decode cX11_sweep 29 = .ok (.aload_n 0, 1) := by decide +kernel
theorem dX11_sweep_30 : decode cX11_sweep 30 = .ok (.invokevirtual 126, 3) := by decide +kernel
theorem dX11_sweep_33 : decode cX11_sweep 33 = .ok (.ifCond .eq 4, 3) := by decide +kernel
theorem dX11_sweep_36 : decode cX11_sweep 36 = .ok (.return_, 1) := by decide +kernel
theorem dX11_sweep_37 : decode cX11_sweep 37 = .ok (.aload_n 0, 1) := by decide +kernel
theorem dX11_sweep_38 : decode cX11_sweep 38 = .ok (.getfield 139, 3) := by decide +kernel
theorem dX11_sweep_41 : decode cX11_sweep 41 = .ok (.iload 6, 2) := by decide +kernel
theorem dX11_sweep_43 : decode cX11_sweep 43 = .ok (.iload 7, 2) := by decide +kernel
theorem dX11_sweep_45 : decode cX11_sweep 45 = .ok (.invokestatic 292, 3) := by decide +kernel
theorem dX11_sweep_48 : decode cX11_sweep 48 = .ok (.ifCond .eq 38, 3) := by decide +kernel
theorem dX11_sweep_51 : decode cX11_sweep 51 = .ok (.aload_n 0, 1) := by decide +kernel
theorem dX11_sweep_52 : decode cX11_sweep 52 = .ok (.getfield 139, 3) := by decide +kernel
theorem dX11_sweep_55 : decode cX11_sweep 55 = .ok (.iload 6, 2) := by decide +kernel
theorem dX11_sweep_57 : decode cX11_sweep 57 = .ok (.iload 7, 2) := by decide +kernel
theorem dX11_sweep_59 : decode cX11_sweep 59 = .ok (.invokestatic 266, 3) := by decide +kernel
theorem dX11_sweep_62 : decode cX11_sweep 62 = .ok (.lstore 8, 2) := by decide +kernel
theorem dX11_sweep_64 : decode cX11_sweep 64 = .ok (.aload_n 1, 1) := by decide +kernel
theorem dX11_sweep_65 : decode cX11_sweep 65 = .ok (.lload 8, 2) := by decide +kernel
theorem dX11_sweep_67 : decode cX11_sweep 67 = .ok (.iconst 0, 1) := by decide +kernel
theorem dX11_sweep_68 : decode cX11_sweep 68 = .ok (.invokestatic 270, 3) := by decide +kernel
theorem dX11_sweep_71 : decode cX11_sweep 71 = .ok (.lconst 0, 1) := by decide +kernel
theorem dX11_sweep_72 : decode cX11_sweep 72 = .ok (.lcmp, 1) := by decide +kernel
theorem dX11_sweep_73 : decode cX11_sweep 73 = .ok (.ifCond .ne 13, 3) := by decide +kernel
theorem dX11_sweep_76 : decode cX11_sweep 76 = .ok (.aload_n 0, 1) := by decide +kernel
theorem dX11_sweep_77 : decode cX11_sweep 77 = .ok (.iload 6, 2) := by decide +kernel
theorem dX11_sweep_79 : decode cX11_sweep 79 = .ok (.iload 7, 2) := by decide +kernel
theorem dX11_sweep_81 : decode cX11_sweep 81 = .ok (.iload_n 2, 1) := by decide +kernel
theorem dX11_sweep_82 : decode cX11_sweep 82 = .ok (.lload_n 3, 1) := by decide +kernel
theorem dX11_sweep_83 : decode cX11_sweep 83 = .ok (.invokevirtual 325, 3) := by decide +kernel
theorem dX11_sweep_86 : decode cX11_sweep 86 = .ok (.iinc 7 1, 3) := by decide +kernel
theorem dX11_sweep_89 : decode cX11_sweep 89 = .ok (.goto (-66), 3) := by decide +kernel
theorem dX11_sweep_92 : decode cX11_sweep 92 = .ok (.iinc 5 1, 3) := by decide +kernel
theorem dX11_sweep_95 : decode cX11_sweep 95 = .ok (.goto (-92), 3) := by decide +kernel
theorem dX11_sweep_98 : decode cX11_sweep 98 = .ok (.return_, 1) := by decide +kernel
set_option maxRecDepth 20000 in
theorem ggX11_learn_X9_hasFailed : GoodIn wsX11_learn wsX9_hasFailed := goodIn_r _ [9, 10, 11, 12, 13, 14, 15, 16, 17, 18, 19, 20, 21, 22, 23, 24, 25, 26, 269, 270, 271, 272, 273, 274] (by decide +kernel) (by decide +kernel)
set_option maxRecDepth 20000 in
theorem gX11_learn_X9_hasFailed : GoodIn wsX11_learn (wsV RX11 126 RX9 yX9_hasFailed wsX9_hasFailed) := goodIn_app (goodIn_of _ (by decide +kernel)) ggX11_learn_X9_hasFailed
set_option maxRecDepth 20000 in
theorem ggX11_learn_X11_learnFromFailure : GoodIn wsX11_learn wsX11_learnFromFailure := goodIn_r _ [31, 3, 4, 32, 33, 34, 35, 36, 37, 38, 39, 8, 40, 41, 42, 43, 44, 45, 46, 47, 48, 49, 50, 51, 52, 53, 54, 55, 56, 57, 58, 59, 60, 61, 62, 63, 14, 64, 65, 66, 67, 68, 69, 16, 17, 18, 19, 70, 71, 72, 73, 11, 10, 74, 75, 76, 30, 77, 78, 79, 80, 81, 82, 83, 84, 85, 86, 87, 88, 89, 90, 91, 92, 93, 94, 95, 96, 97, 98, 99, 100, 101, 102, 103, 5, 6, 7, 9, 12, 13, 15, 20, 21, 22, 23, 24, 25, 26, 104, 105, 106, 107, 108, 109, 110, 111, 112, 113, 114, 115, 116, 117, 118, 119, 120, 121, 122, 123, 124, 125, 126, 127, 128, 129, 130, 131, 132, 133, 134, 135, 136, 137, 138, 139, 140, 141, 142, 143, 144, 145, 146, 147, 148, 149, 150, 151, 152, 153, 154, 155, 156, 157, 158, 159, 160, 161, 162, 163, 164, 165, 166, 167, 168, 169, 170, 171, 172, 173, 174, 175, 176, 177, 178, 179, 180, 181, 182, 183, 184, 185, 186, 187, 188, 189, 190, 191, 192, 193, 194, 195, 196, 197, 198, 199, 200, 201, 202, 203, 204, 205, 206, 207, 208, 209, 210, 211, 212, 213, 214, 215, 216, 217, 218, 219, 220, 221, 222, 223, 224, 225, 226, 227, 228, 229, 230, 231, 232, 233, 234, 235, 236, 237, 238, 239, 240, 241, 242, 243, 244, 245, 246, 247, 248, 249, 250, 251, 252, 253, 254, 255, 256, 257, 258, 259, 260, 261, 262, 263, 264, 265, 266, 267, 268, 269, 270, 271, 272, 273, 274, 275, 276, 277, 278, 279, 280, 281, 282, 283, 284, 285, 286, 287, 288, 289, 290, 291, 292, 293, 294, 295, 296, 297, 298, 299, 300, 301, 302, 303, 304, 305, 306, 307, 308, 309] (by decide +kernel) (by decide +kernel)
set_option maxRecDepth 20000 in
theorem gX11_learn_X11_learnFromFailure : GoodIn wsX11_learn (wsV RX11 360 RX11 yX11_learnFromFailure wsX11_learnFromFailure) := goodIn_app (goodIn_of _ (by decide +kernel)) ggX11_learn_X11_learnFromFailure
theorem dX11_learn_0 : decode cX11_learn 0 = .ok (.aload_n 0, 1) := by decide +kernel
theorem dX11_learn_1 : decode cX11_learn 1 = .ok (.getfield 19, 3) := by decide +kernel
theorem dX11_learn_4 : decode cX11_learn 4 = .ok (.invokevirtual 126, 3) := by decide +kernel
theorem dX11_learn_7 : decode cX11_learn 7 = .ok (.ifCond .eq 13, 3) := by decide +kernel
theorem dX11_learn_10 : decode cX11_learn 10 = .ok (.aload_n 0, 1) := by decide +kernel
theorem dX11_learn_11 : decode cX11_learn 11 = .ok (.getfield 19, 3) := by decide +kernel
theorem dX11_learn_14 : decode cX11_learn 14 = .ok (.getfield 123, 3) := by decide +kernel
theorem dX11_learn_17 : decode cX11_learn 17 = .ok (.ifCond .ne 14, 3) := by decide +kernel
theorem dX11_learn_20 : decode cX11_learn 20 = .ok (.new 61, 3) := by decide +kernel
theorem dX11_learn_23 : decode cX11_learn 23 = .ok (.dup, 1) := by decide +kernel
theorem dX11_learn_24 : decode cX11_learn 24 = .ok (.ldc_w 358, 3) := by decide +kernel
theorem dX11_learn_27 : decode cX11_learn 27 = .ok (.invokespecial 65, 3) := by decide +kernel
theorem dX11_learn_30 : decode cX11_learn 30 = .ok (.athrow, 1) := by decide +kernel
theorem dX11_learn_31 : decode cX11_learn 31 = .ok (.aload_n 0, 1) := by decide +kernel
theorem dX11_learn_32 : decode cX11_learn 32 = .ok (.invokevirtual 360, 3) := by decide +kernel
theorem dX11_learn_35 : decode cX11_learn 35 = .ok (.ireturn, 1) := by decide +kernel
set_option maxRecDepth 20000 in
theorem ggX11_learnFromFailure_X9_decisionAt : GoodIn wsX11_learnFromFailure wsX9_decisionAt := goodIn_r _ [12, 13, 14, 263, 264, 265, 266, 267, 268] (by decide +kernel) (by decide +kernel)
set_option maxRecDepth 20000 in
theorem gX11_learnFromFailure_X9_decisionAt : GoodIn wsX11_learnFromFailure (wsV RX11 345 RX9 yX9_decisionAt wsX9_decisionAt) := goodIn_app (goodIn_of _ (by decide +kernel)) ggX11_learnFromFailure_X9_decisionAt
set_option maxRecDepth 20000 in
theorem ggX11_learnFromFailure_X9_groundDomains : GoodIn wsX11_learnFromFailure wsX9_groundDomains := goodIn_r _ [18, 19, 20, 21, 22, 23, 24, 11, 25, 26, 27, 28, 29, 30, 31, 32, 33, 34, 35, 36, 37, 263, 264, 265, 266, 267, 268, 273, 274, 275, 276, 277, 278, 279] (by decide +kernel) (by decide +kernel)
set_option maxRecDepth 20000 in
theorem gX11_learnFromFailure_X9_groundDomains : GoodIn wsX11_learnFromFailure (wsV RX11 363 RX9 yX9_groundDomains wsX9_groundDomains) := goodIn_app (goodIn_of _ (by decide +kernel)) ggX11_learnFromFailure_X9_groundDomains
set_option maxRecDepth 20000 in
theorem ggX11_learnFromFailure_X5_assigned : GoodIn wsX11_learnFromFailure wsX5_assigned := goodIn_r _ [40, 41, 42, 43, 44, 36, 45, 46] (by decide +kernel) (by decide +kernel)
set_option maxRecDepth 20000 in
theorem gX11_learnFromFailure_X5_assigned : GoodIn wsX11_learnFromFailure (va_wsS RX11 367 yX5_assigned wsX5_assigned) := goodIn_app (goodIn_of _ (by decide +kernel)) ggX11_learnFromFailure_X5_assigned
set_option maxRecDepth 20000 in
theorem ggX11_learnFromFailure_X9_begin : GoodIn wsX11_learnFromFailure wsX9_begin := goodIn_r _ [50, 51, 19, 13, 52, 263, 264, 265, 266, 267, 268] (by decide +kernel) (by decide +kernel)
set_option maxRecDepth 20000 in
theorem gX11_learnFromFailure_X9_begin : GoodIn wsX11_learnFromFailure (wsV RX11 100 RX9 yX9_begin wsX9_begin) := goodIn_app (goodIn_of _ (by decide +kernel)) ggX11_learnFromFailure_X9_begin
set_option maxRecDepth 20000 in
theorem ggX11_learnFromFailure_X11_propagate : GoodIn wsX11_learnFromFailure wsX11_propagate := goodIn_r _ [57, 58, 3, 59, 60, 61, 62, 63, 64, 65, 66, 67, 68, 69, 70, 56, 71, 72, 73, 74, 75, 76, 77, 78, 79, 80, 81, 82, 83, 84, 85, 86, 11, 87, 52, 51, 88, 89, 36, 90, 43, 44, 45, 46, 91, 92, 93, 94, 95, 96, 97, 98, 99, 100, 101, 102, 103, 35, 37, 104, 105, 106, 42, 107, 108, 109, 41, 110, 111, 112, 113, 114, 115, 116, 117, 118, 119, 120, 121, 122, 123, 124, 125, 126, 127, 128, 129, 130, 131, 132, 133, 134, 135, 136, 137, 138, 139, 140, 141, 142, 143, 144, 145, 146, 147, 148, 149, 150, 151, 152, 153, 154, 155, 156, 157, 158, 159, 160, 161, 162, 163, 164, 165, 166, 167, 168, 169, 170, 171, 172, 173, 174, 175, 176, 177, 178, 179, 180, 181, 182, 183, 184, 185, 186, 187, 188, 189, 190, 191, 192, 193, 194, 195, 196, 197, 198, 199, 200, 201, 202, 203, 204, 205, 206, 207, 208, 209, 210, 211, 212, 213, 214, 19, 215, 216, 217, 13, 20, 218, 21, 219, 22, 23, 24, 25, 26, 27, 28, 29, 30, 31, 32, 33, 34, 220, 221, 222, 223, 224, 225, 226, 227, 228, 229, 230, 231, 232, 233, 234, 235, 236, 237, 238, 239, 240, 263, 264, 265, 266, 267, 268, 254, 255, 256, 257, 258, 259, 260, 261, 262, 269, 270, 271, 272, 280, 281, 282, 283, 284, 285, 286, 287, 288, 289, 290, 291, 292, 293, 294, 295, 296, 297, 298, 299, 300, 301, 302, 303, 273, 274, 275, 276, 277, 278, 279] (by decide +kernel) (by decide +kernel)
set_option maxRecDepth 20000 in
theorem gX11_learnFromFailure_X11_propagate : GoodIn wsX11_learnFromFailure (wsV RX11 107 RX11 yX11_propagate wsX11_propagate) := goodIn_app (goodIn_of _ (by decide +kernel)) ggX11_learnFromFailure_X11_propagate
set_option maxRecDepth 20000 in
theorem ggX11_learnFromFailure_X9_hasFailed : GoodIn wsX11_learnFromFailure wsX9_hasFailed := goodIn_r _ [87, 52, 51, 88, 89, 36, 90, 43, 44, 45, 46, 91, 92, 93, 94, 95, 96, 97, 263, 264, 265, 266, 267, 268] (by decide +kernel) (by decide +kernel)
set_option maxRecDepth 20000 in
theorem gX11_learnFromFailure_X9_hasFailed : GoodIn wsX11_learnFromFailure (wsV RX11 126 RX9 yX9_hasFailed wsX9_hasFailed) := goodIn_app (goodIn_of _ (by decide +kernel)) ggX11_learnFromFailure_X9_hasFailed
set_option maxRecDepth 20000 in
theorem ggX11_learnFromFailure_X11_keepSet : GoodIn wsX11_learnFromFailure wsX11_keepSet := goodIn_r _ [244, 60, 224, 245, 246, 247, 248, 254, 255, 256, 257, 258, 259, 260, 261, 262] (by decide +kernel) (by decide +kernel)
set_option maxRecDepth 20000 in
theorem gX11_learnFromFailure_X11_keepSet : GoodIn wsX11_learnFromFailure (wsV RX11 371 RX11 yX11_keepSet wsX11_keepSet) := goodIn_app (goodIn_of _ (by decide +kernel)) ggX11_learnFromFailure_X11_keepSet
set_option maxRecDepth 20000 in
theorem ggX11_learnFromFailure_X9_takeBack : GoodIn wsX11_learnFromFailure wsX9_takeBack := goodIn_r _ [252, 19, 20, 13, 52, 22, 23, 24, 11, 25, 26, 27, 28, 29, 30, 31, 32, 33, 34, 35, 36, 37, 263, 264, 265, 266, 267, 268, 273, 274, 275, 276, 277, 278, 279] (by decide +kernel) (by decide +kernel)
set_option maxRecDepth 20000 in
theorem gX11_learnFromFailure_X9_takeBack : GoodIn wsX11_learnFromFailure (wsV RX11 340 RX9 yX9_takeBack wsX9_takeBack) := goodIn_app (goodIn_of _ (by decide +kernel)) ggX11_learnFromFailure_X9_takeBack
set_option maxRecDepth 20000 in
theorem ggX11_learnFromFailure_J13_bitCount_95d88 : GoodIn wsX11_learnFromFailure wsJ13_bitCount_95d88 := goodIn_r _ [94, 95, 96, 97] (by decide +kernel) (by decide +kernel)
set_option maxRecDepth 20000 in
theorem gX11_learnFromFailure_J13_bitCount_95d88 : GoodIn wsX11_learnFromFailure (va_wsS RX11 221 yJ13_bitCount_95d88 wsJ13_bitCount_95d88) := goodIn_app (goodIn_of _ (by decide +kernel)) ggX11_learnFromFailure_J13_bitCount_95d88
theorem dX11_learnFromFailure_0 : decode cX11_learnFromFailure 0 = .ok (.lconst 0, 1) := by decide +kernel
theorem dX11_learnFromFailure_1 : decode cX11_learnFromFailure 1 = .ok (.lstore_n 1, 1) := by decide +kernel
theorem dX11_learnFromFailure_2 : decode cX11_learnFromFailure 2 = .ok (.iconst 0, 1) := by decide +kernel
theorem dX11_learnFromFailure_3 : decode cX11_learnFromFailure 3 = .ok (.istore_n 3, 1) := by decide +kernel
theorem dX11_learnFromFailure_4 : decode cX11_learnFromFailure 4 = .ok (.iload_n 3, 1) := by decide +kernel
theorem dX11_learnFromFailure_5 : decode cX11_learnFromFailure 5 = .ok (.aload_n 0, 1) := by decide +kernel
theorem dX11_learnFromFailure_6 : decode cX11_learnFromFailure 6 = .ok (.getfield 19, 3) := by decide +kernel
theorem dX11_learnFromFailure_9 : decode cX11_learnFromFailure 9 = .ok (.getfield 123, 3) := by decide +kernel
theorem dX11_learnFromFailure_12 : decode cX11_learnFromFailure 12 = .ok (.if_icmp .ge 20, 3) := by decide +kernel
theorem dX11_learnFromFailure_15 : decode cX11_learnFromFailure 15 = .ok (.lload_n 1, 1) := by decide +kernel
theorem dX11_learnFromFailure_16 : decode cX11_learnFromFailure 16 = .ok (.aload_n 0, 1) := by decide +kernel
theorem dX11_learnFromFailure_17 : decode cX11_learnFromFailure 17 = .ok (.getfield 19, 3) := by decide +kernel
theorem dX11_learnFromFailure_20 : decode cX11_learnFromFailure 20 = .ok (.iload_n 3, 1) := by decide +kernel
theorem dX11_learnFromFailure_21 : decode cX11_learnFromFailure 21 = .ok (.invokevirtual 345, 3) := by decide +kernel
theorem dX11_learnFromFailure_24 : decode cX11_learnFromFailure 24 = .ok (.lor, 1) := by decide +kernel
theorem dX11_learnFromFailure_25 : decode cX11_learnFromFailure 25 = .ok (.lstore_n 1, 1) := by decide +kernel
theorem dX11_learnFromFailure_26 : decode cX11_learnFromFailure 26 = .ok (.iinc 3 1, 3) := by decide +kernel
theorem dX11_learnFromFailure_29 : decode cX11_learnFromFailure 29 = .ok (.goto (-25), 3) := by decide +kernel
theorem dX11_learnFromFailure_32 : decode cX11_learnFromFailure 32 = .ok (.aload_n 0, 1) := by decide +kernel
theorem dX11_learnFromFailure_33 : decode cX11_learnFromFailure 33 = .ok (.getfield 19, 3) := by decide +kernel
theorem dX11_learnFromFailure_36 : decode cX11_learnFromFailure 36 = .ok (.aload_n 0, 1) := by decide +kernel
theorem dX11_learnFromFailure_37 : decode cX11_learnFromFailure 37 = .ok (.getfield 47, 3) := by decide +kernel
theorem dX11_learnFromFailure_40 : decode cX11_learnFromFailure 40 = .ok (.getfield 96, 3) := by decide +kernel
theorem dX11_learnFromFailure_43 : decode cX11_learnFromFailure 43 = .ok (.invokevirtual 363, 3) := by decide +kernel
theorem dX11_learnFromFailure_46 : decode cX11_learnFromFailure 46 = .ok (.lstore_n 3, 1) := by decide +kernel
theorem dX11_learnFromFailure_47 : decode cX11_learnFromFailure 47 = .ok (.iconst 0, 1) := by decide +kernel
theorem dX11_learnFromFailure_48 : decode cX11_learnFromFailure 48 = .ok (.istore 5, 2) := by decide +kernel
theorem dX11_learnFromFailure_50 : decode cX11_learnFromFailure 50 = .ok (.iload 5, 2) := by decide +kernel
theorem dX11_learnFromFailure_52 : decode cX11_learnFromFailure 52 = .ok (.aload_n 0, 1) := by decide +kernel
theorem dX11_learnFromFailure_53 : decode cX11_learnFromFailure 53 = .ok (.getfield 19, 3) := by decide +kernel
theorem dX11_learnFromFailure_56 : decode cX11_learnFromFailure 56 = .ok (.getfield 123, 3) := by decide +kernel
theorem dX11_learnFromFailure_59 : decode cX11_learnFromFailure 59 = .ok (.if_icmp .ge 67, 3) := by decide +kernel
theorem dX11_learnFromFailure_62 : decode cX11_learnFromFailure 62 = .ok (.lload_n 1, 1) := by decide +kernel
theorem dX11_learnFromFailure_63 : decode cX11_learnFromFailure 63 = .ok (.aload_n 0, 1) := by decide +kernel
theorem dX11_learnFromFailure_64 : decode cX11_learnFromFailure 64 = .ok (.getfield 19, 3) := by decide +kernel
theorem dX11_learnFromFailure_67 : decode cX11_learnFromFailure 67 = .ok (.iload 5, 2) := by decide +kernel
theorem dX11_learnFromFailure_69 : decode cX11_learnFromFailure 69 = .ok (.invokevirtual 345, 3) := by decide +kernel
theorem dX11_learnFromFailure_72 : decode cX11_learnFromFailure 72 = .ok (.ldc2_w 246, 3) := by decide +kernel
theorem dX11_learnFromFailure_75 : decode cX11_learnFromFailure 75 = .ok (.lxor, 1) := by decide +kernel
theorem dX11_learnFromFailure_76 : decode cX11_learnFromFailure 76 = .ok (.land, 1) := by decide +kernel
theorem dX11_learnFromFailure_77 : decode cX11_learnFromFailure 77 = .ok (.lstore 6, 2) := by decide +kernel
theorem dX11_learnFromFailure_79 : decode cX11_learnFromFailure 79 = .ok (.aload_n 0, 1) := by decide +kernel
theorem dX11_learnFromFailure_80 : decode cX11_learnFromFailure 80 = .ok (.getfield 23, 3) := by decide +kernel
theorem dX11_learnFromFailure_83 : decode cX11_learnFromFailure 83 = .ok (.aload_n 0, 1) := by decide +kernel
theorem dX11_learnFromFailure_84 : decode cX11_learnFromFailure 84 = .ok (.getfield 47, 3) := by decide +kernel
theorem dX11_learnFromFailure_87 : decode cX11_learnFromFailure 87 = .ok (.getfield 93, 3) := by decide +kernel
theorem dX11_learnFromFailure_90 : decode cX11_learnFromFailure 90 = .ok (.lload_n 3, 1) := by decide +kernel
theorem dX11_learnFromFailure_91 : decode cX11_learnFromFailure 91 = .ok (.lload 6, 2) := by decide +kernel
theorem dX11_learnFromFailure_93 : decode cX11_learnFromFailure 93 = .ok (.invokestatic 367, 3) := by decide +kernel
theorem dX11_learnFromFailure_96 : decode cX11_learnFromFailure 96 = .ok (.invokevirtual 100, 3) := by decide +kernel
theorem dX11_learnFromFailure_99 : decode cX11_learnFromFailure 99 = .ok (.aload_n 0, 1) := by decide +kernel
theorem dX11_learnFromFailure_100 : decode cX11_learnFromFailure 100 = .ok (.aload_n 0, 1) := by decide +kernel
theorem dX11_learnFromFailure_101 : decode cX11_learnFromFailure 101 = .ok (.getfield 23, 3) := by decide +kernel
theorem dX11_learnFromFailure_104 : decode cX11_learnFromFailure 104 = .ok (.invokevirtual 107, 3) := by decide +kernel
theorem dX11_learnFromFailure_107 : decode cX11_learnFromFailure 107 = .ok (.aload_n 0, 1) := by decide +kernel
theorem dX11_learnFromFailure_108 : decode cX11_learnFromFailure 108 = .ok (.getfield 23, 3) := by decide +kernel
theorem dX11_learnFromFailure_111 : decode cX11_learnFromFailure 111 = .ok (.invokevirtual 126, 3) := by decide +kernel
theorem dX11_learnFromFailure_114 : decode cX11_learnFromFailure 114 = .ok (.ifCond .eq 6, 3) := by decide +kernel
theorem dX11_learnFromFailure_117 : decode cX11_learnFromFailure 117 = .ok (.lload 6, 2) := by decide +kernel
theorem dX11_learnFromFailure_119 : decode cX11_learnFromFailure 119 = .ok (.lstore_n 1, 1) := by decide +kernel
theorem dX11_learnFromFailure_120 : decode cX11_learnFromFailure 120 = .ok (.iinc 5 1, 3) := by decide +kernel
theorem dX11_learnFromFailure_123 : decode cX11_learnFromFailure 123 = .ok (.goto (-73), 3) := by decide +kernel
theorem dX11_learnFromFailure_126 : decode cX11_learnFromFailure 126 = .ok (.aload_n 0, 1) := by decide +kernel
theorem dX11_learnFromFailure_127 : decode cX11_learnFromFailure 127 = .ok (.lload_n 1, 1) := by decide +kernel
theorem dX11_learnFromFailure_128 : decode cX11_learnFromFailure 128 = .ok (.invokevirtual 371, 3) := by decide +kernel
theorem dX11_learnFromFailure_131 : decode cX11_learnFromFailure 131 = .ok (.aload_n 0, 1) := by decide +kernel
theorem dX11_learnFromFailure_132 : decode cX11_learnFromFailure 132 = .ok (.getfield 19, 3) := by decide +kernel
theorem dX11_learnFromFailure_135 : decode cX11_learnFromFailure 135 = .ok (.invokevirtual 340, 3) := by decide +kernel
theorem dX11_learnFromFailure_138 : decode cX11_learnFromFailure 138 = .ok (.pop, 1) := by decide +kernel
theorem dX11_learnFromFailure_139 : decode cX11_learnFromFailure 139 = .ok (.aload_n 0, 1) := by decide +kernel
theorem dX11_learnFromFailure_140 : decode cX11_learnFromFailure 140 = .ok (.aload_n 0, 1) := by decide +kernel
theorem dX11_learnFromFailure_141 : decode cX11_learnFromFailure 141 = .ok (.getfield 19, 3) := by decide +kernel
theorem dX11_learnFromFailure_144 : decode cX11_learnFromFailure 144 = .ok (.invokevirtual 107, 3) := by decide +kernel
theorem dX11_learnFromFailure_147 : decode cX11_learnFromFailure 147 = .ok (.lload_n 1, 1) := by decide +kernel
theorem dX11_learnFromFailure_148 : decode cX11_learnFromFailure 148 = .ok (.invokestatic 221, 3) := by decide +kernel
theorem dX11_learnFromFailure_151 : decode cX11_learnFromFailure 151 = .ok (.ireturn, 1) := by decide +kernel
theorem dX11_keepSet_0 : decode cX11_keepSet 0 = .ok (.aload_n 0, 1) := by decide +kernel
theorem dX11_keepSet_1 : decode cX11_keepSet 1 = .ok (.getfield 51, 3) := by decide +kernel
theorem dX11_keepSet_4 : decode cX11_keepSet 4 = .ok (.bipush 12, 2) := by decide +kernel
theorem dX11_keepSet_6 : decode cX11_keepSet 6 = .ok (.if_icmp .lt 24, 3) := by decide +kernel
theorem dX11_keepSet_9 : decode cX11_keepSet 9 = .ok (.aload_n 0, 1) := by decide +kernel
theorem dX11_keepSet_10 : decode cX11_keepSet 10 = .ok (.getfield 40, 3) := by decide +kernel
theorem dX11_keepSet_13 : decode cX11_keepSet 13 = .ok (.iconst 1, 1) := by decide +kernel
theorem dX11_keepSet_14 : decode cX11_keepSet 14 = .ok (.aload_n 0, 1) := by decide +kernel
theorem dX11_keepSet_15 : decode cX11_keepSet 15 = .ok (.getfield 40, 3) := by decide +kernel
theorem dX11_keepSet_18 : decode cX11_keepSet 18 = .ok (.iconst 0, 1) := by decide +kernel
theorem dX11_keepSet_19 : decode cX11_keepSet 19 = .ok (.bipush 11, 2) := by decide +kernel
theorem dX11_keepSet_21 : decode cX11_keepSet 21 = .ok (.invokestatic 374, 3) := by decide +kernel
theorem dX11_keepSet_24 : decode cX11_keepSet 24 = .ok (.aload_n 0, 1) := by decide +kernel
theorem dX11_keepSet_25 : decode cX11_keepSet 25 = .ok (.bipush 11, 2) := by decide +kernel
theorem dX11_keepSet_27 : decode cX11_keepSet 27 = .ok (.putfield 51, 3) := by decide +kernel
theorem dX11_keepSet_30 : decode cX11_keepSet 30 = .ok (.aload_n 0, 1) := by decide +kernel
theorem dX11_keepSet_31 : decode cX11_keepSet 31 = .ok (.getfield 51, 3) := by decide +kernel
theorem dX11_keepSet_34 : decode cX11_keepSet 34 = .ok (.ifCond .lt 35, 3) := by decide +kernel
theorem dX11_keepSet_37 : decode cX11_keepSet 37 = .ok (.aload_n 0, 1) := by decide +kernel
theorem dX11_keepSet_38 : decode cX11_keepSet 38 = .ok (.getfield 51, 3) := by decide +kernel
theorem dX11_keepSet_41 : decode cX11_keepSet 41 = .ok (.aload_n 0, 1) := by decide +kernel
theorem dX11_keepSet_42 : decode cX11_keepSet 42 = .ok (.getfield 40, 3) := by decide +kernel
theorem dX11_keepSet_45 : decode cX11_keepSet 45 = .ok (.arraylength, 1) := by decide +kernel
theorem dX11_keepSet_46 : decode cX11_keepSet 46 = .ok (.if_icmp .ge 23, 3) := by decide +kernel
theorem dX11_keepSet_49 : decode cX11_keepSet 49 = .ok (.aload_n 0, 1) := by decide +kernel
theorem dX11_keepSet_50 : decode cX11_keepSet 50 = .ok (.getfield 40, 3) := by decide +kernel
theorem dX11_keepSet_53 : decode cX11_keepSet 53 = .ok (.aload_n 0, 1) := by decide +kernel
theorem dX11_keepSet_54 : decode cX11_keepSet 54 = .ok (.getfield 51, 3) := by decide +kernel
theorem dX11_keepSet_57 : decode cX11_keepSet 57 = .ok (.lload_n 1, 1) := by decide +kernel
theorem dX11_keepSet_58 : decode cX11_keepSet 58 = .ok (.lastore, 1) := by decide +kernel
theorem dX11_keepSet_59 : decode cX11_keepSet 59 = .ok (.aload_n 0, 1) := by decide +kernel
theorem dX11_keepSet_60 : decode cX11_keepSet 60 = .ok (.dup, 1) := by decide +kernel
theorem dX11_keepSet_61 : decode cX11_keepSet 61 = .ok (.getfield 51, 3) := by decide +kernel
theorem dX11_keepSet_64 : decode cX11_keepSet 64 = .ok (.iconst 1, 1) := by decide +kernel
theorem dX11_keepSet_65 : decode cX11_keepSet 65 = .ok (.iadd, 1) := by decide +kernel
theorem dX11_keepSet_66 : decode cX11_keepSet 66 = .ok (.putfield 51, 3) := by decide +kernel
theorem dX11_keepSet_69 : decode cX11_keepSet 69 = .ok (.return_, 1) := by decide +kernel
theorem dX11_setAt_0 : decode cX11_setAt 0 = .ok (.iload_n 1, 1) := by decide +kernel
theorem dX11_setAt_1 : decode cX11_setAt 1 = .ok (.ifCond .lt 29, 3) := by decide +kernel
theorem dX11_setAt_4 : decode cX11_setAt 4 = .ok (.iload_n 1, 1) := by decide +kernel
theorem dX11_setAt_5 : decode cX11_setAt 5 = .ok (.aload_n 0, 1) := by decide +kernel
theorem dX11_setAt_6 : decode cX11_setAt 6 = .ok (.getfield 51, 3) := by decide +kernel
theorem dX11_setAt_9 : decode cX11_setAt 9 = .ok (.if_icmp .ge 21, 3) := by decide +kernel
theorem dX11_setAt_12 : decode cX11_setAt 12 = .ok (.iload_n 1, 1) := by decide +kernel
theorem dX11_setAt_13 : decode cX11_setAt 13 = .ok (.aload_n 0, 1) := by decide +kernel
theorem dX11_setAt_14 : decode cX11_setAt 14 = .ok (.getfield 40, 3) := by decide +kernel
theorem dX11_setAt_17 : decode cX11_setAt 17 = .ok (.arraylength, 1) := by decide +kernel
theorem dX11_setAt_18 : decode cX11_setAt 18 = .ok (.if_icmp .ge 12, 3) := by decide +kernel
theorem dX11_setAt_21 : decode cX11_setAt 21 = .ok (.aload_n 0, 1) := by decide +kernel
theorem dX11_setAt_22 : decode cX11_setAt 22 = .ok (.getfield 40, 3) := by decide +kernel
theorem dX11_setAt_25 : decode cX11_setAt 25 = .ok (.iload_n 1, 1) := by decide +kernel
theorem dX11_setAt_26 : decode cX11_setAt 26 = .ok (.laload, 1) := by decide +kernel
theorem dX11_setAt_27 : decode cX11_setAt 27 = .ok (.goto 4, 3) := by decide +kernel
theorem dX11_setAt_30 : decode cX11_setAt 30 = .ok (.lconst 0, 1) := by decide +kernel
theorem dX11_setAt_31 : decode cX11_setAt 31 = .ok (.lreturn, 1) := by decide +kernel
set_option maxRecDepth 20000 in
theorem ggX11_learnt_X11_setAt : GoodIn wsX11_learnt wsX11_setAt := goodIn_r _ [8, 3, 9, 21, 22, 23, 24, 25, 26, 27, 28, 29] (by decide +kernel) (by decide +kernel)
set_option maxRecDepth 20000 in
theorem gX11_learnt_X11_setAt : GoodIn wsX11_learnt (wsV RX11 355 RX11 yX11_setAt wsX11_setAt) := goodIn_app (goodIn_of _ (by decide +kernel)) ggX11_learnt_X11_setAt
set_option maxRecDepth 20000 in
theorem ggX11_learnt_J13_bitCount_95d88 : GoodIn wsX11_learnt wsJ13_bitCount_95d88 := goodIn_r _ [13, 14, 15, 16] (by decide +kernel) (by decide +kernel)
set_option maxRecDepth 20000 in
theorem gX11_learnt_J13_bitCount_95d88 : GoodIn wsX11_learnt (va_wsS RX11 221 yJ13_bitCount_95d88 wsJ13_bitCount_95d88) := goodIn_app (goodIn_of _ (by decide +kernel)) ggX11_learnt_J13_bitCount_95d88
set_option maxRecDepth 20000 in
theorem ggX11_learnt_X5_toldPair : GoodIn wsX11_learnt wsX5_toldPair := goodIn_r _ [20] (by decide +kernel) (by decide +kernel)
set_option maxRecDepth 20000 in
theorem gX11_learnt_X5_toldPair : GoodIn wsX11_learnt (va_wsS RX11 348 yX5_toldPair wsX5_toldPair) := goodIn_app (goodIn_of _ (by decide +kernel)) ggX11_learnt_X5_toldPair
theorem dX11_learnt_0 : decode cX11_learnt 0 = .ok (.iload_n 1, 1) := by decide +kernel
theorem dX11_learnt_1 : decode cX11_learnt 1 = .ok (.ifCond .lt 27, 3) := by decide +kernel
theorem dX11_learnt_4 : decode cX11_learnt 4 = .ok (.iload_n 1, 1) := by decide +kernel
theorem dX11_learnt_5 : decode cX11_learnt 5 = .ok (.aload_n 0, 1) := by decide +kernel
theorem dX11_learnt_6 : decode cX11_learnt 6 = .ok (.getfield 51, 3) := by decide +kernel
theorem dX11_learnt_9 : decode cX11_learnt 9 = .ok (.if_icmp .ge 19, 3) := by decide +kernel
theorem dX11_learnt_12 : decode cX11_learnt 12 = .ok (.iload_n 2, 1) := by decide +kernel
theorem dX11_learnt_13 : decode cX11_learnt 13 = .ok (.ifCond .lt 15, 3) := by decide +kernel
theorem dX11_learnt_16 : decode cX11_learnt 16 = .ok (.iload_n 2, 1) := by decide +kernel
theorem dX11_learnt_17 : decode cX11_learnt 17 = .ok (.aload_n 0, 1) := by decide +kernel
theorem dX11_learnt_18 : decode cX11_learnt 18 = .ok (.iload_n 1, 1) := by decide +kernel
theorem dX11_learnt_19 : decode cX11_learnt 19 = .ok (.invokevirtual 355, 3) := by decide +kernel
theorem dX11_learnt_22 : decode cX11_learnt 22 = .ok (.invokestatic 221, 3) := by decide +kernel
theorem dX11_learnt_25 : decode cX11_learnt 25 = .ok (.if_icmp .lt 14, 3) := by decide +kernel
theorem dX11_learnt_28 : decode cX11_learnt 28 = .ok (.new 72, 3) := by decide +kernel
theorem dX11_learnt_31 : decode cX11_learnt 31 = .ok (.dup, 1) := by decide +kernel
theorem dX11_learnt_32 : decode cX11_learnt 32 = .ok (.ldc_w 380, 3) := by decide +kernel
theorem dX11_learnt_35 : decode cX11_learnt 35 = .ok (.invokespecial 76, 3) := by decide +kernel
theorem dX11_learnt_38 : decode cX11_learnt 38 = .ok (.athrow, 1) := by decide +kernel
theorem dX11_learnt_39 : decode cX11_learnt 39 = .ok (.aload_n 0, 1) := by decide +kernel
theorem dX11_learnt_40 : decode cX11_learnt 40 = .ok (.iload_n 1, 1) := by decide +kernel
theorem dX11_learnt_41 : decode cX11_learnt 41 = .ok (.invokevirtual 355, 3) := by decide +kernel
theorem dX11_learnt_44 : decode cX11_learnt 44 = .ok (.iload_n 2, 1) := by decide +kernel
theorem dX11_learnt_45 : decode cX11_learnt 45 = .ok (.invokestatic 348, 3) := by decide +kernel
theorem dX11_learnt_48 : decode cX11_learnt 48 = .ok (.ireturn, 1) := by decide +kernel
set_option maxRecDepth 20000 in
theorem ggX11_search_X9_hasFailed : GoodIn wsX11_search wsX9_hasFailed := goodIn_r _ [10, 11, 12, 13, 14, 15, 16, 17, 18, 19, 20, 21, 22, 23, 24, 25, 26, 27, 291, 292, 293, 294, 295, 296] (by decide +kernel) (by decide +kernel)
set_option maxRecDepth 20000 in
theorem gX11_search_X9_hasFailed : GoodIn wsX11_search (wsV RX11 126 RX9 yX9_hasFailed wsX9_hasFailed) := goodIn_app (goodIn_of _ (by decide +kernel)) ggX11_search_X9_hasFailed
set_option maxRecDepth 20000 in
theorem ggX11_search_X11_learnFromFailure : GoodIn wsX11_search wsX11_learnFromFailure := goodIn_r _ [32, 3, 4, 33, 34, 35, 36, 37, 38, 39, 40, 9, 41, 42, 43, 44, 45, 46, 47, 48, 49, 50, 51, 52, 53, 54, 55, 56, 57, 58, 59, 60, 61, 62, 63, 64, 15, 65, 66, 67, 68, 69, 70, 17, 18, 19, 20, 71, 72, 73, 74, 12, 11, 75, 76, 77, 31, 78, 79, 80, 81, 82, 83, 84, 85, 86, 87, 88, 89, 90, 91, 92, 93, 5, 94, 95, 96, 97, 98, 99, 100, 101, 102, 103, 6, 7, 8, 10, 13, 14, 16, 21, 22, 23, 24, 25, 26, 27, 104, 105, 106, 107, 108, 109, 110, 111, 112, 113, 114, 115, 116, 117, 118, 119, 120, 121, 122, 123, 124, 125, 126, 127, 128, 129, 130, 131, 132, 133, 134, 135, 136, 137, 138, 139, 140, 141, 142, 143, 144, 145, 146, 147, 148, 149, 150, 151, 152, 153, 154, 155, 156, 157, 158, 159, 160, 161, 162, 163, 164, 165, 166, 167, 168, 169, 170, 171, 172, 173, 174, 175, 176, 177, 178, 179, 180, 181, 182, 183, 184, 185, 186, 187, 188, 189, 190, 191, 192, 193, 194, 195, 196, 197, 198, 199, 200, 201, 202, 203, 204, 205, 206, 207, 208, 209, 210, 211, 212, 213, 214, 215, 216, 217, 218, 219, 220, 221, 222, 223, 224, 225, 226, 227, 228, 229, 230, 231, 232, 233, 234, 235, 236, 237, 238, 239, 240, 241, 242, 243, 244, 245, 246, 247, 248, 249, 250, 251, 252, 253, 254, 255, 256, 257, 258, 259, 282, 283, 284, 285, 286, 287, 288, 289, 290, 291, 292, 293, 294, 295, 296, 297, 298, 299, 300, 301, 302, 303, 304, 305, 306, 307, 308, 309, 310, 311, 312, 313, 314, 315, 316, 317, 318, 319, 320, 321, 322, 323, 324, 325, 326, 327, 328, 329, 330, 331] (by decide +kernel) (by decide +kernel)
set_option maxRecDepth 20000 in
theorem gX11_search_X11_learnFromFailure : GoodIn wsX11_search (wsV RX11 360 RX11 yX11_learnFromFailure wsX11_learnFromFailure) := goodIn_app (goodIn_of _ (by decide +kernel)) ggX11_search_X11_learnFromFailure
set_option maxRecDepth 20000 in
theorem ggX11_search_X11_variableToDecide : GoodIn wsX11_search wsX11_variableToDecide := goodIn_r _ [263, 33, 37, 3, 5, 264, 132, 15, 133, 265, 138, 139, 140, 141, 142, 143, 282, 283, 284, 285, 286, 287, 288, 289, 290, 297, 298, 299, 300, 291, 292, 293, 294, 295, 296] (by decide +kernel) (by decide +kernel)
set_option maxRecDepth 20000 in
theorem gX11_search_X11_variableToDecide : GoodIn wsX11_search (wsV RX11 384 RX11 yX11_variableToDecide wsX11_variableToDecide) := goodIn_app (goodIn_of _ (by decide +kernel)) ggX11_search_X11_variableToDecide
set_option maxRecDepth 20000 in
theorem ggX11_search_X5_leastValueOf : GoodIn wsX11_search wsX5_leastValueOf := goodIn_r _ [268, 269, 105, 15, 106, 107, 31, 108, 109, 64, 65] (by decide +kernel) (by decide +kernel)
set_option maxRecDepth 20000 in
theorem gX11_search_X5_leastValueOf : GoodIn wsX11_search (va_wsS RX11 282 yX5_leastValueOf wsX5_leastValueOf) := goodIn_app (goodIn_of _ (by decide +kernel)) ggX11_search_X5_leastValueOf
set_option maxRecDepth 20000 in
theorem ggX11_search_X11_makeDecision : GoodIn wsX11_search wsX11_makeDecision := goodIn_r _ [273, 274, 3, 275, 276, 277, 9, 278, 42, 43, 11, 279, 64, 15, 65, 280, 105, 106, 107, 31, 108, 109, 281, 218, 219, 220, 48, 221, 222, 223, 49, 224, 50, 225, 51, 52, 53, 54, 55, 56, 57, 58, 59, 60, 61, 62, 63, 75, 76, 77, 78, 79, 33, 80, 81, 82, 83, 84, 85, 86, 87, 88, 89, 90, 91, 92, 93, 5, 94, 95, 96, 97, 98, 99, 100, 101, 102, 103, 6, 7, 8, 10, 12, 13, 14, 16, 17, 18, 19, 20, 21, 22, 23, 24, 25, 26, 27, 104, 110, 111, 112, 70, 113, 114, 115, 69, 116, 117, 118, 119, 120, 121, 122, 123, 124, 125, 126, 127, 128, 129, 130, 131, 132, 133, 134, 135, 136, 137, 138, 139, 140, 141, 142, 143, 144, 145, 146, 147, 148, 149, 150, 151, 152, 153, 154, 155, 156, 157, 158, 159, 160, 161, 162, 163, 164, 165, 166, 167, 168, 169, 170, 171, 172, 173, 174, 175, 176, 177, 178, 179, 180, 181, 182, 183, 184, 185, 186, 187, 188, 189, 190, 191, 192, 193, 194, 195, 196, 197, 198, 199, 200, 201, 202, 203, 204, 205, 206, 207, 208, 209, 210, 211, 212, 213, 214, 215, 216, 217, 226, 227, 228, 229, 230, 231, 232, 233, 234, 235, 236, 237, 238, 239, 240, 241, 242, 243, 244, 245, 246, 282, 283, 284, 285, 286, 287, 288, 289, 290, 291, 292, 293, 294, 295, 296, 301, 302, 303, 304, 305, 306, 307, 297, 298, 299, 300, 308, 309, 310, 311, 312, 313, 314, 315, 316, 317, 318, 319, 320, 321, 322, 323, 324, 325, 326, 327, 328, 329, 330, 331] (by decide +kernel) (by decide +kernel)
set_option maxRecDepth 20000 in
theorem gX11_search_X11_makeDecision : GoodIn wsX11_search (wsV RX11 331 RX11 yX11_makeDecision wsX11_makeDecision) := goodIn_app (goodIn_of _ (by decide +kernel)) ggX11_search_X11_makeDecision
theorem dX11_search_0 : decode cX11_search 0 = .ok (.iload_n 1, 1) := by decide +kernel
theorem dX11_search_1 : decode cX11_search 1 = .ok (.iconst 1, 1) := by decide +kernel
theorem dX11_search_2 : decode cX11_search 2 = .ok (.if_icmp .lt 9, 3) := by decide +kernel
theorem dX11_search_5 : decode cX11_search 5 = .ok (.iload_n 1, 1) := by decide +kernel
theorem dX11_search_6 : decode cX11_search 6 = .ok (.bipush 100, 2) := by decide +kernel
theorem dX11_search_8 : decode cX11_search 8 = .ok (.if_icmp .le 14, 3) := by decide +kernel
theorem dX11_search_11 : decode cX11_search 11 = .ok (.new 87, 3) := by decide +kernel
theorem dX11_search_14 : decode cX11_search 14 = .ok (.dup, 1) := by decide +kernel
theorem dX11_search_15 : decode cX11_search 15 = .ok (.ldc_w 382, 3) := by decide +kernel
theorem dX11_search_18 : decode cX11_search 18 = .ok (.invokespecial 91, 3) := by decide +kernel
theorem dX11_search_21 : decode cX11_search 21 = .ok (.athrow, 1) := by decide +kernel
theorem dX11_search_22 : decode cX11_search 22 = .ok (.iconst 0, 1) := by decide +kernel
theorem dX11_search_23 : decode cX11_search 23 = .ok (.istore_n 2, 1) := by decide +kernel
theorem dX11_search_24 : decode cX11_search 24 = .ok (.iconst 0, 1) := by decide +kernel
theorem dX11_search_25 : decode cX11_search 25 = .ok (.istore_n 3, 1) := by decide +kernel
theorem dX11_search_26 : decode cX11_search 26 = .ok (.iload_n 3, 1) := by decide +kernel
theorem dX11_search_27 : decode cX11_search 27 = .ok (.sipush 1000, 3) := by decide +kernel
theorem dX11_search_30 : decode cX11_search 30 = .ok (.if_icmp .ge 81, 3) := by decide +kernel
theorem dX11_search_33 : decode cX11_search 33 = .ok (.aload_n 0, 1) := by decide +kernel
theorem dX11_search_34 : decode cX11_search 34 = .ok (.getfield 19, 3) := by decide +kernel
theorem dX11_search_37 : decode cX11_search 37 = .ok (.invokevirtual 126, 3) := by decide +kernel
theorem dX11_search_40 : decode cX11_search 40 = .ok (.ifCond .eq 23, 3) := by decide +kernel
theorem dX11_search_43 : decode cX11_search 43 = .ok (.aload_n 0, 1) := by decide +kernel
theorem dX11_search_44 : decode cX11_search 44 = .ok (.getfield 19, 3) := by decide +kernel
theorem dX11_search_47 : decode cX11_search 47 = .ok (.getfield 123, 3) := by decide +kernel
theorem dX11_search_50 : decode cX11_search 50 = .ok (.ifCond .ne 5, 3) := by decide +kernel
theorem dX11_search_53 : decode cX11_search 53 = .ok (.iconst (-1), 1) := by decide +kernel
theorem dX11_search_54 : decode cX11_search 54 = .ok (.ireturn, 1) := by decide +kernel
theorem dX11_search_55 : decode cX11_search 55 = .ok (.aload_n 0, 1) := by decide +kernel
theorem dX11_search_56 : decode cX11_search 56 = .ok (.invokevirtual 360, 3) := by decide +kernel
theorem dX11_search_59 : decode cX11_search 59 = .ok (.pop, 1) := by decide +kernel
theorem dX11_search_60 : decode cX11_search 60 = .ok (.goto 45, 3) := by decide +kernel
theorem dX11_search_63 : decode cX11_search 63 = .ok (.aload_n 0, 1) := by decide +kernel
theorem dX11_search_64 : decode cX11_search 64 = .ok (.invokevirtual 384, 3) := by decide +kernel
theorem dX11_search_67 : decode cX11_search 67 = .ok (.istore 4, 2) := by decide +kernel
theorem dX11_search_69 : decode cX11_search 69 = .ok (.iload 4, 2) := by decide +kernel
theorem dX11_search_71 : decode cX11_search 71 = .ok (.iconst (-1), 1) := by decide +kernel
theorem dX11_search_72 : decode cX11_search 72 = .ok (.if_icmp .ne 5, 3) := by decide +kernel
theorem dX11_search_75 : decode cX11_search 75 = .ok (.iconst 1, 1) := by decide +kernel
theorem dX11_search_76 : decode cX11_search 76 = .ok (.ireturn, 1) := by decide +kernel
theorem dX11_search_77 : decode cX11_search 77 = .ok (.iload_n 2, 1) := by decide +kernel
theorem dX11_search_78 : decode cX11_search 78 = .ok (.iload_n 1, 1) := by decide +kernel
theorem dX11_search_79 : decode cX11_search 79 = .ok (.if_icmp .ne 5, 3) := by decide +kernel
theorem dX11_search_82 : decode cX11_search 82 = .ok (.iconst 0, 1) := by decide +kernel
theorem dX11_search_83 : decode cX11_search 83 = .ok (.ireturn, 1) := by decide +kernel
theorem dX11_search_84 : decode cX11_search 84 = .ok (.iinc 2 1, 3) := by decide +kernel
theorem dX11_search_87 : decode cX11_search 87 = .ok (.aload_n 0, 1) := by decide +kernel
theorem dX11_search_88 : decode cX11_search 88 = .ok (.iload 4, 2) := by decide +kernel
theorem dX11_search_90 : decode cX11_search 90 = .ok (.aload_n 0, 1) := by decide +kernel
theorem dX11_search_91 : decode cX11_search 91 = .ok (.getfield 19, 3) := by decide +kernel
theorem dX11_search_94 : decode cX11_search 94 = .ok (.getfield 139, 3) := by decide +kernel
theorem dX11_search_97 : decode cX11_search 97 = .ok (.iload 4, 2) := by decide +kernel
theorem dX11_search_99 : decode cX11_search 99 = .ok (.invokestatic 282, 3) := by decide +kernel
theorem dX11_search_102 : decode cX11_search 102 = .ok (.invokevirtual 331, 3) := by decide +kernel
theorem dX11_search_105 : decode cX11_search 105 = .ok (.iinc 3 1, 3) := by decide +kernel
theorem dX11_search_108 : decode cX11_search 108 = .ok (.goto (-82), 3) := by decide +kernel
theorem dX11_search_111 : decode cX11_search 111 = .ok (.iconst 0, 1) := by decide +kernel
theorem dX11_search_112 : decode cX11_search 112 = .ok (.ireturn, 1) := by decide +kernel
set_option maxRecDepth 20000 in
theorem ggX11_variableToDecide_X5_valuesOf : GoodIn wsX11_variableToDecide wsX5_valuesOf := goodIn_r _ [8] (by decide +kernel) (by decide +kernel)
set_option maxRecDepth 20000 in
theorem gX11_variableToDecide_X5_valuesOf : GoodIn wsX11_variableToDecide (va_wsS RX11 142 yX5_valuesOf wsX5_valuesOf) := goodIn_app (goodIn_of _ (by decide +kernel)) ggX11_variableToDecide_X5_valuesOf
set_option maxRecDepth 20000 in
theorem ggX11_variableToDecide_J6_bitCount_0f7a4 : GoodIn wsX11_variableToDecide wsJ6_bitCount_0f7a4 := goodIn_r _ [12, 13, 14, 15] (by decide +kernel) (by decide +kernel)
set_option maxRecDepth 20000 in
theorem gX11_variableToDecide_J6_bitCount_0f7a4 : GoodIn wsX11_variableToDecide (va_wsS RX11 148 yJ6_bitCount_0f7a4 wsJ6_bitCount_0f7a4) := goodIn_app (goodIn_of _ (by decide +kernel)) ggX11_variableToDecide_J6_bitCount_0f7a4
theorem dX11_variableToDecide_0 : decode cX11_variableToDecide 0 = .ok (.iconst (-1), 1) := by decide +kernel
theorem dX11_variableToDecide_1 : decode cX11_variableToDecide 1 = .ok (.istore_n 1, 1) := by decide +kernel
theorem dX11_variableToDecide_2 : decode cX11_variableToDecide 2 = .ok (.bipush 6, 2) := by decide +kernel
theorem dX11_variableToDecide_4 : decode cX11_variableToDecide 4 = .ok (.istore_n 2, 1) := by decide +kernel
theorem dX11_variableToDecide_5 : decode cX11_variableToDecide 5 = .ok (.iconst 0, 1) := by decide +kernel
theorem dX11_variableToDecide_6 : decode cX11_variableToDecide 6 = .ok (.istore_n 3, 1) := by decide +kernel
theorem dX11_variableToDecide_7 : decode cX11_variableToDecide 7 = .ok (.iload_n 3, 1) := by decide +kernel
theorem dX11_variableToDecide_8 : decode cX11_variableToDecide 8 = .ok (.aload_n 0, 1) := by decide +kernel
theorem dX11_variableToDecide_9 : decode cX11_variableToDecide 9 = .ok (.getfield 47, 3) := by decide +kernel
theorem dX11_variableToDecide_12 : decode cX11_variableToDecide 12 = .ok (.getfield 93, 3) := by decide +kernel
theorem dX11_variableToDecide_15 : decode cX11_variableToDecide 15 = .ok (.if_icmp .ge 42, 3) := by decide +kernel
theorem dX11_variableToDecide_18 : decode cX11_variableToDecide 18 = .ok (.aload_n 0, 1) := by decide +kernel
theorem dX11_variableToDecide_19 : decode cX11_variableToDecide 19 = .ok (.getfield 19, 3) := by decide +kernel
theorem dX11_variableToDecide_22 : decode cX11_variableToDecide 22 = .ok (.getfield 139, 3) := by decide +kernel
theorem dX11_variableToDecide_25 : decode cX11_variableToDecide 25 = .ok (.iload_n 3, 1) := by decide +kernel
theorem dX11_variableToDecide_26 : decode cX11_variableToDecide 26 = .ok (.invokestatic 142, 3) := by decide +kernel
theorem dX11_variableToDecide_29 : decode cX11_variableToDecide 29 = .ok (.invokestatic 148, 3) := by decide +kernel
theorem dX11_variableToDecide_32 : decode cX11_variableToDecide 32 = .ok (.istore 4, 2) := by decide +kernel
theorem dX11_variableToDecide_34 : decode cX11_variableToDecide 34 = .ok (.iload 4, 2) := by decide +kernel
theorem dX11_variableToDecide_36 : decode cX11_variableToDecide 36 = .ok (.iconst 1, 1) := by decide +kernel
theorem dX11_variableToDecide_37 : decode cX11_variableToDecide 37 = .ok (.if_icmp .le 14, 3) := by decide +kernel
theorem dX11_variableToDecide_40 : decode cX11_variableToDecide 40 = .ok (.iload 4, 2) := by decide +kernel
theorem dX11_variableToDecide_42 : decode cX11_variableToDecide 42 = .ok (.iload_n 2, 1) := by decide +kernel
theorem dX11_variableToDecide_43 : decode cX11_variableToDecide 43 = .ok (.if_icmp .ge 8, 3) := by decide +kernel
theorem dX11_variableToDecide_46 : decode cX11_variableToDecide 46 = .ok (.iload_n 3, 1) := by decide +kernel
theorem dX11_variableToDecide_47 : decode cX11_variableToDecide 47 = .ok (.istore_n 1, 1) := by decide +kernel
theorem dX11_variableToDecide_48 : decode cX11_variableToDecide 48 = .ok (.iload 4, 2) := by decide +kernel
theorem dX11_variableToDecide_50 : decode cX11_variableToDecide 50 = .ok (.istore_n 2, 1) := by decide +kernel
theorem dX11_variableToDecide_51 : decode cX11_variableToDecide 51 = .ok (.iinc 3 1, 3) := by decide +kernel
theorem dX11_variableToDecide_54 : decode cX11_variableToDecide 54 = .ok (.goto (-47), 3) := by decide +kernel
theorem dX11_variableToDecide_57 : decode cX11_variableToDecide 57 = .ok (.iload_n 1, 1) := by decide +kernel
theorem dX11_variableToDecide_58 : decode cX11_variableToDecide 58 = .ok (.ireturn, 1) := by decide +kernel
set_option maxRecDepth 20000 in
theorem ggX11_restart_X9_takeBack : GoodIn wsX11_restart wsX9_takeBack := goodIn_r _ [8, 9, 10, 11, 12, 13, 14, 15, 7, 16, 17, 18, 19, 20, 21, 22, 23, 24, 25, 26, 27, 28, 38, 39, 40, 41, 42, 43, 44, 45, 46, 47, 48, 49, 50] (by decide +kernel) (by decide +kernel)
set_option maxRecDepth 20000 in
theorem gX11_restart_X9_takeBack : GoodIn wsX11_restart (wsV RX11 340 RX9 yX9_takeBack wsX9_takeBack) := goodIn_app (goodIn_of _ (by decide +kernel)) ggX11_restart_X9_takeBack
theorem dX11_restart_0 : decode cX11_restart 0 = .ok (.aload_n 0, 1) := by decide +kernel
theorem dX11_restart_1 : decode cX11_restart 1 = .ok (.getfield 19, 3) := by decide +kernel
theorem dX11_restart_4 : decode cX11_restart 4 = .ok (.getfield 123, 3) := by decide +kernel
theorem dX11_restart_7 : decode cX11_restart 7 = .ok (.istore_n 1, 1) := by decide +kernel
theorem dX11_restart_8 : decode cX11_restart 8 = .ok (.iconst 0, 1) := by decide +kernel
theorem dX11_restart_9 : decode cX11_restart 9 = .ok (.istore_n 2, 1) := by decide +kernel
theorem dX11_restart_10 : decode cX11_restart 10 = .ok (.iload_n 2, 1) := by decide +kernel
theorem dX11_restart_11 : decode cX11_restart 11 = .ok (.iload_n 1, 1) := by decide +kernel
theorem dX11_restart_12 : decode cX11_restart 12 = .ok (.if_icmp .ge 17, 3) := by decide +kernel
theorem dX11_restart_15 : decode cX11_restart 15 = .ok (.aload_n 0, 1) := by decide +kernel
theorem dX11_restart_16 : decode cX11_restart 16 = .ok (.getfield 19, 3) := by decide +kernel
theorem dX11_restart_19 : decode cX11_restart 19 = .ok (.invokevirtual 340, 3) := by decide +kernel
theorem dX11_restart_22 : decode cX11_restart 22 = .ok (.pop, 1) := by decide +kernel
theorem dX11_restart_23 : decode cX11_restart 23 = .ok (.iinc 2 1, 3) := by decide +kernel
theorem dX11_restart_26 : decode cX11_restart 26 = .ok (.goto (-16), 3) := by decide +kernel
theorem dX11_restart_29 : decode cX11_restart 29 = .ok (.aload_n 0, 1) := by decide +kernel
theorem dX11_restart_30 : decode cX11_restart 30 = .ok (.iconst 0, 1) := by decide +kernel
theorem dX11_restart_31 : decode cX11_restart 31 = .ok (.putfield 51, 3) := by decide +kernel
theorem dX11_restart_34 : decode cX11_restart 34 = .ok (.iload_n 1, 1) := by decide +kernel
theorem dX11_restart_35 : decode cX11_restart 35 = .ok (.ireturn, 1) := by decide +kernel
set_option maxRecDepth 20000 in
theorem ggX12_init_X12_begins : GoodIn wsX12_init wsX12_begins := goodIn_r _ [29, 5, 6, 7, 30, 31, 32, 33, 34, 35, 36, 37, 28, 38, 10, 39, 40, 41, 42, 43, 44, 45, 46, 47, 48, 49, 50, 51, 52, 53, 54, 55, 56, 57, 58, 59, 60, 61, 62, 63, 64, 15, 65, 66, 67, 68, 69, 70, 71, 72, 73, 74, 75, 76, 77, 78, 79, 80, 81, 82, 83, 84, 85, 86, 87, 88, 89, 90, 91, 92, 93, 94, 95, 96, 97, 98, 8, 99, 100, 101, 102, 103, 104, 105, 106, 107, 108, 109, 110, 111, 112, 113, 114, 115, 116, 117, 118, 119, 120, 121, 122, 123, 124, 125, 126, 127, 128, 129, 130] (by decide +kernel) (by decide +kernel)
set_option maxRecDepth 20000 in
theorem gX12_init_X12_begins : GoodIn wsX12_init (wsV RX12 67 RX12 yX12_begins wsX12_begins) := goodIn_app (goodIn_of _ (by decide +kernel)) ggX12_init_X12_begins
theorem dX12_init_0 : decode cX12_init 0 = .ok (.aload_n 0, 1) := by decide +kernel
theorem dX12_init_1 : decode cX12_init 1 = .ok (.invokespecial 1, 3) := by decide +kernel
theorem dX12_init_4 : decode cX12_init 4 = .ok (.aload_n 0, 1) := by decide +kernel
theorem dX12_init_5 : decode cX12_init 5 = .ok (.sipush 169, 3) := by decide +kernel
theorem dX12_init_8 : decode cX12_init 8 = .ok (.newarray .int, 2) := by decide +kernel
theorem dX12_init_10 : decode cX12_init 10 = .ok (.putfield 7, 3) := by decide +kernel
theorem dX12_init_13 : decode cX12_init 13 = .ok (.aload_n 0, 1) := by decide +kernel
theorem dX12_init_14 : decode cX12_init 14 = .ok (.sipush 169, 3) := by decide +kernel
theorem dX12_init_17 : decode cX12_init 17 = .ok (.newarray .int, 2) := by decide +kernel
theorem dX12_init_19 : decode cX12_init 19 = .ok (.putfield 13, 3) := by decide +kernel
theorem dX12_init_22 : decode cX12_init 22 = .ok (.aload_n 0, 1) := by decide +kernel
theorem dX12_init_23 : decode cX12_init 23 = .ok (.bipush 7, 2) := by decide +kernel
theorem dX12_init_25 : decode cX12_init 25 = .ok (.newarray .int, 2) := by decide +kernel
theorem dX12_init_27 : decode cX12_init 27 = .ok (.putfield 16, 3) := by decide +kernel
theorem dX12_init_30 : decode cX12_init 30 = .ok (.aload_n 0, 1) := by decide +kernel
theorem dX12_init_31 : decode cX12_init 31 = .ok (.sipush 175, 3) := by decide +kernel
theorem dX12_init_34 : decode cX12_init 34 = .ok (.newarray .int, 2) := by decide +kernel
theorem dX12_init_36 : decode cX12_init 36 = .ok (.putfield 19, 3) := by decide +kernel
theorem dX12_init_39 : decode cX12_init 39 = .ok (.aload_n 0, 1) := by decide +kernel
theorem dX12_init_40 : decode cX12_init 40 = .ok (.bipush 14, 2) := by decide +kernel
theorem dX12_init_42 : decode cX12_init 42 = .ok (.newarray .int, 2) := by decide +kernel
theorem dX12_init_44 : decode cX12_init 44 = .ok (.putfield 22, 3) := by decide +kernel
theorem dX12_init_47 : decode cX12_init 47 = .ok (.aload_n 0, 1) := by decide +kernel
theorem dX12_init_48 : decode cX12_init 48 = .ok (.bipush 12, 2) := by decide +kernel
theorem dX12_init_50 : decode cX12_init 50 = .ok (.newarray .int, 2) := by decide +kernel
theorem dX12_init_52 : decode cX12_init 52 = .ok (.putfield 25, 3) := by decide +kernel
theorem dX12_init_55 : decode cX12_init 55 = .ok (.aload_n 0, 1) := by decide +kernel
theorem dX12_init_56 : decode cX12_init 56 = .ok (.sipush 600, 3) := by decide +kernel
theorem dX12_init_59 : decode cX12_init 59 = .ok (.newarray .int, 2) := by decide +kernel
theorem dX12_init_61 : decode cX12_init 61 = .ok (.putfield 28, 3) := by decide +kernel
theorem dX12_init_64 : decode cX12_init 64 = .ok (.aload_n 0, 1) := by decide +kernel
theorem dX12_init_65 : decode cX12_init 65 = .ok (.iconst (-1), 1) := by decide +kernel
theorem dX12_init_66 : decode cX12_init 66 = .ok (.putfield 31, 3) := by decide +kernel
theorem dX12_init_69 : decode cX12_init 69 = .ok (.aload_n 0, 1) := by decide +kernel
theorem dX12_init_70 : decode cX12_init 70 = .ok (.bipush 7, 2) := by decide +kernel
theorem dX12_init_72 : decode cX12_init 72 = .ok (.newarray .long, 2) := by decide +kernel
theorem dX12_init_74 : decode cX12_init 74 = .ok (.putfield 35, 3) := by decide +kernel
theorem dX12_init_77 : decode cX12_init 77 = .ok (.aload_n 0, 1) := by decide +kernel
theorem dX12_init_78 : decode cX12_init 78 = .ok (.bipush 7, 2) := by decide +kernel
theorem dX12_init_80 : decode cX12_init 80 = .ok (.newarray .int, 2) := by decide +kernel
theorem dX12_init_82 : decode cX12_init 82 = .ok (.putfield 39, 3) := by decide +kernel
theorem dX12_init_85 : decode cX12_init 85 = .ok (.aload_n 0, 1) := by decide +kernel
theorem dX12_init_86 : decode cX12_init 86 = .ok (.bipush 35, 2) := by decide +kernel
theorem dX12_init_88 : decode cX12_init 88 = .ok (.newarray .boolean, 2) := by decide +kernel
theorem dX12_init_90 : decode cX12_init 90 = .ok (.putfield 42, 3) := by decide +kernel
theorem dX12_init_93 : decode cX12_init 93 = .ok (.aload_n 0, 1) := by decide +kernel
theorem dX12_init_94 : decode cX12_init 94 = .ok (.bipush 7, 2) := by decide +kernel
theorem dX12_init_96 : decode cX12_init 96 = .ok (.newarray .int, 2) := by decide +kernel
theorem dX12_init_98 : decode cX12_init 98 = .ok (.putfield 46, 3) := by decide +kernel
theorem dX12_init_101 : decode cX12_init 101 = .ok (.aload_n 0, 1) := by decide +kernel
theorem dX12_init_102 : decode cX12_init 102 = .ok (.bipush 35, 2) := by decide +kernel
theorem dX12_init_104 : decode cX12_init 104 = .ok (.newarray .int, 2) := by decide +kernel
theorem dX12_init_106 : decode cX12_init 106 = .ok (.putfield 49, 3) := by decide +kernel
theorem dX12_init_109 : decode cX12_init 109 = .ok (.aload_n 0, 1) := by decide +kernel
theorem dX12_init_110 : decode cX12_init 110 = .ok (.bipush 7, 2) := by decide +kernel
theorem dX12_init_112 : decode cX12_init 112 = .ok (.newarray .int, 2) := by decide +kernel
theorem dX12_init_114 : decode cX12_init 114 = .ok (.putfield 52, 3) := by decide +kernel
theorem dX12_init_117 : decode cX12_init 117 = .ok (.aload_n 0, 1) := by decide +kernel
theorem dX12_init_118 : decode cX12_init 118 = .ok (.bipush 7, 2) := by decide +kernel
theorem dX12_init_120 : decode cX12_init 120 = .ok (.newarray .int, 2) := by decide +kernel
theorem dX12_init_122 : decode cX12_init 122 = .ok (.putfield 55, 3) := by decide +kernel
theorem dX12_init_125 : decode cX12_init 125 = .ok (.aload_n 0, 1) := by decide +kernel
theorem dX12_init_126 : decode cX12_init 126 = .ok (.bipush 7, 2) := by decide +kernel
theorem dX12_init_128 : decode cX12_init 128 = .ok (.newarray .int, 2) := by decide +kernel
theorem dX12_init_130 : decode cX12_init 130 = .ok (.putfield 58, 3) := by decide +kernel
theorem dX12_init_133 : decode cX12_init 133 = .ok (.aload_n 0, 1) := by decide +kernel
theorem dX12_init_134 : decode cX12_init 134 = .ok (.bipush 7, 2) := by decide +kernel
theorem dX12_init_136 : decode cX12_init 136 = .ok (.newarray .int, 2) := by decide +kernel
theorem dX12_init_138 : decode cX12_init 138 = .ok (.putfield 61, 3) := by decide +kernel
theorem dX12_init_141 : decode cX12_init 141 = .ok (.aload_n 0, 1) := by decide +kernel
theorem dX12_init_142 : decode cX12_init 142 = .ok (.bipush 7, 2) := by decide +kernel
theorem dX12_init_144 : decode cX12_init 144 = .ok (.newarray .int, 2) := by decide +kernel
theorem dX12_init_146 : decode cX12_init 146 = .ok (.putfield 64, 3) := by decide +kernel
theorem dX12_init_149 : decode cX12_init 149 = .ok (.aload_n 0, 1) := by decide +kernel
theorem dX12_init_150 : decode cX12_init 150 = .ok (.invokevirtual 67, 3) := by decide +kernel
theorem dX12_init_153 : decode cX12_init 153 = .ok (.return_, 1) := by decide +kernel
theorem dX12_thrown_0 : decode cX12_thrown 0 = .ok (.aload_n 0, 1) := by decide +kernel
theorem dX12_thrown_1 : decode cX12_thrown 1 = .ok (.getfield 70, 3) := by decide +kernel
theorem dX12_thrown_4 : decode cX12_thrown 4 = .ok (.ireturn, 1) := by decide +kernel
theorem dX12_isIn_0 : decode cX12_isIn 0 = .ok (.iload_n 0, 1) := by decide +kernel
theorem dX12_isIn_1 : decode cX12_isIn 1 = .ok (.iload_n 1, 1) := by decide +kernel
theorem dX12_isIn_2 : decode cX12_isIn 2 = .ok (.if_icmp .lt 12, 3) := by decide +kernel
theorem dX12_isIn_5 : decode cX12_isIn 5 = .ok (.iload_n 0, 1) := by decide +kernel
theorem dX12_isIn_6 : decode cX12_isIn 6 = .ok (.iload_n 2, 1) := by decide +kernel
theorem dX12_isIn_7 : decode cX12_isIn 7 = .ok (.if_icmp .gt 7, 3) := by decide +kernel
theorem dX12_isIn_10 : decode cX12_isIn 10 = .ok (.iconst 1, 1) := by decide +kernel
theorem dX12_isIn_11 : decode cX12_isIn 11 = .ok (.goto 4, 3) := by decide +kernel
theorem dX12_isIn_14 : decode cX12_isIn 14 = .ok (.iconst 0, 1) := by decide +kernel
theorem dX12_isIn_15 : decode cX12_isIn 15 = .ok (.ireturn, 1) := by decide +kernel
theorem dX12_may_0 : decode cX12_may 0 = .ok (.iload_n 1, 1) := by decide +kernel
theorem dX12_may_1 : decode cX12_may 1 = .ok (.ifCond .ne 15, 3) := by decide +kernel
theorem dX12_may_4 : decode cX12_may 4 = .ok (.aload_n 0, 1) := by decide +kernel
theorem dX12_may_5 : decode cX12_may 5 = .ok (.getfield 70, 3) := by decide +kernel
theorem dX12_may_8 : decode cX12_may 8 = .ok (.ifCond .ne 8, 3) := by decide +kernel
theorem dX12_may_11 : decode cX12_may 11 = .ok (.aload_n 0, 1) := by decide +kernel
theorem dX12_may_12 : decode cX12_may 12 = .ok (.iload_n 2, 1) := by decide +kernel
theorem dX12_may_13 : decode cX12_may 13 = .ok (.putfield 70, 3) := by decide +kernel
theorem dX12_may_16 : decode cX12_may 16 = .ok (.aload_n 0, 1) := by decide +kernel
theorem dX12_may_17 : decode cX12_may 17 = .ok (.getfield 70, 3) := by decide +kernel
theorem dX12_may_20 : decode cX12_may 20 = .ok (.ifCond .ne 7, 3) := by decide +kernel
theorem dX12_may_23 : decode cX12_may 23 = .ok (.iconst 1, 1) := by decide +kernel
theorem dX12_may_24 : decode cX12_may 24 = .ok (.goto 4, 3) := by decide +kernel
theorem dX12_may_27 : decode cX12_may 27 = .ok (.iconst 0, 1) := by decide +kernel
theorem dX12_may_28 : decode cX12_may 28 = .ok (.ireturn, 1) := by decide +kernel
theorem dX12_has_0 : decode cX12_has 0 = .ok (.iload_n 0, 1) := by decide +kernel
theorem dX12_has_1 : decode cX12_has 1 = .ok (.iload_n 1, 1) := by decide +kernel
theorem dX12_has_2 : decode cX12_has 2 = .ok (.ishr, 1) := by decide +kernel
theorem dX12_has_3 : decode cX12_has 3 = .ok (.iconst 1, 1) := by decide +kernel
theorem dX12_has_4 : decode cX12_has 4 = .ok (.iand, 1) := by decide +kernel
theorem dX12_has_5 : decode cX12_has 5 = .ok (.iconst 1, 1) := by decide +kernel
theorem dX12_has_6 : decode cX12_has 6 = .ok (.if_icmp .ne 7, 3) := by decide +kernel
theorem dX12_has_9 : decode cX12_has 9 = .ok (.iconst 1, 1) := by decide +kernel
theorem dX12_has_10 : decode cX12_has 10 = .ok (.goto 4, 3) := by decide +kernel
theorem dX12_has_13 : decode cX12_has 13 = .ok (.iconst 0, 1) := by decide +kernel
theorem dX12_has_14 : decode cX12_has 14 = .ok (.ireturn, 1) := by decide +kernel
theorem dX12_sizeOf_0 : decode cX12_sizeOf 0 = .ok (.iconst 0, 1) := by decide +kernel
theorem dX12_sizeOf_1 : decode cX12_sizeOf 1 = .ok (.istore_n 1, 1) := by decide +kernel
theorem dX12_sizeOf_2 : decode cX12_sizeOf 2 = .ok (.iload_n 0, 1) := by decide +kernel
theorem dX12_sizeOf_3 : decode cX12_sizeOf 3 = .ok (.istore_n 2, 1) := by decide +kernel
theorem dX12_sizeOf_4 : decode cX12_sizeOf 4 = .ok (.iload_n 2, 1) := by decide +kernel
theorem dX12_sizeOf_5 : decode cX12_sizeOf 5 = .ok (.ifCond .le 16, 3) := by decide +kernel
theorem dX12_sizeOf_8 : decode cX12_sizeOf 8 = .ok (.iload_n 1, 1) := by decide +kernel
theorem dX12_sizeOf_9 : decode cX12_sizeOf 9 = .ok (.iload_n 2, 1) := by decide +kernel
theorem dX12_sizeOf_10 : decode cX12_sizeOf 10 = .ok (.iconst 1, 1) := by decide +kernel
theorem dX12_sizeOf_11 : decode cX12_sizeOf 11 = .ok (.iand, 1) := by decide +kernel
theorem dX12_sizeOf_12 : decode cX12_sizeOf 12 = .ok (.iadd, 1) := by decide +kernel
theorem dX12_sizeOf_13 : decode cX12_sizeOf 13 = .ok (.istore_n 1, 1) := by decide +kernel
theorem dX12_sizeOf_14 : decode cX12_sizeOf 14 = .ok (.iload_n 2, 1) := by decide +kernel
theorem dX12_sizeOf_15 : decode cX12_sizeOf 15 = .ok (.iconst 1, 1) := by decide +kernel
theorem dX12_sizeOf_16 : decode cX12_sizeOf 16 = .ok (.ishr, 1) := by decide +kernel
theorem dX12_sizeOf_17 : decode cX12_sizeOf 17 = .ok (.istore_n 2, 1) := by decide +kernel
theorem dX12_sizeOf_18 : decode cX12_sizeOf 18 = .ok (.goto (-14), 3) := by decide +kernel
theorem dX12_sizeOf_21 : decode cX12_sizeOf 21 = .ok (.iload_n 1, 1) := by decide +kernel
theorem dX12_sizeOf_22 : decode cX12_sizeOf 22 = .ok (.ireturn, 1) := by decide +kernel
set_option maxRecDepth 20000 in
theorem ggX12_begins_X12_sweeps : GoodIn wsX12_begins wsX12_sweeps := goodIn_r _ [13, 1, 6, 14, 15, 16, 17, 12, 18, 19, 20, 21, 22, 23, 24, 25, 26, 27, 28, 29, 30, 31, 32, 33, 34, 35, 36, 37, 38, 39, 40, 41, 42, 43, 44, 45, 46, 47, 48, 49, 50, 51, 52, 53, 54, 55, 56, 57, 58, 59, 60, 61, 62, 63, 64, 65, 66, 67, 68, 69, 70, 71, 72, 73, 74, 75, 4, 76, 5, 77, 78, 79, 80, 81, 82, 83, 84, 85, 86, 87, 88, 89, 90, 91, 92, 93, 94, 95, 96, 97, 98, 99, 100, 101, 102, 103, 104, 105, 106, 107, 108] (by decide +kernel) (by decide +kernel)
set_option maxRecDepth 20000 in
theorem gX12_begins_X12_sweeps : GoodIn wsX12_begins (wsV RX12 89 RX12 yX12_sweeps wsX12_sweeps) := goodIn_app (goodIn_of _ (by decide +kernel)) ggX12_begins_X12_sweeps
theorem dX12_begins_0 : decode cX12_begins 0 = .ok (.iconst 0, 1) := by decide +kernel
theorem dX12_begins_1 : decode cX12_begins 1 = .ok (.istore_n 1, 1) := by decide +kernel
theorem dX12_begins_2 : decode cX12_begins 2 = .ok (.iload_n 1, 1) := by decide +kernel
theorem dX12_begins_3 : decode cX12_begins 3 = .ok (.sipush 169, 3) := by decide +kernel
theorem dX12_begins_6 : decode cX12_begins 6 = .ok (.if_icmp .ge 21, 3) := by decide +kernel
theorem dX12_begins_9 : decode cX12_begins 9 = .ok (.aload_n 0, 1) := by decide +kernel
theorem dX12_begins_10 : decode cX12_begins 10 = .ok (.getfield 7, 3) := by decide +kernel
theorem dX12_begins_13 : decode cX12_begins 13 = .ok (.iload_n 1, 1) := by decide +kernel
theorem dX12_begins_14 : decode cX12_begins 14 = .ok (.aload_n 0, 1) := by decide +kernel
theorem dX12_begins_15 : decode cX12_begins 15 = .ok (.getfield 13, 3) := by decide +kernel
theorem dX12_begins_18 : decode cX12_begins 18 = .ok (.iload_n 1, 1) := by decide +kernel
theorem dX12_begins_19 : decode cX12_begins 19 = .ok (.iaload, 1) := by decide +kernel
theorem dX12_begins_20 : decode cX12_begins 20 = .ok (.iastore, 1) := by decide +kernel
theorem dX12_begins_21 : decode cX12_begins 21 = .ok (.iinc 1 1, 3) := by decide +kernel
theorem dX12_begins_24 : decode cX12_begins 24 = .ok (.goto (-22), 3) := by decide +kernel
theorem dX12_begins_27 : decode cX12_begins 27 = .ok (.iconst 0, 1) := by decide +kernel
theorem dX12_begins_28 : decode cX12_begins 28 = .ok (.istore_n 1, 1) := by decide +kernel
theorem dX12_begins_29 : decode cX12_begins 29 = .ok (.iload_n 1, 1) := by decide +kernel
theorem dX12_begins_30 : decode cX12_begins 30 = .ok (.bipush 7, 2) := by decide +kernel
theorem dX12_begins_32 : decode cX12_begins 32 = .ok (.if_icmp .ge 23, 3) := by decide +kernel
theorem dX12_begins_35 : decode cX12_begins 35 = .ok (.aload_n 0, 1) := by decide +kernel
theorem dX12_begins_36 : decode cX12_begins 36 = .ok (.getfield 16, 3) := by decide +kernel
theorem dX12_begins_39 : decode cX12_begins 39 = .ok (.iload_n 1, 1) := by decide +kernel
theorem dX12_begins_40 : decode cX12_begins 40 = .ok (.aload_n 0, 1) := by decide +kernel
theorem dX12_begins_41 : decode cX12_begins 41 = .ok (.getfield 7, 3) := by decide +kernel
theorem dX12_begins_44 : decode cX12_begins 44 = .ok (.iconst 2, 1) := by decide +kernel
theorem dX12_begins_45 : decode cX12_begins 45 = .ok (.iload_n 1, 1) := by decide +kernel
theorem dX12_begins_46 : decode cX12_begins 46 = .ok (.iadd, 1) := by decide +kernel
theorem dX12_begins_47 : decode cX12_begins 47 = .ok (.iaload, 1) := by decide +kernel
theorem dX12_begins_48 : decode cX12_begins 48 = .ok (.iastore, 1) := by decide +kernel
theorem dX12_begins_49 : decode cX12_begins 49 = .ok (.iinc 1 1, 3) := by decide +kernel
theorem dX12_begins_52 : decode cX12_begins 52 = .ok (.goto (-23), 3) := by decide +kernel
theorem dX12_begins_55 : decode cX12_begins 55 = .ok (.aload_n 0, 1) := by decide +kernel
theorem dX12_begins_56 : decode cX12_begins 56 = .ok (.iconst 0, 1) := by decide +kernel
theorem dX12_begins_57 : decode cX12_begins 57 = .ok (.putfield 73, 3) := by decide +kernel
theorem dX12_begins_60 : decode cX12_begins 60 = .ok (.aload_n 0, 1) := by decide +kernel
theorem dX12_begins_61 : decode cX12_begins 61 = .ok (.iconst 0, 1) := by decide +kernel
theorem dX12_begins_62 : decode cX12_begins 62 = .ok (.putfield 76, 3) := by decide +kernel
theorem dX12_begins_65 : decode cX12_begins 65 = .ok (.aload_n 0, 1) := by decide +kernel
theorem dX12_begins_66 : decode cX12_begins 66 = .ok (.iconst 0, 1) := by decide +kernel
theorem dX12_begins_67 : decode cX12_begins 67 = .ok (.putfield 79, 3) := by decide +kernel
theorem dX12_begins_70 : decode cX12_begins 70 = .ok (.aload_n 0, 1) := by decide +kernel
theorem dX12_begins_71 : decode cX12_begins 71 = .ok (.iconst 0, 1) := by decide +kernel
theorem dX12_begins_72 : decode cX12_begins 72 = .ok (.putfield 82, 3) := by decide +kernel
theorem dX12_begins_75 : decode cX12_begins 75 = .ok (.aload_n 0, 1) := by decide +kernel
theorem dX12_begins_76 : decode cX12_begins 76 = .ok (.iconst 0, 1) := by decide +kernel
theorem dX12_begins_77 : decode cX12_begins 77 = .ok (.putfield 85, 3) := by decide +kernel
theorem dX12_begins_80 : decode cX12_begins 80 = .ok (.aload_n 0, 1) := by decide +kernel
theorem dX12_begins_81 : decode cX12_begins 81 = .ok (.aload_n 0, 1) := by decide +kernel
theorem dX12_begins_82 : decode cX12_begins 82 = .ok (.aload_n 0, 1) := by decide +kernel
theorem dX12_begins_83 : decode cX12_begins 83 = .ok (.getfield 16, 3) := by decide +kernel
theorem dX12_begins_86 : decode cX12_begins 86 = .ok (.iconst 1, 1) := by decide +kernel
theorem dX12_begins_87 : decode cX12_begins 87 = .ok (.invokevirtual 89, 3) := by decide +kernel
theorem dX12_begins_90 : decode cX12_begins 90 = .ok (.ifCond .ne 7, 3) := by decide +kernel
theorem dX12_begins_93 : decode cX12_begins 93 = .ok (.iconst 1, 1) := by decide +kernel
theorem dX12_begins_94 : decode cX12_begins 94 = .ok (.goto 4, 3) := by decide +kernel
theorem dX12_begins_97 : decode cX12_begins 97 = .ok (.iconst 0, 1) := by decide +kernel
theorem dX12_begins_98 : decode cX12_begins 98 = .ok (.putfield 85, 3) := by decide +kernel
theorem dX12_begins_101 : decode cX12_begins 101 = .ok (.return_, 1) := by decide +kernel
set_option maxRecDepth 20000 in
theorem ggX12_append_X12_may : GoodIn wsX12_append wsX12_may := goodIn_r _ [8, 1, 9, 10, 11, 12, 13, 14, 15, 16, 17, 18, 19, 20, 21, 22, 23, 24, 25, 26, 27, 28, 29, 30, 31, 32, 33, 34, 35, 36, 37, 38, 39, 40] (by decide +kernel) (by decide +kernel)
set_option maxRecDepth 20000 in
theorem gX12_append_X12_may : GoodIn wsX12_append (wsV RX12 96 RX12 yX12_may wsX12_may) := goodIn_app (goodIn_of _ (by decide +kernel)) ggX12_append_X12_may
theorem dX12_append_0 : decode cX12_append 0 = .ok (.aload_n 0, 1) := by decide +kernel
theorem dX12_append_1 : decode cX12_append 1 = .ok (.iconst 0, 1) := by decide +kernel
theorem dX12_append_2 : decode cX12_append 2 = .ok (.putfield 70, 3) := by decide +kernel
theorem dX12_append_5 : decode cX12_append 5 = .ok (.aload_n 0, 1) := by decide +kernel
theorem dX12_append_6 : decode cX12_append 6 = .ok (.aload_n 0, 1) := by decide +kernel
theorem dX12_append_7 : decode cX12_append 7 = .ok (.getfield 93, 3) := by decide +kernel
theorem dX12_append_10 : decode cX12_append 10 = .ok (.bipush 20, 2) := by decide +kernel
theorem dX12_append_12 : decode cX12_append 12 = .ok (.iadd, 1) := by decide +kernel
theorem dX12_append_13 : decode cX12_append 13 = .ok (.sipush 600, 3) := by decide +kernel
theorem dX12_append_16 : decode cX12_append 16 = .ok (.if_icmp .gt 7, 3) := by decide +kernel
theorem dX12_append_19 : decode cX12_append 19 = .ok (.iconst 1, 1) := by decide +kernel
theorem dX12_append_20 : decode cX12_append 20 = .ok (.goto 4, 3) := by decide +kernel
theorem dX12_append_23 : decode cX12_append 23 = .ok (.iconst 0, 1) := by decide +kernel
theorem dX12_append_24 : decode cX12_append 24 = .ok (.iconst 1, 1) := by decide +kernel
theorem dX12_append_25 : decode cX12_append 25 = .ok (.invokevirtual 96, 3) := by decide +kernel
theorem dX12_append_28 : decode cX12_append 28 = .ok (.ifCond .ne 5, 3) := by decide +kernel
theorem dX12_append_31 : decode cX12_append 31 = .ok (.iconst 0, 1) := by decide +kernel
theorem dX12_append_32 : decode cX12_append 32 = .ok (.ireturn, 1) := by decide +kernel
theorem dX12_append_33 : decode cX12_append 33 = .ok (.iconst 0, 1) := by decide +kernel
theorem dX12_append_34 : decode cX12_append 34 = .ok (.istore 6, 2) := by decide +kernel
theorem dX12_append_36 : decode cX12_append 36 = .ok (.iload 6, 2) := by decide +kernel
theorem dX12_append_38 : decode cX12_append 38 = .ok (.bipush 20, 2) := by decide +kernel
theorem dX12_append_40 : decode cX12_append 40 = .ok (.if_icmp .ge 86, 3) := by decide +kernel
theorem dX12_append_43 : decode cX12_append 43 = .ok (.iload 6, 2) := by decide +kernel
theorem dX12_append_45 : decode cX12_append 45 = .ok (.iconst 4, 1) := by decide +kernel
theorem dX12_append_46 : decode cX12_append 46 = .ok (.if_icmp .ge 7, 3) := by decide +kernel
theorem dX12_append_49 : decode cX12_append 49 = .ok (.iload_n 1, 1) := by decide +kernel
theorem dX12_append_50 : decode cX12_append 50 = .ok (.goto 39, 3) := by decide +kernel
theorem dX12_append_53 : decode cX12_append 53 = .ok (.iload 6, 2) := by decide +kernel
theorem dX12_append_55 : decode cX12_append 55 = .ok (.bipush 8, 2) := by decide +kernel
theorem dX12_append_57 : decode cX12_append 57 = .ok (.if_icmp .ge 7, 3) := by decide +kernel
theorem dX12_append_60 : decode cX12_append 60 = .ok (.iload_n 2, 1) := by decide +kernel
theorem dX12_append_61 : decode cX12_append 61 = .ok (.goto 28, 3) := by decide +kernel
theorem dX12_append_64 : decode cX12_append 64 = .ok (.iload 6, 2) := by decide +kernel
theorem dX12_append_66 : decode cX12_append 66 = .ok (.bipush 12, 2) := by decide +kernel
theorem dX12_append_68 : decode cX12_append 68 = .ok (.if_icmp .ge 7, 3) := by decide +kernel
theorem dX12_append_71 : decode cX12_append 71 = .ok (.iload_n 3, 1) := by decide +kernel
theorem dX12_append_72 : decode cX12_append 72 = .ok (.goto 17, 3) := by decide +kernel
theorem dX12_append_75 : decode cX12_append 75 = .ok (.iload 6, 2) := by decide +kernel
theorem dX12_append_77 : decode cX12_append 77 = .ok (.bipush 16, 2) := by decide +kernel
theorem dX12_append_79 : decode cX12_append 79 = .ok (.if_icmp .ge 8, 3) := by decide +kernel
theorem dX12_append_82 : decode cX12_append 82 = .ok (.iload 4, 2) := by decide +kernel
theorem dX12_append_84 : decode cX12_append 84 = .ok (.goto 5, 3) := by decide +kernel
theorem dX12_append_87 : decode cX12_append 87 = .ok (.iload 5, 2) := by decide +kernel
theorem dX12_append_89 : decode cX12_append 89 = .ok (.istore 7, 2) := by decide +kernel
theorem dX12_append_91 : decode cX12_append 91 = .ok (.aload_n 0, 1) := by decide +kernel
theorem dX12_append_92 : decode cX12_append 92 = .ok (.getfield 28, 3) := by decide +kernel
theorem dX12_append_95 : decode cX12_append 95 = .ok (.aload_n 0, 1) := by decide +kernel
theorem dX12_append_96 : decode cX12_append 96 = .ok (.getfield 93, 3) := by decide +kernel
theorem dX12_append_99 : decode cX12_append 99 = .ok (.iload 6, 2) := by decide +kernel
theorem dX12_append_101 : decode cX12_append 101 = .ok (.iadd, 1) := by decide +kernel
theorem dX12_append_102 : decode cX12_append 102 = .ok (.iload 7, 2) := by decide +kernel
theorem dX12_append_104 : decode cX12_append 104 = .ok (.bipush 24, 2) := by decide +kernel
theorem dX12_append_106 : decode cX12_append 106 = .ok (.bipush 8, 2) := by decide +kernel
theorem dX12_append_108 : decode cX12_append 108 = .ok (.iload 6, 2) := by decide +kernel
theorem dX12_append_110 : decode cX12_append 110 = .ok (.iconst 4, 1) := by decide +kernel
theorem dX12_append_111 : decode cX12_append 111 = .ok (.irem, 1) := by decide +kernel
theorem dX12_append_112 : decode cX12_append 112 = .ok (.imul, 1) := by decide +kernel
theorem dX12_append_113 : decode cX12_append 113 = .ok (.isub, 1) := by decide +kernel
theorem dX12_append_114 : decode cX12_append 114 = .ok (.ishr, 1) := by decide +kernel
theorem dX12_append_115 : decode cX12_append 115 = .ok (.sipush 255, 3) := by decide +kernel
theorem dX12_append_118 : decode cX12_append 118 = .ok (.iand, 1) := by decide +kernel
theorem dX12_append_119 : decode cX12_append 119 = .ok (.iastore, 1) := by decide +kernel
theorem dX12_append_120 : decode cX12_append 120 = .ok (.iinc 6 1, 3) := by decide +kernel
theorem dX12_append_123 : decode cX12_append 123 = .ok (.goto (-87), 3) := by decide +kernel
theorem dX12_append_126 : decode cX12_append 126 = .ok (.aload_n 0, 1) := by decide +kernel
theorem dX12_append_127 : decode cX12_append 127 = .ok (.dup, 1) := by decide +kernel
theorem dX12_append_128 : decode cX12_append 128 = .ok (.getfield 93, 3) := by decide +kernel
theorem dX12_append_131 : decode cX12_append 131 = .ok (.bipush 20, 2) := by decide +kernel
theorem dX12_append_133 : decode cX12_append 133 = .ok (.iadd, 1) := by decide +kernel
theorem dX12_append_134 : decode cX12_append 134 = .ok (.putfield 93, 3) := by decide +kernel
theorem dX12_append_137 : decode cX12_append 137 = .ok (.aload_n 0, 1) := by decide +kernel
theorem dX12_append_138 : decode cX12_append 138 = .ok (.getfield 93, 3) := by decide +kernel
theorem dX12_append_141 : decode cX12_append 141 = .ok (.ireturn, 1) := by decide +kernel
set_option maxRecDepth 20000 in
theorem ggX12_truncate_X12_isIn : GoodIn wsX12_truncate wsX12_isIn := goodIn_r _ [6] (by decide +kernel) (by decide +kernel)
set_option maxRecDepth 20000 in
theorem gX12_truncate_X12_isIn : GoodIn wsX12_truncate (va_wsS RX12 100 yX12_isIn wsX12_isIn) := goodIn_app (goodIn_of _ (by decide +kernel)) ggX12_truncate_X12_isIn
set_option maxRecDepth 20000 in
theorem ggX12_truncate_X12_may : GoodIn wsX12_truncate wsX12_may := goodIn_r _ [10, 1, 11, 12, 13, 14, 15, 16, 17, 18, 19, 20, 21, 22, 23, 24, 25, 26, 27, 28, 29, 30, 31, 32, 33, 34, 35, 36, 37, 38, 39, 40, 41, 42] (by decide +kernel) (by decide +kernel)
set_option maxRecDepth 20000 in
theorem gX12_truncate_X12_may : GoodIn wsX12_truncate (wsV RX12 96 RX12 yX12_may wsX12_may) := goodIn_app (goodIn_of _ (by decide +kernel)) ggX12_truncate_X12_may
theorem dX12_truncate_0 : decode cX12_truncate 0 = .ok (.aload_n 0, 1) := by decide +kernel
theorem dX12_truncate_1 : decode cX12_truncate 1 = .ok (.iconst 0, 1) := by decide +kernel
theorem dX12_truncate_2 : decode cX12_truncate 2 = .ok (.putfield 70, 3) := by decide +kernel
theorem dX12_truncate_5 : decode cX12_truncate 5 = .ok (.aload_n 0, 1) := by decide +kernel
theorem dX12_truncate_6 : decode cX12_truncate 6 = .ok (.iload_n 1, 1) := by decide +kernel
theorem dX12_truncate_7 : decode cX12_truncate 7 = .ok (.iconst 0, 1) := by decide +kernel
theorem dX12_truncate_8 : decode cX12_truncate 8 = .ok (.aload_n 0, 1) := by decide +kernel
theorem dX12_truncate_9 : decode cX12_truncate 9 = .ok (.getfield 93, 3) := by decide +kernel
theorem dX12_truncate_12 : decode cX12_truncate 12 = .ok (.invokestatic 100, 3) := by decide +kernel
theorem dX12_truncate_15 : decode cX12_truncate 15 = .ok (.iconst 1, 1) := by decide +kernel
theorem dX12_truncate_16 : decode cX12_truncate 16 = .ok (.invokevirtual 96, 3) := by decide +kernel
theorem dX12_truncate_19 : decode cX12_truncate 19 = .ok (.ifCond .ne 5, 3) := by decide +kernel
theorem dX12_truncate_22 : decode cX12_truncate 22 = .ok (.iconst 0, 1) := by decide +kernel
theorem dX12_truncate_23 : decode cX12_truncate 23 = .ok (.ireturn, 1) := by decide +kernel
theorem dX12_truncate_24 : decode cX12_truncate 24 = .ok (.aload_n 0, 1) := by decide +kernel
theorem dX12_truncate_25 : decode cX12_truncate 25 = .ok (.iload_n 1, 1) := by decide +kernel
theorem dX12_truncate_26 : decode cX12_truncate 26 = .ok (.putfield 93, 3) := by decide +kernel
theorem dX12_truncate_29 : decode cX12_truncate 29 = .ok (.iload_n 1, 1) := by decide +kernel
theorem dX12_truncate_30 : decode cX12_truncate 30 = .ok (.ireturn, 1) := by decide +kernel
theorem dX12_at_0 : decode cX12_at 0 = .ok (.iload_n 1, 1) := by decide +kernel
theorem dX12_at_1 : decode cX12_at 1 = .ok (.aload_n 0, 1) := by decide +kernel
theorem dX12_at_2 : decode cX12_at 2 = .ok (.getfield 104, 3) := by decide +kernel
theorem dX12_at_5 : decode cX12_at 5 = .ok (.if_icmp .ge 12, 3) := by decide +kernel
theorem dX12_at_8 : decode cX12_at 8 = .ok (.aload_n 0, 1) := by decide +kernel
theorem dX12_at_9 : decode cX12_at 9 = .ok (.getfield 28, 3) := by decide +kernel
theorem dX12_at_12 : decode cX12_at 12 = .ok (.iload_n 1, 1) := by decide +kernel
theorem dX12_at_13 : decode cX12_at 13 = .ok (.iaload, 1) := by decide +kernel
theorem dX12_at_14 : decode cX12_at 14 = .ok (.goto 4, 3) := by decide +kernel
theorem dX12_at_17 : decode cX12_at 17 = .ok (.iconst (-1), 1) := by decide +kernel
theorem dX12_at_18 : decode cX12_at 18 = .ok (.ireturn, 1) := by decide +kernel
theorem dX12_isLetter_0 : decode cX12_isLetter 0 = .ok (.iload_n 0, 1) := by decide +kernel
theorem dX12_isLetter_1 : decode cX12_isLetter 1 = .ok (.bipush 97, 2) := by decide +kernel
theorem dX12_isLetter_3 : decode cX12_isLetter 3 = .ok (.if_icmp .lt 13, 3) := by decide +kernel
theorem dX12_isLetter_6 : decode cX12_isLetter 6 = .ok (.iload_n 0, 1) := by decide +kernel
theorem dX12_isLetter_7 : decode cX12_isLetter 7 = .ok (.bipush 122, 2) := by decide +kernel
theorem dX12_isLetter_9 : decode cX12_isLetter 9 = .ok (.if_icmp .gt 7, 3) := by decide +kernel
theorem dX12_isLetter_12 : decode cX12_isLetter 12 = .ok (.iconst 1, 1) := by decide +kernel
theorem dX12_isLetter_13 : decode cX12_isLetter 13 = .ok (.goto 4, 3) := by decide +kernel
theorem dX12_isLetter_16 : decode cX12_isLetter 16 = .ok (.iconst 0, 1) := by decide +kernel
theorem dX12_isLetter_17 : decode cX12_isLetter 17 = .ok (.ireturn, 1) := by decide +kernel
theorem dX12_isDigit_0 : decode cX12_isDigit 0 = .ok (.iload_n 0, 1) := by decide +kernel
theorem dX12_isDigit_1 : decode cX12_isDigit 1 = .ok (.bipush 48, 2) := by decide +kernel
theorem dX12_isDigit_3 : decode cX12_isDigit 3 = .ok (.if_icmp .lt 13, 3) := by decide +kernel
theorem dX12_isDigit_6 : decode cX12_isDigit 6 = .ok (.iload_n 0, 1) := by decide +kernel
theorem dX12_isDigit_7 : decode cX12_isDigit 7 = .ok (.bipush 57, 2) := by decide +kernel
theorem dX12_isDigit_9 : decode cX12_isDigit 9 = .ok (.if_icmp .gt 7, 3) := by decide +kernel
theorem dX12_isDigit_12 : decode cX12_isDigit 12 = .ok (.iconst 1, 1) := by decide +kernel
theorem dX12_isDigit_13 : decode cX12_isDigit 13 = .ok (.goto 4, 3) := by decide +kernel
theorem dX12_isDigit_16 : decode cX12_isDigit 16 = .ok (.iconst 0, 1) := by decide +kernel
theorem dX12_isDigit_17 : decode cX12_isDigit 17 = .ok (.ireturn, 1) := by decide +kernel
set_option maxRecDepth 20000 in
theorem ggX12_token_X12_at : GoodIn wsX12_token wsX12_at := goodIn_r _ [12, 13, 14, 21, 22, 23, 24, 25, 26, 27, 28, 29, 30, 31, 32, 33, 34, 35, 36, 37, 38, 39, 40, 41, 42, 43, 44, 45, 46, 47, 48, 49, 50, 51, 52] (by decide +kernel) (by decide +kernel)
set_option maxRecDepth 20000 in
theorem gX12_token_X12_at : GoodIn wsX12_token (wsV RX12 110 RX12 yX12_at wsX12_at) := goodIn_app (goodIn_of _ (by decide +kernel)) ggX12_token_X12_at
set_option maxRecDepth 20000 in
theorem ggX12_token_X12_isLetter : GoodIn wsX12_token wsX12_isLetter := goodIn_r _ [17] (by decide +kernel) (by decide +kernel)
set_option maxRecDepth 20000 in
theorem gX12_token_X12_isLetter : GoodIn wsX12_token (va_wsS RX12 120 yX12_isLetter wsX12_isLetter) := goodIn_app (goodIn_of _ (by decide +kernel)) ggX12_token_X12_isLetter
set_option maxRecDepth 20000 in
theorem ggX12_token_X12_isDigit : GoodIn wsX12_token wsX12_isDigit := goodIn_r _ [20] (by decide +kernel) (by decide +kernel)
set_option maxRecDepth 20000 in
theorem gX12_token_X12_isDigit : GoodIn wsX12_token (va_wsS RX12 132 yX12_isDigit wsX12_isDigit) := goodIn_app (goodIn_of _ (by decide +kernel)) ggX12_token_X12_isDigit
theorem dX12_token_0 : decode cX12_token 0 = .ok (.aload_n 0, 1) := by decide +kernel
theorem dX12_token_1 : decode cX12_token 1 = .ok (.aload_n 0, 1) := by decide +kernel
theorem dX12_token_2 : decode cX12_token 2 = .ok (.getfield 107, 3) := by decide +kernel
theorem dX12_token_5 : decode cX12_token 5 = .ok (.invokevirtual 110, 3) := by decide +kernel
theorem dX12_token_8 : decode cX12_token 8 = .ok (.bipush 10, 2) := by decide +kernel
theorem dX12_token_10 : decode cX12_token 10 = .ok (.if_icmp .eq 16, 3) := by decide +kernel
theorem dX12_token_13 : decode cX12_token 13 = .ok (.aload_n 0, 1) := by decide +kernel
theorem dX12_token_14 : decode cX12_token 14 = .ok (.aload_n 0, 1) := by decide +kernel
theorem dX12_token_15 : decode cX12_token 15 = .ok (.getfield 107, 3) := by decide +kernel
theorem dX12_token_18 : decode cX12_token 18 = .ok (.invokevirtual 110, 3) := by decide +kernel
theorem dX12_token_21 : decode cX12_token 21 = .ok (.bipush 32, 2) := by decide +kernel
theorem dX12_token_23 : decode cX12_token 23 = .ok (.if_icmp .ne 16, 3) := by decide +kernel
theorem dX12_token_26 : decode cX12_token 26 = .ok (.aload_n 0, 1) := by decide +kernel
theorem dX12_token_27 : decode cX12_token 27 = .ok (.dup, 1) := by decide +kernel
theorem dX12_token_28 : decode cX12_token 28 = .ok (.getfield 107, 3) := by decide +kernel
theorem dX12_token_31 : decode cX12_token 31 = .ok (.iconst 1, 1) := by decide +kernel
theorem dX12_token_32 : decode cX12_token 32 = .ok (.iadd, 1) := by decide +kernel
theorem dX12_token_33 : decode cX12_token 33 = .ok (.putfield 107, 3) := by decide +kernel
theorem dX12_token_36 : decode cX12_token 36 = .ok (.goto (-36), 3) := by decide +kernel
theorem dX12_token_39 : decode cX12_token 39 = .ok (.aload_n 0, 1) := by decide +kernel
theorem dX12_token_40 : decode cX12_token 40 = .ok (.aload_n 0, 1) := by decide +kernel
theorem dX12_token_41 : decode cX12_token 41 = .ok (.getfield 107, 3) := by decide +kernel
theorem dX12_token_44 : decode cX12_token 44 = .ok (.putfield 114, 3) := by decide +kernel
theorem dX12_token_47 : decode cX12_token 47 = .ok (.aload_n 0, 1) := by decide +kernel
theorem dX12_token_48 : decode cX12_token 48 = .ok (.aload_n 0, 1) := by decide +kernel
theorem dX12_token_49 : decode cX12_token 49 = .ok (.getfield 107, 3) := by decide +kernel
theorem dX12_token_52 : decode cX12_token 52 = .ok (.invokevirtual 110, 3) := by decide +kernel
theorem dX12_token_55 : decode cX12_token 55 = .ok (.istore_n 1, 1) := by decide +kernel
theorem dX12_token_56 : decode cX12_token 56 = .ok (.iload_n 1, 1) := by decide +kernel
theorem dX12_token_57 : decode cX12_token 57 = .ok (.iconst (-1), 1) := by decide +kernel
theorem dX12_token_58 : decode cX12_token 58 = .ok (.if_icmp .ne 11, 3) := by decide +kernel
theorem dX12_token_61 : decode cX12_token 61 = .ok (.aload_n 0, 1) := by decide +kernel
theorem dX12_token_62 : decode cX12_token 62 = .ok (.iconst 0, 1) := by decide +kernel
theorem dX12_token_63 : decode cX12_token 63 = .ok (.putfield 117, 3) := by decide +kernel
theorem dX12_token_66 : decode cX12_token 66 = .ok (.goto 215, 3) := by decide +kernel
theorem dX12_token_69 : decode cX12_token 69 = .ok (.iload_n 1, 1) := by decide +kernel
theorem dX12_token_70 : decode cX12_token 70 = .ok (.invokestatic 120, 3) := by decide +kernel
theorem dX12_token_73 : decode cX12_token 73 = .ok (.ifCond .eq 83, 3) := by decide +kernel
theorem dX12_token_76 : decode cX12_token 76 = .ok (.aload_n 0, 1) := by decide +kernel
theorem dX12_token_77 : decode cX12_token 77 = .ok (.lconst 0, 1) := by decide +kernel
theorem dX12_token_78 : decode cX12_token 78 = .ok (.putfield 124, 3) := by decide +kernel
theorem dX12_token_81 : decode cX12_token 81 = .ok (.aload_n 0, 1) := by decide +kernel
theorem dX12_token_82 : decode cX12_token 82 = .ok (.aload_n 0, 1) := by decide +kernel
theorem dX12_token_83 : decode cX12_token 83 = .ok (.getfield 107, 3) := by decide +kernel
theorem dX12_token_86 : decode cX12_token 86 = .ok (.invokevirtual 110, 3) := by decide +kernel
theorem dX12_token_89 : decode cX12_token 89 = .ok (.invokestatic 120, 3) := by decide +kernel
theorem dX12_token_92 : decode cX12_token 92 = .ok (.ifCond .eq 56, 3) := by decide +kernel
theorem dX12_token_95 : decode cX12_token 95 = .ok (.aload_n 0, 1) := by decide +kernel
theorem dX12_token_96 : decode cX12_token 96 = .ok (.getfield 107, 3) := by decide +kernel
theorem dX12_token_99 : decode cX12_token 99 = .ok (.aload_n 0, 1) := by decide +kernel
theorem dX12_token_100 : decode cX12_token 100 = .ok (.getfield 114, 3) := by decide +kernel
theorem dX12_token_103 : decode cX12_token 103 = .ok (.isub, 1) := by decide +kernel
theorem dX12_token_104 : decode cX12_token 104 = .ok (.bipush 6, 2) := by decide +kernel
theorem dX12_token_106 : decode cX12_token 106 = .ok (.if_icmp .ge 29, 3) := by decide +kernel
theorem dX12_token_109 : decode cX12_token 109 = .ok (.aload_n 0, 1) := by decide +kernel
theorem dX12_token_110 : decode cX12_token 110 = .ok (.ldc2_w 128, 3) := by decide +kernel
theorem dX12_token_113 : decode cX12_token 113 = .ok (.aload_n 0, 1) := by decide +kernel
theorem dX12_token_114 : decode cX12_token 114 = .ok (.getfield 124, 3) := by decide +kernel
theorem dX12_token_117 : decode cX12_token 117 = .ok (.lmul, 1) := by decide +kernel
theorem dX12_token_118 : decode cX12_token 118 = .ok (.aload_n 0, 1) := by decide +kernel
theorem dX12_token_119 : decode cX12_token 119 = .ok (.aload_n 0, 1) := by decide +kernel
theorem dX12_token_120 : decode cX12_token 120 = .ok (.getfield 107, 3) := by decide +kernel
theorem dX12_token_123 : decode cX12_token 123 = .ok (.invokevirtual 110, 3) := by decide +kernel
theorem dX12_token_126 : decode cX12_token 126 = .ok (.i2l, 1) := by decide +kernel
theorem dX12_token_127 : decode cX12_token 127 = .ok (.ladd, 1) := by decide +kernel
theorem dX12_token_128 : decode cX12_token 128 = .ok (.ldc2_w 130, 3) := by decide +kernel
theorem dX12_token_131 : decode cX12_token 131 = .ok (.lsub, 1) := by decide +kernel
theorem dX12_token_132 : decode cX12_token 132 = .ok (.putfield 124, 3) := by decide +kernel
theorem dX12_token_135 : decode cX12_token 135 = .ok (.aload_n 0, 1) := by decide +kernel
theorem dX12_token_136 : decode cX12_token 136 = .ok (.dup, 1) := by decide +kernel
theorem dX12_token_137 : decode cX12_token 137 = .ok (.getfield 107, 3) := by decide +kernel
theorem dX12_token_140 : decode cX12_token 140 = .ok (.iconst 1, 1) := by decide +kernel
theorem dX12_token_141 : decode cX12_token 141 = .ok (.iadd, 1) := by decide +kernel
theorem dX12_token_142 : decode cX12_token 142 = .ok (.putfield 107, 3) := by decide +kernel
theorem dX12_token_145 : decode cX12_token 145 = .ok (.goto (-64), 3) := by decide +kernel
theorem dX12_token_148 : decode cX12_token 148 = .ok (.aload_n 0, 1) := by decide +kernel
theorem dX12_token_149 : decode cX12_token 149 = .ok (.iconst 1, 1) := by decide +kernel
theorem dX12_token_150 : decode cX12_token 150 = .ok (.putfield 117, 3) := by decide +kernel
theorem dX12_token_153 : decode cX12_token 153 = .ok (.goto 128, 3) := by decide +kernel
theorem dX12_token_156 : decode cX12_token 156 = .ok (.iload_n 1, 1) := by decide +kernel
theorem dX12_token_157 : decode cX12_token 157 = .ok (.invokestatic 132, 3) := by decide +kernel
theorem dX12_token_160 : decode cX12_token 160 = .ok (.ifCond .eq 96, 3) := by decide +kernel
theorem dX12_token_163 : decode cX12_token 163 = .ok (.aload_n 0, 1) := by decide +kernel
theorem dX12_token_164 : decode cX12_token 164 = .ok (.iconst 0, 1) := by decide +kernel
theorem dX12_token_165 : decode cX12_token 165 = .ok (.putfield 135, 3) := by decide +kernel
theorem dX12_token_168 : decode cX12_token 168 = .ok (.aload_n 0, 1) := by decide +kernel
theorem dX12_token_169 : decode cX12_token 169 = .ok (.aload_n 0, 1) := by decide +kernel
theorem dX12_token_170 : decode cX12_token 170 = .ok (.getfield 107, 3) := by decide +kernel
theorem dX12_token_173 : decode cX12_token 173 = .ok (.invokevirtual 110, 3) := by decide +kernel
theorem dX12_token_176 : decode cX12_token 176 = .ok (.invokestatic 132, 3) := by decide +kernel
theorem dX12_token_179 : decode cX12_token 179 = .ok (.ifCond .eq 52, 3) := by decide +kernel
theorem dX12_token_182 : decode cX12_token 182 = .ok (.aload_n 0, 1) := by decide +kernel
theorem dX12_token_183 : decode cX12_token 183 = .ok (.getfield 107, 3) := by decide +kernel
theorem dX12_token_186 : decode cX12_token 186 = .ok (.aload_n 0, 1) := by decide +kernel
theorem dX12_token_187 : decode cX12_token 187 = .ok (.getfield 114, 3) := by decide +kernel
theorem dX12_token_190 : decode cX12_token 190 = .ok (.isub, 1) := by decide +kernel
theorem dX12_token_191 : decode cX12_token 191 = .ok (.iconst 2, 1) := by decide +kernel
theorem dX12_token_192 : decode cX12_token 192 = .ok (.if_icmp .ge 26, 3) := by decide +kernel
theorem dX12_token_195 : decode cX12_token 195 = .ok (.aload_n 0, 1) := by decide +kernel
theorem dX12_token_196 : decode cX12_token 196 = .ok (.bipush 10, 2) := by decide +kernel
theorem dX12_token_198 : decode cX12_token 198 = .ok (.aload_n 0, 1) := by decide +kernel
theorem dX12_token_199 : decode cX12_token 199 = .ok (.getfield 135, 3) := by decide +kernel
theorem dX12_token_202 : decode cX12_token 202 = .ok (.imul, 1) := by decide +kernel
theorem dX12_token_203 : decode cX12_token 203 = .ok (.aload_n 0, 1) := by decide +kernel
theorem dX12_token_204 : decode cX12_token 204 = .ok (.aload_n 0, 1) := by decide +kernel
theorem dX12_token_205 : decode cX12_token 205 = .ok (.getfield 107, 3) := by decide +kernel
theorem dX12_token_208 : decode cX12_token 208 = .ok (.invokevirtual 110, 3) := by decide +kernel
theorem dX12_token_211 : decode cX12_token 211 = .ok (.iadd, 1) := by decide +kernel
theorem dX12_token_212 : decode cX12_token 212 = .ok (.bipush 48, 2) := by decide +kernel
theorem dX12_token_214 : decode cX12_token 214 = .ok (.isub, 1) := by decide +kernel
theorem dX12_token_215 : decode cX12_token 215 = .ok (.putfield 135, 3) := by decide +kernel
theorem dX12_token_218 : decode cX12_token 218 = .ok (.aload_n 0, 1) := by decide +kernel
theorem dX12_token_219 : decode cX12_token 219 = .ok (.dup, 1) := by decide +kernel
theorem dX12_token_220 : decode cX12_token 220 = .ok (.getfield 107, 3) := by decide +kernel
theorem dX12_token_223 : decode cX12_token 223 = .ok (.iconst 1, 1) := by decide +kernel
theorem dX12_token_224 : decode cX12_token 224 = .ok (.iadd, 1) := by decide +kernel
theorem dX12_token_225 : decode cX12_token 225 = .ok (.putfield 107, 3) := by decide +kernel
theorem dX12_token_228 : decode cX12_token 228 = .ok (.goto (-60), 3) := by decide +kernel
theorem dX12_token_231 : decode cX12_token 231 = .ok (.aload_n 0, 1) := by decide +kernel
theorem dX12_token_232 : decode cX12_token 232 = .ok (.aload_n 0, 1) := by decide +kernel
theorem dX12_token_233 : decode cX12_token 233 = .ok (.getfield 107, 3) := by decide +kernel
theorem dX12_token_236 : decode cX12_token 236 = .ok (.aload_n 0, 1) := by decide +kernel
theorem dX12_token_237 : decode cX12_token 237 = .ok (.getfield 114, 3) := by decide +kernel
theorem dX12_token_240 : decode cX12_token 240 = .ok (.isub, 1) := by decide +kernel
theorem dX12_token_241 : decode cX12_token 241 = .ok (.iconst 2, 1) := by decide +kernel
theorem dX12_token_242 : decode cX12_token 242 = .ok (.if_icmp .le 7, 3) := by decide +kernel
theorem dX12_token_245 : decode cX12_token 245 = .ok (.iconst 4, 1) := by decide +kernel
theorem dX12_token_246 : decode cX12_token 246 = .ok (.goto 4, 3) := by decide +kernel
theorem dX12_token_249 : decode cX12_token 249 = .ok (.iconst 2, 1) := by decide +kernel
theorem dX12_token_250 : decode cX12_token 250 = .ok (.putfield 117, 3) := by decide +kernel
theorem dX12_token_253 : decode cX12_token 253 = .ok (.goto 28, 3) := by decide +kernel
theorem dX12_token_256 : decode cX12_token 256 = .ok (.aload_n 0, 1) := by decide +kernel
theorem dX12_token_257 : decode cX12_token 257 = .ok (.dup, 1) := by decide +kernel
theorem dX12_token_258 : decode cX12_token 258 = .ok (.getfield 107, 3) := by decide +kernel
theorem dX12_token_261 : decode cX12_token 261 = .ok (.iconst 1, 1) := by decide +kernel
theorem dX12_token_262 : decode cX12_token 262 = .ok (.iadd, 1) := by decide +kernel
theorem dX12_token_263 : decode cX12_token 263 = .ok (.putfield 107, 3) := by decide +kernel
theorem dX12_token_266 : decode cX12_token 266 = .ok (.aload_n 0, 1) := by decide +kernel
theorem dX12_token_267 : decode cX12_token 267 = .ok (.iload_n 1, 1) := by decide +kernel
theorem dX12_token_268 : decode cX12_token 268 = .ok (.bipush 59, 2) := by decide +kernel
theorem dX12_token_270 : decode cX12_token 270 = .ok (.if_icmp .ne 7, 3) := by decide +kernel
theorem dX12_token_273 : decode cX12_token 273 = .ok (.iconst 3, 1) := by decide +kernel
theorem dX12_token_274 : decode cX12_token 274 = .ok (.goto 4, 3) := by decide +kernel
theorem dX12_token_277 : decode cX12_token 277 = .ok (.iconst 4, 1) := by decide +kernel
theorem dX12_token_278 : decode cX12_token 278 = .ok (.putfield 117, 3) := by decide +kernel
theorem dX12_token_281 : decode cX12_token 281 = .ok (.return_, 1) := by decide +kernel
theorem dX12_isWrong_0 : decode cX12_isWrong 0 = .ok (.aload_n 0, 1) := by decide +kernel
theorem dX12_isWrong_1 : decode cX12_isWrong 1 = .ok (.getfield 138, 3) := by decide +kernel
theorem dX12_isWrong_4 : decode cX12_isWrong 4 = .ok (.ifCond .eq 7, 3) := by decide +kernel
theorem dX12_isWrong_7 : decode cX12_isWrong 7 = .ok (.iconst 1, 1) := by decide +kernel
theorem dX12_isWrong_8 : decode cX12_isWrong 8 = .ok (.goto 4, 3) := by decide +kernel
theorem dX12_isWrong_11 : decode cX12_isWrong 11 = .ok (.iconst 0, 1) := by decide +kernel
theorem dX12_isWrong_12 : decode cX12_isWrong 12 = .ok (.ireturn, 1) := by decide +kernel
set_option maxRecDepth 20000 in
theorem ggX12_fails_X12_isWrong : GoodIn wsX12_fails wsX12_isWrong := goodIn_r _ [8, 1, 9, 10, 11, 12, 13, 14, 15, 16, 17, 18, 19, 20, 21, 22, 23, 24, 25, 26, 27, 28, 29, 30, 31, 32, 33, 34, 35, 36, 37, 38, 39, 40] (by decide +kernel) (by decide +kernel)
set_option maxRecDepth 20000 in
theorem gX12_fails_X12_isWrong : GoodIn wsX12_fails (wsV RX12 141 RX12 yX12_isWrong wsX12_isWrong) := goodIn_app (goodIn_of _ (by decide +kernel)) ggX12_fails_X12_isWrong
theorem dX12_fails_0 : decode cX12_fails 0 = .ok (.aload_n 0, 1) := by decide +kernel
theorem dX12_fails_1 : decode cX12_fails 1 = .ok (.invokevirtual 141, 3) := by decide +kernel
theorem dX12_fails_4 : decode cX12_fails 4 = .ok (.ifCond .eq 4, 3) := by decide +kernel
theorem dX12_fails_7 : decode cX12_fails 7 = .ok (.return_, 1) := by decide +kernel
theorem dX12_fails_8 : decode cX12_fails 8 = .ok (.aload_n 0, 1) := by decide +kernel
theorem dX12_fails_9 : decode cX12_fails 9 = .ok (.iload_n 1, 1) := by decide +kernel
theorem dX12_fails_10 : decode cX12_fails 10 = .ok (.putfield 138, 3) := by decide +kernel
theorem dX12_fails_13 : decode cX12_fails 13 = .ok (.aload_n 0, 1) := by decide +kernel
theorem dX12_fails_14 : decode cX12_fails 14 = .ok (.aload_n 0, 1) := by decide +kernel
theorem dX12_fails_15 : decode cX12_fails 15 = .ok (.getfield 114, 3) := by decide +kernel
theorem dX12_fails_18 : decode cX12_fails 18 = .ok (.putfield 31, 3) := by decide +kernel
theorem dX12_fails_21 : decode cX12_fails 21 = .ok (.return_, 1) := by decide +kernel
set_option maxRecDepth 20000 in
theorem ggX12_isWord_X12_isWrong : GoodIn wsX12_isWord wsX12_isWrong := goodIn_r _ [8, 9, 65, 66, 67, 68, 69, 70, 71, 72, 73, 74, 75, 76, 77, 78, 79, 80, 81, 82, 83, 84, 85, 86, 87, 88, 89, 90, 91, 92, 93, 94, 95, 96] (by decide +kernel) (by decide +kernel)
set_option maxRecDepth 20000 in
theorem gX12_isWord_X12_isWrong : GoodIn wsX12_isWord (wsV RX12 141 RX12 yX12_isWrong wsX12_isWrong) := goodIn_app (goodIn_of _ (by decide +kernel)) ggX12_isWord_X12_isWrong
set_option maxRecDepth 20000 in
theorem ggX12_isWord_J0_length_8abf5 : GoodIn wsX12_isWord wsJ0_length_8abf5 := goodIn_r _ [14, 15, 16, 17, 18, 13, 19, 20, 21] (by decide +kernel) (by decide +kernel)
set_option maxRecDepth 20000 in
theorem gX12_isWord_J0_length_8abf5 : GoodIn wsX12_isWord (wsV RX12 145 RJ0 yJ0_length_8abf5 wsJ0_length_8abf5) := goodIn_app (goodIn_of _ (by decide +kernel)) ggX12_isWord_J0_length_8abf5
set_option maxRecDepth 20000 in
theorem ggX12_isWord_X12_at : GoodIn wsX12_isWord wsX12_at := goodIn_r _ [25, 26, 27, 65, 66, 67, 68, 69, 70, 71, 72, 73, 74, 75, 76, 77, 78, 79, 80, 81, 82, 83, 84, 85, 86, 87, 88, 89, 90, 91, 92, 93, 94, 95, 96] (by decide +kernel) (by decide +kernel)
set_option maxRecDepth 20000 in
theorem gX12_isWord_X12_at : GoodIn wsX12_isWord (wsV RX12 110 RX12 yX12_at wsX12_at) := goodIn_app (goodIn_of _ (by decide +kernel)) ggX12_isWord_X12_at
set_option maxRecDepth 20000 in
theorem ggX12_isWord_J0_charAt_5068e : GoodIn wsX12_isWord wsJ0_charAt_5068e := goodIn_r _ [31, 15, 32, 33, 34, 13, 35, 20, 21, 36, 37, 38, 39, 40, 41, 42, 43, 44, 45, 46, 47, 48, 49, 50, 51, 52, 53, 54, 55, 56, 57, 58, 59, 60, 61, 62, 63, 64] (by decide +kernel) (by decide +kernel)
set_option maxRecDepth 20000 in
theorem gX12_isWord_J0_charAt_5068e : GoodIn wsX12_isWord (wsV RX12 151 RJ0 yJ0_charAt_5068e wsJ0_charAt_5068e) := goodIn_app (goodIn_of _ (by decide +kernel)) ggX12_isWord_J0_charAt_5068e
theorem dX12_isWord_0 : decode cX12_isWord 0 = .ok (.aload_n 0, 1) := by decide +kernel
theorem dX12_isWord_1 : decode cX12_isWord 1 = .ok (.invokevirtual 141, 3) := by decide +kernel
theorem dX12_isWord_4 : decode cX12_isWord 4 = .ok (.ifCond .ne 27, 3) := by decide +kernel
theorem dX12_isWord_7 : decode cX12_isWord 7 = .ok (.aload_n 0, 1) := by decide +kernel
theorem dX12_isWord_8 : decode cX12_isWord 8 = .ok (.getfield 117, 3) := by decide +kernel
theorem dX12_isWord_11 : decode cX12_isWord 11 = .ok (.iconst 1, 1) := by decide +kernel
theorem dX12_isWord_12 : decode cX12_isWord 12 = .ok (.if_icmp .ne 19, 3) := by decide +kernel
theorem dX12_isWord_15 : decode cX12_isWord 15 = .ok (.aload_n 0, 1) := by decide +kernel
theorem dX12_isWord_16 : decode cX12_isWord 16 = .ok (.getfield 107, 3) := by decide +kernel
theorem dX12_isWord_19 : decode cX12_isWord 19 = .ok (.aload_n 0, 1) := by decide +kernel
theorem dX12_isWord_20 : decode cX12_isWord 20 = .ok (.getfield 114, 3) := by decide +kernel
theorem dX12_isWord_23 : decode cX12_isWord 23 = .ok (.isub, 1) := by decide +kernel
theorem dX12_isWord_24 : decode cX12_isWord 24 = .ok (.aload_n 1, 1) := by decide +kernel
theorem dX12_isWord_25 : decode cX12_isWord 25 = .ok (.invokevirtual 145, 3) := by decide +kernel
theorem dX12_isWord_28 : decode cX12_isWord 28 = .ok (.if_icmp .eq 5, 3) := by decide +kernel
theorem dX12_isWord_31 : decode cX12_isWord 31 = .ok (.iconst 0, 1) := by decide +kernel
theorem dX12_isWord_32 : decode cX12_isWord 32 = .ok (.ireturn, 1) := by decide +kernel
theorem dX12_isWord_33 : decode cX12_isWord 33 = .ok (.iconst 0, 1) := by decide +kernel
theorem dX12_isWord_34 : decode cX12_isWord 34 = .ok (.istore_n 2, 1) := by decide +kernel
theorem dX12_isWord_35 : decode cX12_isWord 35 = .ok (.iload_n 2, 1) := by decide +kernel
theorem dX12_isWord_36 : decode cX12_isWord 36 = .ok (.aload_n 1, 1) := by decide +kernel
theorem dX12_isWord_37 : decode cX12_isWord 37 = .ok (.invokevirtual 145, 3) := by decide +kernel
theorem dX12_isWord_40 : decode cX12_isWord 40 = .ok (.if_icmp .ge 29, 3) := by decide +kernel
theorem dX12_isWord_43 : decode cX12_isWord 43 = .ok (.aload_n 0, 1) := by decide +kernel
theorem dX12_isWord_44 : decode cX12_isWord 44 = .ok (.aload_n 0, 1) := by decide +kernel
theorem dX12_isWord_45 : decode cX12_isWord 45 = .ok (.getfield 114, 3) := by decide +kernel
theorem dX12_isWord_48 : decode cX12_isWord 48 = .ok (.iload_n 2, 1) := by decide +kernel
theorem dX12_isWord_49 : decode cX12_isWord 49 = .ok (.iadd, 1) := by decide +kernel
theorem dX12_isWord_50 : decode cX12_isWord 50 = .ok (.invokevirtual 110, 3) := by decide +kernel
theorem dX12_isWord_53 : decode cX12_isWord 53 = .ok (.aload_n 1, 1) := by decide +kernel
theorem dX12_isWord_54 : decode cX12_isWord 54 = .ok (.iload_n 2, 1) := by decide +kernel
theorem dX12_isWord_55 : decode cX12_isWord 55 = .ok (.invokevirtual 151, 3) := by decide +kernel
theorem dX12_isWord_58 : decode cX12_isWord 58 = .ok (.if_icmp .eq 5, 3) := by decide +kernel
theorem dX12_isWord_61 : decode cX12_isWord 61 = .ok (.iconst 0, 1) := by decide +kernel
theorem dX12_isWord_62 : decode cX12_isWord 62 = .ok (.ireturn, 1) := by decide +kernel
theorem dX12_isWord_63 : decode cX12_isWord 63 = .ok (.iinc 2 1, 3) := by decide +kernel
theorem dX12_isWord_66 : decode cX12_isWord 66 = .ok (.goto (-31), 3) := by decide +kernel
theorem dX12_isWord_69 : decode cX12_isWord 69 = .ok (.iconst 1, 1) := by decide +kernel
theorem dX12_isWord_70 : decode cX12_isWord 70 = .ok (.ireturn, 1) := by decide +kernel
set_option maxRecDepth 20000 in
theorem ggX12_figure_X12_isWrong : GoodIn wsX12_figure wsX12_isWrong := goodIn_r _ [7, 8, 38, 39, 40, 41, 42, 43, 44, 45, 46, 47, 48, 49, 50, 51, 52, 53, 54, 55, 56, 57, 58, 59, 60, 61, 62, 63, 64, 65, 66, 67, 68, 69] (by decide +kernel) (by decide +kernel)
set_option maxRecDepth 20000 in
theorem gX12_figure_X12_isWrong : GoodIn wsX12_figure (wsV RX12 141 RX12 yX12_isWrong wsX12_isWrong) := goodIn_app (goodIn_of _ (by decide +kernel)) ggX12_figure_X12_isWrong
set_option maxRecDepth 20000 in
theorem ggX12_figure_X12_fails : GoodIn wsX12_figure wsX12_fails := goodIn_r _ [12, 8, 13, 14, 3, 4, 5, 6, 7, 38, 39, 40, 41, 42, 43, 44, 45, 46, 47, 48, 49, 50, 51, 52, 53, 54, 55, 56, 57, 58, 59, 60, 61, 62, 63, 64, 65, 66, 67, 68, 69] (by decide +kernel) (by decide +kernel)
set_option maxRecDepth 20000 in
theorem gX12_figure_X12_fails : GoodIn wsX12_figure (wsV RX12 155 RX12 yX12_fails wsX12_fails) := goodIn_app (goodIn_of _ (by decide +kernel)) ggX12_figure_X12_fails
set_option maxRecDepth 20000 in
theorem ggX12_figure_X12_isIn : GoodIn wsX12_figure wsX12_isIn := goodIn_r _ [17] (by decide +kernel) (by decide +kernel)
set_option maxRecDepth 20000 in
theorem gX12_figure_X12_isIn : GoodIn wsX12_figure (va_wsS RX12 100 yX12_isIn wsX12_isIn) := goodIn_app (goodIn_of _ (by decide +kernel)) ggX12_figure_X12_isIn
set_option maxRecDepth 20000 in
theorem ggX12_figure_X12_token : GoodIn wsX12_figure wsX12_token := goodIn_r _ [21, 22, 13, 1, 23, 24, 25, 2, 26, 27, 28, 6, 29, 30, 31, 32, 33, 34, 35, 36, 37, 38, 39, 40, 41, 42, 43, 44, 45, 46, 47, 48, 49, 50, 51, 52, 53, 54, 55, 56, 57, 58, 59, 60, 61, 62, 63, 64, 65, 66, 67, 68, 69] (by decide +kernel) (by decide +kernel)
set_option maxRecDepth 20000 in
theorem gX12_figure_X12_token : GoodIn wsX12_figure (wsV RX12 159 RX12 yX12_token wsX12_token) := goodIn_app (goodIn_of _ (by decide +kernel)) ggX12_figure_X12_token
theorem dX12_figure_0 : decode cX12_figure 0 = .ok (.aload_n 0, 1) := by decide +kernel
theorem dX12_figure_1 : decode cX12_figure 1 = .ok (.invokevirtual 141, 3) := by decide +kernel
theorem dX12_figure_4 : decode cX12_figure 4 = .ok (.ifCond .eq 5, 3) := by decide +kernel
theorem dX12_figure_7 : decode cX12_figure 7 = .ok (.iload_n 1, 1) := by decide +kernel
theorem dX12_figure_8 : decode cX12_figure 8 = .ok (.ireturn, 1) := by decide +kernel
theorem dX12_figure_9 : decode cX12_figure 9 = .ok (.aload_n 0, 1) := by decide +kernel
theorem dX12_figure_10 : decode cX12_figure 10 = .ok (.getfield 117, 3) := by decide +kernel
theorem dX12_figure_13 : decode cX12_figure 13 = .ok (.iconst 2, 1) := by decide +kernel
theorem dX12_figure_14 : decode cX12_figure 14 = .ok (.if_icmp .eq 11, 3) := by decide +kernel
theorem dX12_figure_17 : decode cX12_figure 17 = .ok (.aload_n 0, 1) := by decide +kernel
theorem dX12_figure_18 : decode cX12_figure 18 = .ok (.iconst 1, 1) := by decide +kernel
theorem dX12_figure_19 : decode cX12_figure 19 = .ok (.invokevirtual 155, 3) := by decide +kernel
theorem dX12_figure_22 : decode cX12_figure 22 = .ok (.goto 20, 3) := by decide +kernel
theorem dX12_figure_25 : decode cX12_figure 25 = .ok (.aload_n 0, 1) := by decide +kernel
theorem dX12_figure_26 : decode cX12_figure 26 = .ok (.getfield 135, 3) := by decide +kernel
theorem dX12_figure_29 : decode cX12_figure 29 = .ok (.iload_n 1, 1) := by decide +kernel
theorem dX12_figure_30 : decode cX12_figure 30 = .ok (.iload_n 2, 1) := by decide +kernel
theorem dX12_figure_31 : decode cX12_figure 31 = .ok (.invokestatic 100, 3) := by decide +kernel
theorem dX12_figure_34 : decode cX12_figure 34 = .ok (.ifCond .ne 8, 3) := by decide +kernel
theorem dX12_figure_37 : decode cX12_figure 37 = .ok (.aload_n 0, 1) := by decide +kernel
theorem dX12_figure_38 : decode cX12_figure 38 = .ok (.iconst 2, 1) := by decide +kernel
theorem dX12_figure_39 : decode cX12_figure 39 = .ok (.invokevirtual 155, 3) := by decide +kernel
theorem dX12_figure_42 : decode cX12_figure 42 = .ok (.aload_n 0, 1) := by decide +kernel
theorem dX12_figure_43 : decode cX12_figure 43 = .ok (.getfield 135, 3) := by decide +kernel
theorem dX12_figure_46 : decode cX12_figure 46 = .ok (.istore_n 3, 1) := by decide +kernel
theorem dX12_figure_47 : decode cX12_figure 47 = .ok (.aload_n 0, 1) := by decide +kernel
theorem dX12_figure_48 : decode cX12_figure 48 = .ok (.invokevirtual 141, 3) := by decide +kernel
theorem dX12_figure_51 : decode cX12_figure 51 = .ok (.ifCond .ne 7, 3) := by decide +kernel
theorem dX12_figure_54 : decode cX12_figure 54 = .ok (.aload_n 0, 1) := by decide +kernel
theorem dX12_figure_55 : decode cX12_figure 55 = .ok (.invokevirtual 159, 3) := by decide +kernel
theorem dX12_figure_58 : decode cX12_figure 58 = .ok (.iload_n 3, 1) := by decide +kernel
theorem dX12_figure_59 : decode cX12_figure 59 = .ok (.ireturn, 1) := by decide +kernel
set_option maxRecDepth 20000 in
theorem ggX12_ends_X12_fails : GoodIn wsX12_ends wsX12_fails := goodIn_r _ [6, 7, 8, 9, 10, 11, 12, 5, 13, 35, 36, 37, 38, 39, 40, 41, 42, 43, 44, 45, 46, 47, 48, 49, 50, 51, 52, 53, 54, 55, 56, 57, 58, 59, 60, 61, 62, 63, 64, 65, 66] (by decide +kernel) (by decide +kernel)
set_option maxRecDepth 20000 in
theorem gX12_ends_X12_fails : GoodIn wsX12_ends (wsV RX12 155 RX12 yX12_fails wsX12_fails) := goodIn_app (goodIn_of _ (by decide +kernel)) ggX12_ends_X12_fails
set_option maxRecDepth 20000 in
theorem ggX12_ends_X12_isWrong : GoodIn wsX12_ends wsX12_isWrong := goodIn_r _ [13, 7, 35, 36, 37, 38, 39, 40, 41, 42, 43, 44, 45, 46, 47, 48, 49, 50, 51, 52, 53, 54, 55, 56, 57, 58, 59, 60, 61, 62, 63, 64, 65, 66] (by decide +kernel) (by decide +kernel)
set_option maxRecDepth 20000 in
theorem gX12_ends_X12_isWrong : GoodIn wsX12_ends (wsV RX12 141 RX12 yX12_isWrong wsX12_isWrong) := goodIn_app (goodIn_of _ (by decide +kernel)) ggX12_ends_X12_isWrong
set_option maxRecDepth 20000 in
theorem ggX12_ends_X12_token : GoodIn wsX12_ends wsX12_token := goodIn_r _ [17, 18, 8, 1, 19, 20, 21, 22, 23, 24, 25, 5, 26, 27, 28, 29, 30, 31, 32, 33, 34, 35, 36, 37, 38, 39, 40, 41, 42, 43, 44, 45, 46, 47, 48, 49, 50, 51, 52, 53, 54, 55, 56, 57, 58, 59, 60, 61, 62, 63, 64, 65, 66] (by decide +kernel) (by decide +kernel)
set_option maxRecDepth 20000 in
theorem gX12_ends_X12_token : GoodIn wsX12_ends (wsV RX12 159 RX12 yX12_token wsX12_token) := goodIn_app (goodIn_of _ (by decide +kernel)) ggX12_ends_X12_token
theorem dX12_ends_0 : decode cX12_ends 0 = .ok (.aload_n 0, 1) := by decide +kernel
theorem dX12_ends_1 : decode cX12_ends 1 = .ok (.getfield 117, 3) := by decide +kernel
theorem dX12_ends_4 : decode cX12_ends 4 = .ok (.iconst 3, 1) := by decide +kernel
theorem dX12_ends_5 : decode cX12_ends 5 = .ok (.if_icmp .eq 8, 3) := by decide +kernel
theorem dX12_ends_8 : decode cX12_ends 8 = .ok (.aload_n 0, 1) := by decide +kernel
theorem dX12_ends_9 : decode cX12_ends 9 = .ok (.iconst 1, 1) := by decide +kernel
theorem dX12_ends_10 : decode cX12_ends 10 = .ok (.invokevirtual 155, 3) := by decide +kernel
theorem dX12_ends_13 : decode cX12_ends 13 = .ok (.aload_n 0, 1) := by decide +kernel
theorem dX12_ends_14 : decode cX12_ends 14 = .ok (.invokevirtual 141, 3) := by decide +kernel
theorem dX12_ends_17 : decode cX12_ends 17 = .ok (.ifCond .ne 7, 3) := by decide +kernel
theorem dX12_ends_20 : decode cX12_ends 20 = .ok (.aload_n 0, 1) := by decide +kernel
theorem dX12_ends_21 : decode cX12_ends 21 = .ok (.invokevirtual 159, 3) := by decide +kernel
theorem dX12_ends_24 : decode cX12_ends 24 = .ok (.return_, 1) := by decide +kernel
set_option maxRecDepth 20000 in
theorem ggX12_named_X12_isWord : GoodIn wsX12_named wsX12_isWord := goodIn_r _ [11, 1, 2, 3, 12, 13, 14, 10, 15, 16, 17, 18, 19, 20, 21, 22, 23, 24, 25, 26, 27, 28, 29, 30, 31, 32, 33, 34, 35, 36, 37, 38, 39, 40, 41, 42, 43, 44, 45, 46, 47, 48, 49, 50, 51, 52, 53, 54, 55, 56, 57, 58, 59, 60, 61, 62, 63, 64, 65, 66, 67, 68, 69, 70, 71, 77, 78, 79, 80, 81, 82, 83, 84, 85, 86, 87, 88, 89, 90, 91, 92, 93, 94, 95, 96, 97, 98, 99, 100, 101, 102, 103, 104, 105, 106, 107, 108] (by decide +kernel) (by decide +kernel)
set_option maxRecDepth 20000 in
theorem gX12_named_X12_isWord : GoodIn wsX12_named (wsV RX12 164 RX12 yX12_isWord wsX12_isWord) := goodIn_app (goodIn_of _ (by decide +kernel)) ggX12_named_X12_isWord
set_option maxRecDepth 20000 in
theorem ggX12_named_X12_fails : GoodIn wsX12_named wsX12_fails := goodIn_r _ [75, 16, 3, 76, 12, 13, 14, 10, 15, 77, 78, 79, 80, 81, 82, 83, 84, 85, 86, 87, 88, 89, 90, 91, 92, 93, 94, 95, 96, 97, 98, 99, 100, 101, 102, 103, 104, 105, 106, 107, 108] (by decide +kernel) (by decide +kernel)
set_option maxRecDepth 20000 in
theorem gX12_named_X12_fails : GoodIn wsX12_named (wsV RX12 155 RX12 yX12_fails wsX12_fails) := goodIn_app (goodIn_of _ (by decide +kernel)) ggX12_named_X12_fails
set_option maxRecDepth 20000 in
theorem ggX12_named_X12_isWrong : GoodIn wsX12_named wsX12_isWrong := goodIn_r _ [15, 16, 77, 78, 79, 80, 81, 82, 83, 84, 85, 86, 87, 88, 89, 90, 91, 92, 93, 94, 95, 96, 97, 98, 99, 100, 101, 102, 103, 104, 105, 106, 107, 108] (by decide +kernel) (by decide +kernel)
set_option maxRecDepth 20000 in
theorem gX12_named_X12_isWrong : GoodIn wsX12_named (wsV RX12 141 RX12 yX12_isWrong wsX12_isWrong) := goodIn_app (goodIn_of _ (by decide +kernel)) ggX12_named_X12_isWrong
theorem dX12_named_0 : decode cX12_named 0 = .ok (.aload_n 0, 1) := by decide +kernel
theorem dX12_named_1 : decode cX12_named 1 = .ok (.getfield 117, 3) := by decide +kernel
theorem dX12_named_4 : decode cX12_named 4 = .ok (.iconst 1, 1) := by decide +kernel
theorem dX12_named_5 : decode cX12_named 5 = .ok (.if_icmp .ne 26, 3) := by decide +kernel
theorem dX12_named_8 : decode cX12_named 8 = .ok (.aload_n 0, 1) := by decide +kernel
theorem dX12_named_9 : decode cX12_named 9 = .ok (.getfield 107, 3) := by decide +kernel
theorem dX12_named_12 : decode cX12_named 12 = .ok (.aload_n 0, 1) := by decide +kernel
theorem dX12_named_13 : decode cX12_named 13 = .ok (.getfield 114, 3) := by decide +kernel
theorem dX12_named_16 : decode cX12_named 16 = .ok (.isub, 1) := by decide +kernel
theorem dX12_named_17 : decode cX12_named 17 = .ok (.bipush 6, 2) := by decide +kernel
theorem dX12_named_19 : decode cX12_named 19 = .ok (.if_icmp .gt 12, 3) := by decide +kernel
theorem dX12_named_22 : decode cX12_named 22 = .ok (.aload_n 0, 1) := by decide +kernel
theorem dX12_named_23 : decode cX12_named 23 = .ok (.ldc 162, 2) := by decide +kernel
theorem dX12_named_25 : decode cX12_named 25 = .ok (.invokevirtual 164, 3) := by decide +kernel
theorem dX12_named_28 : decode cX12_named 28 = .ok (.ifCond .eq 8, 3) := by decide +kernel
theorem dX12_named_31 : decode cX12_named 31 = .ok (.aload_n 0, 1) := by decide +kernel
theorem dX12_named_32 : decode cX12_named 32 = .ok (.iconst 1, 1) := by decide +kernel
theorem dX12_named_33 : decode cX12_named 33 = .ok (.invokevirtual 155, 3) := by decide +kernel
theorem dX12_named_36 : decode cX12_named 36 = .ok (.iconst 0, 1) := by decide +kernel
theorem dX12_named_37 : decode cX12_named 37 = .ok (.istore_n 1, 1) := by decide +kernel
theorem dX12_named_38 : decode cX12_named 38 = .ok (.iload_n 1, 1) := by decide +kernel
theorem dX12_named_39 : decode cX12_named 39 = .ok (.aload_n 0, 1) := by decide +kernel
theorem dX12_named_40 : decode cX12_named 40 = .ok (.getfield 13, 3) := by decide +kernel
theorem dX12_named_43 : decode cX12_named 43 = .ok (.iconst 0, 1) := by decide +kernel
theorem dX12_named_44 : decode cX12_named 44 = .ok (.iaload, 1) := by decide +kernel
theorem dX12_named_45 : decode cX12_named 45 = .ok (.if_icmp .ge 32, 3) := by decide +kernel
theorem dX12_named_48 : decode cX12_named 48 = .ok (.aload_n 0, 1) := by decide +kernel
theorem dX12_named_49 : decode cX12_named 49 = .ok (.invokevirtual 141, 3) := by decide +kernel
theorem dX12_named_52 : decode cX12_named 52 = .ok (.ifCond .ne 25, 3) := by decide +kernel
theorem dX12_named_55 : decode cX12_named 55 = .ok (.aload_n 0, 1) := by decide +kernel
theorem dX12_named_56 : decode cX12_named 56 = .ok (.getfield 35, 3) := by decide +kernel
theorem dX12_named_59 : decode cX12_named 59 = .ok (.iload_n 1, 1) := by decide +kernel
theorem dX12_named_60 : decode cX12_named 60 = .ok (.laload, 1) := by decide +kernel
theorem dX12_named_61 : decode cX12_named 61 = .ok (.aload_n 0, 1) := by decide +kernel
theorem dX12_named_62 : decode cX12_named 62 = .ok (.getfield 124, 3) := by decide +kernel
theorem dX12_named_65 : decode cX12_named 65 = .ok (.lcmp, 1) := by decide +kernel
theorem dX12_named_66 : decode cX12_named 66 = .ok (.ifCond .ne 5, 3) := by decide +kernel
theorem dX12_named_69 : decode cX12_named 69 = .ok (.iload_n 1, 1) := by decide +kernel
theorem dX12_named_70 : decode cX12_named 70 = .ok (.ireturn, 1) := by decide +kernel
theorem dX12_named_71 : decode cX12_named 71 = .ok (.iinc 1 1, 3) := by decide +kernel
theorem dX12_named_74 : decode cX12_named 74 = .ok (.goto (-36), 3) := by decide +kernel
theorem dX12_named_77 : decode cX12_named 77 = .ok (.iconst (-1), 1) := by decide +kernel
theorem dX12_named_78 : decode cX12_named 78 = .ok (.ireturn, 1) := by decide +kernel
set_option maxRecDepth 20000 in
theorem ggX12_variable_X12_fails : GoodIn wsX12_variable wsX12_fails := goodIn_r _ [8, 9, 10, 11, 12, 13, 14, 7, 15, 105, 106, 107, 108, 109, 110, 111, 112, 113, 114, 115, 116, 117, 118, 119, 120, 121, 122, 123, 124, 125, 126, 127, 128, 129, 130, 131, 132, 133, 134, 135, 136] (by decide +kernel) (by decide +kernel)
set_option maxRecDepth 20000 in
theorem gX12_variable_X12_fails : GoodIn wsX12_variable (wsV RX12 155 RX12 yX12_fails wsX12_fails) := goodIn_app (goodIn_of _ (by decide +kernel)) ggX12_variable_X12_fails
set_option maxRecDepth 20000 in
theorem ggX12_variable_X12_isWrong : GoodIn wsX12_variable wsX12_isWrong := goodIn_r _ [15, 9, 105, 106, 107, 108, 109, 110, 111, 112, 113, 114, 115, 116, 117, 118, 119, 120, 121, 122, 123, 124, 125, 126, 127, 128, 129, 130, 131, 132, 133, 134, 135, 136] (by decide +kernel) (by decide +kernel)
set_option maxRecDepth 20000 in
theorem gX12_variable_X12_isWrong : GoodIn wsX12_variable (wsV RX12 141 RX12 yX12_isWrong wsX12_isWrong) := goodIn_app (goodIn_of _ (by decide +kernel)) ggX12_variable_X12_isWrong
set_option maxRecDepth 20000 in
theorem ggX12_variable_X12_token : GoodIn wsX12_variable wsX12_token := goodIn_r _ [19, 20, 10, 21, 3, 22, 23, 24, 25, 26, 27, 7, 28, 29, 30, 31, 32, 33, 34, 35, 36, 105, 106, 107, 108, 109, 110, 111, 112, 113, 114, 115, 116, 117, 118, 119, 120, 121, 122, 123, 124, 125, 126, 127, 128, 129, 130, 131, 132, 133, 134, 135, 136] (by decide +kernel) (by decide +kernel)
set_option maxRecDepth 20000 in
theorem gX12_variable_X12_token : GoodIn wsX12_variable (wsV RX12 159 RX12 yX12_token wsX12_token) := goodIn_app (goodIn_of _ (by decide +kernel)) ggX12_variable_X12_token
set_option maxRecDepth 20000 in
theorem ggX12_variable_X12_named : GoodIn wsX12_variable wsX12_named := goodIn_r _ [40, 21, 20, 10, 1, 2, 3, 41, 42, 43, 7, 44, 12, 13, 14, 15, 9, 45, 46, 47, 48, 49, 50, 51, 52, 53, 54, 55, 56, 25, 26, 27, 28, 29, 30, 57, 58, 59, 60, 61, 62, 63, 64, 65, 66, 67, 68, 69, 70, 71, 72, 73, 74, 75, 76, 77, 78, 79, 80, 81, 82, 83, 84, 85, 86, 87, 88, 89, 90, 91, 92, 93, 4, 5, 6, 8, 11, 105, 106, 107, 108, 109, 110, 111, 112, 113, 114, 115, 116, 117, 118, 119, 120, 121, 122, 123, 124, 125, 126, 127, 128, 129, 130, 131, 132, 133, 134, 135, 136] (by decide +kernel) (by decide +kernel)
set_option maxRecDepth 20000 in
theorem gX12_variable_X12_named : GoodIn wsX12_variable (wsV RX12 168 RX12 yX12_named wsX12_named) := goodIn_app (goodIn_of _ (by decide +kernel)) ggX12_variable_X12_named
set_option maxRecDepth 20000 in
theorem ggX12_variable_X12_figure : GoodIn wsX12_variable wsX12_figure := goodIn_r _ [97, 21, 24, 12, 13, 14, 7, 15, 9, 4, 5, 6, 8, 10, 11, 98, 99, 100, 16, 17, 18, 19, 20, 3, 22, 23, 25, 26, 27, 28, 29, 30, 31, 32, 33, 34, 35, 36, 105, 106, 107, 108, 109, 110, 111, 112, 113, 114, 115, 116, 117, 118, 119, 120, 121, 122, 123, 124, 125, 126, 127, 128, 129, 130, 131, 132, 133, 134, 135, 136] (by decide +kernel) (by decide +kernel)
set_option maxRecDepth 20000 in
theorem gX12_variable_X12_figure : GoodIn wsX12_variable (wsV RX12 171 RX12 yX12_figure wsX12_figure) := goodIn_app (goodIn_of _ (by decide +kernel)) ggX12_variable_X12_figure
set_option maxRecDepth 20000 in
theorem ggX12_variable_X12_ends : GoodIn wsX12_variable wsX12_ends := goodIn_r _ [104, 21, 4, 5, 6, 7, 8, 9, 10, 11, 12, 13, 14, 15, 16, 17, 18, 19, 20, 3, 22, 23, 24, 25, 26, 27, 28, 29, 30, 31, 32, 33, 34, 35, 36, 105, 106, 107, 108, 109, 110, 111, 112, 113, 114, 115, 116, 117, 118, 119, 120, 121, 122, 123, 124, 125, 126, 127, 128, 129, 130, 131, 132, 133, 134, 135, 136] (by decide +kernel) (by decide +kernel)
set_option maxRecDepth 20000 in
theorem gX12_variable_X12_ends : GoodIn wsX12_variable (wsV RX12 175 RX12 yX12_ends wsX12_ends) := goodIn_app (goodIn_of _ (by decide +kernel)) ggX12_variable_X12_ends
theorem dX12_variable_0 : decode cX12_variable 0 = .ok (.aload_n 0, 1) := by decide +kernel
theorem dX12_variable_1 : decode cX12_variable 1 = .ok (.getfield 13, 3) := by decide +kernel
theorem dX12_variable_4 : decode cX12_variable 4 = .ok (.iconst 0, 1) := by decide +kernel
theorem dX12_variable_5 : decode cX12_variable 5 = .ok (.iaload, 1) := by decide +kernel
theorem dX12_variable_6 : decode cX12_variable 6 = .ok (.istore_n 1, 1) := by decide +kernel
theorem dX12_variable_7 : decode cX12_variable 7 = .ok (.iload_n 1, 1) := by decide +kernel
theorem dX12_variable_8 : decode cX12_variable 8 = .ok (.bipush 7, 2) := by decide +kernel
theorem dX12_variable_10 : decode cX12_variable 10 = .ok (.if_icmp .ne 8, 3) := by decide +kernel
theorem dX12_variable_13 : decode cX12_variable 13 = .ok (.aload_n 0, 1) := by decide +kernel
theorem dX12_variable_14 : decode cX12_variable 14 = .ok (.iconst 4, 1) := by decide +kernel
theorem dX12_variable_15 : decode cX12_variable 15 = .ok (.invokevirtual 155, 3) := by decide +kernel
theorem dX12_variable_18 : decode cX12_variable 18 = .ok (.aload_n 0, 1) := by decide +kernel
theorem dX12_variable_19 : decode cX12_variable 19 = .ok (.invokevirtual 141, 3) := by decide +kernel
theorem dX12_variable_22 : decode cX12_variable 22 = .ok (.ifCond .eq 4, 3) := by decide +kernel
theorem dX12_variable_25 : decode cX12_variable 25 = .ok (.return_, 1) := by decide +kernel
theorem dX12_variable_26 : decode cX12_variable 26 = .ok (.aload_n 0, 1) := by decide +kernel
theorem dX12_variable_27 : decode cX12_variable 27 = .ok (.invokevirtual 159, 3) := by decide +kernel
theorem dX12_variable_30 : decode cX12_variable 30 = .ok (.aload_n 0, 1) := by decide +kernel
theorem dX12_variable_31 : decode cX12_variable 31 = .ok (.invokevirtual 168, 3) := by decide +kernel
theorem dX12_variable_34 : decode cX12_variable 34 = .ok (.iconst (-1), 1) := by decide +kernel
theorem dX12_variable_35 : decode cX12_variable 35 = .ok (.if_icmp .eq 8, 3) := by decide +kernel
theorem dX12_variable_38 : decode cX12_variable 38 = .ok (.aload_n 0, 1) := by decide +kernel
theorem dX12_variable_39 : decode cX12_variable 39 = .ok (.iconst 3, 1) := by decide +kernel
theorem dX12_variable_40 : decode cX12_variable 40 = .ok (.invokevirtual 155, 3) := by decide +kernel
theorem dX12_variable_43 : decode cX12_variable 43 = .ok (.aload_n 0, 1) := by decide +kernel
theorem dX12_variable_44 : decode cX12_variable 44 = .ok (.invokevirtual 141, 3) := by decide +kernel
theorem dX12_variable_47 : decode cX12_variable 47 = .ok (.ifCond .eq 4, 3) := by decide +kernel
theorem dX12_variable_50 : decode cX12_variable 50 = .ok (.return_, 1) := by decide +kernel
theorem dX12_variable_51 : decode cX12_variable 51 = .ok (.aload_n 0, 1) := by decide +kernel
theorem dX12_variable_52 : decode cX12_variable 52 = .ok (.getfield 35, 3) := by decide +kernel
theorem dX12_variable_55 : decode cX12_variable 55 = .ok (.iload_n 1, 1) := by decide +kernel
theorem dX12_variable_56 : decode cX12_variable 56 = .ok (.aload_n 0, 1) := by decide +kernel
theorem dX12_variable_57 : decode cX12_variable 57 = .ok (.getfield 124, 3) := by decide +kernel
theorem dX12_variable_60 : decode cX12_variable 60 = .ok (.lastore, 1) := by decide +kernel
theorem dX12_variable_61 : decode cX12_variable 61 = .ok (.aload_n 0, 1) := by decide +kernel
theorem dX12_variable_62 : decode cX12_variable 62 = .ok (.invokevirtual 159, 3) := by decide +kernel
theorem dX12_variable_65 : decode cX12_variable 65 = .ok (.aload_n 0, 1) := by decide +kernel
theorem dX12_variable_66 : decode cX12_variable 66 = .ok (.iconst 0, 1) := by decide +kernel
theorem dX12_variable_67 : decode cX12_variable 67 = .ok (.iconst 4, 1) := by decide +kernel
theorem dX12_variable_68 : decode cX12_variable 68 = .ok (.invokevirtual 171, 3) := by decide +kernel
theorem dX12_variable_71 : decode cX12_variable 71 = .ok (.istore_n 2, 1) := by decide +kernel
theorem dX12_variable_72 : decode cX12_variable 72 = .ok (.aload_n 0, 1) := by decide +kernel
theorem dX12_variable_73 : decode cX12_variable 73 = .ok (.iload_n 2, 1) := by decide +kernel
theorem dX12_variable_74 : decode cX12_variable 74 = .ok (.iconst 4, 1) := by decide +kernel
theorem dX12_variable_75 : decode cX12_variable 75 = .ok (.invokevirtual 171, 3) := by decide +kernel
theorem dX12_variable_78 : decode cX12_variable 78 = .ok (.istore_n 3, 1) := by decide +kernel
theorem dX12_variable_79 : decode cX12_variable 79 = .ok (.aload_n 0, 1) := by decide +kernel
theorem dX12_variable_80 : decode cX12_variable 80 = .ok (.getfield 13, 3) := by decide +kernel
theorem dX12_variable_83 : decode cX12_variable 83 = .ok (.iconst 2, 1) := by decide +kernel
theorem dX12_variable_84 : decode cX12_variable 84 = .ok (.iload_n 1, 1) := by decide +kernel
theorem dX12_variable_85 : decode cX12_variable 85 = .ok (.iadd, 1) := by decide +kernel
theorem dX12_variable_86 : decode cX12_variable 86 = .ok (.iconst 2, 1) := by decide +kernel
theorem dX12_variable_87 : decode cX12_variable 87 = .ok (.iload_n 3, 1) := by decide +kernel
theorem dX12_variable_88 : decode cX12_variable 88 = .ok (.ishl, 1) := by decide +kernel
theorem dX12_variable_89 : decode cX12_variable 89 = .ok (.iconst 1, 1) := by decide +kernel
theorem dX12_variable_90 : decode cX12_variable 90 = .ok (.iload_n 2, 1) := by decide +kernel
theorem dX12_variable_91 : decode cX12_variable 91 = .ok (.ishl, 1) := by decide +kernel
theorem dX12_variable_92 : decode cX12_variable 92 = .ok (.isub, 1) := by decide +kernel
theorem dX12_variable_93 : decode cX12_variable 93 = .ok (.iastore, 1) := by decide +kernel
theorem dX12_variable_94 : decode cX12_variable 94 = .ok (.aload_n 0, 1) := by decide +kernel
theorem dX12_variable_95 : decode cX12_variable 95 = .ok (.getfield 13, 3) := by decide +kernel
theorem dX12_variable_98 : decode cX12_variable 98 = .ok (.iconst 0, 1) := by decide +kernel
theorem dX12_variable_99 : decode cX12_variable 99 = .ok (.dup2, 1) := by decide +kernel
theorem dX12_variable_100 : decode cX12_variable 100 = .ok (.iaload, 1) := by decide +kernel
theorem dX12_variable_101 : decode cX12_variable 101 = .ok (.iconst 1, 1) := by decide +kernel
theorem dX12_variable_102 : decode cX12_variable 102 = .ok (.iadd, 1) := by decide +kernel
theorem dX12_variable_103 : decode cX12_variable 103 = .ok (.iastore, 1) := by decide +kernel
theorem dX12_variable_104 : decode cX12_variable 104 = .ok (.aload_n 0, 1) := by decide +kernel
theorem dX12_variable_105 : decode cX12_variable 105 = .ok (.invokevirtual 175, 3) := by decide +kernel
theorem dX12_variable_108 : decode cX12_variable 108 = .ok (.return_, 1) := by decide +kernel
set_option maxRecDepth 20000 in
theorem ggX12_member_X12_named : GoodIn wsX12_member wsX12_named := goodIn_r _ [6, 7, 8, 9, 1, 10, 11, 12, 13, 14, 5, 15, 16, 17, 18, 19, 20, 21, 22, 23, 24, 25, 26, 27, 28, 29, 30, 31, 32, 33, 34, 35, 36, 37, 38, 39, 40, 41, 42, 43, 44, 45, 46, 47, 48, 49, 50, 51, 52, 53, 54, 55, 56, 57, 58, 59, 60, 61, 62, 63, 64, 65, 66, 67, 68, 69, 70, 71, 72, 73, 74, 75, 76, 77, 78, 79, 80, 94, 95, 96, 97, 98, 99, 100, 101, 102, 103, 104, 105, 106, 107, 108, 109, 110, 111, 112, 113, 114, 115, 116, 117, 118, 119, 120, 121, 122, 123, 124, 125] (by decide +kernel) (by decide +kernel)
set_option maxRecDepth 20000 in
theorem gX12_member_X12_named : GoodIn wsX12_member (wsV RX12 168 RX12 yX12_named wsX12_named) := goodIn_app (goodIn_of _ (by decide +kernel)) ggX12_member_X12_named
set_option maxRecDepth 20000 in
theorem ggX12_member_X12_fails : GoodIn wsX12_member wsX12_fails := goodIn_r _ [79, 20, 9, 80, 16, 17, 18, 5, 19, 94, 95, 96, 97, 98, 99, 100, 101, 102, 103, 104, 105, 106, 107, 108, 109, 110, 111, 112, 113, 114, 115, 116, 117, 118, 119, 120, 121, 122, 123, 124, 125] (by decide +kernel) (by decide +kernel)
set_option maxRecDepth 20000 in
theorem gX12_member_X12_fails : GoodIn wsX12_member (wsV RX12 155 RX12 yX12_fails wsX12_fails) := goodIn_app (goodIn_of _ (by decide +kernel)) ggX12_member_X12_fails
set_option maxRecDepth 20000 in
theorem ggX12_member_X12_isWrong : GoodIn wsX12_member wsX12_isWrong := goodIn_r _ [19, 20, 94, 95, 96, 97, 98, 99, 100, 101, 102, 103, 104, 105, 106, 107, 108, 109, 110, 111, 112, 113, 114, 115, 116, 117, 118, 119, 120, 121, 122, 123, 124, 125] (by decide +kernel) (by decide +kernel)
set_option maxRecDepth 20000 in
theorem gX12_member_X12_isWrong : GoodIn wsX12_member (wsV RX12 141 RX12 yX12_isWrong wsX12_isWrong) := goodIn_app (goodIn_of _ (by decide +kernel)) ggX12_member_X12_isWrong
set_option maxRecDepth 20000 in
theorem ggX12_member_X12_token : GoodIn wsX12_member wsX12_token := goodIn_r _ [84, 8, 9, 7, 11, 85, 86, 87, 33, 34, 35, 5, 36, 37, 38, 88, 89, 90, 91, 92, 93, 94, 95, 96, 97, 98, 99, 100, 101, 102, 103, 104, 105, 106, 107, 108, 109, 110, 111, 112, 113, 114, 115, 116, 117, 118, 119, 120, 121, 122, 123, 124, 125] (by decide +kernel) (by decide +kernel)
set_option maxRecDepth 20000 in
theorem gX12_member_X12_token : GoodIn wsX12_member (wsV RX12 159 RX12 yX12_token wsX12_token) := goodIn_app (goodIn_of _ (by decide +kernel)) ggX12_member_X12_token
theorem dX12_member_0 : decode cX12_member 0 = .ok (.aload_n 0, 1) := by decide +kernel
theorem dX12_member_1 : decode cX12_member 1 = .ok (.invokevirtual 168, 3) := by decide +kernel
theorem dX12_member_4 : decode cX12_member 4 = .ok (.istore_n 2, 1) := by decide +kernel
theorem dX12_member_5 : decode cX12_member 5 = .ok (.iload_n 2, 1) := by decide +kernel
theorem dX12_member_6 : decode cX12_member 6 = .ok (.iconst (-1), 1) := by decide +kernel
theorem dX12_member_7 : decode cX12_member 7 = .ok (.if_icmp .ne 7, 3) := by decide +kernel
theorem dX12_member_10 : decode cX12_member 10 = .ok (.iconst 1, 1) := by decide +kernel
theorem dX12_member_11 : decode cX12_member 11 = .ok (.goto 4, 3) := by decide +kernel
theorem dX12_member_14 : decode cX12_member 14 = .ok (.iconst 0, 1) := by decide +kernel
theorem dX12_member_15 : decode cX12_member 15 = .ok (.istore_n 3, 1) := by decide +kernel
theorem dX12_member_16 : decode cX12_member 16 = .ok (.iconst 0, 1) := by decide +kernel
theorem dX12_member_17 : decode cX12_member 17 = .ok (.istore 4, 2) := by decide +kernel
theorem dX12_member_19 : decode cX12_member 19 = .ok (.iload 4, 2) := by decide +kernel
theorem dX12_member_21 : decode cX12_member 21 = .ok (.aload_n 0, 1) := by decide +kernel
theorem dX12_member_22 : decode cX12_member 22 = .ok (.getfield 13, 3) := by decide +kernel
theorem dX12_member_25 : decode cX12_member 25 = .ok (.iload_n 1, 1) := by decide +kernel
theorem dX12_member_26 : decode cX12_member 26 = .ok (.iconst 1, 1) := by decide +kernel
theorem dX12_member_27 : decode cX12_member 27 = .ok (.iadd, 1) := by decide +kernel
theorem dX12_member_28 : decode cX12_member 28 = .ok (.iaload, 1) := by decide +kernel
theorem dX12_member_29 : decode cX12_member 29 = .ok (.if_icmp .ge 34, 3) := by decide +kernel
theorem dX12_member_32 : decode cX12_member 32 = .ok (.iload_n 3, 1) := by decide +kernel
theorem dX12_member_33 : decode cX12_member 33 = .ok (.ifCond .ne 18, 3) := by decide +kernel
theorem dX12_member_36 : decode cX12_member 36 = .ok (.aload_n 0, 1) := by decide +kernel
theorem dX12_member_37 : decode cX12_member 37 = .ok (.getfield 13, 3) := by decide +kernel
theorem dX12_member_40 : decode cX12_member 40 = .ok (.iload_n 1, 1) := by decide +kernel
theorem dX12_member_41 : decode cX12_member 41 = .ok (.iconst 2, 1) := by decide +kernel
theorem dX12_member_42 : decode cX12_member 42 = .ok (.iadd, 1) := by decide +kernel
theorem dX12_member_43 : decode cX12_member 43 = .ok (.iload 4, 2) := by decide +kernel
theorem dX12_member_45 : decode cX12_member 45 = .ok (.iadd, 1) := by decide +kernel
theorem dX12_member_46 : decode cX12_member 46 = .ok (.iaload, 1) := by decide +kernel
theorem dX12_member_47 : decode cX12_member 47 = .ok (.iload_n 2, 1) := by decide +kernel
theorem dX12_member_48 : decode cX12_member 48 = .ok (.if_icmp .ne 7, 3) := by decide +kernel
theorem dX12_member_51 : decode cX12_member 51 = .ok (.iconst 1, 1) := by decide +kernel
theorem dX12_member_52 : decode cX12_member 52 = .ok (.goto 4, 3) := by decide +kernel
theorem dX12_member_55 : decode cX12_member 55 = .ok (.iconst 0, 1) := by decide +kernel
theorem dX12_member_56 : decode cX12_member 56 = .ok (.istore_n 3, 1) := by decide +kernel
theorem dX12_member_57 : decode cX12_member 57 = .ok (.iinc 4 1, 3) := by decide +kernel
theorem dX12_member_60 : decode cX12_member 60 = .ok (.goto (-41), 3) := by decide +kernel
theorem dX12_member_63 : decode cX12_member 63 = .ok (.iload_n 3, 1) := by decide +kernel
theorem dX12_member_64 : decode cX12_member 64 = .ok (.ifCond .eq 8, 3) := by decide +kernel
theorem dX12_member_67 : decode cX12_member 67 = .ok (.aload_n 0, 1) := by decide +kernel
theorem dX12_member_68 : decode cX12_member 68 = .ok (.iconst 3, 1) := by decide +kernel
theorem dX12_member_69 : decode cX12_member 69 = .ok (.invokevirtual 155, 3) := by decide +kernel
theorem dX12_member_72 : decode cX12_member 72 = .ok (.aload_n 0, 1) := by decide +kernel
theorem dX12_member_73 : decode cX12_member 73 = .ok (.invokevirtual 141, 3) := by decide +kernel
theorem dX12_member_76 : decode cX12_member 76 = .ok (.ifCond .eq 4, 3) := by decide +kernel
theorem dX12_member_79 : decode cX12_member 79 = .ok (.return_, 1) := by decide +kernel
theorem dX12_member_80 : decode cX12_member 80 = .ok (.aload_n 0, 1) := by decide +kernel
theorem dX12_member_81 : decode cX12_member 81 = .ok (.getfield 13, 3) := by decide +kernel
theorem dX12_member_84 : decode cX12_member 84 = .ok (.iload_n 1, 1) := by decide +kernel
theorem dX12_member_85 : decode cX12_member 85 = .ok (.iconst 2, 1) := by decide +kernel
theorem dX12_member_86 : decode cX12_member 86 = .ok (.iadd, 1) := by decide +kernel
theorem dX12_member_87 : decode cX12_member 87 = .ok (.aload_n 0, 1) := by decide +kernel
theorem dX12_member_88 : decode cX12_member 88 = .ok (.getfield 13, 3) := by decide +kernel
theorem dX12_member_91 : decode cX12_member 91 = .ok (.iload_n 1, 1) := by decide +kernel
theorem dX12_member_92 : decode cX12_member 92 = .ok (.iconst 1, 1) := by decide +kernel
theorem dX12_member_93 : decode cX12_member 93 = .ok (.iadd, 1) := by decide +kernel
theorem dX12_member_94 : decode cX12_member 94 = .ok (.iaload, 1) := by decide +kernel
theorem dX12_member_95 : decode cX12_member 95 = .ok (.iadd, 1) := by decide +kernel
theorem dX12_member_96 : decode cX12_member 96 = .ok (.iload_n 2, 1) := by decide +kernel
theorem dX12_member_97 : decode cX12_member 97 = .ok (.iastore, 1) := by decide +kernel
theorem dX12_member_98 : decode cX12_member 98 = .ok (.aload_n 0, 1) := by decide +kernel
theorem dX12_member_99 : decode cX12_member 99 = .ok (.getfield 13, 3) := by decide +kernel
theorem dX12_member_102 : decode cX12_member 102 = .ok (.iload_n 1, 1) := by decide +kernel
theorem dX12_member_103 : decode cX12_member 103 = .ok (.iconst 1, 1) := by decide +kernel
theorem dX12_member_104 : decode cX12_member 104 = .ok (.iadd, 1) := by decide +kernel
theorem dX12_member_105 : decode cX12_member 105 = .ok (.dup2, 1) := by decide +kernel
theorem dX12_member_106 : decode cX12_member 106 = .ok (.iaload, 1) := by decide +kernel
theorem dX12_member_107 : decode cX12_member 107 = .ok (.iconst 1, 1) := by decide +kernel
theorem dX12_member_108 : decode cX12_member 108 = .ok (.iadd, 1) := by decide +kernel
theorem dX12_member_109 : decode cX12_member 109 = .ok (.iastore, 1) := by decide +kernel
theorem dX12_member_110 : decode cX12_member 110 = .ok (.aload_n 0, 1) := by decide +kernel
theorem dX12_member_111 : decode cX12_member 111 = .ok (.invokevirtual 159, 3) := by decide +kernel
theorem dX12_member_114 : decode cX12_member 114 = .ok (.return_, 1) := by decide +kernel
set_option maxRecDepth 20000 in
theorem ggX12_count_X12_token : GoodIn wsX12_count wsX12_token := goodIn_r _ [8, 9, 10, 1, 11, 12, 13, 2, 14, 15, 16, 7, 17, 18, 19, 20, 21, 22, 23, 24, 25, 46, 47, 48, 49, 50, 51, 52, 53, 54, 55, 56, 57, 58, 59, 60, 61, 62, 63, 64, 65, 66, 67, 68, 69, 70, 71, 72, 73, 74, 75, 76, 77] (by decide +kernel) (by decide +kernel)
set_option maxRecDepth 20000 in
theorem gX12_count_X12_token : GoodIn wsX12_count (wsV RX12 159 RX12 yX12_token wsX12_token) := goodIn_app (goodIn_of _ (by decide +kernel)) ggX12_count_X12_token
set_option maxRecDepth 20000 in
theorem ggX12_count_X12_isWrong : GoodIn wsX12_count wsX12_isWrong := goodIn_r _ [29, 30, 46, 47, 48, 49, 50, 51, 52, 53, 54, 55, 56, 57, 58, 59, 60, 61, 62, 63, 64, 65, 66, 67, 68, 69, 70, 71, 72, 73, 74, 75, 76, 77] (by decide +kernel) (by decide +kernel)
set_option maxRecDepth 20000 in
theorem gX12_count_X12_isWrong : GoodIn wsX12_count (wsV RX12 141 RX12 yX12_isWrong wsX12_isWrong) := goodIn_app (goodIn_of _ (by decide +kernel)) ggX12_count_X12_isWrong
set_option maxRecDepth 20000 in
theorem ggX12_count_X12_has : GoodIn wsX12_count wsX12_has := goodIn_r _ [33] (by decide +kernel) (by decide +kernel)
set_option maxRecDepth 20000 in
theorem gX12_count_X12_has : GoodIn wsX12_count (va_wsS RX12 178 yX12_has wsX12_has) := goodIn_app (goodIn_of _ (by decide +kernel)) ggX12_count_X12_has
set_option maxRecDepth 20000 in
theorem ggX12_count_X12_fails : GoodIn wsX12_count wsX12_fails := goodIn_r _ [37, 30, 10, 38, 26, 27, 28, 7, 29, 46, 47, 48, 49, 50, 51, 52, 53, 54, 55, 56, 57, 58, 59, 60, 61, 62, 63, 64, 65, 66, 67, 68, 69, 70, 71, 72, 73, 74, 75, 76, 77] (by decide +kernel) (by decide +kernel)
set_option maxRecDepth 20000 in
theorem gX12_count_X12_fails : GoodIn wsX12_count (wsV RX12 155 RX12 yX12_fails wsX12_fails) := goodIn_app (goodIn_of _ (by decide +kernel)) ggX12_count_X12_fails
set_option maxRecDepth 20000 in
theorem ggX12_count_X12_figure : GoodIn wsX12_count wsX12_figure := goodIn_r _ [42, 1, 2, 26, 27, 28, 7, 29, 30, 34, 35, 36, 37, 10, 38, 43, 44, 45, 4, 5, 6, 8, 9, 11, 12, 13, 14, 15, 16, 17, 18, 19, 20, 21, 22, 23, 24, 25, 46, 47, 48, 49, 50, 51, 52, 53, 54, 55, 56, 57, 58, 59, 60, 61, 62, 63, 64, 65, 66, 67, 68, 69, 70, 71, 72, 73, 74, 75, 76, 77] (by decide +kernel) (by decide +kernel)
set_option maxRecDepth 20000 in
theorem gX12_count_X12_figure : GoodIn wsX12_count (wsV RX12 171 RX12 yX12_figure wsX12_figure) := goodIn_app (goodIn_of _ (by decide +kernel)) ggX12_count_X12_figure
theorem dX12_count_0 : decode cX12_count 0 = .ok (.aload_n 0, 1) := by decide +kernel
theorem dX12_count_1 : decode cX12_count 1 = .ok (.invokevirtual 159, 3) := by decide +kernel
theorem dX12_count_4 : decode cX12_count 4 = .ok (.aload_n 0, 1) := by decide +kernel
theorem dX12_count_5 : decode cX12_count 5 = .ok (.invokevirtual 141, 3) := by decide +kernel
theorem dX12_count_8 : decode cX12_count 8 = .ok (.ifCond .ne 43, 3) := by decide +kernel
theorem dX12_count_11 : decode cX12_count 11 = .ok (.aload_n 0, 1) := by decide +kernel
theorem dX12_count_12 : decode cX12_count 12 = .ok (.getfield 117, 3) := by decide +kernel
theorem dX12_count_15 : decode cX12_count 15 = .ok (.iconst 2, 1) := by decide +kernel
theorem dX12_count_16 : decode cX12_count 16 = .ok (.if_icmp .ne 35, 3) := by decide +kernel
theorem dX12_count_19 : decode cX12_count 19 = .ok (.aload_n 0, 1) := by decide +kernel
theorem dX12_count_20 : decode cX12_count 20 = .ok (.getfield 135, 3) := by decide +kernel
theorem dX12_count_23 : decode cX12_count 23 = .ok (.iconst 5, 1) := by decide +kernel
theorem dX12_count_24 : decode cX12_count 24 = .ok (.if_icmp .ge 27, 3) := by decide +kernel
theorem dX12_count_27 : decode cX12_count 27 = .ok (.aload_n 0, 1) := by decide +kernel
theorem dX12_count_28 : decode cX12_count 28 = .ok (.getfield 13, 3) := by decide +kernel
theorem dX12_count_31 : decode cX12_count 31 = .ok (.iload_n 1, 1) := by decide +kernel
theorem dX12_count_32 : decode cX12_count 32 = .ok (.bipush 19, 2) := by decide +kernel
theorem dX12_count_34 : decode cX12_count 34 = .ok (.iadd, 1) := by decide +kernel
theorem dX12_count_35 : decode cX12_count 35 = .ok (.iaload, 1) := by decide +kernel
theorem dX12_count_36 : decode cX12_count 36 = .ok (.aload_n 0, 1) := by decide +kernel
theorem dX12_count_37 : decode cX12_count 37 = .ok (.getfield 135, 3) := by decide +kernel
theorem dX12_count_40 : decode cX12_count 40 = .ok (.invokestatic 178, 3) := by decide +kernel
theorem dX12_count_43 : decode cX12_count 43 = .ok (.ifCond .eq 8, 3) := by decide +kernel
theorem dX12_count_46 : decode cX12_count 46 = .ok (.aload_n 0, 1) := by decide +kernel
theorem dX12_count_47 : decode cX12_count 47 = .ok (.iconst 3, 1) := by decide +kernel
theorem dX12_count_48 : decode cX12_count 48 = .ok (.invokevirtual 155, 3) := by decide +kernel
theorem dX12_count_51 : decode cX12_count 51 = .ok (.aload_n 0, 1) := by decide +kernel
theorem dX12_count_52 : decode cX12_count 52 = .ok (.iconst 0, 1) := by decide +kernel
theorem dX12_count_53 : decode cX12_count 53 = .ok (.iconst 4, 1) := by decide +kernel
theorem dX12_count_54 : decode cX12_count 54 = .ok (.invokevirtual 171, 3) := by decide +kernel
theorem dX12_count_57 : decode cX12_count 57 = .ok (.istore_n 2, 1) := by decide +kernel
theorem dX12_count_58 : decode cX12_count 58 = .ok (.aload_n 0, 1) := by decide +kernel
theorem dX12_count_59 : decode cX12_count 59 = .ok (.invokevirtual 141, 3) := by decide +kernel
theorem dX12_count_62 : decode cX12_count 62 = .ok (.ifCond .eq 4, 3) := by decide +kernel
theorem dX12_count_65 : decode cX12_count 65 = .ok (.return_, 1) := by decide +kernel
theorem dX12_count_66 : decode cX12_count 66 = .ok (.aload_n 0, 1) := by decide +kernel
theorem dX12_count_67 : decode cX12_count 67 = .ok (.getfield 13, 3) := by decide +kernel
theorem dX12_count_70 : decode cX12_count 70 = .ok (.iload_n 1, 1) := by decide +kernel
theorem dX12_count_71 : decode cX12_count 71 = .ok (.bipush 19, 2) := by decide +kernel
theorem dX12_count_73 : decode cX12_count 73 = .ok (.iadd, 1) := by decide +kernel
theorem dX12_count_74 : decode cX12_count 74 = .ok (.dup2, 1) := by decide +kernel
theorem dX12_count_75 : decode cX12_count 75 = .ok (.iaload, 1) := by decide +kernel
theorem dX12_count_76 : decode cX12_count 76 = .ok (.iconst 1, 1) := by decide +kernel
theorem dX12_count_77 : decode cX12_count 77 = .ok (.iload_n 2, 1) := by decide +kernel
theorem dX12_count_78 : decode cX12_count 78 = .ok (.ishl, 1) := by decide +kernel
theorem dX12_count_79 : decode cX12_count 79 = .ok (.ior, 1) := by decide +kernel
theorem dX12_count_80 : decode cX12_count 80 = .ok (.iastore, 1) := by decide +kernel
theorem dX12_count_81 : decode cX12_count 81 = .ok (.aload_n 0, 1) := by decide +kernel
theorem dX12_count_82 : decode cX12_count 82 = .ok (.getfield 13, 3) := by decide +kernel
theorem dX12_count_85 : decode cX12_count 85 = .ok (.iload_n 1, 1) := by decide +kernel
theorem dX12_count_86 : decode cX12_count 86 = .ok (.bipush 9, 2) := by decide +kernel
theorem dX12_count_88 : decode cX12_count 88 = .ok (.iadd, 1) := by decide +kernel
theorem dX12_count_89 : decode cX12_count 89 = .ok (.iload_n 2, 1) := by decide +kernel
theorem dX12_count_90 : decode cX12_count 90 = .ok (.iadd, 1) := by decide +kernel
theorem dX12_count_91 : decode cX12_count 91 = .ok (.aload_n 0, 1) := by decide +kernel
theorem dX12_count_92 : decode cX12_count 92 = .ok (.iconst 0, 1) := by decide +kernel
theorem dX12_count_93 : decode cX12_count 93 = .ok (.bipush 7, 2) := by decide +kernel
theorem dX12_count_95 : decode cX12_count 95 = .ok (.invokevirtual 171, 3) := by decide +kernel
theorem dX12_count_98 : decode cX12_count 98 = .ok (.iastore, 1) := by decide +kernel
theorem dX12_count_99 : decode cX12_count 99 = .ok (.aload_n 0, 1) := by decide +kernel
theorem dX12_count_100 : decode cX12_count 100 = .ok (.getfield 13, 3) := by decide +kernel
theorem dX12_count_103 : decode cX12_count 103 = .ok (.iload_n 1, 1) := by decide +kernel
theorem dX12_count_104 : decode cX12_count 104 = .ok (.bipush 14, 2) := by decide +kernel
theorem dX12_count_106 : decode cX12_count 106 = .ok (.iadd, 1) := by decide +kernel
theorem dX12_count_107 : decode cX12_count 107 = .ok (.iload_n 2, 1) := by decide +kernel
theorem dX12_count_108 : decode cX12_count 108 = .ok (.iadd, 1) := by decide +kernel
theorem dX12_count_109 : decode cX12_count 109 = .ok (.aload_n 0, 1) := by decide +kernel
theorem dX12_count_110 : decode cX12_count 110 = .ok (.aload_n 0, 1) := by decide +kernel
theorem dX12_count_111 : decode cX12_count 111 = .ok (.getfield 13, 3) := by decide +kernel
theorem dX12_count_114 : decode cX12_count 114 = .ok (.iload_n 1, 1) := by decide +kernel
theorem dX12_count_115 : decode cX12_count 115 = .ok (.bipush 9, 2) := by decide +kernel
theorem dX12_count_117 : decode cX12_count 117 = .ok (.iadd, 1) := by decide +kernel
theorem dX12_count_118 : decode cX12_count 118 = .ok (.iload_n 2, 1) := by decide +kernel
theorem dX12_count_119 : decode cX12_count 119 = .ok (.iadd, 1) := by decide +kernel
theorem dX12_count_120 : decode cX12_count 120 = .ok (.iaload, 1) := by decide +kernel
theorem dX12_count_121 : decode cX12_count 121 = .ok (.bipush 7, 2) := by decide +kernel
theorem dX12_count_123 : decode cX12_count 123 = .ok (.invokevirtual 171, 3) := by decide +kernel
theorem dX12_count_126 : decode cX12_count 126 = .ok (.iastore, 1) := by decide +kernel
theorem dX12_count_127 : decode cX12_count 127 = .ok (.return_, 1) := by decide +kernel
set_option maxRecDepth 20000 in
theorem ggX12_counts_X12_member : GoodIn wsX12_counts wsX12_member := goodIn_r _ [7, 1, 8, 9, 10, 6, 11, 2, 12, 13, 14, 15, 16, 17, 18, 19, 20, 21, 22, 23, 24, 25, 26, 27, 28, 29, 30, 31, 32, 33, 34, 35, 36, 37, 38, 39, 40, 41, 42, 43, 44, 45, 46, 47, 48, 49, 50, 51, 52, 53, 54, 55, 56, 57, 58, 59, 60, 61, 62, 63, 64, 65, 66, 67, 68, 69, 70, 71, 72, 73, 74, 75, 76, 77, 78, 79, 80, 81, 82, 83, 84, 85, 86, 87, 88, 89, 90, 91, 92, 93, 94, 95, 96, 97, 112, 113, 114, 115, 116, 117, 118, 119, 120, 121, 122, 123, 124, 125, 126, 127, 128, 129, 130, 131, 132, 133, 134, 135, 136, 137, 138, 139, 140, 141, 142, 143] (by decide +kernel) (by decide +kernel)
set_option maxRecDepth 20000 in
theorem gX12_counts_X12_member : GoodIn wsX12_counts (wsV RX12 182 RX12 yX12_member wsX12_member) := goodIn_app (goodIn_of _ (by decide +kernel)) ggX12_counts_X12_member
set_option maxRecDepth 20000 in
theorem ggX12_counts_X12_isWrong : GoodIn wsX12_counts wsX12_isWrong := goodIn_r _ [23, 24, 112, 113, 114, 115, 116, 117, 118, 119, 120, 121, 122, 123, 124, 125, 126, 127, 128, 129, 130, 131, 132, 133, 134, 135, 136, 137, 138, 139, 140, 141, 142, 143] (by decide +kernel) (by decide +kernel)
set_option maxRecDepth 20000 in
theorem gX12_counts_X12_isWrong : GoodIn wsX12_counts (wsV RX12 141 RX12 yX12_isWrong wsX12_isWrong) := goodIn_app (goodIn_of _ (by decide +kernel)) ggX12_counts_X12_isWrong
set_option maxRecDepth 20000 in
theorem ggX12_counts_X12_isWord : GoodIn wsX12_counts wsX12_isWord := goodIn_r _ [19, 2, 12, 13, 20, 21, 22, 6, 23, 24, 25, 26, 27, 28, 29, 30, 31, 32, 33, 34, 35, 36, 37, 38, 39, 40, 41, 42, 43, 44, 45, 46, 47, 48, 49, 50, 51, 52, 53, 54, 55, 56, 57, 58, 59, 60, 61, 62, 63, 64, 65, 66, 67, 68, 69, 70, 71, 72, 73, 74, 75, 76, 77, 78, 79, 112, 113, 114, 115, 116, 117, 118, 119, 120, 121, 122, 123, 124, 125, 126, 127, 128, 129, 130, 131, 132, 133, 134, 135, 136, 137, 138, 139, 140, 141, 142, 143] (by decide +kernel) (by decide +kernel)
set_option maxRecDepth 20000 in
theorem gX12_counts_X12_isWord : GoodIn wsX12_counts (wsV RX12 164 RX12 yX12_isWord wsX12_isWord) := goodIn_app (goodIn_of _ (by decide +kernel)) ggX12_counts_X12_isWord
set_option maxRecDepth 20000 in
theorem ggX12_counts_X12_fails : GoodIn wsX12_counts wsX12_fails := goodIn_r _ [83, 24, 13, 84, 20, 21, 22, 6, 23, 112, 113, 114, 115, 116, 117, 118, 119, 120, 121, 122, 123, 124, 125, 126, 127, 128, 129, 130, 131, 132, 133, 134, 135, 136, 137, 138, 139, 140, 141, 142, 143] (by decide +kernel) (by decide +kernel)
set_option maxRecDepth 20000 in
theorem gX12_counts_X12_fails : GoodIn wsX12_counts (wsV RX12 155 RX12 yX12_fails wsX12_fails) := goodIn_app (goodIn_of _ (by decide +kernel)) ggX12_counts_X12_fails
set_option maxRecDepth 20000 in
theorem ggX12_counts_X12_count : GoodIn wsX12_counts wsX12_count := goodIn_r _ [101, 2, 91, 1, 85, 86, 87, 6, 88, 12, 13, 15, 89, 90, 37, 38, 39, 40, 41, 42, 92, 93, 94, 95, 96, 97, 20, 21, 22, 23, 24, 102, 103, 104, 80, 81, 82, 83, 84, 105, 106, 107, 108, 109, 110, 111, 112, 113, 114, 115, 116, 117, 118, 119, 120, 121, 122, 123, 124, 125, 126, 127, 128, 129, 130, 131, 132, 133, 134, 135, 136, 137, 138, 139, 140, 141, 142, 143] (by decide +kernel) (by decide +kernel)
set_option maxRecDepth 20000 in
theorem gX12_counts_X12_count : GoodIn wsX12_counts (wsV RX12 185 RX12 yX12_count wsX12_count) := goodIn_app (goodIn_of _ (by decide +kernel)) ggX12_counts_X12_count
theorem dX12_counts_0 : decode cX12_counts 0 = .ok (.iconst 0, 1) := by decide +kernel
theorem dX12_counts_1 : decode cX12_counts 1 = .ok (.istore_n 2, 1) := by decide +kernel
theorem dX12_counts_2 : decode cX12_counts 2 = .ok (.iload_n 2, 1) := by decide +kernel
theorem dX12_counts_3 : decode cX12_counts 3 = .ok (.iconst 5, 1) := by decide +kernel
theorem dX12_counts_4 : decode cX12_counts 4 = .ok (.if_icmp .ge 22, 3) := by decide +kernel
theorem dX12_counts_7 : decode cX12_counts 7 = .ok (.aload_n 0, 1) := by decide +kernel
theorem dX12_counts_8 : decode cX12_counts 8 = .ok (.getfield 13, 3) := by decide +kernel
theorem dX12_counts_11 : decode cX12_counts 11 = .ok (.iload_n 1, 1) := by decide +kernel
theorem dX12_counts_12 : decode cX12_counts 12 = .ok (.bipush 14, 2) := by decide +kernel
theorem dX12_counts_14 : decode cX12_counts 14 = .ok (.iadd, 1) := by decide +kernel
theorem dX12_counts_15 : decode cX12_counts 15 = .ok (.iload_n 2, 1) := by decide +kernel
theorem dX12_counts_16 : decode cX12_counts 16 = .ok (.iadd, 1) := by decide +kernel
theorem dX12_counts_17 : decode cX12_counts 17 = .ok (.bipush 7, 2) := by decide +kernel
theorem dX12_counts_19 : decode cX12_counts 19 = .ok (.iastore, 1) := by decide +kernel
theorem dX12_counts_20 : decode cX12_counts 20 = .ok (.iinc 2 1, 3) := by decide +kernel
theorem dX12_counts_23 : decode cX12_counts 23 = .ok (.goto (-21), 3) := by decide +kernel
theorem dX12_counts_26 : decode cX12_counts 26 = .ok (.aload_n 0, 1) := by decide +kernel
theorem dX12_counts_27 : decode cX12_counts 27 = .ok (.iload_n 1, 1) := by decide +kernel
theorem dX12_counts_28 : decode cX12_counts 28 = .ok (.invokevirtual 182, 3) := by decide +kernel
theorem dX12_counts_31 : decode cX12_counts 31 = .ok (.aload_n 0, 1) := by decide +kernel
theorem dX12_counts_32 : decode cX12_counts 32 = .ok (.invokevirtual 141, 3) := by decide +kernel
theorem dX12_counts_35 : decode cX12_counts 35 = .ok (.ifCond .ne 28, 3) := by decide +kernel
theorem dX12_counts_38 : decode cX12_counts 38 = .ok (.aload_n 0, 1) := by decide +kernel
theorem dX12_counts_39 : decode cX12_counts 39 = .ok (.getfield 117, 3) := by decide +kernel
theorem dX12_counts_42 : decode cX12_counts 42 = .ok (.iconst 1, 1) := by decide +kernel
theorem dX12_counts_43 : decode cX12_counts 43 = .ok (.if_icmp .ne 20, 3) := by decide +kernel
theorem dX12_counts_46 : decode cX12_counts 46 = .ok (.aload_n 0, 1) := by decide +kernel
theorem dX12_counts_47 : decode cX12_counts 47 = .ok (.ldc 162, 2) := by decide +kernel
theorem dX12_counts_49 : decode cX12_counts 49 = .ok (.invokevirtual 164, 3) := by decide +kernel
theorem dX12_counts_52 : decode cX12_counts 52 = .ok (.ifCond .ne 11, 3) := by decide +kernel
theorem dX12_counts_55 : decode cX12_counts 55 = .ok (.aload_n 0, 1) := by decide +kernel
theorem dX12_counts_56 : decode cX12_counts 56 = .ok (.iload_n 1, 1) := by decide +kernel
theorem dX12_counts_57 : decode cX12_counts 57 = .ok (.invokevirtual 182, 3) := by decide +kernel
