set_option maxRecDepth 20000 in
theorem ggX0_init_X1_init : GoodIn wsX0_init wsX1_init := goodIn_r _ [4, 5, 6, 7, 8, 9, 10, 11, 12, 13, 14, 15, 16, 17, 18, 19, 20, 21, 22, 23, 24, 25, 26, 27, 28, 29, 30, 31, 32, 33, 34, 35] (by decide +kernel) (by decide +kernel)
set_option maxRecDepth 20000 in
theorem gX0_init_X1_init : GoodIn wsX0_init (wsX1_init) := ggX0_init_X1_init
theorem dX0_init_0 : decode cX0_init 0 = .ok (.aload_n 0, 1) := by decide +kernel
theorem dX0_init_1 : decode cX0_init 1 = .ok (.iload_n 1, 1) := by decide +kernel
theorem dX0_init_2 : decode cX0_init 2 = .ok (.ifCond .eq 7, 3) := by decide +kernel
theorem dX0_init_5 : decode cX0_init 5 = .ok (.iconst 2, 1) := by decide +kernel
theorem dX0_init_6 : decode cX0_init 6 = .ok (.goto 4, 3) := by decide +kernel
theorem dX0_init_9 : decode cX0_init 9 = .ok (.iconst 3, 1) := by decide +kernel
theorem dX0_init_10 : decode cX0_init 10 = .ok (.invokespecial 5, 3) := by decide +kernel
theorem dX0_init_13 : decode cX0_init 13 = .ok (.return_, 1) := by decide +kernel
set_option maxRecDepth 20000 in
theorem ggX0_verdict_X1_variableAt : GoodIn wsX0_verdict wsX1_variableAt := goodIn_r _ [8, 9, 25, 26, 27, 28, 29, 30, 31, 32, 33, 34, 35, 36, 37, 38, 39, 40, 41, 42, 43, 44, 45, 46, 47, 48] (by decide +kernel) (by decide +kernel)
set_option maxRecDepth 20000 in
theorem gX0_verdict_X1_variableAt_u9X0 : GoodIn wsX0_verdict (va_wsU RX0 9 RX0 "SupportSolver$Constraint" ⟨"SupportSolver$Comparison", "variableAt", "(I)I"⟩ yX1_variableAt wsX1_variableAt) := goodIn_app (goodIn_of _ (by decide +kernel)) ggX0_verdict_X1_variableAt
set_option maxRecDepth 20000 in
theorem ggX0_verdict_X5_valuesOf : GoodIn wsX0_verdict wsX5_valuesOf := goodIn_r _ [13] (by decide +kernel) (by decide +kernel)
set_option maxRecDepth 20000 in
theorem gX0_verdict_X5_valuesOf : GoodIn wsX0_verdict (va_wsS RX0 15 yX5_valuesOf wsX5_valuesOf) := goodIn_app (goodIn_of _ (by decide +kernel)) ggX0_verdict_X5_valuesOf
set_option maxRecDepth 20000 in
theorem ggX0_verdict_X0_verdictOnLess : GoodIn wsX0_verdict wsX0_verdictOnLess := goodIn_r _ [17] (by decide +kernel) (by decide +kernel)
set_option maxRecDepth 20000 in
theorem gX0_verdict_X0_verdictOnLess : GoodIn wsX0_verdict (va_wsS RX0 25 yX0_verdictOnLess wsX0_verdictOnLess) := goodIn_app (goodIn_of _ (by decide +kernel)) ggX0_verdict_X0_verdictOnLess
set_option maxRecDepth 20000 in
theorem ggX0_verdict_J6_bitCount_0f7a4 : GoodIn wsX0_verdict wsJ6_bitCount_0f7a4 := goodIn_r _ [21, 22, 23, 24] (by decide +kernel) (by decide +kernel)
set_option maxRecDepth 20000 in
theorem gX0_verdict_J6_bitCount_0f7a4 : GoodIn wsX0_verdict (va_wsS RX0 29 yJ6_bitCount_0f7a4 wsJ6_bitCount_0f7a4) := goodIn_app (goodIn_of _ (by decide +kernel)) ggX0_verdict_J6_bitCount_0f7a4
theorem dX0_verdict_0 : decode cX0_verdict 0 = .ok (.lload_n 1, 1) := by decide +kernel
theorem dX0_verdict_1 : decode cX0_verdict 1 = .ok (.aload_n 0, 1) := by decide +kernel
theorem dX0_verdict_2 : decode cX0_verdict 2 = .ok (.iconst 0, 1) := by decide +kernel
theorem dX0_verdict_3 : decode cX0_verdict 3 = .ok (.invokevirtual 9, 3) := by decide +kernel
theorem dX0_verdict_6 : decode cX0_verdict 6 = .ok (.invokestatic 15, 3) := by decide +kernel
theorem dX0_verdict_9 : decode cX0_verdict 9 = .ok (.istore_n 3, 1) := by decide +kernel
theorem dX0_verdict_10 : decode cX0_verdict 10 = .ok (.lload_n 1, 1) := by decide +kernel
theorem dX0_verdict_11 : decode cX0_verdict 11 = .ok (.aload_n 0, 1) := by decide +kernel
theorem dX0_verdict_12 : decode cX0_verdict 12 = .ok (.iconst 1, 1) := by decide +kernel
theorem dX0_verdict_13 : decode cX0_verdict 13 = .ok (.invokevirtual 9, 3) := by decide +kernel
theorem dX0_verdict_16 : decode cX0_verdict 16 = .ok (.invokestatic 15, 3) := by decide +kernel
theorem dX0_verdict_19 : decode cX0_verdict 19 = .ok (.istore 4, 2) := by decide +kernel
theorem dX0_verdict_21 : decode cX0_verdict 21 = .ok (.aload_n 0, 1) := by decide +kernel
theorem dX0_verdict_22 : decode cX0_verdict 22 = .ok (.getfield 21, 3) := by decide +kernel
theorem dX0_verdict_25 : decode cX0_verdict 25 = .ok (.iconst 2, 1) := by decide +kernel
theorem dX0_verdict_26 : decode cX0_verdict 26 = .ok (.if_icmp .ne 10, 3) := by decide +kernel
theorem dX0_verdict_29 : decode cX0_verdict 29 = .ok (.iload_n 3, 1) := by decide +kernel
theorem dX0_verdict_30 : decode cX0_verdict 30 = .ok (.iload 4, 2) := by decide +kernel
theorem dX0_verdict_32 : decode cX0_verdict 32 = .ok (.invokestatic 25, 3) := by decide +kernel
theorem dX0_verdict_35 : decode cX0_verdict 35 = .ok (.ireturn, 1) := by decide +kernel
theorem dX0_verdict_36 : decode cX0_verdict 36 = .ok (.iload_n 3, 1) := by decide +kernel
theorem dX0_verdict_37 : decode cX0_verdict 37 = .ok (.iload 4, 2) := by decide +kernel
theorem dX0_verdict_39 : decode cX0_verdict 39 = .ok (.iand, 1) := by decide +kernel
theorem dX0_verdict_40 : decode cX0_verdict 40 = .ok (.ifCond .ne 5, 3) := by decide +kernel
theorem dX0_verdict_43 : decode cX0_verdict 43 = .ok (.iconst 2, 1) := by decide +kernel
theorem dX0_verdict_44 : decode cX0_verdict 44 = .ok (.ireturn, 1) := by decide +kernel
theorem dX0_verdict_45 : decode cX0_verdict 45 = .ok (.iload_n 3, 1) := by decide +kernel
theorem dX0_verdict_46 : decode cX0_verdict 46 = .ok (.iload 4, 2) := by decide +kernel
theorem dX0_verdict_48 : decode cX0_verdict 48 = .ok (.if_icmp .ne 15, 3) := by decide +kernel
theorem dX0_verdict_51 : decode cX0_verdict 51 = .ok (.iload_n 3, 1) := by decide +kernel
theorem dX0_verdict_52 : decode cX0_verdict 52 = .ok (.invokestatic 29, 3) := by decide +kernel
theorem dX0_verdict_55 : decode cX0_verdict 55 = .ok (.iconst 1, 1) := by decide +kernel
theorem dX0_verdict_56 : decode cX0_verdict 56 = .ok (.if_icmp .ne 7, 3) := by decide +kernel
theorem dX0_verdict_59 : decode cX0_verdict 59 = .ok (.iconst 0, 1) := by decide +kernel
theorem dX0_verdict_60 : decode cX0_verdict 60 = .ok (.goto 4, 3) := by decide +kernel
theorem dX0_verdict_63 : decode cX0_verdict 63 = .ok (.iconst 1, 1) := by decide +kernel
theorem dX0_verdict_64 : decode cX0_verdict 64 = .ok (.ireturn, 1) := by decide +kernel
theorem dX0_alike_0 : decode cX0_alike 0 = .ok (.iconst 1, 1) := by decide +kernel
theorem dX0_alike_1 : decode cX0_alike 1 = .ok (.iload_n 1, 1) := by decide +kernel
theorem dX0_alike_2 : decode cX0_alike 2 = .ok (.ishl, 1) := by decide +kernel
theorem dX0_alike_3 : decode cX0_alike 3 = .ok (.ireturn, 1) := by decide +kernel
theorem dX0_verdictOnLess_0 : decode cX0_verdictOnLess 0 = .ok (.iload_n 0, 1) := by decide +kernel
theorem dX0_verdictOnLess_1 : decode cX0_verdictOnLess 1 = .ok (.iload_n 0, 1) := by decide +kernel
theorem dX0_verdictOnLess_2 : decode cX0_verdictOnLess 2 = .ok (.ineg, 1) := by decide +kernel
theorem dX0_verdictOnLess_3 : decode cX0_verdictOnLess 3 = .ok (.iand, 1) := by decide +kernel
theorem dX0_verdictOnLess_4 : decode cX0_verdictOnLess 4 = .ok (.istore_n 2, 1) := by decide +kernel
theorem dX0_verdictOnLess_5 : decode cX0_verdictOnLess 5 = .ok (.iload_n 1, 1) := by decide +kernel
theorem dX0_verdictOnLess_6 : decode cX0_verdictOnLess 6 = .ok (.iload_n 1, 1) := by decide +kernel
theorem dX0_verdictOnLess_7 : decode cX0_verdictOnLess 7 = .ok (.ineg, 1) := by decide +kernel
theorem dX0_verdictOnLess_8 : decode cX0_verdictOnLess 8 = .ok (.iand, 1) := by decide +kernel
theorem dX0_verdictOnLess_9 : decode cX0_verdictOnLess 9 = .ok (.istore_n 3, 1) := by decide +kernel
theorem dX0_verdictOnLess_10 : decode cX0_verdictOnLess 10 = .ok (.iload_n 1, 1) := by decide +kernel
theorem dX0_verdictOnLess_11 : decode cX0_verdictOnLess 11 = .ok (.iconst 2, 1) := by decide +kernel
theorem dX0_verdictOnLess_12 : decode cX0_verdictOnLess 12 = .ok (.iload_n 2, 1) := by decide +kernel
theorem dX0_verdictOnLess_13 : decode cX0_verdictOnLess 13 = .ok (.imul, 1) := by decide +kernel
theorem dX0_verdictOnLess_14 : decode cX0_verdictOnLess 14 = .ok (.if_icmp .ge 5, 3) := by decide +kernel
theorem dX0_verdictOnLess_17 : decode cX0_verdictOnLess 17 = .ok (.iconst 0, 1) := by decide +kernel
theorem dX0_verdictOnLess_18 : decode cX0_verdictOnLess 18 = .ok (.ireturn, 1) := by decide +kernel
theorem dX0_verdictOnLess_19 : decode cX0_verdictOnLess 19 = .ok (.iload_n 0, 1) := by decide +kernel
theorem dX0_verdictOnLess_20 : decode cX0_verdictOnLess 20 = .ok (.iload_n 3, 1) := by decide +kernel
theorem dX0_verdictOnLess_21 : decode cX0_verdictOnLess 21 = .ok (.if_icmp .ge 7, 3) := by decide +kernel
theorem dX0_verdictOnLess_24 : decode cX0_verdictOnLess 24 = .ok (.iconst 2, 1) := by decide +kernel
theorem dX0_verdictOnLess_25 : decode cX0_verdictOnLess 25 = .ok (.goto 4, 3) := by decide +kernel
theorem dX0_verdictOnLess_28 : decode cX0_verdictOnLess 28 = .ok (.iconst 1, 1) := by decide +kernel
theorem dX0_verdictOnLess_29 : decode cX0_verdictOnLess 29 = .ok (.ireturn, 1) := by decide +kernel
theorem dX1_init_0 : decode cX1_init 0 = .ok (.aload_n 0, 1) := by decide +kernel
theorem dX1_init_1 : decode cX1_init 1 = .ok (.invokespecial 3, 3) := by decide +kernel
theorem dX1_init_4 : decode cX1_init 4 = .ok (.aload_n 0, 1) := by decide +kernel
theorem dX1_init_5 : decode cX1_init 5 = .ok (.iconst 0, 1) := by decide +kernel
theorem dX1_init_6 : decode cX1_init 6 = .ok (.putfield 9, 3) := by decide +kernel
theorem dX1_init_9 : decode cX1_init 9 = .ok (.aload_n 0, 1) := by decide +kernel
theorem dX1_init_10 : decode cX1_init 10 = .ok (.lconst 0, 1) := by decide +kernel
theorem dX1_init_11 : decode cX1_init 11 = .ok (.putfield 15, 3) := by decide +kernel
theorem dX1_init_14 : decode cX1_init 14 = .ok (.aload_n 0, 1) := by decide +kernel
theorem dX1_init_15 : decode cX1_init 15 = .ok (.iconst 0, 1) := by decide +kernel
theorem dX1_init_16 : decode cX1_init 16 = .ok (.putfield 19, 3) := by decide +kernel
theorem dX1_init_19 : decode cX1_init 19 = .ok (.aload_n 0, 1) := by decide +kernel
theorem dX1_init_20 : decode cX1_init 20 = .ok (.iload_n 1, 1) := by decide +kernel
theorem dX1_init_21 : decode cX1_init 21 = .ok (.putfield 22, 3) := by decide +kernel
theorem dX1_init_24 : decode cX1_init 24 = .ok (.return_, 1) := by decide +kernel
set_option maxRecDepth 20000 in
theorem ggX1_addVariable_X5_allOf : GoodIn wsX1_addVariable wsX5_allOf := goodIn_r _ [7, 8] (by decide +kernel) (by decide +kernel)
set_option maxRecDepth 20000 in
theorem gX1_addVariable_X5_allOf : GoodIn wsX1_addVariable (va_wsS RX1 25 yX5_allOf wsX5_allOf) := goodIn_app (goodIn_of _ (by decide +kernel)) ggX1_addVariable_X5_allOf
theorem dX1_addVariable_0 : decode cX1_addVariable 0 = .ok (.aload_n 0, 1) := by decide +kernel
theorem dX1_addVariable_1 : decode cX1_addVariable 1 = .ok (.getfield 9, 3) := by decide +kernel
theorem dX1_addVariable_4 : decode cX1_addVariable 4 = .ok (.bipush 7, 2) := by decide +kernel
theorem dX1_addVariable_6 : decode cX1_addVariable 6 = .ok (.if_icmp .ge 43, 3) := by decide +kernel
theorem dX1_addVariable_9 : decode cX1_addVariable 9 = .ok (.aload_n 0, 1) := by decide +kernel
theorem dX1_addVariable_10 : decode cX1_addVariable 10 = .ok (.dup, 1) := by decide +kernel
theorem dX1_addVariable_11 : decode cX1_addVariable 11 = .ok (.getfield 19, 3) := by decide +kernel
theorem dX1_addVariable_14 : decode cX1_addVariable 14 = .ok (.iload_n 1, 1) := by decide +kernel
theorem dX1_addVariable_15 : decode cX1_addVariable 15 = .ok (.iconst 3, 1) := by decide +kernel
theorem dX1_addVariable_16 : decode cX1_addVariable 16 = .ok (.aload_n 0, 1) := by decide +kernel
theorem dX1_addVariable_17 : decode cX1_addVariable 17 = .ok (.getfield 9, 3) := by decide +kernel
theorem dX1_addVariable_20 : decode cX1_addVariable 20 = .ok (.imul, 1) := by decide +kernel
theorem dX1_addVariable_21 : decode cX1_addVariable 21 = .ok (.ishl, 1) := by decide +kernel
theorem dX1_addVariable_22 : decode cX1_addVariable 22 = .ok (.ior, 1) := by decide +kernel
theorem dX1_addVariable_23 : decode cX1_addVariable 23 = .ok (.putfield 19, 3) := by decide +kernel
theorem dX1_addVariable_26 : decode cX1_addVariable 26 = .ok (.aload_n 0, 1) := by decide +kernel
theorem dX1_addVariable_27 : decode cX1_addVariable 27 = .ok (.dup, 1) := by decide +kernel
theorem dX1_addVariable_28 : decode cX1_addVariable 28 = .ok (.getfield 15, 3) := by decide +kernel
theorem dX1_addVariable_31 : decode cX1_addVariable 31 = .ok (.iload_n 1, 1) := by decide +kernel
theorem dX1_addVariable_32 : decode cX1_addVariable 32 = .ok (.invokestatic 25, 3) := by decide +kernel
theorem dX1_addVariable_35 : decode cX1_addVariable 35 = .ok (.lor, 1) := by decide +kernel
theorem dX1_addVariable_36 : decode cX1_addVariable 36 = .ok (.putfield 15, 3) := by decide +kernel
theorem dX1_addVariable_39 : decode cX1_addVariable 39 = .ok (.aload_n 0, 1) := by decide +kernel
theorem dX1_addVariable_40 : decode cX1_addVariable 40 = .ok (.dup, 1) := by decide +kernel
theorem dX1_addVariable_41 : decode cX1_addVariable 41 = .ok (.getfield 9, 3) := by decide +kernel
theorem dX1_addVariable_44 : decode cX1_addVariable 44 = .ok (.iconst 1, 1) := by decide +kernel
theorem dX1_addVariable_45 : decode cX1_addVariable 45 = .ok (.iadd, 1) := by decide +kernel
theorem dX1_addVariable_46 : decode cX1_addVariable 46 = .ok (.putfield 9, 3) := by decide +kernel
theorem dX1_addVariable_49 : decode cX1_addVariable 49 = .ok (.return_, 1) := by decide +kernel
theorem dX1_clearVariables_0 : decode cX1_clearVariables 0 = .ok (.aload_n 0, 1) := by decide +kernel
theorem dX1_clearVariables_1 : decode cX1_clearVariables 1 = .ok (.iconst 0, 1) := by decide +kernel
theorem dX1_clearVariables_2 : decode cX1_clearVariables 2 = .ok (.putfield 19, 3) := by decide +kernel
theorem dX1_clearVariables_5 : decode cX1_clearVariables 5 = .ok (.aload_n 0, 1) := by decide +kernel
theorem dX1_clearVariables_6 : decode cX1_clearVariables 6 = .ok (.lconst 0, 1) := by decide +kernel
theorem dX1_clearVariables_7 : decode cX1_clearVariables 7 = .ok (.putfield 15, 3) := by decide +kernel
theorem dX1_clearVariables_10 : decode cX1_clearVariables 10 = .ok (.aload_n 0, 1) := by decide +kernel
theorem dX1_clearVariables_11 : decode cX1_clearVariables 11 = .ok (.iconst 0, 1) := by decide +kernel
theorem dX1_clearVariables_12 : decode cX1_clearVariables 12 = .ok (.putfield 9, 3) := by decide +kernel
theorem dX1_clearVariables_15 : decode cX1_clearVariables 15 = .ok (.return_, 1) := by decide +kernel
theorem dX1_variableAt_0 : decode cX1_variableAt 0 = .ok (.aload_n 0, 1) := by decide +kernel
theorem dX1_variableAt_1 : decode cX1_variableAt 1 = .ok (.getfield 19, 3) := by decide +kernel
theorem dX1_variableAt_4 : decode cX1_variableAt 4 = .ok (.iconst 3, 1) := by decide +kernel
theorem dX1_variableAt_5 : decode cX1_variableAt 5 = .ok (.iload_n 1, 1) := by decide +kernel
theorem dX1_variableAt_6 : decode cX1_variableAt 6 = .ok (.imul, 1) := by decide +kernel
theorem dX1_variableAt_7 : decode cX1_variableAt 7 = .ok (.iushr, 1) := by decide +kernel
theorem dX1_variableAt_8 : decode cX1_variableAt 8 = .ok (.bipush 7, 2) := by decide +kernel
theorem dX1_variableAt_10 : decode cX1_variableAt 10 = .ok (.iand, 1) := by decide +kernel
theorem dX1_variableAt_11 : decode cX1_variableAt 11 = .ok (.ireturn, 1) := by decide +kernel
set_option maxRecDepth 20000 in
theorem ggX1_hasVariable_X5_allOf : GoodIn wsX1_hasVariable wsX5_allOf := goodIn_r _ [5, 6] (by decide +kernel) (by decide +kernel)
set_option maxRecDepth 20000 in
theorem gX1_hasVariable_X5_allOf : GoodIn wsX1_hasVariable (va_wsS RX1 25 yX5_allOf wsX5_allOf) := goodIn_app (goodIn_of _ (by decide +kernel)) ggX1_hasVariable_X5_allOf
theorem dX1_hasVariable_0 : decode cX1_hasVariable 0 = .ok (.iload_n 1, 1) := by decide +kernel
theorem dX1_hasVariable_1 : decode cX1_hasVariable 1 = .ok (.ifCond .lt 27, 3) := by decide +kernel
theorem dX1_hasVariable_4 : decode cX1_hasVariable 4 = .ok (.iload_n 1, 1) := by decide +kernel
theorem dX1_hasVariable_5 : decode cX1_hasVariable 5 = .ok (.bipush 7, 2) := by decide +kernel
theorem dX1_hasVariable_7 : decode cX1_hasVariable 7 = .ok (.if_icmp .ge 21, 3) := by decide +kernel
theorem dX1_hasVariable_10 : decode cX1_hasVariable 10 = .ok (.aload_n 0, 1) := by decide +kernel
theorem dX1_hasVariable_11 : decode cX1_hasVariable 11 = .ok (.getfield 15, 3) := by decide +kernel
theorem dX1_hasVariable_14 : decode cX1_hasVariable 14 = .ok (.iload_n 1, 1) := by decide +kernel
theorem dX1_hasVariable_15 : decode cX1_hasVariable 15 = .ok (.invokestatic 25, 3) := by decide +kernel
theorem dX1_hasVariable_18 : decode cX1_hasVariable 18 = .ok (.land, 1) := by decide +kernel
theorem dX1_hasVariable_19 : decode cX1_hasVariable 19 = .ok (.lconst 0, 1) := by decide +kernel
theorem dX1_hasVariable_20 : decode cX1_hasVariable 20 = .ok (.lcmp, 1) := by decide +kernel
theorem dX1_hasVariable_21 : decode cX1_hasVariable 21 = .ok (.ifCond .eq 7, 3) := by decide +kernel
theorem dX1_hasVariable_24 : decode cX1_hasVariable 24 = .ok (.iconst 1, 1) := by decide +kernel
theorem dX1_hasVariable_25 : decode cX1_hasVariable 25 = .ok (.goto 4, 3) := by decide +kernel
theorem dX1_hasVariable_28 : decode cX1_hasVariable 28 = .ok (.iconst 0, 1) := by decide +kernel
theorem dX1_hasVariable_29 : decode cX1_hasVariable 29 = .ok (.ireturn, 1) := by decide +kernel
theorem dX1_verdictOn_0 : decode cX1_verdictOn 0 = .ok (.iload_n 1, 1) := by decide +kernel
theorem dX1_verdictOn_1 : decode cX1_verdictOn 1 = .ok (.iload_n 2, 1) := by decide +kernel
theorem dX1_verdictOn_2 : decode cX1_verdictOn 2 = .ok (.if_icmp .lt 8, 3) := by decide +kernel
theorem dX1_verdictOn_5 : decode cX1_verdictOn 5 = .ok (.iload_n 0, 1) := by decide +kernel
theorem dX1_verdictOn_6 : decode cX1_verdictOn 6 = .ok (.iload_n 3, 1) := by decide +kernel
theorem dX1_verdictOn_7 : decode cX1_verdictOn 7 = .ok (.if_icmp .le 5, 3) := by decide +kernel
theorem dX1_verdictOn_10 : decode cX1_verdictOn 10 = .ok (.iconst 0, 1) := by decide +kernel
theorem dX1_verdictOn_11 : decode cX1_verdictOn 11 = .ok (.ireturn, 1) := by decide +kernel
theorem dX1_verdictOn_12 : decode cX1_verdictOn 12 = .ok (.iload_n 0, 1) := by decide +kernel
theorem dX1_verdictOn_13 : decode cX1_verdictOn 13 = .ok (.iload_n 2, 1) := by decide +kernel
theorem dX1_verdictOn_14 : decode cX1_verdictOn 14 = .ok (.if_icmp .lt 12, 3) := by decide +kernel
theorem dX1_verdictOn_17 : decode cX1_verdictOn 17 = .ok (.iload_n 1, 1) := by decide +kernel
theorem dX1_verdictOn_18 : decode cX1_verdictOn 18 = .ok (.iload_n 3, 1) := by decide +kernel
theorem dX1_verdictOn_19 : decode cX1_verdictOn 19 = .ok (.if_icmp .gt 7, 3) := by decide +kernel
theorem dX1_verdictOn_22 : decode cX1_verdictOn 22 = .ok (.iconst 2, 1) := by decide +kernel
theorem dX1_verdictOn_23 : decode cX1_verdictOn 23 = .ok (.goto 4, 3) := by decide +kernel
theorem dX1_verdictOn_26 : decode cX1_verdictOn 26 = .ok (.iconst 1, 1) := by decide +kernel
theorem dX1_verdictOn_27 : decode cX1_verdictOn 27 = .ok (.ireturn, 1) := by decide +kernel
set_option maxRecDepth 20000 in
theorem ggX1_leastFrom_X0_verdict : GoodIn wsX1_leastFrom wsX0_verdict := goodIn_r _ [8, 9, 10, 11, 12, 13, 14, 15, 16, 17, 18, 19, 20, 21, 22, 23, 7, 24, 25, 26, 27, 28, 29, 30, 31, 137, 138, 139, 140, 141, 142, 143, 144, 145, 146, 147, 148, 149, 150, 151, 152, 153, 154, 155, 156, 157, 158, 159, 160] (by decide +kernel) (by decide +kernel)
set_option maxRecDepth 20000 in
theorem gX1_leastFrom_X0_verdict_u31X0 : GoodIn wsX1_leastFrom (va_wsU RX1 31 RX0 "SupportSolver$Constraint" ⟨"SupportSolver$Constraint", "verdict", "(J)I"⟩ yX0_verdict wsX0_verdict) := goodIn_app (goodIn_of _ (by decide +kernel)) ggX1_leastFrom_X0_verdict
set_option maxRecDepth 20000 in
theorem ggX1_leastFrom_X2_verdict : GoodIn wsX1_leastFrom wsX2_verdict := goodIn_r _ [35, 36, 37, 38, 39, 40, 41, 42, 43, 44, 45, 46, 47, 48, 49, 50, 51, 52, 53, 54, 55, 56, 57, 58, 59, 20, 60, 61, 62, 63, 64, 65, 137, 138, 139, 140, 141, 142, 143, 144, 145, 146, 147, 148, 149, 150, 151, 152, 153, 154, 155, 156, 157, 158, 159, 160] (by decide +kernel) (by decide +kernel)
set_option maxRecDepth 20000 in
theorem gX1_leastFrom_X2_verdict_u31X2 : GoodIn wsX1_leastFrom (va_wsU RX1 31 RX2 "SupportSolver$Constraint" ⟨"SupportSolver$Constraint", "verdict", "(J)I"⟩ yX2_verdict wsX2_verdict) := goodIn_app (goodIn_of _ (by decide +kernel)) ggX1_leastFrom_X2_verdict
set_option maxRecDepth 20000 in
theorem ggX1_leastFrom_X4_verdict : GoodIn wsX1_leastFrom wsX4_verdict := goodIn_r _ [69, 70, 71, 72, 148, 149, 150, 151, 152, 137, 138, 139, 140, 141, 142, 143, 144, 145, 146, 147, 153, 154, 155, 156, 157, 158, 159, 160] (by decide +kernel) (by decide +kernel)
set_option maxRecDepth 20000 in
theorem gX1_leastFrom_X4_verdict_u31X4 : GoodIn wsX1_leastFrom (va_wsU RX1 31 RX4 "SupportSolver$Constraint" ⟨"SupportSolver$Constraint", "verdict", "(J)I"⟩ yX4_verdict wsX4_verdict) := goodIn_app (goodIn_of _ (by decide +kernel)) ggX1_leastFrom_X4_verdict
set_option maxRecDepth 20000 in
theorem ggX1_leastFrom_X10_verdict : GoodIn wsX1_leastFrom wsX10_verdict := goodIn_r _ [76, 77, 78, 79, 80, 81, 82, 83, 84, 85, 45, 46, 47, 86, 87, 88, 14, 15, 16, 17, 89, 90, 20, 91, 92, 93, 59, 60, 61, 62, 63, 64, 65, 52, 53, 54, 55, 56, 57, 153, 154, 155, 156, 157, 158, 159, 160, 137, 138, 139, 140, 141, 142, 143, 144, 145, 146, 147, 148, 149, 150, 151, 152] (by decide +kernel) (by decide +kernel)
set_option maxRecDepth 20000 in
theorem gX1_leastFrom_X10_verdict_u31X10 : GoodIn wsX1_leastFrom (va_wsU RX1 31 RX10 "SupportSolver$Constraint" ⟨"SupportSolver$Constraint", "verdict", "(J)I"⟩ yX10_verdict wsX10_verdict) := goodIn_app (goodIn_of _ (by decide +kernel)) ggX1_leastFrom_X10_verdict
set_option maxRecDepth 20000 in
theorem ggX1_leastFrom_X5_leastOfEach : GoodIn wsX1_leastFrom wsX5_leastOfEach := goodIn_r _ [96, 97, 90, 20, 91, 92] (by decide +kernel) (by decide +kernel)
set_option maxRecDepth 20000 in
theorem gX1_leastFrom_X5_leastOfEach : GoodIn wsX1_leastFrom (va_wsS RX1 35 yX5_leastOfEach wsX5_leastOfEach) := goodIn_app (goodIn_of _ (by decide +kernel)) ggX1_leastFrom_X5_leastOfEach
set_option maxRecDepth 20000 in
theorem ggX1_leastFrom_J13_bitCount_95d88 : GoodIn wsX1_leastFrom wsJ13_bitCount_95d88 := goodIn_r _ [54, 55, 56, 57] (by decide +kernel) (by decide +kernel)
set_option maxRecDepth 20000 in
theorem gX1_leastFrom_J13_bitCount_95d88 : GoodIn wsX1_leastFrom (va_wsS RX1 39 yJ13_bitCount_95d88 wsJ13_bitCount_95d88) := goodIn_app (goodIn_of _ (by decide +kernel)) ggX1_leastFrom_J13_bitCount_95d88
set_option maxRecDepth 20000 in
theorem ggX1_leastFrom_X1_variableAt : GoodIn wsX1_leastFrom wsX1_variableAt := goodIn_r _ [16, 17, 137, 138, 139, 140, 141, 142, 143, 144, 145, 146, 147, 148, 149, 150, 151, 152, 153, 154, 155, 156, 157, 158, 159, 160] (by decide +kernel) (by decide +kernel)
set_option maxRecDepth 20000 in
theorem gX1_leastFrom_X1_variableAt_u44X0 : GoodIn wsX1_leastFrom (va_wsU RX1 44 RX0 "SupportSolver$Constraint" ⟨"SupportSolver$Constraint", "variableAt", "(I)I"⟩ yX1_variableAt wsX1_variableAt) := goodIn_app (goodIn_of _ (by decide +kernel)) ggX1_leastFrom_X1_variableAt
set_option maxRecDepth 20000 in
theorem gX1_leastFrom_X1_variableAt_u44X2 : GoodIn wsX1_leastFrom (va_wsU RX1 44 RX2 "SupportSolver$Constraint" ⟨"SupportSolver$Constraint", "variableAt", "(I)I"⟩ yX1_variableAt wsX1_variableAt) := goodIn_app (goodIn_of _ (by decide +kernel)) ggX1_leastFrom_X1_variableAt
set_option maxRecDepth 20000 in
theorem gX1_leastFrom_X1_variableAt_u44X4 : GoodIn wsX1_leastFrom (va_wsU RX1 44 RX4 "SupportSolver$Constraint" ⟨"SupportSolver$Constraint", "variableAt", "(I)I"⟩ yX1_variableAt wsX1_variableAt) := goodIn_app (goodIn_of _ (by decide +kernel)) ggX1_leastFrom_X1_variableAt
set_option maxRecDepth 20000 in
theorem gX1_leastFrom_X1_variableAt_u44X10 : GoodIn wsX1_leastFrom (va_wsU RX1 44 RX10 "SupportSolver$Constraint" ⟨"SupportSolver$Constraint", "variableAt", "(I)I"⟩ yX1_variableAt wsX1_variableAt) := goodIn_app (goodIn_of _ (by decide +kernel)) ggX1_leastFrom_X1_variableAt
set_option maxRecDepth 20000 in
theorem ggX1_leastFrom_X5_valuesOf : GoodIn wsX1_leastFrom wsX5_valuesOf := goodIn_r _ [21] (by decide +kernel) (by decide +kernel)
set_option maxRecDepth 20000 in
theorem gX1_leastFrom_X5_valuesOf : GoodIn wsX1_leastFrom (va_wsS RX1 48 yX5_valuesOf wsX5_valuesOf) := goodIn_app (goodIn_of _ (by decide +kernel)) ggX1_leastFrom_X5_valuesOf
set_option maxRecDepth 20000 in
theorem ggX1_leastFrom_X5_narrowed : GoodIn wsX1_leastFrom wsX5_narrowed := goodIn_r _ [108, 109, 97, 90, 20, 91, 92, 110, 111, 112] (by decide +kernel) (by decide +kernel)
set_option maxRecDepth 20000 in
theorem gX1_leastFrom_X5_narrowed : GoodIn wsX1_leastFrom (va_wsS RX1 52 yX5_narrowed wsX5_narrowed) := goodIn_app (goodIn_of _ (by decide +kernel)) ggX1_leastFrom_X5_narrowed
set_option maxRecDepth 20000 in
theorem ggX1_leastFrom_X1_leastFrom : GoodIn wsX1_leastFrom wsX1_leastFrom := goodIn_r _ [0, 1, 2, 3, 4, 5, 6, 7, 8, 9, 10, 11, 12, 13, 14, 15, 16, 17, 18, 19, 20, 21, 22, 23, 24, 25, 26, 27, 28, 29, 30, 31, 32, 33, 34, 35, 36, 37, 38, 39, 40, 41, 42, 43, 44, 45, 46, 47, 48, 49, 50, 51, 52, 53, 54, 55, 56, 57, 58, 59, 60, 61, 62, 63, 64, 65, 66, 67, 68, 69, 70, 71, 72, 73, 74, 75, 76, 77, 78, 79, 80, 81, 82, 83, 84, 85, 86, 87, 88, 89, 90, 91, 92, 93, 94, 95, 96, 97, 98, 99, 100, 101, 102, 103, 104, 105, 106, 107, 108, 109, 110, 111, 112, 113, 114, 115, 116, 117, 118, 119, 120, 121, 122, 123, 124, 125, 126, 127, 128, 129, 130, 131, 132, 133, 134, 135, 136, 137, 138, 139, 140, 141, 142, 143, 144, 145, 146, 147, 148, 149, 150, 151, 152, 153, 154, 155, 156, 157, 158, 159, 160] (by decide +kernel) (by decide +kernel)
set_option maxRecDepth 20000 in
theorem gX1_leastFrom_X1_leastFrom : GoodIn wsX1_leastFrom (va_wsS RX1 56 yX1_leastFrom wsX1_leastFrom) := goodIn_app (goodIn_of _ (by decide +kernel)) ggX1_leastFrom_X1_leastFrom
set_option maxRecDepth 20000 in
theorem ggX1_leastFrom_X0_alike : GoodIn wsX1_leastFrom wsX0_alike := goodIn_r _ [119] (by decide +kernel) (by decide +kernel)
set_option maxRecDepth 20000 in
theorem gX1_leastFrom_X0_alike_u60X0 : GoodIn wsX1_leastFrom (va_wsU RX1 60 RX0 "SupportSolver$Constraint" ⟨"SupportSolver$Constraint", "alike", "(I)I"⟩ yX0_alike wsX0_alike) := goodIn_app (goodIn_of _ (by decide +kernel)) ggX1_leastFrom_X0_alike
set_option maxRecDepth 20000 in
theorem ggX1_leastFrom_X2_alike : GoodIn wsX1_leastFrom wsX2_alike := goodIn_r _ [122, 123, 124, 125, 126, 34, 127, 128, 129, 130, 141, 142, 143, 144, 145, 146, 147] (by decide +kernel) (by decide +kernel)
set_option maxRecDepth 20000 in
theorem gX1_leastFrom_X2_alike_u60X2 : GoodIn wsX1_leastFrom (va_wsU RX1 60 RX2 "SupportSolver$Constraint" ⟨"SupportSolver$Constraint", "alike", "(I)I"⟩ yX2_alike wsX2_alike) := goodIn_app (goodIn_of _ (by decide +kernel)) ggX1_leastFrom_X2_alike
set_option maxRecDepth 20000 in
theorem ggX1_leastFrom_X4_alike : GoodIn wsX1_leastFrom wsX4_alike := goodIn_r _ [133] (by decide +kernel) (by decide +kernel)
set_option maxRecDepth 20000 in
theorem gX1_leastFrom_X4_alike_u60X4 : GoodIn wsX1_leastFrom (va_wsU RX1 60 RX4 "SupportSolver$Constraint" ⟨"SupportSolver$Constraint", "alike", "(I)I"⟩ yX4_alike wsX4_alike) := goodIn_app (goodIn_of _ (by decide +kernel)) ggX1_leastFrom_X4_alike
set_option maxRecDepth 20000 in
theorem ggX1_leastFrom_X10_alike : GoodIn wsX1_leastFrom wsX10_alike := goodIn_r _ [136, 81, 153, 154, 155, 156, 157, 158, 159, 160] (by decide +kernel) (by decide +kernel)
set_option maxRecDepth 20000 in
theorem gX1_leastFrom_X10_alike_u60X10 : GoodIn wsX1_leastFrom (va_wsU RX1 60 RX10 "SupportSolver$Constraint" ⟨"SupportSolver$Constraint", "alike", "(I)I"⟩ yX10_alike wsX10_alike) := goodIn_app (goodIn_of _ (by decide +kernel)) ggX1_leastFrom_X10_alike
theorem dX1_leastFrom_0 : decode cX1_leastFrom 0 = .ok (.aload_n 0, 1) := by decide +kernel
theorem dX1_leastFrom_1 : decode cX1_leastFrom 1 = .ok (.lload_n 1, 1) := by decide +kernel
theorem dX1_leastFrom_2 : decode cX1_leastFrom 2 = .ok (.invokevirtual 31, 3) := by decide +kernel
theorem dX1_leastFrom_5 : decode cX1_leastFrom 5 = .ok (.istore 4, 2) := by decide +kernel
theorem dX1_leastFrom_7 : decode cX1_leastFrom 7 = .ok (.iload 4, 2) := by decide +kernel
theorem dX1_leastFrom_9 : decode cX1_leastFrom 9 = .ok (.ifCond .ne 5, 3) := by decide +kernel
theorem dX1_leastFrom_12 : decode cX1_leastFrom 12 = .ok (.lconst 0, 1) := by decide +kernel
theorem dX1_leastFrom_13 : decode cX1_leastFrom 13 = .ok (.lreturn, 1) := by decide +kernel
theorem dX1_leastFrom_14 : decode cX1_leastFrom 14 = .ok (.iload 4, 2) := by decide +kernel
theorem dX1_leastFrom_16 : decode cX1_leastFrom 16 = .ok (.iconst 2, 1) := by decide +kernel
theorem dX1_leastFrom_17 : decode cX1_leastFrom 17 = .ok (.if_icmp .eq 11, 3) := by decide +kernel
theorem dX1_leastFrom_20 : decode cX1_leastFrom 20 = .ok (.iload_n 3, 1) := by decide +kernel
theorem dX1_leastFrom_21 : decode cX1_leastFrom 21 = .ok (.aload_n 0, 1) := by decide +kernel
theorem dX1_leastFrom_22 : decode cX1_leastFrom 22 = .ok (.getfield 9, 3) := by decide +kernel
theorem dX1_leastFrom_25 : decode cX1_leastFrom 25 = .ok (.if_icmp .lt 33, 3) := by decide +kernel
theorem dX1_leastFrom_28 : decode cX1_leastFrom 28 = .ok (.lload_n 1, 1) := by decide +kernel
theorem dX1_leastFrom_29 : decode cX1_leastFrom 29 = .ok (.aload_n 0, 1) := by decide +kernel
theorem dX1_leastFrom_30 : decode cX1_leastFrom 30 = .ok (.getfield 15, 3) := by decide +kernel
theorem dX1_leastFrom_33 : decode cX1_leastFrom 33 = .ok (.land, 1) := by decide +kernel
theorem dX1_leastFrom_34 : decode cX1_leastFrom 34 = .ok (.invokestatic 35, 3) := by decide +kernel
theorem dX1_leastFrom_37 : decode cX1_leastFrom 37 = .ok (.lstore 5, 2) := by decide +kernel
theorem dX1_leastFrom_39 : decode cX1_leastFrom 39 = .ok (.lload 5, 2) := by decide +kernel
theorem dX1_leastFrom_41 : decode cX1_leastFrom 41 = .ok (.invokestatic 39, 3) := by decide +kernel
theorem dX1_leastFrom_44 : decode cX1_leastFrom 44 = .ok (.aload_n 0, 1) := by decide +kernel
theorem dX1_leastFrom_45 : decode cX1_leastFrom 45 = .ok (.getfield 9, 3) := by decide +kernel
theorem dX1_leastFrom_48 : decode cX1_leastFrom 48 = .ok (.if_icmp .ne 8, 3) := by decide +kernel
theorem dX1_leastFrom_51 : decode cX1_leastFrom 51 = .ok (.lload 5, 2) := by decide +kernel
theorem dX1_leastFrom_53 : decode cX1_leastFrom 53 = .ok (.goto 4, 3) := by decide +kernel
theorem dX1_leastFrom_56 : decode cX1_leastFrom 56 = .ok (.lconst 0, 1) := by decide +kernel
theorem dX1_leastFrom_57 : decode cX1_leastFrom 57 = .ok (.lreturn, 1) := by decide +kernel
theorem dX1_leastFrom_58 : decode cX1_leastFrom 58 = .ok (.aload_n 0, 1) := by decide +kernel
theorem dX1_leastFrom_59 : decode cX1_leastFrom 59 = .ok (.iload_n 3, 1) := by decide +kernel
theorem dX1_leastFrom_60 : decode cX1_leastFrom 60 = .ok (.invokevirtual 44, 3) := by decide +kernel
theorem dX1_leastFrom_63 : decode cX1_leastFrom 63 = .ok (.istore 5, 2) := by decide +kernel
theorem dX1_leastFrom_65 : decode cX1_leastFrom 65 = .ok (.lload_n 1, 1) := by decide +kernel
theorem dX1_leastFrom_66 : decode cX1_leastFrom 66 = .ok (.iload 5, 2) := by decide +kernel
theorem dX1_leastFrom_68 : decode cX1_leastFrom 68 = .ok (.invokestatic 48, 3) := by decide +kernel
theorem dX1_leastFrom_71 : decode cX1_leastFrom 71 = .ok (.istore 6, 2) := by decide +kernel
theorem dX1_leastFrom_73 : decode cX1_leastFrom 73 = .ok (.iconst 0, 1) := by decide +kernel
theorem dX1_leastFrom_74 : decode cX1_leastFrom 74 = .ok (.istore 7, 2) := by decide +kernel
theorem dX1_leastFrom_76 : decode cX1_leastFrom 76 = .ok (.iload 7, 2) := by decide +kernel
theorem dX1_leastFrom_78 : decode cX1_leastFrom 78 = .ok (.iconst 5, 1) := by decide +kernel
theorem dX1_leastFrom_79 : decode cX1_leastFrom 79 = .ok (.if_icmp .ge 59, 3) := by decide +kernel
theorem dX1_leastFrom_82 : decode cX1_leastFrom 82 = .ok (.iload 6, 2) := by decide +kernel
theorem dX1_leastFrom_84 : decode cX1_leastFrom 84 = .ok (.iload 7, 2) := by decide +kernel
theorem dX1_leastFrom_86 : decode cX1_leastFrom 86 = .ok (.iushr, 1) := by decide +kernel
theorem dX1_leastFrom_87 : decode cX1_leastFrom 87 = .ok (.iconst 1, 1) := by decide +kernel
theorem dX1_leastFrom_88 : decode cX1_leastFrom 88 = .ok (.iand, 1) := by decide +kernel
theorem dX1_leastFrom_89 : decode cX1_leastFrom 89 = .ok (.ifCond .eq 43, 3) := by decide +kernel
theorem dX1_leastFrom_92 : decode cX1_leastFrom 92 = .ok (.aload_n 0, 1) := by decide +kernel
theorem dX1_leastFrom_93 : decode cX1_leastFrom 93 = .ok (.lload_n 1, 1) := by decide +kernel
theorem dX1_leastFrom_94 : decode cX1_leastFrom 94 = .ok (.iload 5, 2) := by decide +kernel
theorem dX1_leastFrom_96 : decode cX1_leastFrom 96 = .ok (.iload 7, 2) := by decide +kernel
theorem dX1_leastFrom_98 : decode cX1_leastFrom 98 = .ok (.invokestatic 52, 3) := by decide +kernel
theorem dX1_leastFrom_101 : decode cX1_leastFrom 101 = .ok (.iload_n 3, 1) := by decide +kernel
theorem dX1_leastFrom_102 : decode cX1_leastFrom 102 = .ok (.iconst 1, 1) := by decide +kernel
theorem dX1_leastFrom_103 : decode cX1_leastFrom 103 = .ok (.iadd, 1) := by decide +kernel
theorem dX1_leastFrom_104 : decode cX1_leastFrom 104 = .ok (.invokestatic 56, 3) := by decide +kernel
theorem dX1_leastFrom_107 : decode cX1_leastFrom 107 = .ok (.lstore 8, 2) := by decide +kernel
theorem dX1_leastFrom_109 : decode cX1_leastFrom 109 = .ok (.lload 8, 2) := by decide +kernel
theorem dX1_leastFrom_111 : decode cX1_leastFrom 111 = .ok (.lconst 0, 1) := by decide +kernel
theorem dX1_leastFrom_112 : decode cX1_leastFrom 112 = .ok (.lcmp, 1) := by decide +kernel
theorem dX1_leastFrom_113 : decode cX1_leastFrom 113 = .ok (.ifCond .eq 6, 3) := by decide +kernel
theorem dX1_leastFrom_116 : decode cX1_leastFrom 116 = .ok (.lload 8, 2) := by decide +kernel
theorem dX1_leastFrom_118 : decode cX1_leastFrom 118 = .ok (.lreturn, 1) := by decide +kernel
theorem dX1_leastFrom_119 : decode cX1_leastFrom 119 = .ok (.iload 6, 2) := by decide +kernel
theorem dX1_leastFrom_121 : decode cX1_leastFrom 121 = .ok (.aload_n 0, 1) := by decide +kernel
theorem dX1_leastFrom_122 : decode cX1_leastFrom 122 = .ok (.iload 7, 2) := by decide +kernel
theorem dX1_leastFrom_124 : decode cX1_leastFrom 124 = .ok (.invokevirtual 60, 3) := by decide +kernel
theorem dX1_leastFrom_127 : decode cX1_leastFrom 127 = .ok (.iconst (-1), 1) := by decide +kernel
theorem dX1_leastFrom_128 : decode cX1_leastFrom 128 = .ok (.ixor, 1) := by decide +kernel
theorem dX1_leastFrom_129 : decode cX1_leastFrom 129 = .ok (.iand, 1) := by decide +kernel
theorem dX1_leastFrom_130 : decode cX1_leastFrom 130 = .ok (.istore 6, 2) := by decide +kernel
theorem dX1_leastFrom_132 : decode cX1_leastFrom 132 = .ok (.iinc 7 1, 3) := by decide +kernel
theorem dX1_leastFrom_135 : decode cX1_leastFrom 135 = .ok (.goto (-59), 3) := by decide +kernel
theorem dX1_leastFrom_138 : decode cX1_leastFrom 138 = .ok (.lconst 0, 1) := by decide +kernel
theorem dX1_leastFrom_139 : decode cX1_leastFrom 139 = .ok (.lreturn, 1) := by decide +kernel
set_option maxRecDepth 20000 in
theorem ggX1_countFrom_X0_verdict : GoodIn wsX1_countFrom wsX0_verdict := goodIn_r _ [8, 9, 10, 11, 12, 13, 14, 15, 16, 17, 18, 19, 20, 21, 22, 23, 7, 24, 25, 26, 27, 28, 29, 30, 31, 139, 140, 141, 142, 143, 144, 145, 146, 147, 148, 149, 150, 151, 152, 153, 154, 155, 156, 157, 158, 159, 160, 161, 162] (by decide +kernel) (by decide +kernel)
set_option maxRecDepth 20000 in
theorem gX1_countFrom_X0_verdict_u31X0 : GoodIn wsX1_countFrom (va_wsU RX1 31 RX0 "SupportSolver$Constraint" ⟨"SupportSolver$Constraint", "verdict", "(J)I"⟩ yX0_verdict wsX0_verdict) := goodIn_app (goodIn_of _ (by decide +kernel)) ggX1_countFrom_X0_verdict
set_option maxRecDepth 20000 in
theorem ggX1_countFrom_X2_verdict : GoodIn wsX1_countFrom wsX2_verdict := goodIn_r _ [35, 36, 37, 38, 39, 40, 41, 42, 43, 44, 45, 46, 47, 48, 49, 50, 51, 52, 53, 54, 55, 56, 57, 58, 59, 20, 60, 61, 62, 63, 64, 65, 139, 140, 141, 142, 143, 144, 145, 146, 147, 148, 149, 150, 151, 152, 153, 154, 155, 156, 157, 158, 159, 160, 161, 162] (by decide +kernel) (by decide +kernel)
set_option maxRecDepth 20000 in
theorem gX1_countFrom_X2_verdict_u31X2 : GoodIn wsX1_countFrom (va_wsU RX1 31 RX2 "SupportSolver$Constraint" ⟨"SupportSolver$Constraint", "verdict", "(J)I"⟩ yX2_verdict wsX2_verdict) := goodIn_app (goodIn_of _ (by decide +kernel)) ggX1_countFrom_X2_verdict
set_option maxRecDepth 20000 in
theorem ggX1_countFrom_X4_verdict : GoodIn wsX1_countFrom wsX4_verdict := goodIn_r _ [69, 70, 71, 72, 150, 151, 152, 153, 154, 139, 140, 141, 142, 143, 144, 145, 146, 147, 148, 149, 155, 156, 157, 158, 159, 160, 161, 162] (by decide +kernel) (by decide +kernel)
set_option maxRecDepth 20000 in
theorem gX1_countFrom_X4_verdict_u31X4 : GoodIn wsX1_countFrom (va_wsU RX1 31 RX4 "SupportSolver$Constraint" ⟨"SupportSolver$Constraint", "verdict", "(J)I"⟩ yX4_verdict wsX4_verdict) := goodIn_app (goodIn_of _ (by decide +kernel)) ggX1_countFrom_X4_verdict
set_option maxRecDepth 20000 in
theorem ggX1_countFrom_X10_verdict : GoodIn wsX1_countFrom wsX10_verdict := goodIn_r _ [76, 77, 78, 79, 80, 81, 82, 83, 84, 85, 45, 46, 47, 86, 87, 88, 14, 15, 16, 17, 89, 90, 20, 91, 92, 93, 59, 60, 61, 62, 63, 64, 65, 52, 53, 54, 55, 56, 57, 155, 156, 157, 158, 159, 160, 161, 162, 139, 140, 141, 142, 143, 144, 145, 146, 147, 148, 149, 150, 151, 152, 153, 154] (by decide +kernel) (by decide +kernel)
set_option maxRecDepth 20000 in
theorem gX1_countFrom_X10_verdict_u31X10 : GoodIn wsX1_countFrom (va_wsU RX1 31 RX10 "SupportSolver$Constraint" ⟨"SupportSolver$Constraint", "verdict", "(J)I"⟩ yX10_verdict wsX10_verdict) := goodIn_app (goodIn_of _ (by decide +kernel)) ggX1_countFrom_X10_verdict
set_option maxRecDepth 20000 in
theorem ggX1_countFrom_X5_assignments : GoodIn wsX1_countFrom wsX5_assignments := goodIn_r _ [96, 97, 90, 20, 91, 92, 98, 19, 21, 99, 26, 27, 28, 29, 30, 31] (by decide +kernel) (by decide +kernel)
set_option maxRecDepth 20000 in
theorem gX1_countFrom_X5_assignments : GoodIn wsX1_countFrom (va_wsS RX1 63 yX5_assignments wsX5_assignments) := goodIn_app (goodIn_of _ (by decide +kernel)) ggX1_countFrom_X5_assignments
set_option maxRecDepth 20000 in
theorem ggX1_countFrom_X1_variableAt : GoodIn wsX1_countFrom wsX1_variableAt := goodIn_r _ [16, 17, 139, 140, 141, 142, 143, 144, 145, 146, 147, 148, 149, 150, 151, 152, 153, 154, 155, 156, 157, 158, 159, 160, 161, 162] (by decide +kernel) (by decide +kernel)
set_option maxRecDepth 20000 in
theorem gX1_countFrom_X1_variableAt_u44X0 : GoodIn wsX1_countFrom (va_wsU RX1 44 RX0 "SupportSolver$Constraint" ⟨"SupportSolver$Constraint", "variableAt", "(I)I"⟩ yX1_variableAt wsX1_variableAt) := goodIn_app (goodIn_of _ (by decide +kernel)) ggX1_countFrom_X1_variableAt
set_option maxRecDepth 20000 in
theorem gX1_countFrom_X1_variableAt_u44X2 : GoodIn wsX1_countFrom (va_wsU RX1 44 RX2 "SupportSolver$Constraint" ⟨"SupportSolver$Constraint", "variableAt", "(I)I"⟩ yX1_variableAt wsX1_variableAt) := goodIn_app (goodIn_of _ (by decide +kernel)) ggX1_countFrom_X1_variableAt
set_option maxRecDepth 20000 in
theorem gX1_countFrom_X1_variableAt_u44X4 : GoodIn wsX1_countFrom (va_wsU RX1 44 RX4 "SupportSolver$Constraint" ⟨"SupportSolver$Constraint", "variableAt", "(I)I"⟩ yX1_variableAt wsX1_variableAt) := goodIn_app (goodIn_of _ (by decide +kernel)) ggX1_countFrom_X1_variableAt
set_option maxRecDepth 20000 in
theorem gX1_countFrom_X1_variableAt_u44X10 : GoodIn wsX1_countFrom (va_wsU RX1 44 RX10 "SupportSolver$Constraint" ⟨"SupportSolver$Constraint", "variableAt", "(I)I"⟩ yX1_variableAt wsX1_variableAt) := goodIn_app (goodIn_of _ (by decide +kernel)) ggX1_countFrom_X1_variableAt
set_option maxRecDepth 20000 in
theorem ggX1_countFrom_X5_valuesOf : GoodIn wsX1_countFrom wsX5_valuesOf := goodIn_r _ [21] (by decide +kernel) (by decide +kernel)
set_option maxRecDepth 20000 in
theorem gX1_countFrom_X5_valuesOf : GoodIn wsX1_countFrom (va_wsS RX1 48 yX5_valuesOf wsX5_valuesOf) := goodIn_app (goodIn_of _ (by decide +kernel)) ggX1_countFrom_X5_valuesOf
set_option maxRecDepth 20000 in
theorem ggX1_countFrom_X0_alike : GoodIn wsX1_countFrom wsX0_alike := goodIn_r _ [111] (by decide +kernel) (by decide +kernel)
set_option maxRecDepth 20000 in
theorem gX1_countFrom_X0_alike_u60X0 : GoodIn wsX1_countFrom (va_wsU RX1 60 RX0 "SupportSolver$Constraint" ⟨"SupportSolver$Constraint", "alike", "(I)I"⟩ yX0_alike wsX0_alike) := goodIn_app (goodIn_of _ (by decide +kernel)) ggX1_countFrom_X0_alike
set_option maxRecDepth 20000 in
theorem ggX1_countFrom_X2_alike : GoodIn wsX1_countFrom wsX2_alike := goodIn_r _ [114, 115, 116, 117, 118, 34, 119, 120, 121, 122, 143, 144, 145, 146, 147, 148, 149] (by decide +kernel) (by decide +kernel)
set_option maxRecDepth 20000 in
theorem gX1_countFrom_X2_alike_u60X2 : GoodIn wsX1_countFrom (va_wsU RX1 60 RX2 "SupportSolver$Constraint" ⟨"SupportSolver$Constraint", "alike", "(I)I"⟩ yX2_alike wsX2_alike) := goodIn_app (goodIn_of _ (by decide +kernel)) ggX1_countFrom_X2_alike
set_option maxRecDepth 20000 in
theorem ggX1_countFrom_X4_alike : GoodIn wsX1_countFrom wsX4_alike := goodIn_r _ [125] (by decide +kernel) (by decide +kernel)
set_option maxRecDepth 20000 in
theorem gX1_countFrom_X4_alike_u60X4 : GoodIn wsX1_countFrom (va_wsU RX1 60 RX4 "SupportSolver$Constraint" ⟨"SupportSolver$Constraint", "alike", "(I)I"⟩ yX4_alike wsX4_alike) := goodIn_app (goodIn_of _ (by decide +kernel)) ggX1_countFrom_X4_alike
set_option maxRecDepth 20000 in
theorem ggX1_countFrom_X10_alike : GoodIn wsX1_countFrom wsX10_alike := goodIn_r _ [128, 81, 155, 156, 157, 158, 159, 160, 161, 162] (by decide +kernel) (by decide +kernel)
set_option maxRecDepth 20000 in
theorem gX1_countFrom_X10_alike_u60X10 : GoodIn wsX1_countFrom (va_wsU RX1 60 RX10 "SupportSolver$Constraint" ⟨"SupportSolver$Constraint", "alike", "(I)I"⟩ yX10_alike wsX10_alike) := goodIn_app (goodIn_of _ (by decide +kernel)) ggX1_countFrom_X10_alike
set_option maxRecDepth 20000 in
theorem ggX1_countFrom_X5_narrowed : GoodIn wsX1_countFrom wsX5_narrowed := goodIn_r _ [131, 132, 97, 90, 20, 91, 92, 133, 134, 135] (by decide +kernel) (by decide +kernel)
set_option maxRecDepth 20000 in
theorem gX1_countFrom_X5_narrowed : GoodIn wsX1_countFrom (va_wsS RX1 52 yX5_narrowed wsX5_narrowed) := goodIn_app (goodIn_of _ (by decide +kernel)) ggX1_countFrom_X5_narrowed
set_option maxRecDepth 20000 in
theorem ggX1_countFrom_J6_bitCount_0f7a4 : GoodIn wsX1_countFrom wsJ6_bitCount_0f7a4 := goodIn_r _ [28, 29, 30, 31] (by decide +kernel) (by decide +kernel)
set_option maxRecDepth 20000 in
theorem gX1_countFrom_J6_bitCount_0f7a4 : GoodIn wsX1_countFrom (va_wsS RX1 67 yJ6_bitCount_0f7a4 wsJ6_bitCount_0f7a4) := goodIn_app (goodIn_of _ (by decide +kernel)) ggX1_countFrom_J6_bitCount_0f7a4
set_option maxRecDepth 20000 in
theorem ggX1_countFrom_X1_countFrom : GoodIn wsX1_countFrom wsX1_countFrom := goodIn_r _ [0, 1, 2, 3, 4, 5, 6, 7, 8, 9, 10, 11, 12, 13, 14, 15, 16, 17, 18, 19, 20, 21, 22, 23, 24, 25, 26, 27, 28, 29, 30, 31, 32, 33, 34, 35, 36, 37, 38, 39, 40, 41, 42, 43, 44, 45, 46, 47, 48, 49, 50, 51, 52, 53, 54, 55, 56, 57, 58, 59, 60, 61, 62, 63, 64, 65, 66, 67, 68, 69, 70, 71, 72, 73, 74, 75, 76, 77, 78, 79, 80, 81, 82, 83, 84, 85, 86, 87, 88, 89, 90, 91, 92, 93, 94, 95, 96, 97, 98, 99, 100, 101, 102, 103, 104, 105, 106, 107, 108, 109, 110, 111, 112, 113, 114, 115, 116, 117, 118, 119, 120, 121, 122, 123, 124, 125, 126, 127, 128, 129, 130, 131, 132, 133, 134, 135, 136, 137, 138, 139, 140, 141, 142, 143, 144, 145, 146, 147, 148, 149, 150, 151, 152, 153, 154, 155, 156, 157, 158, 159, 160, 161, 162] (by decide +kernel) (by decide +kernel)
set_option maxRecDepth 20000 in
theorem gX1_countFrom_X1_countFrom : GoodIn wsX1_countFrom (va_wsS RX1 71 yX1_countFrom wsX1_countFrom) := goodIn_app (goodIn_of _ (by decide +kernel)) ggX1_countFrom_X1_countFrom
theorem dX1_countFrom_0 : decode cX1_countFrom 0 = .ok (.aload_n 0, 1) := by decide +kernel
theorem dX1_countFrom_1 : decode cX1_countFrom 1 = .ok (.lload_n 1, 1) := by decide +kernel
theorem dX1_countFrom_2 : decode cX1_countFrom 2 = .ok (.invokevirtual 31, 3) := by decide +kernel
theorem dX1_countFrom_5 : decode cX1_countFrom 5 = .ok (.istore 4, 2) := by decide +kernel
theorem dX1_countFrom_7 : decode cX1_countFrom 7 = .ok (.iload 4, 2) := by decide +kernel
theorem dX1_countFrom_9 : decode cX1_countFrom 9 = .ok (.ifCond .ne 5, 3) := by decide +kernel
theorem dX1_countFrom_12 : decode cX1_countFrom 12 = .ok (.iconst 0, 1) := by decide +kernel
theorem dX1_countFrom_13 : decode cX1_countFrom 13 = .ok (.ireturn, 1) := by decide +kernel
theorem dX1_countFrom_14 : decode cX1_countFrom 14 = .ok (.iload 4, 2) := by decide +kernel
theorem dX1_countFrom_16 : decode cX1_countFrom 16 = .ok (.iconst 2, 1) := by decide +kernel
theorem dX1_countFrom_17 : decode cX1_countFrom 17 = .ok (.if_icmp .eq 11, 3) := by decide +kernel
theorem dX1_countFrom_20 : decode cX1_countFrom 20 = .ok (.iload_n 3, 1) := by decide +kernel
theorem dX1_countFrom_21 : decode cX1_countFrom 21 = .ok (.aload_n 0, 1) := by decide +kernel
theorem dX1_countFrom_22 : decode cX1_countFrom 22 = .ok (.getfield 9, 3) := by decide +kernel
theorem dX1_countFrom_25 : decode cX1_countFrom 25 = .ok (.if_icmp .lt 12, 3) := by decide +kernel
theorem dX1_countFrom_28 : decode cX1_countFrom 28 = .ok (.lload_n 1, 1) := by decide +kernel
theorem dX1_countFrom_29 : decode cX1_countFrom 29 = .ok (.aload_n 0, 1) := by decide +kernel
theorem dX1_countFrom_30 : decode cX1_countFrom 30 = .ok (.getfield 15, 3) := by decide +kernel
theorem dX1_countFrom_33 : decode cX1_countFrom 33 = .ok (.invokestatic 63, 3) := by decide +kernel
theorem dX1_countFrom_36 : decode cX1_countFrom 36 = .ok (.ireturn, 1) := by decide +kernel
theorem dX1_countFrom_37 : decode cX1_countFrom 37 = .ok (.aload_n 0, 1) := by decide +kernel
theorem dX1_countFrom_38 : decode cX1_countFrom 38 = .ok (.iload_n 3, 1) := by decide +kernel
theorem dX1_countFrom_39 : decode cX1_countFrom 39 = .ok (.invokevirtual 44, 3) := by decide +kernel
theorem dX1_countFrom_42 : decode cX1_countFrom 42 = .ok (.istore 5, 2) := by decide +kernel
theorem dX1_countFrom_44 : decode cX1_countFrom 44 = .ok (.lload_n 1, 1) := by decide +kernel
theorem dX1_countFrom_45 : decode cX1_countFrom 45 = .ok (.iload 5, 2) := by decide +kernel
theorem dX1_countFrom_47 : decode cX1_countFrom 47 = .ok (.invokestatic 48, 3) := by decide +kernel
theorem dX1_countFrom_50 : decode cX1_countFrom 50 = .ok (.istore 6, 2) := by decide +kernel
theorem dX1_countFrom_52 : decode cX1_countFrom 52 = .ok (.iconst 0, 1) := by decide +kernel
theorem dX1_countFrom_53 : decode cX1_countFrom 53 = .ok (.istore 7, 2) := by decide +kernel
theorem dX1_countFrom_55 : decode cX1_countFrom 55 = .ok (.iconst 0, 1) := by decide +kernel
theorem dX1_countFrom_56 : decode cX1_countFrom 56 = .ok (.istore 8, 2) := by decide +kernel
theorem dX1_countFrom_58 : decode cX1_countFrom 58 = .ok (.iload 8, 2) := by decide +kernel
theorem dX1_countFrom_60 : decode cX1_countFrom 60 = .ok (.iconst 5, 1) := by decide +kernel
theorem dX1_countFrom_61 : decode cX1_countFrom 61 = .ok (.if_icmp .ge 69, 3) := by decide +kernel
theorem dX1_countFrom_64 : decode cX1_countFrom 64 = .ok (.iload 6, 2) := by decide +kernel
theorem dX1_countFrom_66 : decode cX1_countFrom 66 = .ok (.iload 8, 2) := by decide +kernel
theorem dX1_countFrom_68 : decode cX1_countFrom 68 = .ok (.iushr, 1) := by decide +kernel
theorem dX1_countFrom_69 : decode cX1_countFrom 69 = .ok (.iconst 1, 1) := by decide +kernel
theorem dX1_countFrom_70 : decode cX1_countFrom 70 = .ok (.iand, 1) := by decide +kernel
theorem dX1_countFrom_71 : decode cX1_countFrom 71 = .ok (.ifCond .eq 53, 3) := by decide +kernel
theorem dX1_countFrom_74 : decode cX1_countFrom 74 = .ok (.iload 6, 2) := by decide +kernel
theorem dX1_countFrom_76 : decode cX1_countFrom 76 = .ok (.aload_n 0, 1) := by decide +kernel
theorem dX1_countFrom_77 : decode cX1_countFrom 77 = .ok (.iload 8, 2) := by decide +kernel
theorem dX1_countFrom_79 : decode cX1_countFrom 79 = .ok (.invokevirtual 60, 3) := by decide +kernel
theorem dX1_countFrom_82 : decode cX1_countFrom 82 = .ok (.iand, 1) := by decide +kernel
theorem dX1_countFrom_83 : decode cX1_countFrom 83 = .ok (.istore 9, 2) := by decide +kernel
theorem dX1_countFrom_85 : decode cX1_countFrom 85 = .ok (.lload_n 1, 1) := by decide +kernel
theorem dX1_countFrom_86 : decode cX1_countFrom 86 = .ok (.iload 5, 2) := by decide +kernel
theorem dX1_countFrom_88 : decode cX1_countFrom 88 = .ok (.iload 8, 2) := by decide +kernel
theorem dX1_countFrom_90 : decode cX1_countFrom 90 = .ok (.invokestatic 52, 3) := by decide +kernel
theorem dX1_countFrom_93 : decode cX1_countFrom 93 = .ok (.lstore 10, 2) := by decide +kernel
theorem dX1_countFrom_95 : decode cX1_countFrom 95 = .ok (.iload 7, 2) := by decide +kernel
theorem dX1_countFrom_97 : decode cX1_countFrom 97 = .ok (.iload 9, 2) := by decide +kernel
theorem dX1_countFrom_99 : decode cX1_countFrom 99 = .ok (.invokestatic 67, 3) := by decide +kernel
theorem dX1_countFrom_102 : decode cX1_countFrom 102 = .ok (.aload_n 0, 1) := by decide +kernel
theorem dX1_countFrom_103 : decode cX1_countFrom 103 = .ok (.lload 10, 2) := by decide +kernel
theorem dX1_countFrom_105 : decode cX1_countFrom 105 = .ok (.iload_n 3, 1) := by decide +kernel
theorem dX1_countFrom_106 : decode cX1_countFrom 106 = .ok (.iconst 1, 1) := by decide +kernel
theorem dX1_countFrom_107 : decode cX1_countFrom 107 = .ok (.iadd, 1) := by decide +kernel
theorem dX1_countFrom_108 : decode cX1_countFrom 108 = .ok (.invokestatic 71, 3) := by decide +kernel
theorem dX1_countFrom_111 : decode cX1_countFrom 111 = .ok (.imul, 1) := by decide +kernel
theorem dX1_countFrom_112 : decode cX1_countFrom 112 = .ok (.iadd, 1) := by decide +kernel
theorem dX1_countFrom_113 : decode cX1_countFrom 113 = .ok (.istore 7, 2) := by decide +kernel
theorem dX1_countFrom_115 : decode cX1_countFrom 115 = .ok (.iload 6, 2) := by decide +kernel
theorem dX1_countFrom_117 : decode cX1_countFrom 117 = .ok (.iload 9, 2) := by decide +kernel
theorem dX1_countFrom_119 : decode cX1_countFrom 119 = .ok (.iconst (-1), 1) := by decide +kernel
theorem dX1_countFrom_120 : decode cX1_countFrom 120 = .ok (.ixor, 1) := by decide +kernel
theorem dX1_countFrom_121 : decode cX1_countFrom 121 = .ok (.iand, 1) := by decide +kernel
theorem dX1_countFrom_122 : decode cX1_countFrom 122 = .ok (.istore 6, 2) := by decide +kernel
theorem dX1_countFrom_124 : decode cX1_countFrom 124 = .ok (.iinc 8 1, 3) := by decide +kernel
theorem dX1_countFrom_127 : decode cX1_countFrom 127 = .ok (.goto (-69), 3) := by decide +kernel
theorem dX1_countFrom_130 : decode cX1_countFrom 130 = .ok (.iload 7, 2) := by decide +kernel
theorem dX1_countFrom_132 : decode cX1_countFrom 132 = .ok (.ireturn, 1) := by decide +kernel
set_option maxRecDepth 20000 in
theorem ggX2_init_X1_init : GoodIn wsX2_init wsX1_init := goodIn_r _ [7, 8, 9, 10, 11, 12, 13, 14, 22, 23, 24, 25, 15, 16, 17, 18, 19, 20, 21, 26, 27, 28, 29, 30, 31, 32, 33, 34, 35, 36, 37, 38] (by decide +kernel) (by decide +kernel)
set_option maxRecDepth 20000 in
theorem gX2_init_X1_init : GoodIn wsX2_init (wsX1_init) := ggX2_init_X1_init
theorem dX2_init_0 : decode cX2_init 0 = .ok (.aload_n 0, 1) := by decide +kernel
theorem dX2_init_1 : decode cX2_init 1 = .ok (.iconst 0, 1) := by decide +kernel
theorem dX2_init_2 : decode cX2_init 2 = .ok (.invokespecial 5, 3) := by decide +kernel
theorem dX2_init_5 : decode cX2_init 5 = .ok (.aload_n 0, 1) := by decide +kernel
theorem dX2_init_6 : decode cX2_init 6 = .ok (.iconst 0, 1) := by decide +kernel
theorem dX2_init_7 : decode cX2_init 7 = .ok (.putfield 9, 3) := by decide +kernel
theorem dX2_init_10 : decode cX2_init 10 = .ok (.aload_n 0, 1) := by decide +kernel
theorem dX2_init_11 : decode cX2_init 11 = .ok (.sipush 32767, 3) := by decide +kernel
theorem dX2_init_14 : decode cX2_init 14 = .ok (.putfield 15, 3) := by decide +kernel
theorem dX2_init_17 : decode cX2_init 17 = .ok (.aload_n 0, 1) := by decide +kernel
theorem dX2_init_18 : decode cX2_init 18 = .ok (.iconst 0, 1) := by decide +kernel
theorem dX2_init_19 : decode cX2_init 19 = .ok (.putfield 18, 3) := by decide +kernel
theorem dX2_init_22 : decode cX2_init 22 = .ok (.return_, 1) := by decide +kernel
set_option maxRecDepth 20000 in
theorem ggX2_hasCount_X11_isValue : GoodIn wsX2_hasCount wsX11_isValue := goodIn_r _ [4] (by decide +kernel) (by decide +kernel)
set_option maxRecDepth 20000 in
theorem gX2_hasCount_X11_isValue_n21 : GoodIn wsX2_hasCount (wsX11_isValue) := ggX2_hasCount_X11_isValue
theorem dX2_hasCount_0 : decode cX2_hasCount 0 = .ok (.iload_n 1, 1) := by decide +kernel
theorem dX2_hasCount_1 : decode cX2_hasCount 1 = .ok (.invokestatic 21, 3) := by decide +kernel
theorem dX2_hasCount_4 : decode cX2_hasCount 4 = .ok (.ifCond .eq 18, 3) := by decide +kernel
theorem dX2_hasCount_7 : decode cX2_hasCount 7 = .ok (.aload_n 0, 1) := by decide +kernel
theorem dX2_hasCount_8 : decode cX2_hasCount 8 = .ok (.getfield 18, 3) := by decide +kernel
theorem dX2_hasCount_11 : decode cX2_hasCount 11 = .ok (.iload_n 1, 1) := by decide +kernel
theorem dX2_hasCount_12 : decode cX2_hasCount 12 = .ok (.iushr, 1) := by decide +kernel
theorem dX2_hasCount_13 : decode cX2_hasCount 13 = .ok (.iconst 1, 1) := by decide +kernel
theorem dX2_hasCount_14 : decode cX2_hasCount 14 = .ok (.iand, 1) := by decide +kernel
theorem dX2_hasCount_15 : decode cX2_hasCount 15 = .ok (.ifCond .eq 7, 3) := by decide +kernel
theorem dX2_hasCount_18 : decode cX2_hasCount 18 = .ok (.iconst 1, 1) := by decide +kernel
theorem dX2_hasCount_19 : decode cX2_hasCount 19 = .ok (.goto 4, 3) := by decide +kernel
theorem dX2_hasCount_22 : decode cX2_hasCount 22 = .ok (.iconst 0, 1) := by decide +kernel
theorem dX2_hasCount_23 : decode cX2_hasCount 23 = .ok (.ireturn, 1) := by decide +kernel
theorem dX2_addCount_0 : decode cX2_addCount 0 = .ok (.aload_n 0, 1) := by decide +kernel
theorem dX2_addCount_1 : decode cX2_addCount 1 = .ok (.dup, 1) := by decide +kernel
theorem dX2_addCount_2 : decode cX2_addCount 2 = .ok (.getfield 18, 3) := by decide +kernel
theorem dX2_addCount_5 : decode cX2_addCount 5 = .ok (.iconst 1, 1) := by decide +kernel
theorem dX2_addCount_6 : decode cX2_addCount 6 = .ok (.iload_n 1, 1) := by decide +kernel
theorem dX2_addCount_7 : decode cX2_addCount 7 = .ok (.ishl, 1) := by decide +kernel
theorem dX2_addCount_8 : decode cX2_addCount 8 = .ok (.ior, 1) := by decide +kernel
theorem dX2_addCount_9 : decode cX2_addCount 9 = .ok (.putfield 18, 3) := by decide +kernel
theorem dX2_addCount_12 : decode cX2_addCount 12 = .ok (.aload_n 0, 1) := by decide +kernel
theorem dX2_addCount_13 : decode cX2_addCount 13 = .ok (.dup, 1) := by decide +kernel
theorem dX2_addCount_14 : decode cX2_addCount 14 = .ok (.getfield 9, 3) := by decide +kernel
theorem dX2_addCount_17 : decode cX2_addCount 17 = .ok (.iload_n 2, 1) := by decide +kernel
theorem dX2_addCount_18 : decode cX2_addCount 18 = .ok (.iconst 3, 1) := by decide +kernel
theorem dX2_addCount_19 : decode cX2_addCount 19 = .ok (.iload_n 1, 1) := by decide +kernel
theorem dX2_addCount_20 : decode cX2_addCount 20 = .ok (.imul, 1) := by decide +kernel
theorem dX2_addCount_21 : decode cX2_addCount 21 = .ok (.ishl, 1) := by decide +kernel
theorem dX2_addCount_22 : decode cX2_addCount 22 = .ok (.ior, 1) := by decide +kernel
theorem dX2_addCount_23 : decode cX2_addCount 23 = .ok (.putfield 9, 3) := by decide +kernel
theorem dX2_addCount_26 : decode cX2_addCount 26 = .ok (.aload_n 0, 1) := by decide +kernel
theorem dX2_addCount_27 : decode cX2_addCount 27 = .ok (.dup, 1) := by decide +kernel
theorem dX2_addCount_28 : decode cX2_addCount 28 = .ok (.getfield 15, 3) := by decide +kernel
theorem dX2_addCount_31 : decode cX2_addCount 31 = .ok (.bipush 7, 2) := by decide +kernel
theorem dX2_addCount_33 : decode cX2_addCount 33 = .ok (.iconst 3, 1) := by decide +kernel
theorem dX2_addCount_34 : decode cX2_addCount 34 = .ok (.iload_n 1, 1) := by decide +kernel
theorem dX2_addCount_35 : decode cX2_addCount 35 = .ok (.imul, 1) := by decide +kernel
theorem dX2_addCount_36 : decode cX2_addCount 36 = .ok (.ishl, 1) := by decide +kernel
theorem dX2_addCount_37 : decode cX2_addCount 37 = .ok (.iconst (-1), 1) := by decide +kernel
theorem dX2_addCount_38 : decode cX2_addCount 38 = .ok (.ixor, 1) := by decide +kernel
theorem dX2_addCount_39 : decode cX2_addCount 39 = .ok (.iload_n 3, 1) := by decide +kernel
theorem dX2_addCount_40 : decode cX2_addCount 40 = .ok (.iconst 3, 1) := by decide +kernel
theorem dX2_addCount_41 : decode cX2_addCount 41 = .ok (.iload_n 1, 1) := by decide +kernel
theorem dX2_addCount_42 : decode cX2_addCount 42 = .ok (.imul, 1) := by decide +kernel
theorem dX2_addCount_43 : decode cX2_addCount 43 = .ok (.ishl, 1) := by decide +kernel
theorem dX2_addCount_44 : decode cX2_addCount 44 = .ok (.ior, 1) := by decide +kernel
theorem dX2_addCount_45 : decode cX2_addCount 45 = .ok (.iand, 1) := by decide +kernel
theorem dX2_addCount_46 : decode cX2_addCount 46 = .ok (.putfield 15, 3) := by decide +kernel
theorem dX2_addCount_49 : decode cX2_addCount 49 = .ok (.return_, 1) := by decide +kernel
set_option maxRecDepth 20000 in
theorem ggX2_verdict_J13_bitCount_95d88 : GoodIn wsX2_verdict wsJ13_bitCount_95d88 := goodIn_r _ [19, 20, 21, 22] (by decide +kernel) (by decide +kernel)
set_option maxRecDepth 20000 in
theorem gX2_verdict_J13_bitCount_95d88 : GoodIn wsX2_verdict (va_wsS RX2 33 yJ13_bitCount_95d88 wsJ13_bitCount_95d88) := goodIn_app (goodIn_of _ (by decide +kernel)) ggX2_verdict_J13_bitCount_95d88
set_option maxRecDepth 20000 in
theorem ggX2_verdict_X5_variablesIn : GoodIn wsX2_verdict wsX5_variablesIn := goodIn_r _ [26, 27, 28, 25, 29, 30, 31, 17, 18, 19, 20, 21, 22] (by decide +kernel) (by decide +kernel)
set_option maxRecDepth 20000 in
theorem gX2_verdict_X5_variablesIn : GoodIn wsX2_verdict (va_wsS RX2 44 yX5_variablesIn wsX5_variablesIn) := goodIn_app (goodIn_of _ (by decide +kernel)) ggX2_verdict_X5_variablesIn
theorem dX2_verdict_0 : decode cX2_verdict 0 = .ok (.iconst 2, 1) := by decide +kernel
theorem dX2_verdict_1 : decode cX2_verdict 1 = .ok (.istore_n 3, 1) := by decide +kernel
theorem dX2_verdict_2 : decode cX2_verdict 2 = .ok (.iconst 0, 1) := by decide +kernel
theorem dX2_verdict_3 : decode cX2_verdict 3 = .ok (.istore 4, 2) := by decide +kernel
theorem dX2_verdict_5 : decode cX2_verdict 5 = .ok (.iconst 0, 1) := by decide +kernel
theorem dX2_verdict_6 : decode cX2_verdict 6 = .ok (.istore 5, 2) := by decide +kernel
theorem dX2_verdict_8 : decode cX2_verdict 8 = .ok (.iconst 0, 1) := by decide +kernel
theorem dX2_verdict_9 : decode cX2_verdict 9 = .ok (.istore 6, 2) := by decide +kernel
theorem dX2_verdict_11 : decode cX2_verdict 11 = .ok (.iload 6, 2) := by decide +kernel
theorem dX2_verdict_13 : decode cX2_verdict 13 = .ok (.iconst 5, 1) := by decide +kernel
theorem dX2_verdict_14 : decode cX2_verdict 14 = .ok (.if_icmp .ge 126, 3) := by decide +kernel
theorem dX2_verdict_17 : decode cX2_verdict 17 = .ok (.iload_n 3, 1) := by decide +kernel
theorem dX2_verdict_18 : decode cX2_verdict 18 = .ok (.ifCond .eq 122, 3) := by decide +kernel
theorem dX2_verdict_21 : decode cX2_verdict 21 = .ok (.ldc2_w 27, 3) := by decide +kernel
theorem dX2_verdict_24 : decode cX2_verdict 24 = .ok (.iload 6, 2) := by decide +kernel
theorem dX2_verdict_26 : decode cX2_verdict 26 = .ok (.lshl, 1) := by decide +kernel
theorem dX2_verdict_27 : decode cX2_verdict 27 = .ok (.aload_n 0, 1) := by decide +kernel
theorem dX2_verdict_28 : decode cX2_verdict 28 = .ok (.getfield 29, 3) := by decide +kernel
theorem dX2_verdict_31 : decode cX2_verdict 31 = .ok (.land, 1) := by decide +kernel
theorem dX2_verdict_32 : decode cX2_verdict 32 = .ok (.lstore 7, 2) := by decide +kernel
theorem dX2_verdict_34 : decode cX2_verdict 34 = .ok (.lload_n 1, 1) := by decide +kernel
theorem dX2_verdict_35 : decode cX2_verdict 35 = .ok (.lload 7, 2) := by decide +kernel
theorem dX2_verdict_37 : decode cX2_verdict 37 = .ok (.land, 1) := by decide +kernel
theorem dX2_verdict_38 : decode cX2_verdict 38 = .ok (.invokestatic 33, 3) := by decide +kernel
theorem dX2_verdict_41 : decode cX2_verdict 41 = .ok (.istore 9, 2) := by decide +kernel
theorem dX2_verdict_43 : decode cX2_verdict 43 = .ok (.aload_n 0, 1) := by decide +kernel
theorem dX2_verdict_44 : decode cX2_verdict 44 = .ok (.getfield 39, 3) := by decide +kernel
theorem dX2_verdict_47 : decode cX2_verdict 47 = .ok (.lload_n 1, 1) := by decide +kernel
theorem dX2_verdict_48 : decode cX2_verdict 48 = .ok (.aload_n 0, 1) := by decide +kernel
theorem dX2_verdict_49 : decode cX2_verdict 49 = .ok (.getfield 29, 3) := by decide +kernel
theorem dX2_verdict_52 : decode cX2_verdict 52 = .ok (.land, 1) := by decide +kernel
theorem dX2_verdict_53 : decode cX2_verdict 53 = .ok (.lload 7, 2) := by decide +kernel
theorem dX2_verdict_55 : decode cX2_verdict 55 = .ok (.ldc2_w 42, 3) := by decide +kernel
theorem dX2_verdict_58 : decode cX2_verdict 58 = .ok (.lxor, 1) := by decide +kernel
theorem dX2_verdict_59 : decode cX2_verdict 59 = .ok (.land, 1) := by decide +kernel
theorem dX2_verdict_60 : decode cX2_verdict 60 = .ok (.invokestatic 44, 3) := by decide +kernel
theorem dX2_verdict_63 : decode cX2_verdict 63 = .ok (.isub, 1) := by decide +kernel
theorem dX2_verdict_64 : decode cX2_verdict 64 = .ok (.istore 10, 2) := by decide +kernel
theorem dX2_verdict_66 : decode cX2_verdict 66 = .ok (.aload_n 0, 1) := by decide +kernel
theorem dX2_verdict_67 : decode cX2_verdict 67 = .ok (.getfield 9, 3) := by decide +kernel
theorem dX2_verdict_70 : decode cX2_verdict 70 = .ok (.iconst 3, 1) := by decide +kernel
theorem dX2_verdict_71 : decode cX2_verdict 71 = .ok (.iload 6, 2) := by decide +kernel
theorem dX2_verdict_73 : decode cX2_verdict 73 = .ok (.imul, 1) := by decide +kernel
theorem dX2_verdict_74 : decode cX2_verdict 74 = .ok (.iushr, 1) := by decide +kernel
theorem dX2_verdict_75 : decode cX2_verdict 75 = .ok (.bipush 7, 2) := by decide +kernel
theorem dX2_verdict_77 : decode cX2_verdict 77 = .ok (.iand, 1) := by decide +kernel
theorem dX2_verdict_78 : decode cX2_verdict 78 = .ok (.istore 11, 2) := by decide +kernel
theorem dX2_verdict_80 : decode cX2_verdict 80 = .ok (.aload_n 0, 1) := by decide +kernel
theorem dX2_verdict_81 : decode cX2_verdict 81 = .ok (.getfield 15, 3) := by decide +kernel
theorem dX2_verdict_84 : decode cX2_verdict 84 = .ok (.iconst 3, 1) := by decide +kernel
theorem dX2_verdict_85 : decode cX2_verdict 85 = .ok (.iload 6, 2) := by decide +kernel
theorem dX2_verdict_87 : decode cX2_verdict 87 = .ok (.imul, 1) := by decide +kernel
theorem dX2_verdict_88 : decode cX2_verdict 88 = .ok (.iushr, 1) := by decide +kernel
theorem dX2_verdict_89 : decode cX2_verdict 89 = .ok (.bipush 7, 2) := by decide +kernel
theorem dX2_verdict_91 : decode cX2_verdict 91 = .ok (.iand, 1) := by decide +kernel
theorem dX2_verdict_92 : decode cX2_verdict 92 = .ok (.istore 12, 2) := by decide +kernel
theorem dX2_verdict_94 : decode cX2_verdict 94 = .ok (.iload_n 3, 1) := by decide +kernel
theorem dX2_verdict_95 : decode cX2_verdict 95 = .ok (.iload 10, 2) := by decide +kernel
theorem dX2_verdict_97 : decode cX2_verdict 97 = .ok (.iload 9, 2) := by decide +kernel
theorem dX2_verdict_99 : decode cX2_verdict 99 = .ok (.iload 11, 2) := by decide +kernel
theorem dX2_verdict_101 : decode cX2_verdict 101 = .ok (.iload 12, 2) := by decide +kernel
theorem dX2_verdict_103 : decode cX2_verdict 103 = .ok (.invokestatic 47, 3) := by decide +kernel
theorem dX2_verdict_106 : decode cX2_verdict 106 = .ok (.invokestatic 51, 3) := by decide +kernel
theorem dX2_verdict_109 : decode cX2_verdict 109 = .ok (.istore_n 3, 1) := by decide +kernel
theorem dX2_verdict_110 : decode cX2_verdict 110 = .ok (.iload 4, 2) := by decide +kernel
theorem dX2_verdict_112 : decode cX2_verdict 112 = .ok (.iload 10, 2) := by decide +kernel
theorem dX2_verdict_114 : decode cX2_verdict 114 = .ok (.iload 11, 2) := by decide +kernel
theorem dX2_verdict_116 : decode cX2_verdict 116 = .ok (.invokestatic 57, 3) := by decide +kernel
theorem dX2_verdict_119 : decode cX2_verdict 119 = .ok (.iadd, 1) := by decide +kernel
theorem dX2_verdict_120 : decode cX2_verdict 120 = .ok (.istore 4, 2) := by decide +kernel
theorem dX2_verdict_122 : decode cX2_verdict 122 = .ok (.iload 5, 2) := by decide +kernel
theorem dX2_verdict_124 : decode cX2_verdict 124 = .ok (.iload 9, 2) := by decide +kernel
theorem dX2_verdict_126 : decode cX2_verdict 126 = .ok (.iload 12, 2) := by decide +kernel
theorem dX2_verdict_128 : decode cX2_verdict 128 = .ok (.invokestatic 51, 3) := by decide +kernel
theorem dX2_verdict_131 : decode cX2_verdict 131 = .ok (.iadd, 1) := by decide +kernel
theorem dX2_verdict_132 : decode cX2_verdict 132 = .ok (.istore 5, 2) := by decide +kernel
theorem dX2_verdict_134 : decode cX2_verdict 134 = .ok (.iinc 6 1, 3) := by decide +kernel
theorem dX2_verdict_137 : decode cX2_verdict 137 = .ok (.goto (-126), 3) := by decide +kernel
theorem dX2_verdict_140 : decode cX2_verdict 140 = .ok (.iload 4, 2) := by decide +kernel
theorem dX2_verdict_142 : decode cX2_verdict 142 = .ok (.aload_n 0, 1) := by decide +kernel
theorem dX2_verdict_143 : decode cX2_verdict 143 = .ok (.getfield 39, 3) := by decide +kernel
theorem dX2_verdict_146 : decode cX2_verdict 146 = .ok (.if_icmp .gt 12, 3) := by decide +kernel
theorem dX2_verdict_149 : decode cX2_verdict 149 = .ok (.iload 5, 2) := by decide +kernel
theorem dX2_verdict_151 : decode cX2_verdict 151 = .ok (.aload_n 0, 1) := by decide +kernel
theorem dX2_verdict_152 : decode cX2_verdict 152 = .ok (.getfield 39, 3) := by decide +kernel
theorem dX2_verdict_155 : decode cX2_verdict 155 = .ok (.if_icmp .ge 7, 3) := by decide +kernel
theorem dX2_verdict_158 : decode cX2_verdict 158 = .ok (.iconst 0, 1) := by decide +kernel
theorem dX2_verdict_159 : decode cX2_verdict 159 = .ok (.goto 4, 3) := by decide +kernel
theorem dX2_verdict_162 : decode cX2_verdict 162 = .ok (.iload_n 3, 1) := by decide +kernel
theorem dX2_verdict_163 : decode cX2_verdict 163 = .ok (.ireturn, 1) := by decide +kernel
set_option maxRecDepth 20000 in
theorem ggX2_alike_X2_hasCount : GoodIn wsX2_alike wsX2_hasCount := goodIn_r _ [6, 1, 7, 8, 9, 10, 11, 12, 13, 14, 15, 16] (by decide +kernel) (by decide +kernel)
set_option maxRecDepth 20000 in
theorem gX2_alike_X2_hasCount : GoodIn wsX2_alike (wsV RX2 60 RX2 yX2_hasCount wsX2_hasCount) := goodIn_app (goodIn_of _ (by decide +kernel)) ggX2_alike_X2_hasCount
theorem dX2_alike_0 : decode cX2_alike 0 = .ok (.aload_n 0, 1) := by decide +kernel
theorem dX2_alike_1 : decode cX2_alike 1 = .ok (.iload_n 1, 1) := by decide +kernel
theorem dX2_alike_2 : decode cX2_alike 2 = .ok (.invokevirtual 60, 3) := by decide +kernel
theorem dX2_alike_5 : decode cX2_alike 5 = .ok (.ifCond .eq 9, 3) := by decide +kernel
theorem dX2_alike_8 : decode cX2_alike 8 = .ok (.iconst 1, 1) := by decide +kernel
theorem dX2_alike_9 : decode cX2_alike 9 = .ok (.iload_n 1, 1) := by decide +kernel
theorem dX2_alike_10 : decode cX2_alike 10 = .ok (.ishl, 1) := by decide +kernel
theorem dX2_alike_11 : decode cX2_alike 11 = .ok (.goto 12, 3) := by decide +kernel
theorem dX2_alike_14 : decode cX2_alike 14 = .ok (.bipush 31, 2) := by decide +kernel
theorem dX2_alike_16 : decode cX2_alike 16 = .ok (.aload_n 0, 1) := by decide +kernel
theorem dX2_alike_17 : decode cX2_alike 17 = .ok (.getfield 18, 3) := by decide +kernel
theorem dX2_alike_20 : decode cX2_alike 20 = .ok (.iconst (-1), 1) := by decide +kernel
theorem dX2_alike_21 : decode cX2_alike 21 = .ok (.ixor, 1) := by decide +kernel
theorem dX2_alike_22 : decode cX2_alike 22 = .ok (.iand, 1) := by decide +kernel
theorem dX2_alike_23 : decode cX2_alike 23 = .ok (.ireturn, 1) := by decide +kernel
theorem dX3_init_0 : decode cX3_init 0 = .ok (.aload_n 0, 1) := by decide +kernel
theorem dX3_init_1 : decode cX3_init 1 = .ok (.invokespecial 1, 3) := by decide +kernel
theorem dX3_init_4 : decode cX3_init 4 = .ok (.aload_n 0, 1) := by decide +kernel
theorem dX3_init_5 : decode cX3_init 5 = .ok (.iconst 0, 1) := by decide +kernel
theorem dX3_init_6 : decode cX3_init 6 = .ok (.putfield 7, 3) := by decide +kernel
theorem dX3_init_9 : decode cX3_init 9 = .ok (.aload_n 0, 1) := by decide +kernel
theorem dX3_init_10 : decode cX3_init 10 = .ok (.iconst 0, 1) := by decide +kernel
theorem dX3_init_11 : decode cX3_init 11 = .ok (.putfield 13, 3) := by decide +kernel
theorem dX3_init_14 : decode cX3_init 14 = .ok (.aload_n 0, 1) := by decide +kernel
theorem dX3_init_15 : decode cX3_init 15 = .ok (.iconst 0, 1) := by decide +kernel
theorem dX3_init_16 : decode cX3_init 16 = .ok (.putfield 16, 3) := by decide +kernel
theorem dX3_init_19 : decode cX3_init 19 = .ok (.aload_n 0, 1) := by decide +kernel
theorem dX3_init_20 : decode cX3_init 20 = .ok (.iconst 0, 1) := by decide +kernel
theorem dX3_init_21 : decode cX3_init 21 = .ok (.putfield 19, 3) := by decide +kernel
theorem dX3_init_24 : decode cX3_init 24 = .ok (.aload_n 0, 1) := by decide +kernel
theorem dX3_init_25 : decode cX3_init 25 = .ok (.lconst 0, 1) := by decide +kernel
theorem dX3_init_26 : decode cX3_init 26 = .ok (.putfield 22, 3) := by decide +kernel
theorem dX3_init_29 : decode cX3_init 29 = .ok (.aload_n 0, 1) := by decide +kernel
theorem dX3_init_30 : decode cX3_init 30 = .ok (.ldc2_w 26, 3) := by decide +kernel
theorem dX3_init_33 : decode cX3_init 33 = .ok (.putfield 28, 3) := by decide +kernel
theorem dX3_init_36 : decode cX3_init 36 = .ok (.aload_n 0, 1) := by decide +kernel
theorem dX3_init_37 : decode cX3_init 37 = .ok (.iconst 0, 1) := by decide +kernel
theorem dX3_init_38 : decode cX3_init 38 = .ok (.putfield 31, 3) := by decide +kernel
theorem dX3_init_41 : decode cX3_init 41 = .ok (.return_, 1) := by decide +kernel
set_option maxRecDepth 20000 in
theorem ggX3_pair_X5_pair : GoodIn wsX3_pair wsX5_pair := goodIn_r _ [6] (by decide +kernel) (by decide +kernel)
set_option maxRecDepth 20000 in
theorem gX3_pair_X5_pair : GoodIn wsX3_pair (va_wsS RX3 34 yX5_pair wsX5_pair) := goodIn_app (goodIn_of _ (by decide +kernel)) ggX3_pair_X5_pair
theorem dX3_pair_0 : decode cX3_pair 0 = .ok (.aload_n 0, 1) := by decide +kernel
theorem dX3_pair_1 : decode cX3_pair 1 = .ok (.getfield 7, 3) := by decide +kernel
theorem dX3_pair_4 : decode cX3_pair 4 = .ok (.aload_n 0, 1) := by decide +kernel
theorem dX3_pair_5 : decode cX3_pair 5 = .ok (.getfield 13, 3) := by decide +kernel
theorem dX3_pair_8 : decode cX3_pair 8 = .ok (.invokestatic 34, 3) := by decide +kernel
theorem dX3_pair_11 : decode cX3_pair 11 = .ok (.lreturn, 1) := by decide +kernel
set_option maxRecDepth 20000 in
theorem ggX4_init_X1_init : GoodIn wsX4_init wsX1_init := goodIn_r _ [5, 6, 7, 8, 9, 10, 11, 12, 18, 19, 20, 21, 22, 23, 24, 25, 26, 27, 28, 13, 14, 15, 16, 17, 29, 30, 31, 32, 33, 34, 35, 36] (by decide +kernel) (by decide +kernel)
set_option maxRecDepth 20000 in
theorem gX4_init_X1_init : GoodIn wsX4_init (wsX1_init) := ggX4_init_X1_init
theorem dX4_init_0 : decode cX4_init 0 = .ok (.aload_n 0, 1) := by decide +kernel
theorem dX4_init_1 : decode cX4_init 1 = .ok (.iconst 4, 1) := by decide +kernel
theorem dX4_init_2 : decode cX4_init 2 = .ok (.invokespecial 5, 3) := by decide +kernel
theorem dX4_init_5 : decode cX4_init 5 = .ok (.aload_n 0, 1) := by decide +kernel
theorem dX4_init_6 : decode cX4_init 6 = .ok (.lconst 0, 1) := by decide +kernel
theorem dX4_init_7 : decode cX4_init 7 = .ok (.putfield 9, 3) := by decide +kernel
theorem dX4_init_10 : decode cX4_init 10 = .ok (.return_, 1) := by decide +kernel
set_option maxRecDepth 20000 in
theorem ggX4_show_X1_clearVariables : GoodIn wsX4_show wsX1_clearVariables := goodIn_r _ [7, 8, 9, 10, 29, 30, 31, 32, 33, 34, 35, 36, 37, 38, 39, 24, 25, 26, 27, 28, 40, 41, 42, 43, 44, 45, 46, 47] (by decide +kernel) (by decide +kernel)
set_option maxRecDepth 20000 in
theorem gX4_show_X1_clearVariables_u15X4 : GoodIn wsX4_show (va_wsU RX4 15 RX4 "SupportSolver$Constraint" ⟨"SupportSolver$LearntSet", "clearVariables", "()V"⟩ yX1_clearVariables wsX1_clearVariables) := goodIn_app (goodIn_of _ (by decide +kernel)) ggX4_show_X1_clearVariables
set_option maxRecDepth 20000 in
theorem ggX4_show_X5_valuesOf : GoodIn wsX4_show wsX5_valuesOf := goodIn_r _ [14] (by decide +kernel) (by decide +kernel)
set_option maxRecDepth 20000 in
theorem gX4_show_X5_valuesOf : GoodIn wsX4_show (va_wsS RX4 19 yX5_valuesOf wsX5_valuesOf) := goodIn_app (goodIn_of _ (by decide +kernel)) ggX4_show_X5_valuesOf
set_option maxRecDepth 20000 in
theorem ggX4_show_X1_addVariable : GoodIn wsX4_show wsX1_addVariable := goodIn_r _ [19, 10, 8, 9, 20, 21, 13, 22, 23, 29, 30, 31, 32, 33, 34, 35, 36, 37, 38, 39, 24, 25, 26, 27, 28, 40, 41, 42, 43, 44, 45, 46, 47] (by decide +kernel) (by decide +kernel)
set_option maxRecDepth 20000 in
theorem gX4_show_X1_addVariable_u25X4 : GoodIn wsX4_show (va_wsU RX4 25 RX4 "SupportSolver$Constraint" ⟨"SupportSolver$LearntSet", "addVariable", "(I)V"⟩ yX1_addVariable wsX1_addVariable) := goodIn_app (goodIn_of _ (by decide +kernel)) ggX4_show_X1_addVariable
theorem dX4_show_0 : decode cX4_show 0 = .ok (.aload_n 0, 1) := by decide +kernel
theorem dX4_show_1 : decode cX4_show 1 = .ok (.lload_n 1, 1) := by decide +kernel
theorem dX4_show_2 : decode cX4_show 2 = .ok (.putfield 9, 3) := by decide +kernel
theorem dX4_show_5 : decode cX4_show 5 = .ok (.aload_n 0, 1) := by decide +kernel
theorem dX4_show_6 : decode cX4_show 6 = .ok (.invokevirtual 15, 3) := by decide +kernel
theorem dX4_show_9 : decode cX4_show 9 = .ok (.iconst 0, 1) := by decide +kernel
theorem dX4_show_10 : decode cX4_show 10 = .ok (.istore_n 3, 1) := by decide +kernel
theorem dX4_show_11 : decode cX4_show 11 = .ok (.iload_n 3, 1) := by decide +kernel
theorem dX4_show_12 : decode cX4_show 12 = .ok (.bipush 7, 2) := by decide +kernel
theorem dX4_show_14 : decode cX4_show 14 = .ok (.if_icmp .ge 22, 3) := by decide +kernel
theorem dX4_show_17 : decode cX4_show 17 = .ok (.lload_n 1, 1) := by decide +kernel
theorem dX4_show_18 : decode cX4_show 18 = .ok (.iload_n 3, 1) := by decide +kernel
theorem dX4_show_19 : decode cX4_show 19 = .ok (.invokestatic 19, 3) := by decide +kernel
theorem dX4_show_22 : decode cX4_show 22 = .ok (.ifCond .eq 8, 3) := by decide +kernel
theorem dX4_show_25 : decode cX4_show 25 = .ok (.aload_n 0, 1) := by decide +kernel
theorem dX4_show_26 : decode cX4_show 26 = .ok (.iload_n 3, 1) := by decide +kernel
theorem dX4_show_27 : decode cX4_show 27 = .ok (.invokevirtual 25, 3) := by decide +kernel
theorem dX4_show_30 : decode cX4_show 30 = .ok (.iinc 3 1, 3) := by decide +kernel
theorem dX4_show_33 : decode cX4_show 33 = .ok (.goto (-22), 3) := by decide +kernel
theorem dX4_show_36 : decode cX4_show 36 = .ok (.return_, 1) := by decide +kernel
theorem dX4_verdict_0 : decode cX4_verdict 0 = .ok (.lload_n 1, 1) := by decide +kernel
theorem dX4_verdict_1 : decode cX4_verdict 1 = .ok (.aload_n 0, 1) := by decide +kernel
theorem dX4_verdict_2 : decode cX4_verdict 2 = .ok (.getfield 9, 3) := by decide +kernel
theorem dX4_verdict_5 : decode cX4_verdict 5 = .ok (.land, 1) := by decide +kernel
theorem dX4_verdict_6 : decode cX4_verdict 6 = .ok (.aload_n 0, 1) := by decide +kernel
theorem dX4_verdict_7 : decode cX4_verdict 7 = .ok (.getfield 9, 3) := by decide +kernel
theorem dX4_verdict_10 : decode cX4_verdict 10 = .ok (.lcmp, 1) := by decide +kernel
theorem dX4_verdict_11 : decode cX4_verdict 11 = .ok (.ifCond .eq 5, 3) := by decide +kernel
theorem dX4_verdict_14 : decode cX4_verdict 14 = .ok (.iconst 2, 1) := by decide +kernel
theorem dX4_verdict_15 : decode cX4_verdict 15 = .ok (.ireturn, 1) := by decide +kernel
theorem dX4_verdict_16 : decode cX4_verdict 16 = .ok (.lload_n 1, 1) := by decide +kernel
theorem dX4_verdict_17 : decode cX4_verdict 17 = .ok (.aload_n 0, 1) := by decide +kernel
theorem dX4_verdict_18 : decode cX4_verdict 18 = .ok (.getfield 28, 3) := by decide +kernel
theorem dX4_verdict_21 : decode cX4_verdict 21 = .ok (.land, 1) := by decide +kernel
theorem dX4_verdict_22 : decode cX4_verdict 22 = .ok (.aload_n 0, 1) := by decide +kernel
theorem dX4_verdict_23 : decode cX4_verdict 23 = .ok (.getfield 9, 3) := by decide +kernel
theorem dX4_verdict_26 : decode cX4_verdict 26 = .ok (.lcmp, 1) := by decide +kernel
theorem dX4_verdict_27 : decode cX4_verdict 27 = .ok (.ifCond .ne 7, 3) := by decide +kernel
theorem dX4_verdict_30 : decode cX4_verdict 30 = .ok (.iconst 0, 1) := by decide +kernel
theorem dX4_verdict_31 : decode cX4_verdict 31 = .ok (.goto 4, 3) := by decide +kernel
theorem dX4_verdict_34 : decode cX4_verdict 34 = .ok (.iconst 1, 1) := by decide +kernel
theorem dX4_verdict_35 : decode cX4_verdict 35 = .ok (.ireturn, 1) := by decide +kernel
theorem dX4_alike_0 : decode cX4_alike 0 = .ok (.iconst 1, 1) := by decide +kernel
theorem dX4_alike_1 : decode cX4_alike 1 = .ok (.iload_n 1, 1) := by decide +kernel
theorem dX4_alike_2 : decode cX4_alike 2 = .ok (.ishl, 1) := by decide +kernel
theorem dX4_alike_3 : decode cX4_alike 3 = .ok (.ireturn, 1) := by decide +kernel
theorem dX5_pair_0 : decode cX5_pair 0 = .ok (.lconst 1, 1) := by decide +kernel
theorem dX5_pair_1 : decode cX5_pair 1 = .ok (.iconst 5, 1) := by decide +kernel
theorem dX5_pair_2 : decode cX5_pair 2 = .ok (.iload_n 0, 1) := by decide +kernel
theorem dX5_pair_3 : decode cX5_pair 3 = .ok (.imul, 1) := by decide +kernel
theorem dX5_pair_4 : decode cX5_pair 4 = .ok (.iload_n 1, 1) := by decide +kernel
theorem dX5_pair_5 : decode cX5_pair 5 = .ok (.iadd, 1) := by decide +kernel
theorem dX5_pair_6 : decode cX5_pair 6 = .ok (.lshl, 1) := by decide +kernel
theorem dX5_pair_7 : decode cX5_pair 7 = .ok (.lreturn, 1) := by decide +kernel
theorem dX5_allOf_0 : decode cX5_allOf 0 = .ok (.ldc2_w 11, 3) := by decide +kernel
theorem dX5_allOf_3 : decode cX5_allOf 3 = .ok (.iconst 5, 1) := by decide +kernel
theorem dX5_allOf_4 : decode cX5_allOf 4 = .ok (.iload_n 0, 1) := by decide +kernel
theorem dX5_allOf_5 : decode cX5_allOf 5 = .ok (.imul, 1) := by decide +kernel
theorem dX5_allOf_6 : decode cX5_allOf 6 = .ok (.lshl, 1) := by decide +kernel
theorem dX5_allOf_7 : decode cX5_allOf 7 = .ok (.lreturn, 1) := by decide +kernel
theorem dX5_valuesOf_0 : decode cX5_valuesOf 0 = .ok (.lload_n 0, 1) := by decide +kernel
theorem dX5_valuesOf_1 : decode cX5_valuesOf 1 = .ok (.iconst 5, 1) := by decide +kernel
theorem dX5_valuesOf_2 : decode cX5_valuesOf 2 = .ok (.iload_n 2, 1) := by decide +kernel
theorem dX5_valuesOf_3 : decode cX5_valuesOf 3 = .ok (.imul, 1) := by decide +kernel
theorem dX5_valuesOf_4 : decode cX5_valuesOf 4 = .ok (.lushr, 1) := by decide +kernel
theorem dX5_valuesOf_5 : decode cX5_valuesOf 5 = .ok (.l2i, 1) := by decide +kernel
theorem dX5_valuesOf_6 : decode cX5_valuesOf 6 = .ok (.bipush 31, 2) := by decide +kernel
theorem dX5_valuesOf_8 : decode cX5_valuesOf 8 = .ok (.iand, 1) := by decide +kernel
theorem dX5_valuesOf_9 : decode cX5_valuesOf 9 = .ok (.ireturn, 1) := by decide +kernel
set_option maxRecDepth 20000 in
theorem ggX5_has_X11_isValue : GoodIn wsX5_has wsX11_isValue := goodIn_r _ [3] (by decide +kernel) (by decide +kernel)
set_option maxRecDepth 20000 in
theorem gX5_has_X11_isValue_n13 : GoodIn wsX5_has (wsX11_isValue) := ggX5_has_X11_isValue
set_option maxRecDepth 20000 in
theorem ggX5_has_X5_pair : GoodIn wsX5_has wsX5_pair := goodIn_r _ [7] (by decide +kernel) (by decide +kernel)
set_option maxRecDepth 20000 in
theorem gX5_has_X5_pair : GoodIn wsX5_has (va_wsS RX5 17 yX5_pair wsX5_pair) := goodIn_app (goodIn_of _ (by decide +kernel)) ggX5_has_X5_pair
theorem dX5_has_0 : decode cX5_has 0 = .ok (.iload_n 3, 1) := by decide +kernel
theorem dX5_has_1 : decode cX5_has 1 = .ok (.invokestatic 13, 3) := by decide +kernel
theorem dX5_has_4 : decode cX5_has 4 = .ok (.ifCond .eq 19, 3) := by decide +kernel
theorem dX5_has_7 : decode cX5_has 7 = .ok (.lload_n 0, 1) := by decide +kernel
theorem dX5_has_8 : decode cX5_has 8 = .ok (.iload_n 2, 1) := by decide +kernel
theorem dX5_has_9 : decode cX5_has 9 = .ok (.iload_n 3, 1) := by decide +kernel
theorem dX5_has_10 : decode cX5_has 10 = .ok (.invokestatic 17, 3) := by decide +kernel
theorem dX5_has_13 : decode cX5_has 13 = .ok (.land, 1) := by decide +kernel
theorem dX5_has_14 : decode cX5_has 14 = .ok (.lconst 0, 1) := by decide +kernel
theorem dX5_has_15 : decode cX5_has 15 = .ok (.lcmp, 1) := by decide +kernel
theorem dX5_has_16 : decode cX5_has 16 = .ok (.ifCond .eq 7, 3) := by decide +kernel
theorem dX5_has_19 : decode cX5_has 19 = .ok (.iconst 1, 1) := by decide +kernel
theorem dX5_has_20 : decode cX5_has 20 = .ok (.goto 4, 3) := by decide +kernel
theorem dX5_has_23 : decode cX5_has 23 = .ok (.iconst 0, 1) := by decide +kernel
theorem dX5_has_24 : decode cX5_has 24 = .ok (.ireturn, 1) := by decide +kernel
set_option maxRecDepth 20000 in
theorem ggX5_narrowed_X5_allOf : GoodIn wsX5_narrowed wsX5_allOf := goodIn_r _ [5, 6] (by decide +kernel) (by decide +kernel)
set_option maxRecDepth 20000 in
theorem gX5_narrowed_X5_allOf : GoodIn wsX5_narrowed (va_wsS RX5 21 yX5_allOf wsX5_allOf) := goodIn_app (goodIn_of _ (by decide +kernel)) ggX5_narrowed_X5_allOf
set_option maxRecDepth 20000 in
theorem ggX5_narrowed_X5_pair : GoodIn wsX5_narrowed wsX5_pair := goodIn_r _ [9] (by decide +kernel) (by decide +kernel)
set_option maxRecDepth 20000 in
theorem gX5_narrowed_X5_pair : GoodIn wsX5_narrowed (va_wsS RX5 17 yX5_pair wsX5_pair) := goodIn_app (goodIn_of _ (by decide +kernel)) ggX5_narrowed_X5_pair
theorem dX5_narrowed_0 : decode cX5_narrowed 0 = .ok (.lload_n 0, 1) := by decide +kernel
theorem dX5_narrowed_1 : decode cX5_narrowed 1 = .ok (.iload_n 2, 1) := by decide +kernel
theorem dX5_narrowed_2 : decode cX5_narrowed 2 = .ok (.invokestatic 21, 3) := by decide +kernel
theorem dX5_narrowed_5 : decode cX5_narrowed 5 = .ok (.ldc2_w 25, 3) := by decide +kernel
theorem dX5_narrowed_8 : decode cX5_narrowed 8 = .ok (.lxor, 1) := by decide +kernel
theorem dX5_narrowed_9 : decode cX5_narrowed 9 = .ok (.iload_n 2, 1) := by decide +kernel
theorem dX5_narrowed_10 : decode cX5_narrowed 10 = .ok (.iload_n 3, 1) := by decide +kernel
theorem dX5_narrowed_11 : decode cX5_narrowed 11 = .ok (.invokestatic 17, 3) := by decide +kernel
theorem dX5_narrowed_14 : decode cX5_narrowed 14 = .ok (.lor, 1) := by decide +kernel
theorem dX5_narrowed_15 : decode cX5_narrowed 15 = .ok (.land, 1) := by decide +kernel
theorem dX5_narrowed_16 : decode cX5_narrowed 16 = .ok (.lreturn, 1) := by decide +kernel
set_option maxRecDepth 20000 in
theorem ggX5_assigned_X5_marks : GoodIn wsX5_assigned wsX5_marks := goodIn_r _ [6, 7] (by decide +kernel) (by decide +kernel)
set_option maxRecDepth 20000 in
theorem gX5_assigned_X5_marks : GoodIn wsX5_assigned (va_wsS RX5 27 yX5_marks wsX5_marks) := goodIn_app (goodIn_of _ (by decide +kernel)) ggX5_assigned_X5_marks
theorem dX5_assigned_0 : decode cX5_assigned 0 = .ok (.lload_n 0, 1) := by decide +kernel
theorem dX5_assigned_1 : decode cX5_assigned 1 = .ok (.lload_n 2, 1) := by decide +kernel
theorem dX5_assigned_2 : decode cX5_assigned 2 = .ok (.invokestatic 27, 3) := by decide +kernel
theorem dX5_assigned_5 : decode cX5_assigned 5 = .ok (.ldc2_w 11, 3) := by decide +kernel
theorem dX5_assigned_8 : decode cX5_assigned 8 = .ok (.lmul, 1) := by decide +kernel
theorem dX5_assigned_9 : decode cX5_assigned 9 = .ok (.ldc2_w 25, 3) := by decide +kernel
theorem dX5_assigned_12 : decode cX5_assigned 12 = .ok (.lxor, 1) := by decide +kernel
theorem dX5_assigned_13 : decode cX5_assigned 13 = .ok (.lload_n 2, 1) := by decide +kernel
theorem dX5_assigned_14 : decode cX5_assigned 14 = .ok (.lor, 1) := by decide +kernel
theorem dX5_assigned_15 : decode cX5_assigned 15 = .ok (.land, 1) := by decide +kernel
theorem dX5_assigned_16 : decode cX5_assigned 16 = .ok (.lreturn, 1) := by decide +kernel
theorem dX5_marks_0 : decode cX5_marks 0 = .ok (.lload_n 0, 1) := by decide +kernel
theorem dX5_marks_1 : decode cX5_marks 1 = .ok (.lload_n 0, 1) := by decide +kernel
theorem dX5_marks_2 : decode cX5_marks 2 = .ok (.iconst 1, 1) := by decide +kernel
theorem dX5_marks_3 : decode cX5_marks 3 = .ok (.lushr, 1) := by decide +kernel
theorem dX5_marks_4 : decode cX5_marks 4 = .ok (.lor, 1) := by decide +kernel
theorem dX5_marks_5 : decode cX5_marks 5 = .ok (.lload_n 0, 1) := by decide +kernel
theorem dX5_marks_6 : decode cX5_marks 6 = .ok (.iconst 2, 1) := by decide +kernel
theorem dX5_marks_7 : decode cX5_marks 7 = .ok (.lushr, 1) := by decide +kernel
theorem dX5_marks_8 : decode cX5_marks 8 = .ok (.lor, 1) := by decide +kernel
theorem dX5_marks_9 : decode cX5_marks 9 = .ok (.lload_n 0, 1) := by decide +kernel
theorem dX5_marks_10 : decode cX5_marks 10 = .ok (.iconst 3, 1) := by decide +kernel
theorem dX5_marks_11 : decode cX5_marks 11 = .ok (.lushr, 1) := by decide +kernel
theorem dX5_marks_12 : decode cX5_marks 12 = .ok (.lor, 1) := by decide +kernel
theorem dX5_marks_13 : decode cX5_marks 13 = .ok (.lload_n 0, 1) := by decide +kernel
theorem dX5_marks_14 : decode cX5_marks 14 = .ok (.iconst 4, 1) := by decide +kernel
theorem dX5_marks_15 : decode cX5_marks 15 = .ok (.lushr, 1) := by decide +kernel
theorem dX5_marks_16 : decode cX5_marks 16 = .ok (.lor, 1) := by decide +kernel
theorem dX5_marks_17 : decode cX5_marks 17 = .ok (.ldc2_w 31, 3) := by decide +kernel
theorem dX5_marks_20 : decode cX5_marks 20 = .ok (.land, 1) := by decide +kernel
theorem dX5_marks_21 : decode cX5_marks 21 = .ok (.lreturn, 1) := by decide +kernel
set_option maxRecDepth 20000 in
theorem ggX5_variablesIn_X5_marks : GoodIn wsX5_variablesIn wsX5_marks := goodIn_r _ [4, 5] (by decide +kernel) (by decide +kernel)
set_option maxRecDepth 20000 in
theorem gX5_variablesIn_X5_marks : GoodIn wsX5_variablesIn (va_wsS RX5 27 yX5_marks wsX5_marks) := goodIn_app (goodIn_of _ (by decide +kernel)) ggX5_variablesIn_X5_marks
set_option maxRecDepth 20000 in
theorem ggX5_variablesIn_J13_bitCount_95d88 : GoodIn wsX5_variablesIn wsJ13_bitCount_95d88 := goodIn_r _ [9, 10, 11, 12] (by decide +kernel) (by decide +kernel)
set_option maxRecDepth 20000 in
theorem gX5_variablesIn_J13_bitCount_95d88 : GoodIn wsX5_variablesIn (va_wsS RX5 33 yJ13_bitCount_95d88 wsJ13_bitCount_95d88) := goodIn_app (goodIn_of _ (by decide +kernel)) ggX5_variablesIn_J13_bitCount_95d88
theorem dX5_variablesIn_0 : decode cX5_variablesIn 0 = .ok (.lload_n 0, 1) := by decide +kernel
theorem dX5_variablesIn_1 : decode cX5_variablesIn 1 = .ok (.invokestatic 27, 3) := by decide +kernel
theorem dX5_variablesIn_4 : decode cX5_variablesIn 4 = .ok (.invokestatic 33, 3) := by decide +kernel
theorem dX5_variablesIn_7 : decode cX5_variablesIn 7 = .ok (.ireturn, 1) := by decide +kernel
set_option maxRecDepth 20000 in
theorem ggX5_leastValueOf_X5_has : GoodIn wsX5_leastValueOf wsX5_has := goodIn_r _ [4, 5, 6, 7, 8, 9, 3, 10] (by decide +kernel) (by decide +kernel)
set_option maxRecDepth 20000 in
theorem gX5_leastValueOf_X5_has : GoodIn wsX5_leastValueOf (va_wsS RX5 39 yX5_has wsX5_has) := goodIn_app (goodIn_of _ (by decide +kernel)) ggX5_leastValueOf_X5_has
theorem dX5_leastValueOf_0 : decode cX5_leastValueOf 0 = .ok (.iconst 0, 1) := by decide +kernel
theorem dX5_leastValueOf_1 : decode cX5_leastValueOf 1 = .ok (.istore_n 3, 1) := by decide +kernel
theorem dX5_leastValueOf_2 : decode cX5_leastValueOf 2 = .ok (.iload_n 3, 1) := by decide +kernel
theorem dX5_leastValueOf_3 : decode cX5_leastValueOf 3 = .ok (.iconst 5, 1) := by decide +kernel
theorem dX5_leastValueOf_4 : decode cX5_leastValueOf 4 = .ok (.if_icmp .ge 20, 3) := by decide +kernel
theorem dX5_leastValueOf_7 : decode cX5_leastValueOf 7 = .ok (.lload_n 0, 1) := by decide +kernel
theorem dX5_leastValueOf_8 : decode cX5_leastValueOf 8 = .ok (.iload_n 2, 1) := by decide +kernel
theorem dX5_leastValueOf_9 : decode cX5_leastValueOf 9 = .ok (.iload_n 3, 1) := by decide +kernel
theorem dX5_leastValueOf_10 : decode cX5_leastValueOf 10 = .ok (.invokestatic 39, 3) := by decide +kernel
theorem dX5_leastValueOf_13 : decode cX5_leastValueOf 13 = .ok (.ifCond .eq 5, 3) := by decide +kernel
theorem dX5_leastValueOf_16 : decode cX5_leastValueOf 16 = .ok (.iload_n 3, 1) := by decide +kernel
theorem dX5_leastValueOf_17 : decode cX5_leastValueOf 17 = .ok (.ireturn, 1) := by decide +kernel
theorem dX5_leastValueOf_18 : decode cX5_leastValueOf 18 = .ok (.iinc 3 1, 3) := by decide +kernel
theorem dX5_leastValueOf_21 : decode cX5_leastValueOf 21 = .ok (.goto (-19), 3) := by decide +kernel
theorem dX5_leastValueOf_24 : decode cX5_leastValueOf 24 = .ok (.iconst (-1), 1) := by decide +kernel
theorem dX5_leastValueOf_25 : decode cX5_leastValueOf 25 = .ok (.ireturn, 1) := by decide +kernel
set_option maxRecDepth 20000 in
theorem ggX5_leastOfEach_X5_allOf : GoodIn wsX5_leastOfEach wsX5_allOf := goodIn_r _ [4, 5] (by decide +kernel) (by decide +kernel)
set_option maxRecDepth 20000 in
theorem gX5_leastOfEach_X5_allOf : GoodIn wsX5_leastOfEach (va_wsS RX5 21 yX5_allOf wsX5_allOf) := goodIn_app (goodIn_of _ (by decide +kernel)) ggX5_leastOfEach_X5_allOf
theorem dX5_leastOfEach_0 : decode cX5_leastOfEach 0 = .ok (.lconst 0, 1) := by decide +kernel
theorem dX5_leastOfEach_1 : decode cX5_leastOfEach 1 = .ok (.lstore_n 2, 1) := by decide +kernel
theorem dX5_leastOfEach_2 : decode cX5_leastOfEach 2 = .ok (.iconst 0, 1) := by decide +kernel
theorem dX5_leastOfEach_3 : decode cX5_leastOfEach 3 = .ok (.istore 4, 2) := by decide +kernel
theorem dX5_leastOfEach_5 : decode cX5_leastOfEach 5 = .ok (.iload 4, 2) := by decide +kernel
theorem dX5_leastOfEach_7 : decode cX5_leastOfEach 7 = .ok (.bipush 7, 2) := by decide +kernel
theorem dX5_leastOfEach_9 : decode cX5_leastOfEach 9 = .ok (.if_icmp .ge 27, 3) := by decide +kernel
theorem dX5_leastOfEach_12 : decode cX5_leastOfEach 12 = .ok (.lload_n 0, 1) := by decide +kernel
theorem dX5_leastOfEach_13 : decode cX5_leastOfEach 13 = .ok (.iload 4, 2) := by decide +kernel
theorem dX5_leastOfEach_15 : decode cX5_leastOfEach 15 = .ok (.invokestatic 21, 3) := by decide +kernel
theorem dX5_leastOfEach_18 : decode cX5_leastOfEach 18 = .ok (.land, 1) := by decide +kernel
theorem dX5_leastOfEach_19 : decode cX5_leastOfEach 19 = .ok (.lstore 5, 2) := by decide +kernel
theorem dX5_leastOfEach_21 : decode cX5_leastOfEach 21 = .ok (.lload_n 2, 1) := by decide +kernel
theorem dX5_leastOfEach_22 : decode cX5_leastOfEach 22 = .ok (.lload 5, 2) := by decide +kernel
theorem dX5_leastOfEach_24 : decode cX5_leastOfEach 24 = .ok (.lload 5, 2) := by decide +kernel
theorem dX5_leastOfEach_26 : decode cX5_leastOfEach 26 = .ok (.lneg, 1) := by decide +kernel
theorem dX5_leastOfEach_27 : decode cX5_leastOfEach 27 = .ok (.land, 1) := by decide +kernel
theorem dX5_leastOfEach_28 : decode cX5_leastOfEach 28 = .ok (.lor, 1) := by decide +kernel
theorem dX5_leastOfEach_29 : decode cX5_leastOfEach 29 = .ok (.lstore_n 2, 1) := by decide +kernel
theorem dX5_leastOfEach_30 : decode cX5_leastOfEach 30 = .ok (.iinc 4 1, 3) := by decide +kernel
theorem dX5_leastOfEach_33 : decode cX5_leastOfEach 33 = .ok (.goto (-28), 3) := by decide +kernel
theorem dX5_leastOfEach_36 : decode cX5_leastOfEach 36 = .ok (.lload_n 2, 1) := by decide +kernel
theorem dX5_leastOfEach_37 : decode cX5_leastOfEach 37 = .ok (.lreturn, 1) := by decide +kernel
set_option maxRecDepth 20000 in
theorem ggX5_assignments_X5_allOf : GoodIn wsX5_assignments wsX5_allOf := goodIn_r _ [4, 5] (by decide +kernel) (by decide +kernel)
set_option maxRecDepth 20000 in
theorem gX5_assignments_X5_allOf : GoodIn wsX5_assignments (va_wsS RX5 21 yX5_allOf wsX5_allOf) := goodIn_app (goodIn_of _ (by decide +kernel)) ggX5_assignments_X5_allOf
set_option maxRecDepth 20000 in
theorem ggX5_assignments_X5_valuesOf : GoodIn wsX5_assignments wsX5_valuesOf := goodIn_r _ [8] (by decide +kernel) (by decide +kernel)
set_option maxRecDepth 20000 in
theorem gX5_assignments_X5_valuesOf : GoodIn wsX5_assignments (va_wsS RX5 43 yX5_valuesOf wsX5_valuesOf) := goodIn_app (goodIn_of _ (by decide +kernel)) ggX5_assignments_X5_valuesOf
set_option maxRecDepth 20000 in
theorem ggX5_assignments_J6_bitCount_0f7a4 : GoodIn wsX5_assignments wsJ6_bitCount_0f7a4 := goodIn_r _ [12, 13, 14, 15] (by decide +kernel) (by decide +kernel)
set_option maxRecDepth 20000 in
theorem gX5_assignments_J6_bitCount_0f7a4 : GoodIn wsX5_assignments (va_wsS RX5 47 yJ6_bitCount_0f7a4 wsJ6_bitCount_0f7a4) := goodIn_app (goodIn_of _ (by decide +kernel)) ggX5_assignments_J6_bitCount_0f7a4
theorem dX5_assignments_0 : decode cX5_assignments 0 = .ok (.iconst 1, 1) := by decide +kernel
theorem dX5_assignments_1 : decode cX5_assignments 1 = .ok (.istore 4, 2) := by decide +kernel
theorem dX5_assignments_3 : decode cX5_assignments 3 = .ok (.iconst 0, 1) := by decide +kernel
theorem dX5_assignments_4 : decode cX5_assignments 4 = .ok (.istore 5, 2) := by decide +kernel
theorem dX5_assignments_6 : decode cX5_assignments 6 = .ok (.iload 5, 2) := by decide +kernel
theorem dX5_assignments_8 : decode cX5_assignments 8 = .ok (.bipush 7, 2) := by decide +kernel
theorem dX5_assignments_10 : decode cX5_assignments 10 = .ok (.if_icmp .ge 35, 3) := by decide +kernel
theorem dX5_assignments_13 : decode cX5_assignments 13 = .ok (.lload_n 2, 1) := by decide +kernel
theorem dX5_assignments_14 : decode cX5_assignments 14 = .ok (.iload 5, 2) := by decide +kernel
theorem dX5_assignments_16 : decode cX5_assignments 16 = .ok (.invokestatic 21, 3) := by decide +kernel
theorem dX5_assignments_19 : decode cX5_assignments 19 = .ok (.land, 1) := by decide +kernel
theorem dX5_assignments_20 : decode cX5_assignments 20 = .ok (.lconst 0, 1) := by decide +kernel
theorem dX5_assignments_21 : decode cX5_assignments 21 = .ok (.lcmp, 1) := by decide +kernel
theorem dX5_assignments_22 : decode cX5_assignments 22 = .ok (.ifCond .eq 17, 3) := by decide +kernel
theorem dX5_assignments_25 : decode cX5_assignments 25 = .ok (.iload 4, 2) := by decide +kernel
theorem dX5_assignments_27 : decode cX5_assignments 27 = .ok (.lload_n 0, 1) := by decide +kernel
theorem dX5_assignments_28 : decode cX5_assignments 28 = .ok (.iload 5, 2) := by decide +kernel
theorem dX5_assignments_30 : decode cX5_assignments 30 = .ok (.invokestatic 43, 3) := by decide +kernel
theorem dX5_assignments_33 : decode cX5_assignments 33 = .ok (.invokestatic 47, 3) := by decide +kernel
theorem dX5_assignments_36 : decode cX5_assignments 36 = .ok (.imul, 1) := by decide +kernel
theorem dX5_assignments_37 : decode cX5_assignments 37 = .ok (.istore 4, 2) := by decide +kernel
theorem dX5_assignments_39 : decode cX5_assignments 39 = .ok (.iinc 5 1, 3) := by decide +kernel
theorem dX5_assignments_42 : decode cX5_assignments 42 = .ok (.goto (-36), 3) := by decide +kernel
theorem dX5_assignments_45 : decode cX5_assignments 45 = .ok (.iload 4, 2) := by decide +kernel
theorem dX5_assignments_47 : decode cX5_assignments 47 = .ok (.ireturn, 1) := by decide +kernel
theorem dX5_toldPair_0 : decode cX5_toldPair 0 = .ok (.iconst 0, 1) := by decide +kernel
theorem dX5_toldPair_1 : decode cX5_toldPair 1 = .ok (.istore_n 3, 1) := by decide +kernel
theorem dX5_toldPair_2 : decode cX5_toldPair 2 = .ok (.iconst 0, 1) := by decide +kernel
theorem dX5_toldPair_3 : decode cX5_toldPair 3 = .ok (.istore 4, 2) := by decide +kernel
theorem dX5_toldPair_5 : decode cX5_toldPair 5 = .ok (.iload 4, 2) := by decide +kernel
theorem dX5_toldPair_7 : decode cX5_toldPair 7 = .ok (.bipush 35, 2) := by decide +kernel
theorem dX5_toldPair_9 : decode cX5_toldPair 9 = .ok (.if_icmp .ge 41, 3) := by decide +kernel
theorem dX5_toldPair_12 : decode cX5_toldPair 12 = .ok (.lload_n 0, 1) := by decide +kernel
theorem dX5_toldPair_13 : decode cX5_toldPair 13 = .ok (.iload 4, 2) := by decide +kernel
theorem dX5_toldPair_15 : decode cX5_toldPair 15 = .ok (.lushr, 1) := by decide +kernel
theorem dX5_toldPair_16 : decode cX5_toldPair 16 = .ok (.lconst 1, 1) := by decide +kernel
theorem dX5_toldPair_17 : decode cX5_toldPair 17 = .ok (.land, 1) := by decide +kernel
theorem dX5_toldPair_18 : decode cX5_toldPair 18 = .ok (.lconst 0, 1) := by decide +kernel
theorem dX5_toldPair_19 : decode cX5_toldPair 19 = .ok (.lcmp, 1) := by decide +kernel
theorem dX5_toldPair_20 : decode cX5_toldPair 20 = .ok (.ifCond .eq 24, 3) := by decide +kernel
theorem dX5_toldPair_23 : decode cX5_toldPair 23 = .ok (.iload_n 3, 1) := by decide +kernel
theorem dX5_toldPair_24 : decode cX5_toldPair 24 = .ok (.iload_n 2, 1) := by decide +kernel
theorem dX5_toldPair_25 : decode cX5_toldPair 25 = .ok (.if_icmp .ne 16, 3) := by decide +kernel
theorem dX5_toldPair_28 : decode cX5_toldPair 28 = .ok (.bipush 10, 2) := by decide +kernel
theorem dX5_toldPair_30 : decode cX5_toldPair 30 = .ok (.iload 4, 2) := by decide +kernel
theorem dX5_toldPair_32 : decode cX5_toldPair 32 = .ok (.iconst 5, 1) := by decide +kernel
theorem dX5_toldPair_33 : decode cX5_toldPair 33 = .ok (.idiv, 1) := by decide +kernel
theorem dX5_toldPair_34 : decode cX5_toldPair 34 = .ok (.imul, 1) := by decide +kernel
theorem dX5_toldPair_35 : decode cX5_toldPair 35 = .ok (.iload 4, 2) := by decide +kernel
theorem dX5_toldPair_37 : decode cX5_toldPair 37 = .ok (.iconst 5, 1) := by decide +kernel
theorem dX5_toldPair_38 : decode cX5_toldPair 38 = .ok (.irem, 1) := by decide +kernel
theorem dX5_toldPair_39 : decode cX5_toldPair 39 = .ok (.iadd, 1) := by decide +kernel
theorem dX5_toldPair_40 : decode cX5_toldPair 40 = .ok (.ireturn, 1) := by decide +kernel
theorem dX5_toldPair_41 : decode cX5_toldPair 41 = .ok (.iinc 3 1, 3) := by decide +kernel
theorem dX5_toldPair_44 : decode cX5_toldPair 44 = .ok (.iinc 4 1, 3) := by decide +kernel
theorem dX5_toldPair_47 : decode cX5_toldPair 47 = .ok (.goto (-42), 3) := by decide +kernel
theorem dX5_toldPair_50 : decode cX5_toldPair 50 = .ok (.iconst (-1), 1) := by decide +kernel
theorem dX5_toldPair_51 : decode cX5_toldPair 51 = .ok (.ireturn, 1) := by decide +kernel
theorem dX6_init_0 : decode cX6_init 0 = .ok (.aload_n 0, 1) := by decide +kernel
theorem dX6_init_1 : decode cX6_init 1 = .ok (.invokespecial 3, 3) := by decide +kernel
theorem dX6_init_4 : decode cX6_init 4 = .ok (.aload_n 0, 1) := by decide +kernel
theorem dX6_init_5 : decode cX6_init 5 = .ok (.bipush 8, 2) := by decide +kernel
theorem dX6_init_7 : decode cX6_init 7 = .ok (.anewarray 9, 3) := by decide +kernel
theorem dX6_init_10 : decode cX6_init 10 = .ok (.putfield 11, 3) := by decide +kernel
theorem dX6_init_13 : decode cX6_init 13 = .ok (.aload_n 0, 1) := by decide +kernel
theorem dX6_init_14 : decode cX6_init 14 = .ok (.iconst 0, 1) := by decide +kernel
theorem dX6_init_15 : decode cX6_init 15 = .ok (.putfield 17, 3) := by decide +kernel
theorem dX6_init_18 : decode cX6_init 18 = .ok (.aload_n 0, 1) := by decide +kernel
theorem dX6_init_19 : decode cX6_init 19 = .ok (.iconst 0, 1) := by decide +kernel
theorem dX6_init_20 : decode cX6_init 20 = .ok (.putfield 21, 3) := by decide +kernel
theorem dX6_init_23 : decode cX6_init 23 = .ok (.aload_n 0, 1) := by decide +kernel
theorem dX6_init_24 : decode cX6_init 24 = .ok (.lconst 0, 1) := by decide +kernel
theorem dX6_init_25 : decode cX6_init 25 = .ok (.putfield 24, 3) := by decide +kernel
theorem dX6_init_28 : decode cX6_init 28 = .ok (.return_, 1) := by decide +kernel
set_option maxRecDepth 20000 in
theorem ggX6_addVariable_X5_pair : GoodIn wsX6_addVariable wsX5_pair := goodIn_r _ [6] (by decide +kernel) (by decide +kernel)
set_option maxRecDepth 20000 in
theorem gX6_addVariable_X5_pair : GoodIn wsX6_addVariable (va_wsS RX6 28 yX5_pair wsX5_pair) := goodIn_app (goodIn_of _ (by decide +kernel)) ggX6_addVariable_X5_pair
theorem dX6_addVariable_0 : decode cX6_addVariable 0 = .ok (.iload_n 1, 1) := by decide +kernel
theorem dX6_addVariable_1 : decode cX6_addVariable 1 = .ok (.istore_n 3, 1) := by decide +kernel
theorem dX6_addVariable_2 : decode cX6_addVariable 2 = .ok (.iload_n 3, 1) := by decide +kernel
theorem dX6_addVariable_3 : decode cX6_addVariable 3 = .ok (.iload_n 2, 1) := by decide +kernel
theorem dX6_addVariable_4 : decode cX6_addVariable 4 = .ok (.if_icmp .gt 31, 3) := by decide +kernel
theorem dX6_addVariable_7 : decode cX6_addVariable 7 = .ok (.iload_n 3, 1) := by decide +kernel
theorem dX6_addVariable_8 : decode cX6_addVariable 8 = .ok (.iconst 5, 1) := by decide +kernel
theorem dX6_addVariable_9 : decode cX6_addVariable 9 = .ok (.if_icmp .ge 26, 3) := by decide +kernel
theorem dX6_addVariable_12 : decode cX6_addVariable 12 = .ok (.aload_n 0, 1) := by decide +kernel
theorem dX6_addVariable_13 : decode cX6_addVariable 13 = .ok (.dup, 1) := by decide +kernel
theorem dX6_addVariable_14 : decode cX6_addVariable 14 = .ok (.getfield 24, 3) := by decide +kernel
theorem dX6_addVariable_17 : decode cX6_addVariable 17 = .ok (.aload_n 0, 1) := by decide +kernel
theorem dX6_addVariable_18 : decode cX6_addVariable 18 = .ok (.getfield 17, 3) := by decide +kernel
theorem dX6_addVariable_21 : decode cX6_addVariable 21 = .ok (.iload_n 3, 1) := by decide +kernel
theorem dX6_addVariable_22 : decode cX6_addVariable 22 = .ok (.invokestatic 28, 3) := by decide +kernel
theorem dX6_addVariable_25 : decode cX6_addVariable 25 = .ok (.lor, 1) := by decide +kernel
theorem dX6_addVariable_26 : decode cX6_addVariable 26 = .ok (.putfield 24, 3) := by decide +kernel
theorem dX6_addVariable_29 : decode cX6_addVariable 29 = .ok (.iinc 3 1, 3) := by decide +kernel
theorem dX6_addVariable_32 : decode cX6_addVariable 32 = .ok (.goto (-30), 3) := by decide +kernel
theorem dX6_addVariable_35 : decode cX6_addVariable 35 = .ok (.aload_n 0, 1) := by decide +kernel
theorem dX6_addVariable_36 : decode cX6_addVariable 36 = .ok (.dup, 1) := by decide +kernel
theorem dX6_addVariable_37 : decode cX6_addVariable 37 = .ok (.getfield 17, 3) := by decide +kernel
theorem dX6_addVariable_40 : decode cX6_addVariable 40 = .ok (.iconst 1, 1) := by decide +kernel
theorem dX6_addVariable_41 : decode cX6_addVariable 41 = .ok (.iadd, 1) := by decide +kernel
theorem dX6_addVariable_42 : decode cX6_addVariable 42 = .ok (.putfield 17, 3) := by decide +kernel
theorem dX6_addVariable_45 : decode cX6_addVariable 45 = .ok (.return_, 1) := by decide +kernel
theorem dX6_addConstraint_0 : decode cX6_addConstraint 0 = .ok (.aload_n 0, 1) := by decide +kernel
theorem dX6_addConstraint_1 : decode cX6_addConstraint 1 = .ok (.getfield 21, 3) := by decide +kernel
theorem dX6_addConstraint_4 : decode cX6_addConstraint 4 = .ok (.ifCond .lt 35, 3) := by decide +kernel
theorem dX6_addConstraint_7 : decode cX6_addConstraint 7 = .ok (.aload_n 0, 1) := by decide +kernel
theorem dX6_addConstraint_8 : decode cX6_addConstraint 8 = .ok (.getfield 21, 3) := by decide +kernel
theorem dX6_addConstraint_11 : decode cX6_addConstraint 11 = .ok (.aload_n 0, 1) := by decide +kernel
theorem dX6_addConstraint_12 : decode cX6_addConstraint 12 = .ok (.getfield 11, 3) := by decide +kernel
theorem dX6_addConstraint_15 : decode cX6_addConstraint 15 = .ok (.arraylength, 1) := by decide +kernel
theorem dX6_addConstraint_16 : decode cX6_addConstraint 16 = .ok (.if_icmp .ge 23, 3) := by decide +kernel
theorem dX6_addConstraint_19 : decode cX6_addConstraint 19 = .ok (.aload_n 0, 1) := by decide +kernel
theorem dX6_addConstraint_20 : decode cX6_addConstraint 20 = .ok (.getfield 11, 3) := by decide +kernel
theorem dX6_addConstraint_23 : decode cX6_addConstraint 23 = .ok (.aload_n 0, 1) := by decide +kernel
theorem dX6_addConstraint_24 : decode cX6_addConstraint 24 = .ok (.getfield 21, 3) := by decide +kernel
theorem dX6_addConstraint_27 : decode cX6_addConstraint 27 = .ok (.aload_n 1, 1) := by decide +kernel
theorem dX6_addConstraint_28 : decode cX6_addConstraint 28 = .ok (.aastore, 1) := by decide +kernel
theorem dX6_addConstraint_29 : decode cX6_addConstraint 29 = .ok (.aload_n 0, 1) := by decide +kernel
theorem dX6_addConstraint_30 : decode cX6_addConstraint 30 = .ok (.dup, 1) := by decide +kernel
theorem dX6_addConstraint_31 : decode cX6_addConstraint 31 = .ok (.getfield 21, 3) := by decide +kernel
theorem dX6_addConstraint_34 : decode cX6_addConstraint 34 = .ok (.iconst 1, 1) := by decide +kernel
theorem dX6_addConstraint_35 : decode cX6_addConstraint 35 = .ok (.iadd, 1) := by decide +kernel
theorem dX6_addConstraint_36 : decode cX6_addConstraint 36 = .ok (.putfield 21, 3) := by decide +kernel
theorem dX6_addConstraint_39 : decode cX6_addConstraint 39 = .ok (.return_, 1) := by decide +kernel
theorem dX6_constraintAt_0 : decode cX6_constraintAt 0 = .ok (.iload_n 1, 1) := by decide +kernel
theorem dX6_constraintAt_1 : decode cX6_constraintAt 1 = .ok (.ifCond .lt 29, 3) := by decide +kernel
theorem dX6_constraintAt_4 : decode cX6_constraintAt 4 = .ok (.iload_n 1, 1) := by decide +kernel
theorem dX6_constraintAt_5 : decode cX6_constraintAt 5 = .ok (.aload_n 0, 1) := by decide +kernel
theorem dX6_constraintAt_6 : decode cX6_constraintAt 6 = .ok (.getfield 21, 3) := by decide +kernel
theorem dX6_constraintAt_9 : decode cX6_constraintAt 9 = .ok (.if_icmp .ge 21, 3) := by decide +kernel
theorem dX6_constraintAt_12 : decode cX6_constraintAt 12 = .ok (.iload_n 1, 1) := by decide +kernel
theorem dX6_constraintAt_13 : decode cX6_constraintAt 13 = .ok (.aload_n 0, 1) := by decide +kernel
theorem dX6_constraintAt_14 : decode cX6_constraintAt 14 = .ok (.getfield 11, 3) := by decide +kernel
theorem dX6_constraintAt_17 : decode cX6_constraintAt 17 = .ok (.arraylength, 1) := by decide +kernel
theorem dX6_constraintAt_18 : decode cX6_constraintAt 18 = .ok (.if_icmp .ge 12, 3) := by decide +kernel
theorem dX6_constraintAt_21 : decode cX6_constraintAt 21 = .ok (.aload_n 0, 1) := by decide +kernel
theorem dX6_constraintAt_22 : decode cX6_constraintAt 22 = .ok (.getfield 11, 3) := by decide +kernel
theorem dX6_constraintAt_25 : decode cX6_constraintAt 25 = .ok (.iload_n 1, 1) := by decide +kernel
theorem dX6_constraintAt_26 : decode cX6_constraintAt 26 = .ok (.aaload, 1) := by decide +kernel
theorem dX6_constraintAt_27 : decode cX6_constraintAt 27 = .ok (.goto 4, 3) := by decide +kernel
theorem dX6_constraintAt_30 : decode cX6_constraintAt 30 = .ok (.aconst_null, 1) := by decide +kernel
theorem dX6_constraintAt_31 : decode cX6_constraintAt 31 = .ok (.areturn, 1) := by decide +kernel
set_option maxRecDepth 20000 in
theorem ggX6_openScope_X6_constraintAt : GoodIn wsX6_openScope wsX6_constraintAt := goodIn_r _ [8, 1, 9, 101, 102, 103, 104] (by decide +kernel) (by decide +kernel)
set_option maxRecDepth 20000 in
theorem gX6_openScope_X6_constraintAt : GoodIn wsX6_openScope (wsV RX6 36 RX6 yX6_constraintAt wsX6_constraintAt) := goodIn_app (goodIn_of _ (by decide +kernel)) ggX6_openScope_X6_constraintAt
set_option maxRecDepth 20000 in
theorem ggX6_openScope_X0_verdict : GoodIn wsX6_openScope wsX0_verdict := goodIn_r _ [15, 16, 17, 18, 19, 20, 21, 22, 23, 24, 25, 26, 27, 28, 29, 30, 14, 31, 32, 33, 34, 35, 36, 37, 38, 105, 106, 107, 108, 109, 110, 111, 112, 113, 114, 115, 116, 117, 118, 119, 120, 121, 122, 123, 124, 125, 126, 127, 128] (by decide +kernel) (by decide +kernel)
set_option maxRecDepth 20000 in
theorem gX6_openScope_X0_verdict_u40X0 : GoodIn wsX6_openScope (va_wsU RX6 40 RX0 "SupportSolver$Constraint" ⟨"SupportSolver$Constraint", "verdict", "(J)I"⟩ yX0_verdict wsX0_verdict) := goodIn_app (goodIn_of _ (by decide +kernel)) ggX6_openScope_X0_verdict
set_option maxRecDepth 20000 in
theorem ggX6_openScope_X2_verdict : GoodIn wsX6_openScope wsX2_verdict := goodIn_r _ [42, 43, 44, 45, 46, 47, 48, 49, 50, 51, 52, 53, 54, 55, 56, 57, 58, 59, 60, 61, 62, 63, 64, 65, 66, 27, 67, 68, 69, 70, 71, 72, 105, 106, 107, 108, 109, 110, 111, 112, 113, 114, 115, 116, 117, 118, 119, 120, 121, 122, 123, 124, 125, 126, 127, 128] (by decide +kernel) (by decide +kernel)
set_option maxRecDepth 20000 in
theorem gX6_openScope_X2_verdict_u40X2 : GoodIn wsX6_openScope (va_wsU RX6 40 RX2 "SupportSolver$Constraint" ⟨"SupportSolver$Constraint", "verdict", "(J)I"⟩ yX2_verdict wsX2_verdict) := goodIn_app (goodIn_of _ (by decide +kernel)) ggX6_openScope_X2_verdict
set_option maxRecDepth 20000 in
theorem ggX6_openScope_X4_verdict : GoodIn wsX6_openScope wsX4_verdict := goodIn_r _ [76, 77, 78, 79, 116, 117, 118, 119, 120, 105, 106, 107, 108, 109, 110, 111, 112, 113, 114, 115, 121, 122, 123, 124, 125, 126, 127, 128] (by decide +kernel) (by decide +kernel)
set_option maxRecDepth 20000 in
theorem gX6_openScope_X4_verdict_u40X4 : GoodIn wsX6_openScope (va_wsU RX6 40 RX4 "SupportSolver$Constraint" ⟨"SupportSolver$Constraint", "verdict", "(J)I"⟩ yX4_verdict wsX4_verdict) := goodIn_app (goodIn_of _ (by decide +kernel)) ggX6_openScope_X4_verdict
set_option maxRecDepth 20000 in
theorem ggX6_openScope_X10_verdict : GoodIn wsX6_openScope wsX10_verdict := goodIn_r _ [83, 84, 85, 86, 87, 88, 89, 90, 91, 92, 52, 53, 54, 93, 94, 95, 21, 22, 23, 24, 96, 97, 27, 98, 99, 100, 66, 67, 68, 69, 70, 71, 72, 59, 60, 61, 62, 63, 64, 121, 122, 123, 124, 125, 126, 127, 128, 105, 106, 107, 108, 109, 110, 111, 112, 113, 114, 115, 116, 117, 118, 119, 120] (by decide +kernel) (by decide +kernel)
set_option maxRecDepth 20000 in
theorem gX6_openScope_X10_verdict_u40X10 : GoodIn wsX6_openScope (va_wsU RX6 40 RX10 "SupportSolver$Constraint" ⟨"SupportSolver$Constraint", "verdict", "(J)I"⟩ yX10_verdict wsX10_verdict) := goodIn_app (goodIn_of _ (by decide +kernel)) ggX6_openScope_X10_verdict
theorem dX6_openScope_0 : decode cX6_openScope 0 = .ok (.lconst 0, 1) := by decide +kernel
theorem dX6_openScope_1 : decode cX6_openScope 1 = .ok (.lstore_n 3, 1) := by decide +kernel
theorem dX6_openScope_2 : decode cX6_openScope 2 = .ok (.iconst 0, 1) := by decide +kernel
theorem dX6_openScope_3 : decode cX6_openScope 3 = .ok (.istore 5, 2) := by decide +kernel
theorem dX6_openScope_5 : decode cX6_openScope 5 = .ok (.iload 5, 2) := by decide +kernel
theorem dX6_openScope_7 : decode cX6_openScope 7 = .ok (.aload_n 0, 1) := by decide +kernel
theorem dX6_openScope_8 : decode cX6_openScope 8 = .ok (.getfield 21, 3) := by decide +kernel
theorem dX6_openScope_11 : decode cX6_openScope 11 = .ok (.if_icmp .ge 73, 3) := by decide +kernel
theorem dX6_openScope_14 : decode cX6_openScope 14 = .ok (.lload_n 3, 1) := by decide +kernel
theorem dX6_openScope_15 : decode cX6_openScope 15 = .ok (.ldc2_w 34, 3) := by decide +kernel
theorem dX6_openScope_18 : decode cX6_openScope 18 = .ok (.lcmp, 1) := by decide +kernel
theorem dX6_openScope_19 : decode cX6_openScope 19 = .ok (.ifCond .eq 65, 3) := by decide +kernel
theorem dX6_openScope_22 : decode cX6_openScope 22 = .ok (.aload_n 0, 1) := by decide +kernel
theorem dX6_openScope_23 : decode cX6_openScope 23 = .ok (.iload 5, 2) := by decide +kernel
theorem dX6_openScope_25 : decode cX6_openScope 25 = .ok (.invokevirtual 36, 3) := by decide +kernel
theorem dX6_openScope_28 : decode cX6_openScope 28 = .ok (.astore 6, 2) := by decide +kernel
theorem dX6_openScope_30 : decode cX6_openScope 30 = .ok (.aload 6, 2) := by decide +kernel
theorem dX6_openScope_32 : decode cX6_openScope 32 = .ok (.ifnonnull 7, 3) := by decide +kernel
theorem dX6_openScope_35 : decode cX6_openScope 35 = .ok (.iconst 2, 1) := by decide +kernel
theorem dX6_openScope_36 : decode cX6_openScope 36 = .ok (.goto 9, 3) := by decide +kernel
theorem dX6_openScope_39 : decode cX6_openScope 39 = .ok (.aload 6, 2) := by decide +kernel
theorem dX6_openScope_41 : decode cX6_openScope 41 = .ok (.lload_n 1, 1) := by decide +kernel
theorem dX6_openScope_42 : decode cX6_openScope 42 = .ok (.invokevirtual 40, 3) := by decide +kernel
theorem dX6_openScope_45 : decode cX6_openScope 45 = .ok (.istore 7, 2) := by decide +kernel
theorem dX6_openScope_47 : decode cX6_openScope 47 = .ok (.iload 7, 2) := by decide +kernel
theorem dX6_openScope_49 : decode cX6_openScope 49 = .ok (.ifCond .ne 10, 3) := by decide +kernel
theorem dX6_openScope_52 : decode cX6_openScope 52 = .ok (.ldc2_w 34, 3) := by decide +kernel
theorem dX6_openScope_55 : decode cX6_openScope 55 = .ok (.lstore_n 3, 1) := by decide +kernel
theorem dX6_openScope_56 : decode cX6_openScope 56 = .ok (.goto 22, 3) := by decide +kernel
theorem dX6_openScope_59 : decode cX6_openScope 59 = .ok (.iload 7, 2) := by decide +kernel
theorem dX6_openScope_61 : decode cX6_openScope 61 = .ok (.iconst 1, 1) := by decide +kernel
theorem dX6_openScope_62 : decode cX6_openScope 62 = .ok (.if_icmp .ne 16, 3) := by decide +kernel
theorem dX6_openScope_65 : decode cX6_openScope 65 = .ok (.aload 6, 2) := by decide +kernel
theorem dX6_openScope_67 : decode cX6_openScope 67 = .ok (.ifnull 11, 3) := by decide +kernel
theorem dX6_openScope_70 : decode cX6_openScope 70 = .ok (.lload_n 3, 1) := by decide +kernel
theorem dX6_openScope_71 : decode cX6_openScope 71 = .ok (.aload 6, 2) := by decide +kernel
theorem dX6_openScope_73 : decode cX6_openScope 73 = .ok (.getfield 44, 3) := by decide +kernel
theorem dX6_openScope_76 : decode cX6_openScope 76 = .ok (.lor, 1) := by decide +kernel
theorem dX6_openScope_77 : decode cX6_openScope 77 = .ok (.lstore_n 3, 1) := by decide +kernel
theorem dX6_openScope_78 : decode cX6_openScope 78 = .ok (.iinc 5 1, 3) := by decide +kernel
theorem dX6_openScope_81 : decode cX6_openScope 81 = .ok (.goto (-76), 3) := by decide +kernel
theorem dX6_openScope_84 : decode cX6_openScope 84 = .ok (.lload_n 3, 1) := by decide +kernel
theorem dX6_openScope_85 : decode cX6_openScope 85 = .ok (.lreturn, 1) := by decide +kernel
theorem dX7_init_0 : decode cX7_init 0 = .ok (.aload_n 0, 1) := by decide +kernel
theorem dX7_init_1 : decode cX7_init 1 = .ok (.invokespecial 3, 3) := by decide +kernel
theorem dX7_init_4 : decode cX7_init 4 = .ok (.aload_n 0, 1) := by decide +kernel
theorem dX7_init_5 : decode cX7_init 5 = .ok (.iconst 0, 1) := by decide +kernel
theorem dX7_init_6 : decode cX7_init 6 = .ok (.putfield 9, 3) := by decide +kernel
theorem dX7_init_9 : decode cX7_init 9 = .ok (.aload_n 0, 1) := by decide +kernel
theorem dX7_init_10 : decode cX7_init 10 = .ok (.iconst 0, 1) := by decide +kernel
theorem dX7_init_11 : decode cX7_init 11 = .ok (.putfield 15, 3) := by decide +kernel
theorem dX7_init_14 : decode cX7_init 14 = .ok (.aload_n 0, 1) := by decide +kernel
theorem dX7_init_15 : decode cX7_init 15 = .ok (.lconst 0, 1) := by decide +kernel
theorem dX7_init_16 : decode cX7_init 16 = .ok (.putfield 19, 3) := by decide +kernel
theorem dX7_init_19 : decode cX7_init 19 = .ok (.aload_n 0, 1) := by decide +kernel
theorem dX7_init_20 : decode cX7_init 20 = .ok (.lconst 0, 1) := by decide +kernel
theorem dX7_init_21 : decode cX7_init 21 = .ok (.putfield 23, 3) := by decide +kernel
theorem dX7_init_24 : decode cX7_init 24 = .ok (.aload_n 0, 1) := by decide +kernel
theorem dX7_init_25 : decode cX7_init 25 = .ok (.lconst 0, 1) := by decide +kernel
theorem dX7_init_26 : decode cX7_init 26 = .ok (.putfield 26, 3) := by decide +kernel
theorem dX7_init_29 : decode cX7_init 29 = .ok (.return_, 1) := by decide +kernel
set_option maxRecDepth 20000 in
theorem ggX7_find_X7_addFrom : GoodIn wsX7_find wsX7_addFrom := goodIn_r _ [9, 10, 11, 12, 13, 14, 15, 16, 17, 18, 19, 20, 21, 22, 23, 24, 25, 26, 27, 28, 29, 30, 31, 32, 33, 34, 35, 36, 37, 38, 39, 40, 41, 42, 43, 44, 45, 46, 47, 48, 49, 50, 51, 52, 53, 54, 55, 56, 57, 58, 59, 60, 61, 62, 63, 64, 65, 66, 67, 68, 69, 70, 71, 72, 73, 74, 75, 76, 77, 78, 79, 80, 81, 82, 83, 84, 85, 86, 87, 88, 89, 90, 91, 92, 93, 94, 95, 96, 97, 98, 99, 100, 101, 102, 103, 104, 105, 106, 107, 108, 109, 110, 111, 112, 113, 114, 115, 116, 117, 118, 119, 120, 121, 122, 123, 124, 125, 126, 8, 127, 3, 4, 5, 128, 129, 130, 131, 132, 133, 134, 135, 136, 137, 138, 139, 140, 141, 142, 143, 6, 7, 149, 150, 151, 152, 153, 154, 155, 156, 157, 158, 159, 160, 161, 162, 163, 164, 165, 166, 167, 168, 169, 170, 171, 172, 173, 174, 175, 176, 144, 145, 146, 147, 148] (by decide +kernel) (by decide +kernel)
set_option maxRecDepth 20000 in
theorem gX7_find_X7_addFrom : GoodIn wsX7_find (va_wsS RX7 29 yX7_addFrom wsX7_addFrom) := goodIn_app (goodIn_of _ (by decide +kernel)) ggX7_find_X7_addFrom
theorem dX7_find_0 : decode cX7_find 0 = .ok (.aload_n 0, 1) := by decide +kernel
theorem dX7_find_1 : decode cX7_find 1 = .ok (.getfield 9, 3) := by decide +kernel
theorem dX7_find_4 : decode cX7_find 4 = .ok (.ifCond .eq 13, 3) := by decide +kernel
theorem dX7_find_7 : decode cX7_find 7 = .ok (.aload_n 0, 1) := by decide +kernel
theorem dX7_find_8 : decode cX7_find 8 = .ok (.getfield 26, 3) := by decide +kernel
theorem dX7_find_11 : decode cX7_find 11 = .ok (.lload_n 2, 1) := by decide +kernel
theorem dX7_find_12 : decode cX7_find 12 = .ok (.lcmp, 1) := by decide +kernel
theorem dX7_find_13 : decode cX7_find 13 = .ok (.ifCond .ne 4, 3) := by decide +kernel
theorem dX7_find_16 : decode cX7_find 16 = .ok (.return_, 1) := by decide +kernel
theorem dX7_find_17 : decode cX7_find 17 = .ok (.aload_n 0, 1) := by decide +kernel
theorem dX7_find_18 : decode cX7_find 18 = .ok (.iconst 1, 1) := by decide +kernel
theorem dX7_find_19 : decode cX7_find 19 = .ok (.putfield 9, 3) := by decide +kernel
theorem dX7_find_22 : decode cX7_find 22 = .ok (.aload_n 0, 1) := by decide +kernel
theorem dX7_find_23 : decode cX7_find 23 = .ok (.lload_n 2, 1) := by decide +kernel
theorem dX7_find_24 : decode cX7_find 24 = .ok (.putfield 26, 3) := by decide +kernel
theorem dX7_find_27 : decode cX7_find 27 = .ok (.aload_n 0, 1) := by decide +kernel
theorem dX7_find_28 : decode cX7_find 28 = .ok (.iconst 0, 1) := by decide +kernel
theorem dX7_find_29 : decode cX7_find 29 = .ok (.putfield 15, 3) := by decide +kernel
theorem dX7_find_32 : decode cX7_find 32 = .ok (.aload_n 0, 1) := by decide +kernel
theorem dX7_find_33 : decode cX7_find 33 = .ok (.lconst 0, 1) := by decide +kernel
theorem dX7_find_34 : decode cX7_find 34 = .ok (.putfield 19, 3) := by decide +kernel
theorem dX7_find_37 : decode cX7_find 37 = .ok (.aload_n 0, 1) := by decide +kernel
theorem dX7_find_38 : decode cX7_find 38 = .ok (.lconst 0, 1) := by decide +kernel
theorem dX7_find_39 : decode cX7_find 39 = .ok (.putfield 23, 3) := by decide +kernel
theorem dX7_find_42 : decode cX7_find 42 = .ok (.aload_n 0, 1) := by decide +kernel
theorem dX7_find_43 : decode cX7_find 43 = .ok (.aload_n 1, 1) := by decide +kernel
theorem dX7_find_44 : decode cX7_find 44 = .ok (.lload_n 2, 1) := by decide +kernel
theorem dX7_find_45 : decode cX7_find 45 = .ok (.iconst 0, 1) := by decide +kernel
theorem dX7_find_46 : decode cX7_find 46 = .ok (.invokestatic 29, 3) := by decide +kernel
theorem dX7_find_49 : decode cX7_find 49 = .ok (.return_, 1) := by decide +kernel
set_option maxRecDepth 20000 in
theorem ggX7_addFrom_X6_openScope : GoodIn wsX7_addFrom wsX6_openScope := goodIn_r _ [8, 9, 10, 11, 12, 13, 14, 7, 15, 16, 17, 18, 19, 20, 21, 22, 23, 24, 25, 26, 27, 28, 29, 30, 31, 32, 33, 34, 35, 36, 37, 38, 39, 40, 41, 42, 43, 44, 45, 46, 47, 48, 49, 50, 51, 52, 53, 54, 55, 56, 57, 58, 59, 60, 61, 62, 63, 64, 65, 66, 67, 68, 69, 70, 71, 72, 73, 74, 75, 76, 77, 78, 79, 80, 81, 82, 83, 84, 85, 86, 87, 88, 89, 90, 91, 92, 93, 94, 95, 96, 97, 98, 99, 100, 101, 102, 103, 104, 105, 106, 107, 141, 142, 143, 144, 145, 146, 147, 148, 149, 150, 151, 152, 153, 154, 155, 156, 157, 158, 159, 160, 161, 162, 163, 164, 165, 166, 167, 168] (by decide +kernel) (by decide +kernel)
set_option maxRecDepth 20000 in
theorem gX7_addFrom_X6_openScope : GoodIn wsX7_addFrom (wsV RX7 33 RX6 yX6_openScope wsX6_openScope) := goodIn_app (goodIn_of _ (by decide +kernel)) ggX7_addFrom_X6_openScope
set_option maxRecDepth 20000 in
theorem ggX7_addFrom_X5_allOf : GoodIn wsX7_addFrom wsX5_allOf := goodIn_r _ [105, 106] (by decide +kernel) (by decide +kernel)
set_option maxRecDepth 20000 in
theorem gX7_addFrom_X5_allOf : GoodIn wsX7_addFrom (va_wsS RX7 44 yX5_allOf wsX5_allOf) := goodIn_app (goodIn_of _ (by decide +kernel)) ggX7_addFrom_X5_allOf
set_option maxRecDepth 20000 in
theorem ggX7_addFrom_X5_assignments : GoodIn wsX7_addFrom wsX5_assignments := goodIn_r _ [111, 112, 104, 34, 105, 106, 113, 33, 35, 114, 40, 41, 42, 43, 44, 45] (by decide +kernel) (by decide +kernel)
set_option maxRecDepth 20000 in
theorem gX7_addFrom_X5_assignments : GoodIn wsX7_addFrom (va_wsS RX7 53 yX5_assignments wsX5_assignments) := goodIn_app (goodIn_of _ (by decide +kernel)) ggX7_addFrom_X5_assignments
set_option maxRecDepth 20000 in
theorem ggX7_addFrom_X7_addAll : GoodIn wsX7_addFrom wsX7_addAll := goodIn_r _ [119, 120, 121, 122, 123, 124, 34, 125, 112, 104, 105, 106, 169, 170, 171, 172, 173] (by decide +kernel) (by decide +kernel)
set_option maxRecDepth 20000 in
theorem gX7_addFrom_X7_addAll : GoodIn wsX7_addFrom (wsV RX7 57 RX7 yX7_addAll wsX7_addAll) := goodIn_app (goodIn_of _ (by decide +kernel)) ggX7_addFrom_X7_addAll
set_option maxRecDepth 20000 in
theorem ggX7_addFrom_X5_has : GoodIn wsX7_addFrom wsX5_has := goodIn_r _ [128, 129, 130, 131, 132, 133, 34, 134] (by decide +kernel) (by decide +kernel)
set_option maxRecDepth 20000 in
theorem gX7_addFrom_X5_has : GoodIn wsX7_addFrom (va_wsS RX7 61 yX5_has wsX5_has) := goodIn_app (goodIn_of _ (by decide +kernel)) ggX7_addFrom_X5_has
set_option maxRecDepth 20000 in
theorem ggX7_addFrom_X5_narrowed : GoodIn wsX7_addFrom wsX5_narrowed := goodIn_r _ [137, 138, 112, 104, 34, 105, 106, 132, 133, 134] (by decide +kernel) (by decide +kernel)
set_option maxRecDepth 20000 in
theorem gX7_addFrom_X5_narrowed : GoodIn wsX7_addFrom (va_wsS RX7 65 yX5_narrowed wsX5_narrowed) := goodIn_app (goodIn_of _ (by decide +kernel)) ggX7_addFrom_X5_narrowed
set_option maxRecDepth 20000 in
theorem ggX7_addFrom_X7_addFrom : GoodIn wsX7_addFrom wsX7_addFrom := goodIn_r _ [0, 1, 2, 3, 4, 5, 6, 7, 8, 9, 10, 11, 12, 13, 14, 15, 16, 17, 18, 19, 20, 21, 22, 23, 24, 25, 26, 27, 28, 29, 30, 31, 32, 33, 34, 35, 36, 37, 38, 39, 40, 41, 42, 43, 44, 45, 46, 47, 48, 49, 50, 51, 52, 53, 54, 55, 56, 57, 58, 59, 60, 61, 62, 63, 64, 65, 66, 67, 68, 69, 70, 71, 72, 73, 74, 75, 76, 77, 78, 79, 80, 81, 82, 83, 84, 85, 86, 87, 88, 89, 90, 91, 92, 93, 94, 95, 96, 97, 98, 99, 100, 101, 102, 103, 104, 105, 106, 107, 108, 109, 110, 111, 112, 113, 114, 115, 116, 117, 118, 119, 120, 121, 122, 123, 124, 125, 126, 127, 128, 129, 130, 131, 132, 133, 134, 135, 136, 137, 138, 139, 140, 141, 142, 143, 144, 145, 146, 147, 148, 149, 150, 151, 152, 153, 154, 155, 156, 157, 158, 159, 160, 161, 162, 163, 164, 165, 166, 167, 168, 169, 170, 171, 172, 173] (by decide +kernel) (by decide +kernel)
set_option maxRecDepth 20000 in
theorem gX7_addFrom_X7_addFrom : GoodIn wsX7_addFrom (va_wsS RX7 29 yX7_addFrom wsX7_addFrom) := goodIn_app (goodIn_of _ (by decide +kernel)) ggX7_addFrom_X7_addFrom
theorem dX7_addFrom_0 : decode cX7_addFrom 0 = .ok (.aload_n 1, 1) := by decide +kernel
theorem dX7_addFrom_1 : decode cX7_addFrom 1 = .ok (.lload_n 2, 1) := by decide +kernel
theorem dX7_addFrom_2 : decode cX7_addFrom 2 = .ok (.invokevirtual 33, 3) := by decide +kernel
theorem dX7_addFrom_5 : decode cX7_addFrom 5 = .ok (.lstore 5, 2) := by decide +kernel
theorem dX7_addFrom_7 : decode cX7_addFrom 7 = .ok (.lload 5, 2) := by decide +kernel
theorem dX7_addFrom_9 : decode cX7_addFrom 9 = .ok (.ldc2_w 39, 3) := by decide +kernel
theorem dX7_addFrom_12 : decode cX7_addFrom 12 = .ok (.lcmp, 1) := by decide +kernel
theorem dX7_addFrom_13 : decode cX7_addFrom 13 = .ok (.ifCond .ne 4, 3) := by decide +kernel
theorem dX7_addFrom_16 : decode cX7_addFrom 16 = .ok (.return_, 1) := by decide +kernel
theorem dX7_addFrom_17 : decode cX7_addFrom 17 = .ok (.iload 4, 2) := by decide +kernel
theorem dX7_addFrom_19 : decode cX7_addFrom 19 = .ok (.istore 7, 2) := by decide +kernel
theorem dX7_addFrom_21 : decode cX7_addFrom 21 = .ok (.iload 7, 2) := by decide +kernel
theorem dX7_addFrom_23 : decode cX7_addFrom 23 = .ok (.aload_n 1, 1) := by decide +kernel
theorem dX7_addFrom_24 : decode cX7_addFrom 24 = .ok (.getfield 41, 3) := by decide +kernel
theorem dX7_addFrom_27 : decode cX7_addFrom 27 = .ok (.if_icmp .ge 22, 3) := by decide +kernel
theorem dX7_addFrom_30 : decode cX7_addFrom 30 = .ok (.lload 5, 2) := by decide +kernel
theorem dX7_addFrom_32 : decode cX7_addFrom 32 = .ok (.iload 7, 2) := by decide +kernel
theorem dX7_addFrom_34 : decode cX7_addFrom 34 = .ok (.invokestatic 44, 3) := by decide +kernel
theorem dX7_addFrom_37 : decode cX7_addFrom 37 = .ok (.land, 1) := by decide +kernel
theorem dX7_addFrom_38 : decode cX7_addFrom 38 = .ok (.lconst 0, 1) := by decide +kernel
theorem dX7_addFrom_39 : decode cX7_addFrom 39 = .ok (.lcmp, 1) := by decide +kernel
theorem dX7_addFrom_40 : decode cX7_addFrom 40 = .ok (.ifCond .ne 9, 3) := by decide +kernel
theorem dX7_addFrom_43 : decode cX7_addFrom 43 = .ok (.iinc 7 1, 3) := by decide +kernel
theorem dX7_addFrom_46 : decode cX7_addFrom 46 = .ok (.goto (-25), 3) := by decide +kernel
theorem dX7_addFrom_49 : decode cX7_addFrom 49 = .ok (.iload 7, 2) := by decide +kernel
theorem dX7_addFrom_51 : decode cX7_addFrom 51 = .ok (.aload_n 1, 1) := by decide +kernel
theorem dX7_addFrom_52 : decode cX7_addFrom 52 = .ok (.getfield 41, 3) := by decide +kernel
theorem dX7_addFrom_55 : decode cX7_addFrom 55 = .ok (.if_icmp .lt 17, 3) := by decide +kernel
theorem dX7_addFrom_58 : decode cX7_addFrom 58 = .ok (.aload_n 0, 1) := by decide +kernel
theorem dX7_addFrom_59 : decode cX7_addFrom 59 = .ok (.lload_n 2, 1) := by decide +kernel
theorem dX7_addFrom_60 : decode cX7_addFrom 60 = .ok (.lload_n 2, 1) := by decide +kernel
theorem dX7_addFrom_61 : decode cX7_addFrom 61 = .ok (.aload_n 1, 1) := by decide +kernel
theorem dX7_addFrom_62 : decode cX7_addFrom 62 = .ok (.getfield 50, 3) := by decide +kernel
theorem dX7_addFrom_65 : decode cX7_addFrom 65 = .ok (.invokestatic 53, 3) := by decide +kernel
theorem dX7_addFrom_68 : decode cX7_addFrom 68 = .ok (.invokevirtual 57, 3) := by decide +kernel
theorem dX7_addFrom_71 : decode cX7_addFrom 71 = .ok (.return_, 1) := by decide +kernel
theorem dX7_addFrom_72 : decode cX7_addFrom 72 = .ok (.iconst 0, 1) := by decide +kernel
theorem dX7_addFrom_73 : decode cX7_addFrom 73 = .ok (.istore 8, 2) := by decide +kernel
theorem dX7_addFrom_75 : decode cX7_addFrom 75 = .ok (.iload 8, 2) := by decide +kernel
theorem dX7_addFrom_77 : decode cX7_addFrom 77 = .ok (.iconst 5, 1) := by decide +kernel
theorem dX7_addFrom_78 : decode cX7_addFrom 78 = .ok (.if_icmp .ge 37, 3) := by decide +kernel
theorem dX7_addFrom_81 : decode cX7_addFrom 81 = .ok (.lload_n 2, 1) := by decide +kernel
theorem dX7_addFrom_82 : decode cX7_addFrom 82 = .ok (.iload 7, 2) := by decide +kernel
theorem dX7_addFrom_84 : decode cX7_addFrom 84 = .ok (.iload 8, 2) := by decide +kernel
theorem dX7_addFrom_86 : decode cX7_addFrom 86 = .ok (.invokestatic 61, 3) := by decide +kernel
theorem dX7_addFrom_89 : decode cX7_addFrom 89 = .ok (.ifCond .eq 20, 3) := by decide +kernel
theorem dX7_addFrom_92 : decode cX7_addFrom 92 = .ok (.aload_n 0, 1) := by decide +kernel
theorem dX7_addFrom_93 : decode cX7_addFrom 93 = .ok (.aload_n 1, 1) := by decide +kernel
theorem dX7_addFrom_94 : decode cX7_addFrom 94 = .ok (.lload_n 2, 1) := by decide +kernel
theorem dX7_addFrom_95 : decode cX7_addFrom 95 = .ok (.iload 7, 2) := by decide +kernel
theorem dX7_addFrom_97 : decode cX7_addFrom 97 = .ok (.iload 8, 2) := by decide +kernel
theorem dX7_addFrom_99 : decode cX7_addFrom 99 = .ok (.invokestatic 65, 3) := by decide +kernel
theorem dX7_addFrom_102 : decode cX7_addFrom 102 = .ok (.iload 7, 2) := by decide +kernel
theorem dX7_addFrom_104 : decode cX7_addFrom 104 = .ok (.iconst 1, 1) := by decide +kernel
theorem dX7_addFrom_105 : decode cX7_addFrom 105 = .ok (.iadd, 1) := by decide +kernel
theorem dX7_addFrom_106 : decode cX7_addFrom 106 = .ok (.invokestatic 29, 3) := by decide +kernel
theorem dX7_addFrom_109 : decode cX7_addFrom 109 = .ok (.iinc 8 1, 3) := by decide +kernel
theorem dX7_addFrom_112 : decode cX7_addFrom 112 = .ok (.goto (-37), 3) := by decide +kernel
theorem dX7_addFrom_115 : decode cX7_addFrom 115 = .ok (.return_, 1) := by decide +kernel
set_option maxRecDepth 20000 in
theorem ggX7_addAll_X5_leastOfEach : GoodIn wsX7_addAll wsX5_leastOfEach := goodIn_r _ [7, 8, 9, 6, 10, 11] (by decide +kernel) (by decide +kernel)
set_option maxRecDepth 20000 in
theorem gX7_addAll_X5_leastOfEach : GoodIn wsX7_addAll (va_wsS RX7 69 yX5_leastOfEach wsX5_leastOfEach) := goodIn_app (goodIn_of _ (by decide +kernel)) ggX7_addAll_X5_leastOfEach
theorem dX7_addAll_0 : decode cX7_addAll 0 = .ok (.iload_n 3, 1) := by decide +kernel
theorem dX7_addAll_1 : decode cX7_addAll 1 = .ok (.ifCond .le 45, 3) := by decide +kernel
theorem dX7_addAll_4 : decode cX7_addAll 4 = .ok (.aload_n 0, 1) := by decide +kernel
theorem dX7_addAll_5 : decode cX7_addAll 5 = .ok (.aload_n 0, 1) := by decide +kernel
theorem dX7_addAll_6 : decode cX7_addAll 6 = .ok (.getfield 15, 3) := by decide +kernel
theorem dX7_addAll_9 : decode cX7_addAll 9 = .ok (.ifCond .ne 10, 3) := by decide +kernel
theorem dX7_addAll_12 : decode cX7_addAll 12 = .ok (.lload_n 1, 1) := by decide +kernel
theorem dX7_addAll_13 : decode cX7_addAll 13 = .ok (.invokestatic 69, 3) := by decide +kernel
theorem dX7_addAll_16 : decode cX7_addAll 16 = .ok (.goto 7, 3) := by decide +kernel
theorem dX7_addAll_19 : decode cX7_addAll 19 = .ok (.aload_n 0, 1) := by decide +kernel
theorem dX7_addAll_20 : decode cX7_addAll 20 = .ok (.getfield 19, 3) := by decide +kernel
theorem dX7_addAll_23 : decode cX7_addAll 23 = .ok (.putfield 19, 3) := by decide +kernel
theorem dX7_addAll_26 : decode cX7_addAll 26 = .ok (.aload_n 0, 1) := by decide +kernel
theorem dX7_addAll_27 : decode cX7_addAll 27 = .ok (.dup, 1) := by decide +kernel
theorem dX7_addAll_28 : decode cX7_addAll 28 = .ok (.getfield 23, 3) := by decide +kernel
theorem dX7_addAll_31 : decode cX7_addAll 31 = .ok (.lload_n 1, 1) := by decide +kernel
theorem dX7_addAll_32 : decode cX7_addAll 32 = .ok (.lor, 1) := by decide +kernel
theorem dX7_addAll_33 : decode cX7_addAll 33 = .ok (.putfield 23, 3) := by decide +kernel
theorem dX7_addAll_36 : decode cX7_addAll 36 = .ok (.aload_n 0, 1) := by decide +kernel
theorem dX7_addAll_37 : decode cX7_addAll 37 = .ok (.dup, 1) := by decide +kernel
theorem dX7_addAll_38 : decode cX7_addAll 38 = .ok (.getfield 15, 3) := by decide +kernel
theorem dX7_addAll_41 : decode cX7_addAll 41 = .ok (.iload_n 3, 1) := by decide +kernel
theorem dX7_addAll_42 : decode cX7_addAll 42 = .ok (.iadd, 1) := by decide +kernel
theorem dX7_addAll_43 : decode cX7_addAll 43 = .ok (.putfield 15, 3) := by decide +kernel
theorem dX7_addAll_46 : decode cX7_addAll 46 = .ok (.return_, 1) := by decide +kernel
set_option maxRecDepth 20000 in
theorem ggX8_init_X6_init : GoodIn wsX8_init wsX6_init := goodIn_r _ [20, 21, 2, 3, 22, 23, 24, 25, 26, 37, 38, 39, 40] (by decide +kernel) (by decide +kernel)
set_option maxRecDepth 20000 in
theorem gX8_init_X6_init_n31 : GoodIn wsX8_init (wsX6_init) := ggX8_init_X6_init
theorem dX8_init_0 : decode cX8_init 0 = .ok (.aload_n 0, 1) := by decide +kernel
theorem dX8_init_1 : decode cX8_init 1 = .ok (.invokespecial 3, 3) := by decide +kernel
theorem dX8_init_4 : decode cX8_init 4 = .ok (.aload_n 0, 1) := by decide +kernel
theorem dX8_init_5 : decode cX8_init 5 = .ok (.sipush 600, 3) := by decide +kernel
theorem dX8_init_8 : decode cX8_init 8 = .ok (.newarray .byte, 2) := by decide +kernel
theorem dX8_init_10 : decode cX8_init 10 = .ok (.putfield 11, 3) := by decide +kernel
theorem dX8_init_13 : decode cX8_init 13 = .ok (.aload_n 0, 1) := by decide +kernel
theorem dX8_init_14 : decode cX8_init 14 = .ok (.bipush 7, 2) := by decide +kernel
theorem dX8_init_16 : decode cX8_init 16 = .ok (.newarray .int, 2) := by decide +kernel
theorem dX8_init_18 : decode cX8_init 18 = .ok (.putfield 15, 3) := by decide +kernel
theorem dX8_init_21 : decode cX8_init 21 = .ok (.aload_n 0, 1) := by decide +kernel
theorem dX8_init_22 : decode cX8_init 22 = .ok (.iconst 0, 1) := by decide +kernel
theorem dX8_init_23 : decode cX8_init 23 = .ok (.putfield 19, 3) := by decide +kernel
theorem dX8_init_26 : decode cX8_init 26 = .ok (.aload_n 0, 1) := by decide +kernel
theorem dX8_init_27 : decode cX8_init 27 = .ok (.iconst 0, 1) := by decide +kernel
theorem dX8_init_28 : decode cX8_init 28 = .ok (.putfield 23, 3) := by decide +kernel
theorem dX8_init_31 : decode cX8_init 31 = .ok (.aload_n 0, 1) := by decide +kernel
theorem dX8_init_32 : decode cX8_init 32 = .ok (.iconst (-1), 1) := by decide +kernel
theorem dX8_init_33 : decode cX8_init 33 = .ok (.putfield 26, 3) := by decide +kernel
theorem dX8_init_36 : decode cX8_init 36 = .ok (.aload_n 0, 1) := by decide +kernel
theorem dX8_init_37 : decode cX8_init 37 = .ok (.new 29, 3) := by decide +kernel
theorem dX8_init_40 : decode cX8_init 40 = .ok (.dup, 1) := by decide +kernel
theorem dX8_init_41 : decode cX8_init 41 = .ok (.invokespecial 31, 3) := by decide +kernel
theorem dX8_init_44 : decode cX8_init 44 = .ok (.putfield 32, 3) := by decide +kernel
theorem dX8_init_47 : decode cX8_init 47 = .ok (.aload_n 0, 1) := by decide +kernel
theorem dX8_init_48 : decode cX8_init 48 = .ok (.iconst 0, 1) := by decide +kernel
theorem dX8_init_49 : decode cX8_init 49 = .ok (.putfield 36, 3) := by decide +kernel
theorem dX8_init_52 : decode cX8_init 52 = .ok (.aload_n 0, 1) := by decide +kernel
theorem dX8_init_53 : decode cX8_init 53 = .ok (.iconst 0, 1) := by decide +kernel
theorem dX8_init_54 : decode cX8_init 54 = .ok (.putfield 39, 3) := by decide +kernel
theorem dX8_init_57 : decode cX8_init 57 = .ok (.aload_n 0, 1) := by decide +kernel
theorem dX8_init_58 : decode cX8_init 58 = .ok (.iconst 0, 1) := by decide +kernel
theorem dX8_init_59 : decode cX8_init 59 = .ok (.putfield 42, 3) := by decide +kernel
theorem dX8_init_62 : decode cX8_init 62 = .ok (.aload_n 0, 1) := by decide +kernel
theorem dX8_init_63 : decode cX8_init 63 = .ok (.iconst 0, 1) := by decide +kernel
theorem dX8_init_64 : decode cX8_init 64 = .ok (.putfield 45, 3) := by decide +kernel
theorem dX8_init_67 : decode cX8_init 67 = .ok (.return_, 1) := by decide +kernel
theorem dX8_addFour_0 : decode cX8_addFour 0 = .ok (.bipush 24, 2) := by decide +kernel
theorem dX8_addFour_2 : decode cX8_addFour 2 = .ok (.istore_n 2, 1) := by decide +kernel
theorem dX8_addFour_3 : decode cX8_addFour 3 = .ok (.iload_n 2, 1) := by decide +kernel
theorem dX8_addFour_4 : decode cX8_addFour 4 = .ok (.ifCond .lt 51, 3) := by decide +kernel
theorem dX8_addFour_7 : decode cX8_addFour 7 = .ok (.aload_n 0, 1) := by decide +kernel
theorem dX8_addFour_8 : decode cX8_addFour 8 = .ok (.getfield 19, 3) := by decide +kernel
theorem dX8_addFour_11 : decode cX8_addFour 11 = .ok (.ifCond .lt 38, 3) := by decide +kernel
theorem dX8_addFour_14 : decode cX8_addFour 14 = .ok (.aload_n 0, 1) := by decide +kernel
theorem dX8_addFour_15 : decode cX8_addFour 15 = .ok (.getfield 19, 3) := by decide +kernel
theorem dX8_addFour_18 : decode cX8_addFour 18 = .ok (.aload_n 0, 1) := by decide +kernel
theorem dX8_addFour_19 : decode cX8_addFour 19 = .ok (.getfield 11, 3) := by decide +kernel
theorem dX8_addFour_22 : decode cX8_addFour 22 = .ok (.arraylength, 1) := by decide +kernel
theorem dX8_addFour_23 : decode cX8_addFour 23 = .ok (.if_icmp .ge 26, 3) := by decide +kernel
theorem dX8_addFour_26 : decode cX8_addFour 26 = .ok (.aload_n 0, 1) := by decide +kernel
theorem dX8_addFour_27 : decode cX8_addFour 27 = .ok (.getfield 11, 3) := by decide +kernel
theorem dX8_addFour_30 : decode cX8_addFour 30 = .ok (.aload_n 0, 1) := by decide +kernel
theorem dX8_addFour_31 : decode cX8_addFour 31 = .ok (.getfield 19, 3) := by decide +kernel
theorem dX8_addFour_34 : decode cX8_addFour 34 = .ok (.iload_n 1, 1) := by decide +kernel
theorem dX8_addFour_35 : decode cX8_addFour 35 = .ok (.iload_n 2, 1) := by decide +kernel
theorem dX8_addFour_36 : decode cX8_addFour 36 = .ok (.iushr, 1) := by decide +kernel
theorem dX8_addFour_37 : decode cX8_addFour 37 = .ok (.i2b, 1) := by decide +kernel
theorem dX8_addFour_38 : decode cX8_addFour 38 = .ok (.bastore, 1) := by decide +kernel
theorem dX8_addFour_39 : decode cX8_addFour 39 = .ok (.aload_n 0, 1) := by decide +kernel
theorem dX8_addFour_40 : decode cX8_addFour 40 = .ok (.dup, 1) := by decide +kernel
theorem dX8_addFour_41 : decode cX8_addFour 41 = .ok (.getfield 19, 3) := by decide +kernel
theorem dX8_addFour_44 : decode cX8_addFour 44 = .ok (.iconst 1, 1) := by decide +kernel
theorem dX8_addFour_45 : decode cX8_addFour 45 = .ok (.iadd, 1) := by decide +kernel
theorem dX8_addFour_46 : decode cX8_addFour 46 = .ok (.putfield 19, 3) := by decide +kernel
theorem dX8_addFour_49 : decode cX8_addFour 49 = .ok (.iinc 2 (-8), 3) := by decide +kernel
theorem dX8_addFour_52 : decode cX8_addFour 52 = .ok (.goto (-49), 3) := by decide +kernel
theorem dX8_addFour_55 : decode cX8_addFour 55 = .ok (.return_, 1) := by decide +kernel
set_option maxRecDepth 20000 in
theorem ggX8_begin_X6_init : GoodIn wsX8_begin wsX6_init := goodIn_r _ [9, 10, 11, 12, 13, 14, 15, 16, 17, 46, 47, 48, 49] (by decide +kernel) (by decide +kernel)
set_option maxRecDepth 20000 in
theorem gX8_begin_X6_init_n31 : GoodIn wsX8_begin (wsX6_init) := ggX8_begin_X6_init
set_option maxRecDepth 20000 in
theorem ggX8_begin_X8_nextToken : GoodIn wsX8_begin wsX8_nextToken := goodIn_r _ [22, 7, 23, 24, 25, 26, 27, 28, 21, 29, 30, 31, 32, 33, 34, 35, 36, 37, 38, 39, 40, 41, 42, 43, 44, 45, 50, 51, 52, 53, 54, 55, 56, 57, 58, 59] (by decide +kernel) (by decide +kernel)
set_option maxRecDepth 20000 in
theorem gX8_begin_X8_nextToken : GoodIn wsX8_begin (wsV RX8 48 RX8 yX8_nextToken wsX8_nextToken) := goodIn_app (goodIn_of _ (by decide +kernel)) ggX8_begin_X8_nextToken
theorem dX8_begin_0 : decode cX8_begin 0 = .ok (.aload_n 0, 1) := by decide +kernel
theorem dX8_begin_1 : decode cX8_begin 1 = .ok (.new 29, 3) := by decide +kernel
theorem dX8_begin_4 : decode cX8_begin 4 = .ok (.dup, 1) := by decide +kernel
theorem dX8_begin_5 : decode cX8_begin 5 = .ok (.invokespecial 31, 3) := by decide +kernel
theorem dX8_begin_8 : decode cX8_begin 8 = .ok (.putfield 32, 3) := by decide +kernel
theorem dX8_begin_11 : decode cX8_begin 11 = .ok (.aload_n 0, 1) := by decide +kernel
theorem dX8_begin_12 : decode cX8_begin 12 = .ok (.iconst 0, 1) := by decide +kernel
theorem dX8_begin_13 : decode cX8_begin 13 = .ok (.putfield 23, 3) := by decide +kernel
theorem dX8_begin_16 : decode cX8_begin 16 = .ok (.aload_n 0, 1) := by decide +kernel
theorem dX8_begin_17 : decode cX8_begin 17 = .ok (.iconst (-1), 1) := by decide +kernel
theorem dX8_begin_18 : decode cX8_begin 18 = .ok (.putfield 26, 3) := by decide +kernel
theorem dX8_begin_21 : decode cX8_begin 21 = .ok (.aload_n 0, 1) := by decide +kernel
theorem dX8_begin_22 : decode cX8_begin 22 = .ok (.iconst 0, 1) := by decide +kernel
theorem dX8_begin_23 : decode cX8_begin 23 = .ok (.putfield 42, 3) := by decide +kernel
theorem dX8_begin_26 : decode cX8_begin 26 = .ok (.aload_n 0, 1) := by decide +kernel
theorem dX8_begin_27 : decode cX8_begin 27 = .ok (.invokevirtual 48, 3) := by decide +kernel
theorem dX8_begin_30 : decode cX8_begin 30 = .ok (.return_, 1) := by decide +kernel
theorem dX8_fail_0 : decode cX8_fail 0 = .ok (.aload_n 0, 1) := by decide +kernel
theorem dX8_fail_1 : decode cX8_fail 1 = .ok (.iload_n 1, 1) := by decide +kernel
theorem dX8_fail_2 : decode cX8_fail 2 = .ok (.putfield 23, 3) := by decide +kernel
theorem dX8_fail_5 : decode cX8_fail 5 = .ok (.aload_n 0, 1) := by decide +kernel
theorem dX8_fail_6 : decode cX8_fail 6 = .ok (.aload_n 0, 1) := by decide +kernel
theorem dX8_fail_7 : decode cX8_fail 7 = .ok (.getfield 39, 3) := by decide +kernel
theorem dX8_fail_10 : decode cX8_fail 10 = .ok (.putfield 26, 3) := by decide +kernel
theorem dX8_fail_13 : decode cX8_fail 13 = .ok (.iconst 0, 1) := by decide +kernel
theorem dX8_fail_14 : decode cX8_fail 14 = .ok (.ireturn, 1) := by decide +kernel
set_option maxRecDepth 20000 in
theorem ggX8_readVariables_X8_isWord : GoodIn wsX8_readVariables wsX8_isWord := goodIn_r _ [5, 6, 7, 8, 9, 10, 11, 12, 13, 14, 15, 16, 17, 18, 19, 20, 21, 22, 23, 4, 24, 25, 26, 27, 28, 29, 30, 31, 32, 33, 34, 35, 36, 37, 38, 39, 40, 41, 42, 43, 44, 45, 46, 47, 48, 49, 50, 51, 52, 53, 54, 55, 56, 57, 58, 59, 60, 61, 62, 63, 123, 124, 125, 126, 127, 128, 129, 130, 131, 132] (by decide +kernel) (by decide +kernel)
set_option maxRecDepth 20000 in
theorem gX8_readVariables_X8_isWord : GoodIn wsX8_readVariables (wsV RX8 53 RX8 yX8_isWord wsX8_isWord) := goodIn_app (goodIn_of _ (by decide +kernel)) ggX8_readVariables_X8_isWord
set_option maxRecDepth 20000 in
theorem ggX8_readVariables_X8_fail : GoodIn wsX8_readVariables wsX8_fail := goodIn_r _ [67, 68, 8, 69, 123, 124, 125, 126, 127, 128, 129, 130, 131, 132] (by decide +kernel) (by decide +kernel)
set_option maxRecDepth 20000 in
theorem gX8_readVariables_X8_fail : GoodIn wsX8_readVariables (wsV RX8 57 RX8 yX8_fail wsX8_fail) := goodIn_app (goodIn_of _ (by decide +kernel)) ggX8_readVariables_X8_fail
set_option maxRecDepth 20000 in
theorem ggX8_readVariables_X8_readVariable : GoodIn wsX8_readVariables wsX8_readVariable := goodIn_r _ [73, 74, 75, 76, 77, 78, 79, 80, 4, 81, 7, 8, 25, 6, 21, 22, 23, 24, 26, 82, 83, 84, 85, 86, 87, 88, 89, 90, 91, 92, 93, 94, 95, 96, 97, 98, 99, 1, 2, 3, 5, 9, 10, 11, 12, 13, 14, 15, 16, 17, 18, 19, 20, 27, 28, 29, 30, 31, 32, 33, 34, 35, 36, 37, 38, 39, 40, 41, 42, 43, 44, 45, 46, 47, 48, 49, 50, 51, 52, 53, 54, 55, 56, 57, 58, 59, 60, 61, 62, 63, 64, 65, 66, 67, 68, 69, 100, 101, 102, 103, 104, 105, 106, 107, 108, 109, 110, 111, 112, 113, 114, 115, 116, 117, 118, 119, 120, 121, 122, 123, 124, 125, 126, 127, 128, 129, 130, 131, 132, 133, 134, 135, 136] (by decide +kernel) (by decide +kernel)
set_option maxRecDepth 20000 in
theorem gX8_readVariables_X8_readVariable : GoodIn wsX8_readVariables (wsV RX8 61 RX8 yX8_readVariable wsX8_readVariable) := goodIn_app (goodIn_of _ (by decide +kernel)) ggX8_readVariables_X8_readVariable
theorem dX8_readVariables_0 : decode cX8_readVariables 0 = .ok (.iconst 0, 1) := by decide +kernel
theorem dX8_readVariables_1 : decode cX8_readVariables 1 = .ok (.istore_n 1, 1) := by decide +kernel
theorem dX8_readVariables_2 : decode cX8_readVariables 2 = .ok (.iload_n 1, 1) := by decide +kernel
theorem dX8_readVariables_3 : decode cX8_readVariables 3 = .ok (.bipush 7, 2) := by decide +kernel
theorem dX8_readVariables_5 : decode cX8_readVariables 5 = .ok (.if_icmp .gt 39, 3) := by decide +kernel
theorem dX8_readVariables_8 : decode cX8_readVariables 8 = .ok (.aload_n 0, 1) := by decide +kernel
theorem dX8_readVariables_9 : decode cX8_readVariables 9 = .ok (.ldc 51, 2) := by decide +kernel
theorem dX8_readVariables_11 : decode cX8_readVariables 11 = .ok (.invokevirtual 53, 3) := by decide +kernel
theorem dX8_readVariables_14 : decode cX8_readVariables 14 = .ok (.ifCond .eq 30, 3) := by decide +kernel
theorem dX8_readVariables_17 : decode cX8_readVariables 17 = .ok (.iload_n 1, 1) := by decide +kernel
theorem dX8_readVariables_18 : decode cX8_readVariables 18 = .ok (.bipush 7, 2) := by decide +kernel
theorem dX8_readVariables_20 : decode cX8_readVariables 20 = .ok (.if_icmp .ne 9, 3) := by decide +kernel
theorem dX8_readVariables_23 : decode cX8_readVariables 23 = .ok (.aload_n 0, 1) := by decide +kernel
theorem dX8_readVariables_24 : decode cX8_readVariables 24 = .ok (.iconst 4, 1) := by decide +kernel
theorem dX8_readVariables_25 : decode cX8_readVariables 25 = .ok (.invokevirtual 57, 3) := by decide +kernel
theorem dX8_readVariables_28 : decode cX8_readVariables 28 = .ok (.ireturn, 1) := by decide +kernel
theorem dX8_readVariables_29 : decode cX8_readVariables 29 = .ok (.aload_n 0, 1) := by decide +kernel
theorem dX8_readVariables_30 : decode cX8_readVariables 30 = .ok (.invokevirtual 61, 3) := by decide +kernel
theorem dX8_readVariables_33 : decode cX8_readVariables 33 = .ok (.ifCond .ne 5, 3) := by decide +kernel
theorem dX8_readVariables_36 : decode cX8_readVariables 36 = .ok (.iconst 0, 1) := by decide +kernel
theorem dX8_readVariables_37 : decode cX8_readVariables 37 = .ok (.ireturn, 1) := by decide +kernel
theorem dX8_readVariables_38 : decode cX8_readVariables 38 = .ok (.iinc 1 1, 3) := by decide +kernel
theorem dX8_readVariables_41 : decode cX8_readVariables 41 = .ok (.goto (-39), 3) := by decide +kernel
theorem dX8_readVariables_44 : decode cX8_readVariables 44 = .ok (.iconst 1, 1) := by decide +kernel
theorem dX8_readVariables_45 : decode cX8_readVariables 45 = .ok (.ireturn, 1) := by decide +kernel
set_option maxRecDepth 20000 in
theorem ggX8_readVariable_X8_nextToken : GoodIn wsX8_readVariable wsX8_nextToken := goodIn_r _ [9, 10, 11, 12, 13, 14, 15, 16, 8, 17, 18, 19, 20, 21, 22, 23, 24, 25, 1, 26, 27, 28, 29, 30, 31, 32, 119, 120, 121, 122, 123, 124, 125, 126, 127, 128] (by decide +kernel) (by decide +kernel)
set_option maxRecDepth 20000 in
theorem gX8_readVariable_X8_nextToken : GoodIn wsX8_readVariable (wsV RX8 48 RX8 yX8_nextToken wsX8_nextToken) := goodIn_app (goodIn_of _ (by decide +kernel)) ggX8_readVariable_X8_nextToken
set_option maxRecDepth 20000 in
theorem ggX8_readVariable_X8_isName : GoodIn wsX8_readVariable wsX8_isName := goodIn_r _ [36, 13, 1, 37, 38, 39, 8, 40, 10, 11, 41, 42, 43, 44, 45, 46, 47, 48, 49, 50, 51, 52, 14, 15, 16, 17, 12, 18, 53, 54, 55, 56, 57, 58, 59, 60, 61, 62, 63, 64, 65, 66, 67, 68, 69, 70, 71, 72, 73, 74, 75, 76, 77, 78, 79, 80, 81, 82, 83, 84, 85, 86, 87, 88, 89, 119, 120, 121, 122, 123, 124, 125, 126, 127, 128] (by decide +kernel) (by decide +kernel)
set_option maxRecDepth 20000 in
theorem gX8_readVariable_X8_isName : GoodIn wsX8_readVariable (wsV RX8 65 RX8 yX8_isName wsX8_isName) := goodIn_app (goodIn_of _ (by decide +kernel)) ggX8_readVariable_X8_isName
set_option maxRecDepth 20000 in
theorem ggX8_readVariable_X8_fail : GoodIn wsX8_readVariable wsX8_fail := goodIn_r _ [93, 94, 11, 95, 119, 120, 121, 122, 123, 124, 125, 126, 127, 128] (by decide +kernel) (by decide +kernel)
set_option maxRecDepth 20000 in
theorem gX8_readVariable_X8_fail : GoodIn wsX8_readVariable (wsV RX8 57 RX8 yX8_fail wsX8_fail) := goodIn_app (goodIn_of _ (by decide +kernel)) ggX8_readVariable_X8_fail
set_option maxRecDepth 20000 in
theorem ggX8_readVariable_X8_variableOf : GoodIn wsX8_readVariable wsX8_variableOf := goodIn_r _ [99, 2, 3, 4, 119, 120, 121, 122, 123, 124, 125, 126, 127, 128, 129, 130, 131, 132] (by decide +kernel) (by decide +kernel)
set_option maxRecDepth 20000 in
theorem gX8_readVariable_X8_variableOf : GoodIn wsX8_readVariable (wsV RX8 68 RX8 yX8_variableOf wsX8_variableOf) := goodIn_app (goodIn_of _ (by decide +kernel)) ggX8_readVariable_X8_variableOf
set_option maxRecDepth 20000 in
theorem ggX8_readVariable_X8_readNumber : GoodIn wsX8_readVariable wsX8_readNumber := goodIn_r _ [103, 13, 1, 90, 91, 92, 8, 93, 94, 11, 95, 5, 6, 7, 9, 10, 12, 14, 15, 16, 17, 18, 19, 20, 21, 22, 23, 24, 25, 26, 27, 28, 29, 30, 31, 32, 119, 120, 121, 122, 123, 124, 125, 126, 127, 128] (by decide +kernel) (by decide +kernel)
set_option maxRecDepth 20000 in
theorem gX8_readVariable_X8_readNumber : GoodIn wsX8_readVariable (wsV RX8 72 RX8 yX8_readNumber wsX8_readNumber) := goodIn_app (goodIn_of _ (by decide +kernel)) ggX8_readVariable_X8_readNumber
set_option maxRecDepth 20000 in
theorem ggX8_readVariable_X8_readSemicolon : GoodIn wsX8_readVariable wsX8_readSemicolon := goodIn_r _ [107, 13, 90, 91, 92, 8, 93, 94, 11, 95, 5, 6, 7, 9, 10, 12, 14, 15, 16, 17, 18, 19, 20, 21, 22, 23, 24, 25, 1, 26, 27, 28, 29, 30, 31, 32, 119, 120, 121, 122, 123, 124, 125, 126, 127, 128] (by decide +kernel) (by decide +kernel)
set_option maxRecDepth 20000 in
theorem gX8_readVariable_X8_readSemicolon : GoodIn wsX8_readVariable (wsV RX8 76 RX8 yX8_readSemicolon wsX8_readSemicolon) := goodIn_app (goodIn_of _ (by decide +kernel)) ggX8_readVariable_X8_readSemicolon
set_option maxRecDepth 20000 in
theorem ggX8_readVariable_X6_addVariable : GoodIn wsX8_readVariable wsX6_addVariable := goodIn_r _ [112, 113, 114, 115, 116, 117, 118, 129, 130, 131, 132] (by decide +kernel) (by decide +kernel)
set_option maxRecDepth 20000 in
theorem gX8_readVariable_X6_addVariable : GoodIn wsX8_readVariable (wsV RX8 82 RX6 yX6_addVariable wsX6_addVariable) := goodIn_app (goodIn_of _ (by decide +kernel)) ggX8_readVariable_X6_addVariable
theorem dX8_readVariable_0 : decode cX8_readVariable 0 = .ok (.aload_n 0, 1) := by decide +kernel
theorem dX8_readVariable_1 : decode cX8_readVariable 1 = .ok (.invokevirtual 48, 3) := by decide +kernel
theorem dX8_readVariable_4 : decode cX8_readVariable 4 = .ok (.aload_n 0, 1) := by decide +kernel
theorem dX8_readVariable_5 : decode cX8_readVariable 5 = .ok (.invokevirtual 65, 3) := by decide +kernel
theorem dX8_readVariable_8 : decode cX8_readVariable 8 = .ok (.ifCond .ne 9, 3) := by decide +kernel
theorem dX8_readVariable_11 : decode cX8_readVariable 11 = .ok (.aload_n 0, 1) := by decide +kernel
theorem dX8_readVariable_12 : decode cX8_readVariable 12 = .ok (.iconst 1, 1) := by decide +kernel
theorem dX8_readVariable_13 : decode cX8_readVariable 13 = .ok (.invokevirtual 57, 3) := by decide +kernel
theorem dX8_readVariable_16 : decode cX8_readVariable 16 = .ok (.ireturn, 1) := by decide +kernel
theorem dX8_readVariable_17 : decode cX8_readVariable 17 = .ok (.aload_n 0, 1) := by decide +kernel
theorem dX8_readVariable_18 : decode cX8_readVariable 18 = .ok (.getfield 45, 3) := by decide +kernel
theorem dX8_readVariable_21 : decode cX8_readVariable 21 = .ok (.istore_n 1, 1) := by decide +kernel
theorem dX8_readVariable_22 : decode cX8_readVariable 22 = .ok (.aload_n 0, 1) := by decide +kernel
theorem dX8_readVariable_23 : decode cX8_readVariable 23 = .ok (.iload_n 1, 1) := by decide +kernel
theorem dX8_readVariable_24 : decode cX8_readVariable 24 = .ok (.invokevirtual 68, 3) := by decide +kernel
theorem dX8_readVariable_27 : decode cX8_readVariable 27 = .ok (.iconst (-1), 1) := by decide +kernel
theorem dX8_readVariable_28 : decode cX8_readVariable 28 = .ok (.if_icmp .eq 9, 3) := by decide +kernel
theorem dX8_readVariable_31 : decode cX8_readVariable 31 = .ok (.aload_n 0, 1) := by decide +kernel
theorem dX8_readVariable_32 : decode cX8_readVariable 32 = .ok (.iconst 3, 1) := by decide +kernel
theorem dX8_readVariable_33 : decode cX8_readVariable 33 = .ok (.invokevirtual 57, 3) := by decide +kernel
theorem dX8_readVariable_36 : decode cX8_readVariable 36 = .ok (.ireturn, 1) := by decide +kernel
theorem dX8_readVariable_37 : decode cX8_readVariable 37 = .ok (.aload_n 0, 1) := by decide +kernel
theorem dX8_readVariable_38 : decode cX8_readVariable 38 = .ok (.invokevirtual 48, 3) := by decide +kernel
theorem dX8_readVariable_41 : decode cX8_readVariable 41 = .ok (.aload_n 0, 1) := by decide +kernel
theorem dX8_readVariable_42 : decode cX8_readVariable 42 = .ok (.iconst 0, 1) := by decide +kernel
theorem dX8_readVariable_43 : decode cX8_readVariable 43 = .ok (.iconst 4, 1) := by decide +kernel
theorem dX8_readVariable_44 : decode cX8_readVariable 44 = .ok (.invokevirtual 72, 3) := by decide +kernel
theorem dX8_readVariable_47 : decode cX8_readVariable 47 = .ok (.istore_n 2, 1) := by decide +kernel
theorem dX8_readVariable_48 : decode cX8_readVariable 48 = .ok (.iload_n 2, 1) := by decide +kernel
theorem dX8_readVariable_49 : decode cX8_readVariable 49 = .ok (.iconst (-1), 1) := by decide +kernel
theorem dX8_readVariable_50 : decode cX8_readVariable 50 = .ok (.if_icmp .ne 7, 3) := by decide +kernel
theorem dX8_readVariable_53 : decode cX8_readVariable 53 = .ok (.iconst (-1), 1) := by decide +kernel
theorem dX8_readVariable_54 : decode cX8_readVariable 54 = .ok (.goto 9, 3) := by decide +kernel
theorem dX8_readVariable_57 : decode cX8_readVariable 57 = .ok (.aload_n 0, 1) := by decide +kernel
theorem dX8_readVariable_58 : decode cX8_readVariable 58 = .ok (.iload_n 2, 1) := by decide +kernel
theorem dX8_readVariable_59 : decode cX8_readVariable 59 = .ok (.iconst 4, 1) := by decide +kernel
theorem dX8_readVariable_60 : decode cX8_readVariable 60 = .ok (.invokevirtual 72, 3) := by decide +kernel
theorem dX8_readVariable_63 : decode cX8_readVariable 63 = .ok (.istore_n 3, 1) := by decide +kernel
theorem dX8_readVariable_64 : decode cX8_readVariable 64 = .ok (.iload_n 3, 1) := by decide +kernel
theorem dX8_readVariable_65 : decode cX8_readVariable 65 = .ok (.iconst (-1), 1) := by decide +kernel
theorem dX8_readVariable_66 : decode cX8_readVariable 66 = .ok (.if_icmp .eq 10, 3) := by decide +kernel
theorem dX8_readVariable_69 : decode cX8_readVariable 69 = .ok (.aload_n 0, 1) := by decide +kernel
theorem dX8_readVariable_70 : decode cX8_readVariable 70 = .ok (.invokevirtual 76, 3) := by decide +kernel
theorem dX8_readVariable_73 : decode cX8_readVariable 73 = .ok (.ifCond .ne 5, 3) := by decide +kernel
theorem dX8_readVariable_76 : decode cX8_readVariable 76 = .ok (.iconst 0, 1) := by decide +kernel
theorem dX8_readVariable_77 : decode cX8_readVariable 77 = .ok (.ireturn, 1) := by decide +kernel
theorem dX8_readVariable_78 : decode cX8_readVariable 78 = .ok (.aload_n 0, 1) := by decide +kernel
theorem dX8_readVariable_79 : decode cX8_readVariable 79 = .ok (.getfield 32, 3) := by decide +kernel
theorem dX8_readVariable_82 : decode cX8_readVariable 82 = .ok (.getfield 79, 3) := by decide +kernel
theorem dX8_readVariable_85 : decode cX8_readVariable 85 = .ok (.istore 4, 2) := by decide +kernel
theorem dX8_readVariable_87 : decode cX8_readVariable 87 = .ok (.iload 4, 2) := by decide +kernel
theorem dX8_readVariable_89 : decode cX8_readVariable 89 = .ok (.ifCond .lt 30, 3) := by decide +kernel
theorem dX8_readVariable_92 : decode cX8_readVariable 92 = .ok (.iload 4, 2) := by decide +kernel
theorem dX8_readVariable_94 : decode cX8_readVariable 94 = .ok (.aload_n 0, 1) := by decide +kernel
theorem dX8_readVariable_95 : decode cX8_readVariable 95 = .ok (.getfield 15, 3) := by decide +kernel
theorem dX8_readVariable_98 : decode cX8_readVariable 98 = .ok (.arraylength, 1) := by decide +kernel
theorem dX8_readVariable_99 : decode cX8_readVariable 99 = .ok (.if_icmp .ge 20, 3) := by decide +kernel
theorem dX8_readVariable_102 : decode cX8_readVariable 102 = .ok (.aload_n 0, 1) := by decide +kernel
theorem dX8_readVariable_103 : decode cX8_readVariable 103 = .ok (.getfield 15, 3) := by decide +kernel
theorem dX8_readVariable_106 : decode cX8_readVariable 106 = .ok (.iload 4, 2) := by decide +kernel
theorem dX8_readVariable_108 : decode cX8_readVariable 108 = .ok (.iload_n 1, 1) := by decide +kernel
theorem dX8_readVariable_109 : decode cX8_readVariable 109 = .ok (.iastore, 1) := by decide +kernel
theorem dX8_readVariable_110 : decode cX8_readVariable 110 = .ok (.aload_n 0, 1) := by decide +kernel
theorem dX8_readVariable_111 : decode cX8_readVariable 111 = .ok (.getfield 32, 3) := by decide +kernel
theorem dX8_readVariable_114 : decode cX8_readVariable 114 = .ok (.iload_n 2, 1) := by decide +kernel
theorem dX8_readVariable_115 : decode cX8_readVariable 115 = .ok (.iload_n 3, 1) := by decide +kernel
theorem dX8_readVariable_116 : decode cX8_readVariable 116 = .ok (.invokevirtual 82, 3) := by decide +kernel
theorem dX8_readVariable_119 : decode cX8_readVariable 119 = .ok (.iconst 1, 1) := by decide +kernel
theorem dX8_readVariable_120 : decode cX8_readVariable 120 = .ok (.ireturn, 1) := by decide +kernel
set_option maxRecDepth 20000 in
theorem ggX8_readConstraints_X8_isWord : GoodIn wsX8_readConstraints wsX8_isWord := goodIn_r _ [7, 1, 8, 9, 10, 11, 12, 13, 14, 15, 16, 17, 18, 19, 20, 21, 22, 23, 24, 6, 25, 26, 27, 28, 29, 30, 31, 32, 33, 34, 35, 36, 37, 38, 39, 40, 41, 42, 43, 44, 45, 46, 47, 48, 49, 50, 51, 52, 53, 54, 55, 56, 57, 58, 59, 60, 61, 62, 63, 64, 205, 206, 207, 208, 209, 210, 211, 212, 213, 214] (by decide +kernel) (by decide +kernel)
set_option maxRecDepth 20000 in
theorem gX8_readConstraints_X8_isWord : GoodIn wsX8_readConstraints (wsV RX8 53 RX8 yX8_isWord wsX8_isWord) := goodIn_app (goodIn_of _ (by decide +kernel)) ggX8_readConstraints_X8_isWord
set_option maxRecDepth 20000 in
theorem ggX8_readConstraints_X8_fail : GoodIn wsX8_readConstraints wsX8_fail := goodIn_r _ [68, 69, 9, 70, 205, 206, 207, 208, 209, 210, 211, 212, 213, 214] (by decide +kernel) (by decide +kernel)
set_option maxRecDepth 20000 in
theorem gX8_readConstraints_X8_fail : GoodIn wsX8_readConstraints (wsV RX8 57 RX8 yX8_fail wsX8_fail) := goodIn_app (goodIn_of _ (by decide +kernel)) ggX8_readConstraints_X8_fail
set_option maxRecDepth 20000 in
theorem ggX8_readConstraints_X8_nextToken : GoodIn wsX8_readConstraints wsX8_nextToken := goodIn_r _ [74, 8, 9, 26, 1, 22, 23, 24, 6, 25, 27, 75, 76, 77, 78, 79, 80, 81, 82, 83, 84, 85, 86, 87, 88, 89, 205, 206, 207, 208, 209, 210, 211, 212, 213, 214] (by decide +kernel) (by decide +kernel)
set_option maxRecDepth 20000 in
theorem gX8_readConstraints_X8_nextToken : GoodIn wsX8_readConstraints (wsV RX8 48 RX8 yX8_nextToken wsX8_nextToken) := goodIn_app (goodIn_of _ (by decide +kernel)) ggX8_readConstraints_X8_nextToken
set_option maxRecDepth 20000 in
theorem ggX8_readConstraints_X8_readCounts : GoodIn wsX8_readConstraints wsX8_readCounts := goodIn_r _ [93, 94, 95, 96, 97, 98, 99, 100, 101, 102, 103, 104, 105, 106, 107, 108, 109, 110, 111, 112, 113, 3, 4, 5, 6, 7, 1, 8, 9, 10, 11, 12, 13, 14, 15, 16, 17, 18, 19, 20, 21, 22, 23, 24, 25, 26, 27, 28, 29, 30, 31, 32, 33, 34, 35, 36, 37, 38, 39, 40, 41, 42, 43, 44, 45, 46, 47, 48, 49, 50, 51, 52, 53, 54, 55, 56, 57, 58, 59, 60, 61, 62, 63, 64, 114, 115, 116, 117, 82, 118, 119, 120, 121, 65, 66, 67, 68, 69, 70, 122, 123, 124, 125, 2, 126, 127, 128, 129, 130, 131, 132, 133, 134, 135, 136, 137, 138, 139, 140, 141, 142, 143, 144, 145, 146, 147, 148, 71, 72, 73, 74, 75, 76, 77, 78, 79, 80, 81, 83, 84, 85, 86, 87, 88, 89, 149, 150, 151, 152, 153, 154, 155, 156, 157, 158, 159, 160, 161, 162, 163, 164, 165, 166, 167, 215, 216, 217, 218, 219, 220, 221, 222, 223, 224, 225, 226, 227, 228, 229, 230, 231, 232, 233, 234, 235, 236, 237, 238, 205, 206, 207, 208, 209, 210, 211, 212, 213, 214, 239, 240, 241, 242] (by decide +kernel) (by decide +kernel)
set_option maxRecDepth 20000 in
theorem gX8_readConstraints_X8_readCounts : GoodIn wsX8_readConstraints (wsV RX8 94 RX8 yX8_readCounts wsX8_readCounts) := goodIn_app (goodIn_of _ (by decide +kernel)) ggX8_readConstraints_X8_readCounts
set_option maxRecDepth 20000 in
theorem ggX8_readConstraints_X8_readWindow : GoodIn wsX8_readConstraints wsX8_readWindow := goodIn_r _ [171, 172, 173, 174, 1, 160, 161, 162, 6, 163, 82, 65, 66, 67, 68, 69, 9, 70, 71, 72, 73, 74, 8, 26, 22, 23, 24, 25, 27, 75, 76, 77, 78, 79, 80, 81, 83, 84, 85, 86, 87, 88, 89, 175, 176, 177, 178, 179, 180, 181, 182, 104, 105, 106, 107, 108, 109, 110, 111, 112, 113, 114, 115, 116, 117, 118, 119, 120, 121, 3, 4, 5, 7, 10, 11, 12, 13, 14, 15, 16, 17, 18, 19, 20, 21, 28, 29, 30, 31, 32, 33, 34, 35, 36, 37, 38, 39, 40, 41, 42, 43, 44, 45, 46, 47, 48, 49, 50, 51, 52, 53, 54, 55, 56, 57, 58, 59, 60, 61, 62, 63, 64, 122, 123, 124, 125, 2, 126, 127, 128, 129, 130, 131, 132, 133, 134, 135, 136, 137, 138, 139, 140, 141, 142, 143, 144, 145, 146, 147, 148, 231, 232, 233, 234, 235, 236, 237, 238, 205, 206, 207, 208, 209, 210, 211, 212, 213, 214, 222, 223, 224, 225, 215, 216, 217, 218, 219, 220, 221, 226, 227, 228, 229, 230, 239, 240, 241, 242] (by decide +kernel) (by decide +kernel)
set_option maxRecDepth 20000 in
theorem gX8_readConstraints_X8_readWindow : GoodIn wsX8_readConstraints (wsV RX8 98 RX8 yX8_readWindow wsX8_readWindow) := goodIn_app (goodIn_of _ (by decide +kernel)) ggX8_readConstraints_X8_readWindow
set_option maxRecDepth 20000 in
theorem ggX8_readConstraints_X8_readComparison : GoodIn wsX8_readConstraints wsX8_readComparison := goodIn_r _ [186, 187, 188, 189, 190, 191, 192, 193, 104, 105, 106, 107, 108, 109, 110, 111, 112, 113, 114, 115, 116, 6, 117, 82, 118, 119, 120, 121, 1, 3, 4, 5, 7, 8, 9, 10, 11, 12, 13, 14, 15, 16, 17, 18, 19, 20, 21, 22, 23, 24, 25, 26, 27, 28, 29, 30, 31, 32, 33, 34, 35, 36, 37, 38, 39, 40, 41, 42, 43, 44, 45, 46, 47, 48, 49, 50, 51, 52, 53, 54, 55, 56, 57, 58, 59, 60, 61, 62, 63, 64, 65, 66, 67, 68, 69, 70, 122, 123, 124, 125, 2, 126, 127, 128, 129, 130, 131, 132, 133, 134, 135, 136, 137, 138, 139, 140, 141, 142, 143, 144, 145, 146, 147, 148, 71, 72, 73, 74, 75, 76, 77, 78, 79, 80, 81, 83, 84, 85, 86, 87, 88, 89, 222, 223, 224, 225, 215, 216, 217, 218, 219, 220, 221, 226, 227, 228, 229, 230, 231, 232, 233, 234, 235, 236, 237, 238, 205, 206, 207, 208, 209, 210, 211, 212, 213, 214, 239, 240, 241, 242] (by decide +kernel) (by decide +kernel)
set_option maxRecDepth 20000 in
theorem gX8_readConstraints_X8_readComparison : GoodIn wsX8_readConstraints (wsV RX8 101 RX8 yX8_readComparison wsX8_readComparison) := goodIn_app (goodIn_of _ (by decide +kernel)) ggX8_readConstraints_X8_readComparison
set_option maxRecDepth 20000 in
theorem ggX8_readConstraints_X8_readSemicolon : GoodIn wsX8_readConstraints wsX8_readSemicolon := goodIn_r _ [197, 1, 65, 66, 67, 6, 68, 69, 9, 70, 71, 72, 73, 74, 8, 26, 22, 23, 24, 25, 27, 75, 76, 77, 78, 79, 80, 81, 82, 83, 84, 85, 86, 87, 88, 89, 205, 206, 207, 208, 209, 210, 211, 212, 213, 214] (by decide +kernel) (by decide +kernel)
set_option maxRecDepth 20000 in
theorem gX8_readConstraints_X8_readSemicolon : GoodIn wsX8_readConstraints (wsV RX8 76 RX8 yX8_readSemicolon wsX8_readSemicolon) := goodIn_app (goodIn_of _ (by decide +kernel)) ggX8_readConstraints_X8_readSemicolon
set_option maxRecDepth 20000 in
theorem ggX8_readConstraints_X6_addConstraint : GoodIn wsX8_readConstraints wsX6_addConstraint := goodIn_r _ [202, 203, 204, 239, 240, 241, 242] (by decide +kernel) (by decide +kernel)
set_option maxRecDepth 20000 in
theorem gX8_readConstraints_X6_addConstraint : GoodIn wsX8_readConstraints (wsV RX8 105 RX6 yX6_addConstraint wsX6_addConstraint) := goodIn_app (goodIn_of _ (by decide +kernel)) ggX8_readConstraints_X6_addConstraint
theorem dX8_readConstraints_0 : decode cX8_readConstraints 0 = .ok (.iconst 0, 1) := by decide +kernel
theorem dX8_readConstraints_1 : decode cX8_readConstraints 1 = .ok (.istore_n 1, 1) := by decide +kernel
theorem dX8_readConstraints_2 : decode cX8_readConstraints 2 = .ok (.iload_n 1, 1) := by decide +kernel
theorem dX8_readConstraints_3 : decode cX8_readConstraints 3 = .ok (.bipush 8, 2) := by decide +kernel
theorem dX8_readConstraints_5 : decode cX8_readConstraints 5 = .ok (.if_icmp .gt 135, 3) := by decide +kernel
theorem dX8_readConstraints_8 : decode cX8_readConstraints 8 = .ok (.aload_n 0, 1) := by decide +kernel
theorem dX8_readConstraints_9 : decode cX8_readConstraints 9 = .ok (.getfield 36, 3) := by decide +kernel
theorem dX8_readConstraints_12 : decode cX8_readConstraints 12 = .ok (.ifCond .eq 128, 3) := by decide +kernel
theorem dX8_readConstraints_15 : decode cX8_readConstraints 15 = .ok (.aload_n 0, 1) := by decide +kernel
theorem dX8_readConstraints_16 : decode cX8_readConstraints 16 = .ok (.ldc 86, 2) := by decide +kernel
theorem dX8_readConstraints_18 : decode cX8_readConstraints 18 = .ok (.invokevirtual 53, 3) := by decide +kernel
theorem dX8_readConstraints_21 : decode cX8_readConstraints 21 = .ok (.istore_n 2, 1) := by decide +kernel
theorem dX8_readConstraints_22 : decode cX8_readConstraints 22 = .ok (.aload_n 0, 1) := by decide +kernel
theorem dX8_readConstraints_23 : decode cX8_readConstraints 23 = .ok (.ldc 88, 2) := by decide +kernel
theorem dX8_readConstraints_25 : decode cX8_readConstraints 25 = .ok (.invokevirtual 53, 3) := by decide +kernel
theorem dX8_readConstraints_28 : decode cX8_readConstraints 28 = .ok (.istore_n 3, 1) := by decide +kernel
theorem dX8_readConstraints_29 : decode cX8_readConstraints 29 = .ok (.aload_n 0, 1) := by decide +kernel
theorem dX8_readConstraints_30 : decode cX8_readConstraints 30 = .ok (.ldc 90, 2) := by decide +kernel
theorem dX8_readConstraints_32 : decode cX8_readConstraints 32 = .ok (.invokevirtual 53, 3) := by decide +kernel
theorem dX8_readConstraints_35 : decode cX8_readConstraints 35 = .ok (.istore 4, 2) := by decide +kernel
theorem dX8_readConstraints_37 : decode cX8_readConstraints 37 = .ok (.iload_n 2, 1) := by decide +kernel
theorem dX8_readConstraints_38 : decode cX8_readConstraints 38 = .ok (.ifCond .ne 27, 3) := by decide +kernel
theorem dX8_readConstraints_41 : decode cX8_readConstraints 41 = .ok (.iload_n 3, 1) := by decide +kernel
theorem dX8_readConstraints_42 : decode cX8_readConstraints 42 = .ok (.ifCond .ne 23, 3) := by decide +kernel
theorem dX8_readConstraints_45 : decode cX8_readConstraints 45 = .ok (.iload 4, 2) := by decide +kernel
theorem dX8_readConstraints_47 : decode cX8_readConstraints 47 = .ok (.ifCond .ne 18, 3) := by decide +kernel
theorem dX8_readConstraints_50 : decode cX8_readConstraints 50 = .ok (.aload_n 0, 1) := by decide +kernel
theorem dX8_readConstraints_51 : decode cX8_readConstraints 51 = .ok (.ldc 92, 2) := by decide +kernel
theorem dX8_readConstraints_53 : decode cX8_readConstraints 53 = .ok (.invokevirtual 53, 3) := by decide +kernel
theorem dX8_readConstraints_56 : decode cX8_readConstraints 56 = .ok (.ifCond .ne 9, 3) := by decide +kernel
theorem dX8_readConstraints_59 : decode cX8_readConstraints 59 = .ok (.aload_n 0, 1) := by decide +kernel
theorem dX8_readConstraints_60 : decode cX8_readConstraints 60 = .ok (.iconst 1, 1) := by decide +kernel
theorem dX8_readConstraints_61 : decode cX8_readConstraints 61 = .ok (.invokevirtual 57, 3) := by decide +kernel
theorem dX8_readConstraints_64 : decode cX8_readConstraints 64 = .ok (.ireturn, 1) := by decide +kernel
theorem dX8_readConstraints_65 : decode cX8_readConstraints 65 = .ok (.iload_n 1, 1) := by decide +kernel
theorem dX8_readConstraints_66 : decode cX8_readConstraints 66 = .ok (.bipush 8, 2) := by decide +kernel
theorem dX8_readConstraints_68 : decode cX8_readConstraints 68 = .ok (.if_icmp .ne 9, 3) := by decide +kernel
theorem dX8_readConstraints_71 : decode cX8_readConstraints 71 = .ok (.aload_n 0, 1) := by decide +kernel
theorem dX8_readConstraints_72 : decode cX8_readConstraints 72 = .ok (.iconst 4, 1) := by decide +kernel
theorem dX8_readConstraints_73 : decode cX8_readConstraints 73 = .ok (.invokevirtual 57, 3) := by decide +kernel
theorem dX8_readConstraints_76 : decode cX8_readConstraints 76 = .ok (.ireturn, 1) := by decide +kernel
theorem dX8_readConstraints_77 : decode cX8_readConstraints 77 = .ok (.aload_n 0, 1) := by decide +kernel
theorem dX8_readConstraints_78 : decode cX8_readConstraints 78 = .ok (.invokevirtual 48, 3) := by decide +kernel
theorem dX8_readConstraints_81 : decode cX8_readConstraints 81 = .ok (.iload_n 2, 1) := by decide +kernel
theorem dX8_readConstraints_82 : decode cX8_readConstraints 82 = .ok (.ifCond .eq 10, 3) := by decide +kernel
theorem dX8_readConstraints_85 : decode cX8_readConstraints 85 = .ok (.aload_n 0, 1) := by decide +kernel
theorem dX8_readConstraints_86 : decode cX8_readConstraints 86 = .ok (.invokevirtual 94, 3) := by decide +kernel
theorem dX8_readConstraints_89 : decode cX8_readConstraints 89 = .ok (.goto 20, 3) := by decide +kernel
theorem dX8_readConstraints_92 : decode cX8_readConstraints 92 = .ok (.iload_n 3, 1) := by decide +kernel
theorem dX8_readConstraints_93 : decode cX8_readConstraints 93 = .ok (.ifCond .eq 10, 3) := by decide +kernel
theorem dX8_readConstraints_96 : decode cX8_readConstraints 96 = .ok (.aload_n 0, 1) := by decide +kernel
theorem dX8_readConstraints_97 : decode cX8_readConstraints 97 = .ok (.invokevirtual 98, 3) := by decide +kernel
theorem dX8_readConstraints_100 : decode cX8_readConstraints 100 = .ok (.goto 9, 3) := by decide +kernel
theorem dX8_readConstraints_103 : decode cX8_readConstraints 103 = .ok (.aload_n 0, 1) := by decide +kernel
theorem dX8_readConstraints_104 : decode cX8_readConstraints 104 = .ok (.iload 4, 2) := by decide +kernel
theorem dX8_readConstraints_106 : decode cX8_readConstraints 106 = .ok (.invokevirtual 101, 3) := by decide +kernel
theorem dX8_readConstraints_109 : decode cX8_readConstraints 109 = .ok (.astore 5, 2) := by decide +kernel
theorem dX8_readConstraints_111 : decode cX8_readConstraints 111 = .ok (.aload 5, 2) := by decide +kernel
theorem dX8_readConstraints_113 : decode cX8_readConstraints 113 = .ok (.ifnull 10, 3) := by decide +kernel
theorem dX8_readConstraints_116 : decode cX8_readConstraints 116 = .ok (.aload_n 0, 1) := by decide +kernel
theorem dX8_readConstraints_117 : decode cX8_readConstraints 117 = .ok (.invokevirtual 76, 3) := by decide +kernel
theorem dX8_readConstraints_120 : decode cX8_readConstraints 120 = .ok (.ifCond .ne 5, 3) := by decide +kernel
theorem dX8_readConstraints_123 : decode cX8_readConstraints 123 = .ok (.iconst 0, 1) := by decide +kernel
theorem dX8_readConstraints_124 : decode cX8_readConstraints 124 = .ok (.ireturn, 1) := by decide +kernel
theorem dX8_readConstraints_125 : decode cX8_readConstraints 125 = .ok (.aload_n 0, 1) := by decide +kernel
theorem dX8_readConstraints_126 : decode cX8_readConstraints 126 = .ok (.getfield 32, 3) := by decide +kernel
theorem dX8_readConstraints_129 : decode cX8_readConstraints 129 = .ok (.aload 5, 2) := by decide +kernel
theorem dX8_readConstraints_131 : decode cX8_readConstraints 131 = .ok (.invokevirtual 105, 3) := by decide +kernel
theorem dX8_readConstraints_134 : decode cX8_readConstraints 134 = .ok (.iinc 1 1, 3) := by decide +kernel
theorem dX8_readConstraints_137 : decode cX8_readConstraints 137 = .ok (.goto (-135), 3) := by decide +kernel
theorem dX8_readConstraints_140 : decode cX8_readConstraints 140 = .ok (.iconst 1, 1) := by decide +kernel
theorem dX8_readConstraints_141 : decode cX8_readConstraints 141 = .ok (.ireturn, 1) := by decide +kernel
set_option maxRecDepth 20000 in
theorem ggX8_readComparison_X0_init : GoodIn wsX8_readComparison wsX0_init := goodIn_r _ [6, 7, 8, 9, 10, 11, 12, 13, 14, 15, 16, 17, 142, 143, 144, 145, 146, 147, 148, 149, 150, 151, 152, 153, 154, 155, 156, 157, 158, 159, 160, 161, 162, 163, 164, 165] (by decide +kernel) (by decide +kernel)
set_option maxRecDepth 20000 in
theorem gX8_readComparison_X0_init : GoodIn wsX8_readComparison (wsX0_init) := ggX8_readComparison_X0_init
set_option maxRecDepth 20000 in
theorem ggX8_readComparison_X8_readMember : GoodIn wsX8_readComparison wsX8_readMember := goodIn_r _ [22, 23, 24, 25, 26, 21, 27, 28, 29, 30, 31, 32, 33, 34, 35, 36, 37, 38, 39, 40, 41, 42, 43, 44, 45, 46, 47, 48, 49, 50, 51, 52, 53, 54, 55, 56, 57, 58, 59, 60, 61, 62, 63, 64, 65, 66, 67, 68, 69, 70, 71, 72, 73, 74, 75, 76, 77, 78, 79, 80, 81, 82, 83, 84, 85, 86, 87, 88, 89, 90, 91, 92, 93, 94, 95, 96, 97, 98, 99, 100, 101, 102, 103, 104, 105, 106, 9, 107, 15, 108, 109, 110, 111, 112, 113, 114, 115, 116, 117, 118, 119, 120, 14, 16, 121, 122, 123, 124, 125, 126, 127, 128, 129, 130, 131, 132, 133, 134, 135, 136, 137, 138, 139, 140, 141, 166, 167, 168, 169, 170, 171, 172, 173, 174, 175, 176, 177, 178, 179, 142, 143, 144, 145, 146, 147, 148, 149, 150, 151, 152, 153, 154, 155, 156, 157, 158, 159, 160, 161, 162, 163, 164, 165] (by decide +kernel) (by decide +kernel)
set_option maxRecDepth 20000 in
theorem gX8_readComparison_X8_readMember : GoodIn wsX8_readComparison (wsV RX8 114 RX8 yX8_readMember wsX8_readMember) := goodIn_app (goodIn_of _ (by decide +kernel)) ggX8_readComparison_X8_readMember
theorem dX8_readComparison_0 : decode cX8_readComparison 0 = .ok (.new 109, 3) := by decide +kernel
theorem dX8_readComparison_3 : decode cX8_readComparison 3 = .ok (.dup, 1) := by decide +kernel
theorem dX8_readComparison_4 : decode cX8_readComparison 4 = .ok (.iload_n 1, 1) := by decide +kernel
theorem dX8_readComparison_5 : decode cX8_readComparison 5 = .ok (.invokespecial 111, 3) := by decide +kernel
theorem dX8_readComparison_8 : decode cX8_readComparison 8 = .ok (.astore_n 2, 1) := by decide +kernel
theorem dX8_readComparison_9 : decode cX8_readComparison 9 = .ok (.aload_n 0, 1) := by decide +kernel
theorem dX8_readComparison_10 : decode cX8_readComparison 10 = .ok (.aload_n 2, 1) := by decide +kernel
theorem dX8_readComparison_11 : decode cX8_readComparison 11 = .ok (.invokevirtual 114, 3) := by decide +kernel
theorem dX8_readComparison_14 : decode cX8_readComparison 14 = .ok (.ifCond .eq 15, 3) := by decide +kernel
theorem dX8_readComparison_17 : decode cX8_readComparison 17 = .ok (.aload_n 0, 1) := by decide +kernel
theorem dX8_readComparison_18 : decode cX8_readComparison 18 = .ok (.aload_n 2, 1) := by decide +kernel
theorem dX8_readComparison_19 : decode cX8_readComparison 19 = .ok (.invokevirtual 114, 3) := by decide +kernel
theorem dX8_readComparison_22 : decode cX8_readComparison 22 = .ok (.ifCond .eq 7, 3) := by decide +kernel
theorem dX8_readComparison_25 : decode cX8_readComparison 25 = .ok (.aload_n 2, 1) := by decide +kernel
theorem dX8_readComparison_26 : decode cX8_readComparison 26 = .ok (.goto 4, 3) := by decide +kernel
theorem dX8_readComparison_29 : decode cX8_readComparison 29 = .ok (.aconst_null, 1) := by decide +kernel
theorem dX8_readComparison_30 : decode cX8_readComparison 30 = .ok (.areturn, 1) := by decide +kernel
set_option maxRecDepth 20000 in
theorem ggX8_readCounts_X2_init : GoodIn wsX8_readCounts wsX2_init := goodIn_r _ [6, 7, 8, 9, 10, 11, 12, 13, 14, 15, 16, 17, 18, 19, 20, 164, 165, 166, 167, 168, 169, 170, 171, 172, 173, 174, 175, 176, 177, 178, 179, 180, 181, 182, 183, 184, 185, 186, 187] (by decide +kernel) (by decide +kernel)
set_option maxRecDepth 20000 in
theorem gX8_readCounts_X2_init : GoodIn wsX8_readCounts (wsX2_init) := ggX8_readCounts_X2_init
set_option maxRecDepth 20000 in
theorem ggX8_readCounts_X8_isWord : GoodIn wsX8_readCounts wsX8_isWord := goodIn_r _ [25, 26, 27, 28, 29, 30, 31, 32, 33, 34, 35, 36, 37, 38, 39, 40, 41, 42, 43, 24, 44, 45, 46, 47, 48, 49, 50, 51, 52, 53, 54, 55, 56, 57, 58, 59, 60, 61, 62, 63, 64, 65, 66, 67, 68, 69, 70, 71, 72, 73, 74, 75, 76, 77, 78, 79, 80, 81, 82, 83, 188, 189, 190, 191, 192, 193, 194, 195, 196, 197] (by decide +kernel) (by decide +kernel)
set_option maxRecDepth 20000 in
theorem gX8_readCounts_X8_isWord : GoodIn wsX8_readCounts (wsV RX8 53 RX8 yX8_isWord wsX8_isWord) := goodIn_app (goodIn_of _ (by decide +kernel)) ggX8_readCounts_X8_isWord
set_option maxRecDepth 20000 in
theorem ggX8_readCounts_X8_readMember : GoodIn wsX8_readCounts wsX8_readMember := goodIn_r _ [87, 88, 89, 90, 91, 24, 92, 26, 21, 22, 23, 25, 27, 28, 29, 30, 31, 32, 33, 34, 35, 36, 37, 38, 39, 40, 41, 42, 43, 44, 45, 46, 47, 48, 49, 50, 51, 52, 53, 54, 55, 56, 57, 58, 59, 60, 61, 62, 63, 64, 65, 66, 67, 68, 69, 70, 71, 72, 73, 74, 75, 76, 77, 78, 79, 80, 81, 82, 83, 93, 94, 95, 96, 97, 98, 99, 100, 101, 102, 103, 104, 105, 106, 107, 108, 109, 12, 110, 18, 111, 112, 113, 114, 115, 116, 117, 118, 119, 120, 121, 122, 123, 17, 19, 124, 125, 126, 127, 128, 129, 130, 131, 132, 133, 134, 135, 136, 137, 138, 139, 140, 141, 142, 143, 144, 188, 189, 190, 191, 192, 193, 194, 195, 196, 197, 198, 199, 200, 201, 171, 172, 173, 174, 164, 165, 166, 167, 168, 169, 170, 175, 176, 177, 178, 179, 180, 181, 182, 183, 184, 185, 186, 187] (by decide +kernel) (by decide +kernel)
set_option maxRecDepth 20000 in
theorem gX8_readCounts_X8_readMember : GoodIn wsX8_readCounts (wsV RX8 114 RX8 yX8_readMember wsX8_readMember) := goodIn_app (goodIn_of _ (by decide +kernel)) ggX8_readCounts_X8_readMember
set_option maxRecDepth 20000 in
theorem ggX8_readCounts_X8_nextToken : GoodIn wsX8_readCounts wsX8_nextToken := goodIn_r _ [130, 27, 28, 45, 26, 41, 42, 43, 24, 44, 46, 131, 132, 133, 134, 135, 136, 137, 88, 138, 139, 140, 141, 142, 143, 144, 188, 189, 190, 191, 192, 193, 194, 195, 196, 197] (by decide +kernel) (by decide +kernel)
set_option maxRecDepth 20000 in
theorem gX8_readCounts_X8_nextToken : GoodIn wsX8_readCounts (wsV RX8 48 RX8 yX8_nextToken wsX8_nextToken) := goodIn_app (goodIn_of _ (by decide +kernel)) ggX8_readCounts_X8_nextToken
set_option maxRecDepth 20000 in
theorem ggX8_readCounts_X8_readCount : GoodIn wsX8_readCounts wsX8_readCount := goodIn_r _ [148, 26, 88, 149, 150, 151, 3, 152, 9, 153, 154, 155, 93, 94, 95, 24, 96, 97, 28, 98, 156, 157, 158, 159, 127, 128, 129, 130, 27, 45, 41, 42, 43, 44, 46, 131, 132, 133, 134, 135, 136, 137, 138, 139, 140, 141, 142, 143, 144, 160, 161, 162, 163, 7, 8, 188, 189, 190, 191, 192, 193, 194, 195, 196, 197, 164, 165, 166, 167, 168, 169, 170] (by decide +kernel) (by decide +kernel)
set_option maxRecDepth 20000 in
theorem gX8_readCounts_X8_readCount : GoodIn wsX8_readCounts (wsV RX8 123 RX8 yX8_readCount wsX8_readCount) := goodIn_app (goodIn_of _ (by decide +kernel)) ggX8_readCounts_X8_readCount
theorem dX8_readCounts_0 : decode cX8_readCounts 0 = .ok (.new 118, 3) := by decide +kernel
theorem dX8_readCounts_3 : decode cX8_readCounts 3 = .ok (.dup, 1) := by decide +kernel
theorem dX8_readCounts_4 : decode cX8_readCounts 4 = .ok (.invokespecial 120, 3) := by decide +kernel
theorem dX8_readCounts_7 : decode cX8_readCounts 7 = .ok (.astore_n 1, 1) := by decide +kernel
theorem dX8_readCounts_8 : decode cX8_readCounts 8 = .ok (.iconst 0, 1) := by decide +kernel
theorem dX8_readCounts_9 : decode cX8_readCounts 9 = .ok (.istore_n 2, 1) := by decide +kernel
theorem dX8_readCounts_10 : decode cX8_readCounts 10 = .ok (.iload_n 2, 1) := by decide +kernel
theorem dX8_readCounts_11 : decode cX8_readCounts 11 = .ok (.bipush 7, 2) := by decide +kernel
theorem dX8_readCounts_13 : decode cX8_readCounts 13 = .ok (.if_icmp .gt 32, 3) := by decide +kernel
theorem dX8_readCounts_16 : decode cX8_readCounts 16 = .ok (.iload_n 2, 1) := by decide +kernel
theorem dX8_readCounts_17 : decode cX8_readCounts 17 = .ok (.ifCond .eq 12, 3) := by decide +kernel
theorem dX8_readCounts_20 : decode cX8_readCounts 20 = .ok (.aload_n 0, 1) := by decide +kernel
theorem dX8_readCounts_21 : decode cX8_readCounts 21 = .ok (.ldc 121, 2) := by decide +kernel
theorem dX8_readCounts_23 : decode cX8_readCounts 23 = .ok (.invokevirtual 53, 3) := by decide +kernel
theorem dX8_readCounts_26 : decode cX8_readCounts 26 = .ok (.ifCond .ne 19, 3) := by decide +kernel
theorem dX8_readCounts_29 : decode cX8_readCounts 29 = .ok (.aload_n 0, 1) := by decide +kernel
theorem dX8_readCounts_30 : decode cX8_readCounts 30 = .ok (.aload_n 1, 1) := by decide +kernel
theorem dX8_readCounts_31 : decode cX8_readCounts 31 = .ok (.invokevirtual 114, 3) := by decide +kernel
theorem dX8_readCounts_34 : decode cX8_readCounts 34 = .ok (.ifCond .ne 5, 3) := by decide +kernel
theorem dX8_readCounts_37 : decode cX8_readCounts 37 = .ok (.aconst_null, 1) := by decide +kernel
theorem dX8_readCounts_38 : decode cX8_readCounts 38 = .ok (.areturn, 1) := by decide +kernel
theorem dX8_readCounts_39 : decode cX8_readCounts 39 = .ok (.iinc 2 1, 3) := by decide +kernel
theorem dX8_readCounts_42 : decode cX8_readCounts 42 = .ok (.goto (-32), 3) := by decide +kernel
theorem dX8_readCounts_45 : decode cX8_readCounts 45 = .ok (.iconst 0, 1) := by decide +kernel
theorem dX8_readCounts_46 : decode cX8_readCounts 46 = .ok (.istore_n 2, 1) := by decide +kernel
theorem dX8_readCounts_47 : decode cX8_readCounts 47 = .ok (.iload_n 2, 1) := by decide +kernel
theorem dX8_readCounts_48 : decode cX8_readCounts 48 = .ok (.iconst 5, 1) := by decide +kernel
theorem dX8_readCounts_49 : decode cX8_readCounts 49 = .ok (.if_icmp .gt 32, 3) := by decide +kernel
theorem dX8_readCounts_52 : decode cX8_readCounts 52 = .ok (.aload_n 0, 1) := by decide +kernel
theorem dX8_readCounts_53 : decode cX8_readCounts 53 = .ok (.ldc 121, 2) := by decide +kernel
theorem dX8_readCounts_55 : decode cX8_readCounts 55 = .ok (.invokevirtual 53, 3) := by decide +kernel
theorem dX8_readCounts_58 : decode cX8_readCounts 58 = .ok (.ifCond .eq 23, 3) := by decide +kernel
theorem dX8_readCounts_61 : decode cX8_readCounts 61 = .ok (.aload_n 0, 1) := by decide +kernel
theorem dX8_readCounts_62 : decode cX8_readCounts 62 = .ok (.invokevirtual 48, 3) := by decide +kernel
theorem dX8_readCounts_65 : decode cX8_readCounts 65 = .ok (.aload_n 0, 1) := by decide +kernel
theorem dX8_readCounts_66 : decode cX8_readCounts 66 = .ok (.aload_n 1, 1) := by decide +kernel
theorem dX8_readCounts_67 : decode cX8_readCounts 67 = .ok (.invokevirtual 123, 3) := by decide +kernel
theorem dX8_readCounts_70 : decode cX8_readCounts 70 = .ok (.ifCond .ne 5, 3) := by decide +kernel
theorem dX8_readCounts_73 : decode cX8_readCounts 73 = .ok (.aconst_null, 1) := by decide +kernel
theorem dX8_readCounts_74 : decode cX8_readCounts 74 = .ok (.areturn, 1) := by decide +kernel
theorem dX8_readCounts_75 : decode cX8_readCounts 75 = .ok (.iinc 2 1, 3) := by decide +kernel
theorem dX8_readCounts_78 : decode cX8_readCounts 78 = .ok (.goto (-31), 3) := by decide +kernel
theorem dX8_readCounts_81 : decode cX8_readCounts 81 = .ok (.aload_n 1, 1) := by decide +kernel
theorem dX8_readCounts_82 : decode cX8_readCounts 82 = .ok (.areturn, 1) := by decide +kernel
set_option maxRecDepth 20000 in
theorem ggX8_readCount_X2_hasCount : GoodIn wsX8_readCount wsX2_hasCount := goodIn_r _ [7, 8, 9, 10, 11, 65, 66, 67, 68, 69, 70, 71] (by decide +kernel) (by decide +kernel)
set_option maxRecDepth 20000 in
theorem gX8_readCount_X2_hasCount : GoodIn wsX8_readCount (wsV RX8 127 RX2 yX2_hasCount wsX2_hasCount) := goodIn_app (goodIn_of _ (by decide +kernel)) ggX8_readCount_X2_hasCount
set_option maxRecDepth 20000 in
theorem ggX8_readCount_X8_fail : GoodIn wsX8_readCount wsX8_fail := goodIn_r _ [16, 17, 18, 19, 55, 56, 57, 58, 59, 60, 61, 62, 63, 64] (by decide +kernel) (by decide +kernel)
set_option maxRecDepth 20000 in
theorem gX8_readCount_X8_fail : GoodIn wsX8_readCount (wsV RX8 57 RX8 yX8_fail wsX8_fail) := goodIn_app (goodIn_of _ (by decide +kernel)) ggX8_readCount_X8_fail
set_option maxRecDepth 20000 in
theorem ggX8_readCount_X8_readNumber : GoodIn wsX8_readCount wsX8_readNumber := goodIn_r _ [23, 1, 2, 12, 13, 14, 15, 16, 17, 18, 19, 24, 25, 26, 27, 28, 29, 30, 31, 32, 33, 34, 35, 36, 37, 38, 39, 40, 41, 42, 43, 44, 45, 46, 47, 48, 55, 56, 57, 58, 59, 60, 61, 62, 63, 64] (by decide +kernel) (by decide +kernel)
set_option maxRecDepth 20000 in
theorem gX8_readCount_X8_readNumber : GoodIn wsX8_readCount (wsV RX8 72 RX8 yX8_readNumber wsX8_readNumber) := goodIn_app (goodIn_of _ (by decide +kernel)) ggX8_readCount_X8_readNumber
set_option maxRecDepth 20000 in
theorem ggX8_readCount_X2_addCount : GoodIn wsX8_readCount wsX2_addCount := goodIn_r _ [52, 8, 53, 54, 65, 66, 67, 68, 69, 70, 71] (by decide +kernel) (by decide +kernel)
set_option maxRecDepth 20000 in
theorem gX8_readCount_X2_addCount : GoodIn wsX8_readCount (wsV RX8 130 RX2 yX2_addCount wsX2_addCount) := goodIn_app (goodIn_of _ (by decide +kernel)) ggX8_readCount_X2_addCount
theorem dX8_readCount_0 : decode cX8_readCount 0 = .ok (.aload_n 0, 1) := by decide +kernel
theorem dX8_readCount_1 : decode cX8_readCount 1 = .ok (.getfield 36, 3) := by decide +kernel
theorem dX8_readCount_4 : decode cX8_readCount 4 = .ok (.iconst 2, 1) := by decide +kernel
theorem dX8_readCount_5 : decode cX8_readCount 5 = .ok (.if_icmp .ne 20, 3) := by decide +kernel
theorem dX8_readCount_8 : decode cX8_readCount 8 = .ok (.aload_n 1, 1) := by decide +kernel
theorem dX8_readCount_9 : decode cX8_readCount 9 = .ok (.aload_n 0, 1) := by decide +kernel
theorem dX8_readCount_10 : decode cX8_readCount 10 = .ok (.getfield 45, 3) := by decide +kernel
theorem dX8_readCount_13 : decode cX8_readCount 13 = .ok (.invokevirtual 127, 3) := by decide +kernel
theorem dX8_readCount_16 : decode cX8_readCount 16 = .ok (.ifCond .eq 9, 3) := by decide +kernel
theorem dX8_readCount_19 : decode cX8_readCount 19 = .ok (.aload_n 0, 1) := by decide +kernel
theorem dX8_readCount_20 : decode cX8_readCount 20 = .ok (.iconst 3, 1) := by decide +kernel
theorem dX8_readCount_21 : decode cX8_readCount 21 = .ok (.invokevirtual 57, 3) := by decide +kernel
theorem dX8_readCount_24 : decode cX8_readCount 24 = .ok (.ireturn, 1) := by decide +kernel
theorem dX8_readCount_25 : decode cX8_readCount 25 = .ok (.aload_n 0, 1) := by decide +kernel
theorem dX8_readCount_26 : decode cX8_readCount 26 = .ok (.iconst 0, 1) := by decide +kernel
theorem dX8_readCount_27 : decode cX8_readCount 27 = .ok (.iconst 4, 1) := by decide +kernel
theorem dX8_readCount_28 : decode cX8_readCount 28 = .ok (.invokevirtual 72, 3) := by decide +kernel
theorem dX8_readCount_31 : decode cX8_readCount 31 = .ok (.istore_n 2, 1) := by decide +kernel
theorem dX8_readCount_32 : decode cX8_readCount 32 = .ok (.iload_n 2, 1) := by decide +kernel
theorem dX8_readCount_33 : decode cX8_readCount 33 = .ok (.iconst (-1), 1) := by decide +kernel
theorem dX8_readCount_34 : decode cX8_readCount 34 = .ok (.if_icmp .ne 7, 3) := by decide +kernel
theorem dX8_readCount_37 : decode cX8_readCount 37 = .ok (.iconst (-1), 1) := by decide +kernel
theorem dX8_readCount_38 : decode cX8_readCount 38 = .ok (.goto 10, 3) := by decide +kernel
theorem dX8_readCount_41 : decode cX8_readCount 41 = .ok (.aload_n 0, 1) := by decide +kernel
theorem dX8_readCount_42 : decode cX8_readCount 42 = .ok (.iconst 0, 1) := by decide +kernel
theorem dX8_readCount_43 : decode cX8_readCount 43 = .ok (.bipush 7, 2) := by decide +kernel
theorem dX8_readCount_45 : decode cX8_readCount 45 = .ok (.invokevirtual 72, 3) := by decide +kernel
theorem dX8_readCount_48 : decode cX8_readCount 48 = .ok (.istore_n 3, 1) := by decide +kernel
theorem dX8_readCount_49 : decode cX8_readCount 49 = .ok (.iload_n 3, 1) := by decide +kernel
theorem dX8_readCount_50 : decode cX8_readCount 50 = .ok (.iconst (-1), 1) := by decide +kernel
theorem dX8_readCount_51 : decode cX8_readCount 51 = .ok (.if_icmp .ne 7, 3) := by decide +kernel
theorem dX8_readCount_54 : decode cX8_readCount 54 = .ok (.iconst (-1), 1) := by decide +kernel
theorem dX8_readCount_55 : decode cX8_readCount 55 = .ok (.goto 10, 3) := by decide +kernel
theorem dX8_readCount_58 : decode cX8_readCount 58 = .ok (.aload_n 0, 1) := by decide +kernel
theorem dX8_readCount_59 : decode cX8_readCount 59 = .ok (.iload_n 3, 1) := by decide +kernel
theorem dX8_readCount_60 : decode cX8_readCount 60 = .ok (.bipush 7, 2) := by decide +kernel
theorem dX8_readCount_62 : decode cX8_readCount 62 = .ok (.invokevirtual 72, 3) := by decide +kernel
theorem dX8_readCount_65 : decode cX8_readCount 65 = .ok (.istore 4, 2) := by decide +kernel
theorem dX8_readCount_67 : decode cX8_readCount 67 = .ok (.iload 4, 2) := by decide +kernel
theorem dX8_readCount_69 : decode cX8_readCount 69 = .ok (.iconst (-1), 1) := by decide +kernel
theorem dX8_readCount_70 : decode cX8_readCount 70 = .ok (.if_icmp .ne 5, 3) := by decide +kernel
theorem dX8_readCount_73 : decode cX8_readCount 73 = .ok (.iconst 0, 1) := by decide +kernel
theorem dX8_readCount_74 : decode cX8_readCount 74 = .ok (.ireturn, 1) := by decide +kernel
theorem dX8_readCount_75 : decode cX8_readCount 75 = .ok (.aload_n 1, 1) := by decide +kernel
theorem dX8_readCount_76 : decode cX8_readCount 76 = .ok (.iload_n 2, 1) := by decide +kernel
theorem dX8_readCount_77 : decode cX8_readCount 77 = .ok (.iload_n 3, 1) := by decide +kernel
theorem dX8_readCount_78 : decode cX8_readCount 78 = .ok (.iload 4, 2) := by decide +kernel
theorem dX8_readCount_80 : decode cX8_readCount 80 = .ok (.invokevirtual 130, 3) := by decide +kernel
theorem dX8_readCount_83 : decode cX8_readCount 83 = .ok (.iconst 1, 1) := by decide +kernel
theorem dX8_readCount_84 : decode cX8_readCount 84 = .ok (.ireturn, 1) := by decide +kernel
set_option maxRecDepth 20000 in
theorem ggX8_readWindow_X8_readNumber : GoodIn wsX8_readWindow wsX8_readNumber := goodIn_r _ [9, 4, 10, 11, 12, 13, 8, 14, 15, 16, 17, 18, 19, 20, 21, 22, 23, 24, 25, 26, 27, 28, 29, 30, 31, 32, 33, 34, 35, 36, 37, 38, 39, 40, 41, 42, 158, 159, 160, 161, 162, 163, 164, 165, 166, 167] (by decide +kernel) (by decide +kernel)
set_option maxRecDepth 20000 in
theorem gX8_readWindow_X8_readNumber : GoodIn wsX8_readWindow (wsV RX8 72 RX8 yX8_readNumber wsX8_readNumber) := goodIn_app (goodIn_of _ (by decide +kernel)) ggX8_readWindow_X8_readNumber
set_option maxRecDepth 20000 in
theorem ggX8_readWindow_X10_init : GoodIn wsX8_readWindow wsX10_init := goodIn_r _ [45, 46, 47, 48, 49, 50, 51, 52, 53, 54, 55, 56, 57, 58, 59, 60, 150, 151, 152, 153, 154, 155, 156, 157, 168, 169, 170, 171, 172, 173, 174, 175, 176, 177, 178, 179, 180, 181, 182, 183] (by decide +kernel) (by decide +kernel)
set_option maxRecDepth 20000 in
theorem gX8_readWindow_X10_init : GoodIn wsX8_readWindow (wsX10_init) := ggX8_readWindow_X10_init
set_option maxRecDepth 20000 in
theorem ggX8_readWindow_X8_readMember : GoodIn wsX8_readWindow wsX8_readMember := goodIn_r _ [64, 10, 65, 66, 67, 8, 68, 4, 69, 70, 71, 72, 22, 16, 73, 74, 75, 76, 77, 78, 79, 80, 81, 82, 83, 84, 24, 25, 26, 27, 23, 28, 85, 86, 87, 88, 89, 90, 91, 92, 93, 94, 95, 96, 97, 98, 99, 100, 101, 102, 103, 104, 105, 106, 107, 108, 109, 110, 111, 112, 113, 114, 115, 116, 117, 118, 119, 120, 121, 11, 12, 13, 14, 15, 17, 122, 123, 124, 125, 126, 127, 128, 129, 130, 131, 132, 52, 133, 58, 134, 135, 136, 137, 138, 139, 140, 141, 142, 143, 144, 145, 146, 57, 59, 147, 148, 149, 18, 19, 20, 21, 29, 30, 31, 32, 33, 34, 35, 36, 37, 38, 39, 40, 41, 42, 158, 159, 160, 161, 162, 163, 164, 165, 166, 167, 184, 185, 186, 187, 168, 169, 170, 171, 172, 173, 174, 175, 176, 177, 178, 179, 180, 181, 182, 183, 150, 151, 152, 153, 154, 155, 156, 157] (by decide +kernel) (by decide +kernel)
set_option maxRecDepth 20000 in
theorem gX8_readWindow_X8_readMember : GoodIn wsX8_readWindow (wsV RX8 114 RX8 yX8_readMember wsX8_readMember) := goodIn_app (goodIn_of _ (by decide +kernel)) ggX8_readWindow_X8_readMember
theorem dX8_readWindow_0 : decode cX8_readWindow 0 = .ok (.aload_n 0, 1) := by decide +kernel
theorem dX8_readWindow_1 : decode cX8_readWindow 1 = .ok (.iconst 1, 1) := by decide +kernel
theorem dX8_readWindow_2 : decode cX8_readWindow 2 = .ok (.iconst 4, 1) := by decide +kernel
theorem dX8_readWindow_3 : decode cX8_readWindow 3 = .ok (.invokevirtual 72, 3) := by decide +kernel
theorem dX8_readWindow_6 : decode cX8_readWindow 6 = .ok (.istore_n 1, 1) := by decide +kernel
theorem dX8_readWindow_7 : decode cX8_readWindow 7 = .ok (.iload_n 1, 1) := by decide +kernel
theorem dX8_readWindow_8 : decode cX8_readWindow 8 = .ok (.iconst (-1), 1) := by decide +kernel
theorem dX8_readWindow_9 : decode cX8_readWindow 9 = .ok (.if_icmp .ne 7, 3) := by decide +kernel
theorem dX8_readWindow_12 : decode cX8_readWindow 12 = .ok (.iconst (-1), 1) := by decide +kernel
theorem dX8_readWindow_13 : decode cX8_readWindow 13 = .ok (.goto 10, 3) := by decide +kernel
theorem dX8_readWindow_16 : decode cX8_readWindow 16 = .ok (.aload_n 0, 1) := by decide +kernel
theorem dX8_readWindow_17 : decode cX8_readWindow 17 = .ok (.iconst 1, 1) := by decide +kernel
theorem dX8_readWindow_18 : decode cX8_readWindow 18 = .ok (.bipush 31, 2) := by decide +kernel
theorem dX8_readWindow_20 : decode cX8_readWindow 20 = .ok (.invokevirtual 72, 3) := by decide +kernel
theorem dX8_readWindow_23 : decode cX8_readWindow 23 = .ok (.istore_n 2, 1) := by decide +kernel
theorem dX8_readWindow_24 : decode cX8_readWindow 24 = .ok (.iload_n 2, 1) := by decide +kernel
theorem dX8_readWindow_25 : decode cX8_readWindow 25 = .ok (.iconst (-1), 1) := by decide +kernel
theorem dX8_readWindow_26 : decode cX8_readWindow 26 = .ok (.if_icmp .ne 7, 3) := by decide +kernel
theorem dX8_readWindow_29 : decode cX8_readWindow 29 = .ok (.iconst (-1), 1) := by decide +kernel
theorem dX8_readWindow_30 : decode cX8_readWindow 30 = .ok (.goto 9, 3) := by decide +kernel
theorem dX8_readWindow_33 : decode cX8_readWindow 33 = .ok (.aload_n 0, 1) := by decide +kernel
theorem dX8_readWindow_34 : decode cX8_readWindow 34 = .ok (.iconst 0, 1) := by decide +kernel
theorem dX8_readWindow_35 : decode cX8_readWindow 35 = .ok (.iload_n 1, 1) := by decide +kernel
theorem dX8_readWindow_36 : decode cX8_readWindow 36 = .ok (.invokevirtual 72, 3) := by decide +kernel
theorem dX8_readWindow_39 : decode cX8_readWindow 39 = .ok (.istore_n 3, 1) := by decide +kernel
theorem dX8_readWindow_40 : decode cX8_readWindow 40 = .ok (.iload_n 3, 1) := by decide +kernel
theorem dX8_readWindow_41 : decode cX8_readWindow 41 = .ok (.iconst (-1), 1) := by decide +kernel
theorem dX8_readWindow_42 : decode cX8_readWindow 42 = .ok (.if_icmp .ne 7, 3) := by decide +kernel
theorem dX8_readWindow_45 : decode cX8_readWindow 45 = .ok (.iconst (-1), 1) := by decide +kernel
theorem dX8_readWindow_46 : decode cX8_readWindow 46 = .ok (.goto 9, 3) := by decide +kernel
theorem dX8_readWindow_49 : decode cX8_readWindow 49 = .ok (.aload_n 0, 1) := by decide +kernel
theorem dX8_readWindow_50 : decode cX8_readWindow 50 = .ok (.iload_n 3, 1) := by decide +kernel
theorem dX8_readWindow_51 : decode cX8_readWindow 51 = .ok (.iload_n 1, 1) := by decide +kernel
theorem dX8_readWindow_52 : decode cX8_readWindow 52 = .ok (.invokevirtual 72, 3) := by decide +kernel
theorem dX8_readWindow_55 : decode cX8_readWindow 55 = .ok (.istore 4, 2) := by decide +kernel
theorem dX8_readWindow_57 : decode cX8_readWindow 57 = .ok (.iload 4, 2) := by decide +kernel
theorem dX8_readWindow_59 : decode cX8_readWindow 59 = .ok (.iconst (-1), 1) := by decide +kernel
theorem dX8_readWindow_60 : decode cX8_readWindow 60 = .ok (.if_icmp .ne 5, 3) := by decide +kernel
theorem dX8_readWindow_63 : decode cX8_readWindow 63 = .ok (.aconst_null, 1) := by decide +kernel
theorem dX8_readWindow_64 : decode cX8_readWindow 64 = .ok (.areturn, 1) := by decide +kernel
theorem dX8_readWindow_65 : decode cX8_readWindow 65 = .ok (.new 136, 3) := by decide +kernel
theorem dX8_readWindow_68 : decode cX8_readWindow 68 = .ok (.dup, 1) := by decide +kernel
theorem dX8_readWindow_69 : decode cX8_readWindow 69 = .ok (.iload_n 1, 1) := by decide +kernel
theorem dX8_readWindow_70 : decode cX8_readWindow 70 = .ok (.iload_n 2, 1) := by decide +kernel
theorem dX8_readWindow_71 : decode cX8_readWindow 71 = .ok (.iload_n 3, 1) := by decide +kernel
theorem dX8_readWindow_72 : decode cX8_readWindow 72 = .ok (.iload 4, 2) := by decide +kernel
theorem dX8_readWindow_74 : decode cX8_readWindow 74 = .ok (.invokespecial 138, 3) := by decide +kernel
theorem dX8_readWindow_77 : decode cX8_readWindow 77 = .ok (.astore 5, 2) := by decide +kernel
theorem dX8_readWindow_79 : decode cX8_readWindow 79 = .ok (.iconst 0, 1) := by decide +kernel
theorem dX8_readWindow_80 : decode cX8_readWindow 80 = .ok (.istore 6, 2) := by decide +kernel
theorem dX8_readWindow_82 : decode cX8_readWindow 82 = .ok (.iload 6, 2) := by decide +kernel
theorem dX8_readWindow_84 : decode cX8_readWindow 84 = .ok (.bipush 7, 2) := by decide +kernel
theorem dX8_readWindow_86 : decode cX8_readWindow 86 = .ok (.if_icmp .gt 33, 3) := by decide +kernel
theorem dX8_readWindow_89 : decode cX8_readWindow 89 = .ok (.iload 6, 2) := by decide +kernel
theorem dX8_readWindow_91 : decode cX8_readWindow 91 = .ok (.ifCond .eq 11, 3) := by decide +kernel
theorem dX8_readWindow_94 : decode cX8_readWindow 94 = .ok (.aload_n 0, 1) := by decide +kernel
theorem dX8_readWindow_95 : decode cX8_readWindow 95 = .ok (.getfield 36, 3) := by decide +kernel
theorem dX8_readWindow_98 : decode cX8_readWindow 98 = .ok (.iconst 3, 1) := by decide +kernel
theorem dX8_readWindow_99 : decode cX8_readWindow 99 = .ok (.if_icmp .eq 20, 3) := by decide +kernel
theorem dX8_readWindow_102 : decode cX8_readWindow 102 = .ok (.aload_n 0, 1) := by decide +kernel
theorem dX8_readWindow_103 : decode cX8_readWindow 103 = .ok (.aload 5, 2) := by decide +kernel
theorem dX8_readWindow_105 : decode cX8_readWindow 105 = .ok (.invokevirtual 114, 3) := by decide +kernel
theorem dX8_readWindow_108 : decode cX8_readWindow 108 = .ok (.ifCond .ne 5, 3) := by decide +kernel
theorem dX8_readWindow_111 : decode cX8_readWindow 111 = .ok (.aconst_null, 1) := by decide +kernel
theorem dX8_readWindow_112 : decode cX8_readWindow 112 = .ok (.areturn, 1) := by decide +kernel
theorem dX8_readWindow_113 : decode cX8_readWindow 113 = .ok (.iinc 6 1, 3) := by decide +kernel
theorem dX8_readWindow_116 : decode cX8_readWindow 116 = .ok (.goto (-34), 3) := by decide +kernel
theorem dX8_readWindow_119 : decode cX8_readWindow 119 = .ok (.aload 5, 2) := by decide +kernel
theorem dX8_readWindow_121 : decode cX8_readWindow 121 = .ok (.areturn, 1) := by decide +kernel
set_option maxRecDepth 20000 in
theorem ggX8_readMember_X8_isName : GoodIn wsX8_readMember wsX8_isName := goodIn_r _ [6, 7, 1, 8, 9, 10, 5, 11, 12, 13, 14, 15, 16, 17, 18, 19, 20, 21, 22, 23, 24, 25, 26, 27, 28, 29, 30, 31, 32, 33, 34, 35, 36, 37, 38, 39, 40, 41, 42, 43, 44, 45, 46, 47, 48, 49, 50, 51, 52, 53, 54, 55, 56, 57, 58, 59, 60, 61, 62, 63, 64, 65, 66, 67, 68, 125, 126, 127, 128, 129, 130, 131, 132, 133, 134] (by decide +kernel) (by decide +kernel)
set_option maxRecDepth 20000 in
theorem gX8_readMember_X8_isName : GoodIn wsX8_readMember (wsV RX8 65 RX8 yX8_isName wsX8_isName) := goodIn_app (goodIn_of _ (by decide +kernel)) ggX8_readMember_X8_isName
set_option maxRecDepth 20000 in
theorem ggX8_readMember_X8_fail : GoodIn wsX8_readMember wsX8_fail := goodIn_r _ [72, 73, 13, 74, 125, 126, 127, 128, 129, 130, 131, 132, 133, 134] (by decide +kernel) (by decide +kernel)
set_option maxRecDepth 20000 in
theorem gX8_readMember_X8_fail : GoodIn wsX8_readMember (wsV RX8 57 RX8 yX8_fail wsX8_fail) := goodIn_app (goodIn_of _ (by decide +kernel)) ggX8_readMember_X8_fail
set_option maxRecDepth 20000 in
theorem ggX8_readMember_X8_variableOf : GoodIn wsX8_readMember wsX8_variableOf := goodIn_r _ [78, 79, 80, 81, 125, 126, 127, 128, 129, 130, 131, 132, 133, 134, 135, 136, 137, 138] (by decide +kernel) (by decide +kernel)
set_option maxRecDepth 20000 in
theorem gX8_readMember_X8_variableOf : GoodIn wsX8_readMember (wsV RX8 68 RX8 yX8_variableOf wsX8_variableOf) := goodIn_app (goodIn_of _ (by decide +kernel)) ggX8_readMember_X8_variableOf
set_option maxRecDepth 20000 in
theorem ggX8_readMember_X1_hasVariable : GoodIn wsX8_readMember wsX1_hasVariable := goodIn_r _ [87, 88, 89, 90, 91, 92, 93, 139, 140, 141, 142, 143, 144, 145, 146, 147, 148, 149, 150, 151, 152, 153, 154, 155, 156, 157, 158, 159, 160, 161, 162] (by decide +kernel) (by decide +kernel)
set_option maxRecDepth 20000 in
theorem gX8_readMember_X1_hasVariable_u141X0 : GoodIn wsX8_readMember (va_wsU RX8 141 RX0 "SupportSolver$Constraint" ⟨"SupportSolver$Constraint", "hasVariable", "(I)Z"⟩ yX1_hasVariable wsX1_hasVariable) := goodIn_app (goodIn_of _ (by decide +kernel)) ggX8_readMember_X1_hasVariable
set_option maxRecDepth 20000 in
theorem gX8_readMember_X1_hasVariable_u141X2 : GoodIn wsX8_readMember (va_wsU RX8 141 RX2 "SupportSolver$Constraint" ⟨"SupportSolver$Constraint", "hasVariable", "(I)Z"⟩ yX1_hasVariable wsX1_hasVariable) := goodIn_app (goodIn_of _ (by decide +kernel)) ggX8_readMember_X1_hasVariable
set_option maxRecDepth 20000 in
theorem gX8_readMember_X1_hasVariable_u141X4 : GoodIn wsX8_readMember (va_wsU RX8 141 RX4 "SupportSolver$Constraint" ⟨"SupportSolver$Constraint", "hasVariable", "(I)Z"⟩ yX1_hasVariable wsX1_hasVariable) := goodIn_app (goodIn_of _ (by decide +kernel)) ggX8_readMember_X1_hasVariable
set_option maxRecDepth 20000 in
theorem gX8_readMember_X1_hasVariable_u141X10 : GoodIn wsX8_readMember (va_wsU RX8 141 RX10 "SupportSolver$Constraint" ⟨"SupportSolver$Constraint", "hasVariable", "(I)Z"⟩ yX1_hasVariable wsX1_hasVariable) := goodIn_app (goodIn_of _ (by decide +kernel)) ggX8_readMember_X1_hasVariable
set_option maxRecDepth 20000 in
theorem ggX8_readMember_X1_addVariable : GoodIn wsX8_readMember wsX1_addVariable := goodIn_r _ [101, 102, 103, 88, 89, 90, 91, 92, 93, 139, 140, 141, 142, 143, 144, 145, 146, 147, 148, 149, 150, 151, 152, 153, 154, 155, 156, 157, 158, 159, 160, 161, 162] (by decide +kernel) (by decide +kernel)
set_option maxRecDepth 20000 in
theorem gX8_readMember_X1_addVariable_u146X0 : GoodIn wsX8_readMember (va_wsU RX8 146 RX0 "SupportSolver$Constraint" ⟨"SupportSolver$Constraint", "addVariable", "(I)V"⟩ yX1_addVariable wsX1_addVariable) := goodIn_app (goodIn_of _ (by decide +kernel)) ggX8_readMember_X1_addVariable
set_option maxRecDepth 20000 in
theorem gX8_readMember_X1_addVariable_u146X2 : GoodIn wsX8_readMember (va_wsU RX8 146 RX2 "SupportSolver$Constraint" ⟨"SupportSolver$Constraint", "addVariable", "(I)V"⟩ yX1_addVariable wsX1_addVariable) := goodIn_app (goodIn_of _ (by decide +kernel)) ggX8_readMember_X1_addVariable
set_option maxRecDepth 20000 in
theorem gX8_readMember_X1_addVariable_u146X4 : GoodIn wsX8_readMember (va_wsU RX8 146 RX4 "SupportSolver$Constraint" ⟨"SupportSolver$Constraint", "addVariable", "(I)V"⟩ yX1_addVariable wsX1_addVariable) := goodIn_app (goodIn_of _ (by decide +kernel)) ggX8_readMember_X1_addVariable
set_option maxRecDepth 20000 in
theorem gX8_readMember_X1_addVariable_u146X10 : GoodIn wsX8_readMember (va_wsU RX8 146 RX10 "SupportSolver$Constraint" ⟨"SupportSolver$Constraint", "addVariable", "(I)V"⟩ yX1_addVariable wsX1_addVariable) := goodIn_app (goodIn_of _ (by decide +kernel)) ggX8_readMember_X1_addVariable
set_option maxRecDepth 20000 in
theorem ggX8_readMember_X8_nextToken : GoodIn wsX8_readMember wsX8_nextToken := goodIn_r _ [110, 12, 13, 30, 7, 26, 27, 28, 5, 29, 31, 111, 112, 113, 114, 115, 116, 117, 1, 118, 119, 120, 121, 122, 123, 124, 125, 126, 127, 128, 129, 130, 131, 132, 133, 134] (by decide +kernel) (by decide +kernel)
set_option maxRecDepth 20000 in
theorem gX8_readMember_X8_nextToken : GoodIn wsX8_readMember (wsV RX8 48 RX8 yX8_nextToken wsX8_nextToken) := goodIn_app (goodIn_of _ (by decide +kernel)) ggX8_readMember_X8_nextToken
theorem dX8_readMember_0 : decode cX8_readMember 0 = .ok (.aload_n 0, 1) := by decide +kernel
theorem dX8_readMember_1 : decode cX8_readMember 1 = .ok (.invokevirtual 65, 3) := by decide +kernel
theorem dX8_readMember_4 : decode cX8_readMember 4 = .ok (.ifCond .ne 9, 3) := by decide +kernel
theorem dX8_readMember_7 : decode cX8_readMember 7 = .ok (.aload_n 0, 1) := by decide +kernel
theorem dX8_readMember_8 : decode cX8_readMember 8 = .ok (.iconst 1, 1) := by decide +kernel
theorem dX8_readMember_9 : decode cX8_readMember 9 = .ok (.invokevirtual 57, 3) := by decide +kernel
theorem dX8_readMember_12 : decode cX8_readMember 12 = .ok (.ireturn, 1) := by decide +kernel
theorem dX8_readMember_13 : decode cX8_readMember 13 = .ok (.aload_n 0, 1) := by decide +kernel
theorem dX8_readMember_14 : decode cX8_readMember 14 = .ok (.aload_n 0, 1) := by decide +kernel
theorem dX8_readMember_15 : decode cX8_readMember 15 = .ok (.getfield 45, 3) := by decide +kernel
theorem dX8_readMember_18 : decode cX8_readMember 18 = .ok (.invokevirtual 68, 3) := by decide +kernel
theorem dX8_readMember_21 : decode cX8_readMember 21 = .ok (.istore_n 2, 1) := by decide +kernel
theorem dX8_readMember_22 : decode cX8_readMember 22 = .ok (.iload_n 2, 1) := by decide +kernel
theorem dX8_readMember_23 : decode cX8_readMember 23 = .ok (.iconst (-1), 1) := by decide +kernel
theorem dX8_readMember_24 : decode cX8_readMember 24 = .ok (.if_icmp .eq 11, 3) := by decide +kernel
theorem dX8_readMember_27 : decode cX8_readMember 27 = .ok (.aload_n 1, 1) := by decide +kernel
theorem dX8_readMember_28 : decode cX8_readMember 28 = .ok (.iload_n 2, 1) := by decide +kernel
theorem dX8_readMember_29 : decode cX8_readMember 29 = .ok (.invokevirtual 141, 3) := by decide +kernel
theorem dX8_readMember_32 : decode cX8_readMember 32 = .ok (.ifCond .eq 9, 3) := by decide +kernel
theorem dX8_readMember_35 : decode cX8_readMember 35 = .ok (.aload_n 0, 1) := by decide +kernel
theorem dX8_readMember_36 : decode cX8_readMember 36 = .ok (.iconst 3, 1) := by decide +kernel
theorem dX8_readMember_37 : decode cX8_readMember 37 = .ok (.invokevirtual 57, 3) := by decide +kernel
theorem dX8_readMember_40 : decode cX8_readMember 40 = .ok (.ireturn, 1) := by decide +kernel
theorem dX8_readMember_41 : decode cX8_readMember 41 = .ok (.aload_n 1, 1) := by decide +kernel
theorem dX8_readMember_42 : decode cX8_readMember 42 = .ok (.iload_n 2, 1) := by decide +kernel
theorem dX8_readMember_43 : decode cX8_readMember 43 = .ok (.invokevirtual 146, 3) := by decide +kernel
theorem dX8_readMember_46 : decode cX8_readMember 46 = .ok (.aload_n 0, 1) := by decide +kernel
theorem dX8_readMember_47 : decode cX8_readMember 47 = .ok (.invokevirtual 48, 3) := by decide +kernel
theorem dX8_readMember_50 : decode cX8_readMember 50 = .ok (.iconst 1, 1) := by decide +kernel
theorem dX8_readMember_51 : decode cX8_readMember 51 = .ok (.ireturn, 1) := by decide +kernel
set_option maxRecDepth 20000 in
theorem ggX8_readNumber_X8_fail : GoodIn wsX8_readNumber wsX8_fail := goodIn_r _ [7, 8, 9, 10, 36, 37, 38, 39, 40, 41, 42, 43, 44, 45] (by decide +kernel) (by decide +kernel)
set_option maxRecDepth 20000 in
theorem gX8_readNumber_X8_fail : GoodIn wsX8_readNumber (wsV RX8 57 RX8 yX8_fail wsX8_fail) := goodIn_app (goodIn_of _ (by decide +kernel)) ggX8_readNumber_X8_fail
set_option maxRecDepth 20000 in
theorem ggX8_readNumber_X8_nextToken : GoodIn wsX8_readNumber wsX8_nextToken := goodIn_r _ [14, 15, 9, 16, 1, 17, 18, 19, 6, 20, 21, 22, 23, 24, 25, 26, 27, 28, 2, 29, 30, 31, 32, 33, 34, 35, 36, 37, 38, 39, 40, 41, 42, 43, 44, 45] (by decide +kernel) (by decide +kernel)
set_option maxRecDepth 20000 in
theorem gX8_readNumber_X8_nextToken : GoodIn wsX8_readNumber (wsV RX8 48 RX8 yX8_nextToken wsX8_nextToken) := goodIn_app (goodIn_of _ (by decide +kernel)) ggX8_readNumber_X8_nextToken
theorem dX8_readNumber_0 : decode cX8_readNumber 0 = .ok (.aload_n 0, 1) := by decide +kernel
theorem dX8_readNumber_1 : decode cX8_readNumber 1 = .ok (.getfield 36, 3) := by decide +kernel
theorem dX8_readNumber_4 : decode cX8_readNumber 4 = .ok (.iconst 2, 1) := by decide +kernel
theorem dX8_readNumber_5 : decode cX8_readNumber 5 = .ok (.if_icmp .eq 11, 3) := by decide +kernel
theorem dX8_readNumber_8 : decode cX8_readNumber 8 = .ok (.aload_n 0, 1) := by decide +kernel
theorem dX8_readNumber_9 : decode cX8_readNumber 9 = .ok (.iconst 1, 1) := by decide +kernel
theorem dX8_readNumber_10 : decode cX8_readNumber 10 = .ok (.invokevirtual 57, 3) := by decide +kernel
theorem dX8_readNumber_13 : decode cX8_readNumber 13 = .ok (.pop, 1) := by decide +kernel
theorem dX8_readNumber_14 : decode cX8_readNumber 14 = .ok (.iconst (-1), 1) := by decide +kernel
theorem dX8_readNumber_15 : decode cX8_readNumber 15 = .ok (.ireturn, 1) := by decide +kernel
theorem dX8_readNumber_16 : decode cX8_readNumber 16 = .ok (.aload_n 0, 1) := by decide +kernel
theorem dX8_readNumber_17 : decode cX8_readNumber 17 = .ok (.getfield 45, 3) := by decide +kernel
theorem dX8_readNumber_20 : decode cX8_readNumber 20 = .ok (.iload_n 1, 1) := by decide +kernel
theorem dX8_readNumber_21 : decode cX8_readNumber 21 = .ok (.if_icmp .lt 11, 3) := by decide +kernel
theorem dX8_readNumber_24 : decode cX8_readNumber 24 = .ok (.aload_n 0, 1) := by decide +kernel
theorem dX8_readNumber_25 : decode cX8_readNumber 25 = .ok (.getfield 45, 3) := by decide +kernel
theorem dX8_readNumber_28 : decode cX8_readNumber 28 = .ok (.iload_n 2, 1) := by decide +kernel
theorem dX8_readNumber_29 : decode cX8_readNumber 29 = .ok (.if_icmp .le 11, 3) := by decide +kernel
theorem dX8_readNumber_32 : decode cX8_readNumber 32 = .ok (.aload_n 0, 1) := by decide +kernel
theorem dX8_readNumber_33 : decode cX8_readNumber 33 = .ok (.iconst 2, 1) := by decide +kernel
theorem dX8_readNumber_34 : decode cX8_readNumber 34 = .ok (.invokevirtual 57, 3) := by decide +kernel
theorem dX8_readNumber_37 : decode cX8_readNumber 37 = .ok (.pop, 1) := by decide +kernel
theorem dX8_readNumber_38 : decode cX8_readNumber 38 = .ok (.iconst (-1), 1) := by decide +kernel
theorem dX8_readNumber_39 : decode cX8_readNumber 39 = .ok (.ireturn, 1) := by decide +kernel
theorem dX8_readNumber_40 : decode cX8_readNumber 40 = .ok (.aload_n 0, 1) := by decide +kernel
theorem dX8_readNumber_41 : decode cX8_readNumber 41 = .ok (.getfield 45, 3) := by decide +kernel
theorem dX8_readNumber_44 : decode cX8_readNumber 44 = .ok (.istore_n 3, 1) := by decide +kernel
theorem dX8_readNumber_45 : decode cX8_readNumber 45 = .ok (.aload_n 0, 1) := by decide +kernel
theorem dX8_readNumber_46 : decode cX8_readNumber 46 = .ok (.invokevirtual 48, 3) := by decide +kernel
theorem dX8_readNumber_49 : decode cX8_readNumber 49 = .ok (.iload_n 3, 1) := by decide +kernel
theorem dX8_readNumber_50 : decode cX8_readNumber 50 = .ok (.ireturn, 1) := by decide +kernel
set_option maxRecDepth 20000 in
theorem ggX8_readSemicolon_X8_fail : GoodIn wsX8_readSemicolon wsX8_fail := goodIn_r _ [6, 7, 8, 9, 36, 37, 38, 39, 40, 41, 42, 43, 44, 45] (by decide +kernel) (by decide +kernel)
set_option maxRecDepth 20000 in
theorem gX8_readSemicolon_X8_fail : GoodIn wsX8_readSemicolon (wsV RX8 57 RX8 yX8_fail wsX8_fail) := goodIn_app (goodIn_of _ (by decide +kernel)) ggX8_readSemicolon_X8_fail
set_option maxRecDepth 20000 in
theorem ggX8_readSemicolon_X8_nextToken : GoodIn wsX8_readSemicolon wsX8_nextToken := goodIn_r _ [13, 14, 8, 15, 1, 16, 17, 18, 5, 19, 20, 21, 22, 23, 24, 25, 26, 27, 28, 29, 30, 31, 32, 33, 34, 35, 36, 37, 38, 39, 40, 41, 42, 43, 44, 45] (by decide +kernel) (by decide +kernel)
set_option maxRecDepth 20000 in
theorem gX8_readSemicolon_X8_nextToken : GoodIn wsX8_readSemicolon (wsV RX8 48 RX8 yX8_nextToken wsX8_nextToken) := goodIn_app (goodIn_of _ (by decide +kernel)) ggX8_readSemicolon_X8_nextToken
theorem dX8_readSemicolon_0 : decode cX8_readSemicolon 0 = .ok (.aload_n 0, 1) := by decide +kernel
theorem dX8_readSemicolon_1 : decode cX8_readSemicolon 1 = .ok (.getfield 36, 3) := by decide +kernel
theorem dX8_readSemicolon_4 : decode cX8_readSemicolon 4 = .ok (.iconst 3, 1) := by decide +kernel
theorem dX8_readSemicolon_5 : decode cX8_readSemicolon 5 = .ok (.if_icmp .eq 9, 3) := by decide +kernel
theorem dX8_readSemicolon_8 : decode cX8_readSemicolon 8 = .ok (.aload_n 0, 1) := by decide +kernel
theorem dX8_readSemicolon_9 : decode cX8_readSemicolon 9 = .ok (.iconst 1, 1) := by decide +kernel
theorem dX8_readSemicolon_10 : decode cX8_readSemicolon 10 = .ok (.invokevirtual 57, 3) := by decide +kernel
theorem dX8_readSemicolon_13 : decode cX8_readSemicolon 13 = .ok (.ireturn, 1) := by decide +kernel
theorem dX8_readSemicolon_14 : decode cX8_readSemicolon 14 = .ok (.aload_n 0, 1) := by decide +kernel
theorem dX8_readSemicolon_15 : decode cX8_readSemicolon 15 = .ok (.invokevirtual 48, 3) := by decide +kernel
theorem dX8_readSemicolon_18 : decode cX8_readSemicolon 18 = .ok (.iconst 1, 1) := by decide +kernel
theorem dX8_readSemicolon_19 : decode cX8_readSemicolon 19 = .ok (.ireturn, 1) := by decide +kernel
set_option maxRecDepth 20000 in
theorem ggX8_isName_X8_isWord : GoodIn wsX8_isName wsX8_isWord := goodIn_r _ [7, 1, 8, 9, 10, 11, 12, 13, 14, 15, 16, 17, 18, 19, 20, 21, 22, 23, 24, 6, 25, 26, 27, 28, 29, 30, 31, 32, 33, 34, 35, 36, 37, 38, 39, 40, 41, 42, 43, 44, 45, 46, 47, 48, 49, 50, 51, 52, 53, 54, 55, 56, 57, 58, 59, 60, 61, 62, 63, 64, 65, 66, 67, 68, 69, 70, 71, 72, 73, 74] (by decide +kernel) (by decide +kernel)
set_option maxRecDepth 20000 in
theorem gX8_isName_X8_isWord : GoodIn wsX8_isName (wsV RX8 53 RX8 yX8_isWord wsX8_isWord) := goodIn_app (goodIn_of _ (by decide +kernel)) ggX8_isName_X8_isWord
theorem dX8_isName_0 : decode cX8_isName 0 = .ok (.aload_n 0, 1) := by decide +kernel
theorem dX8_isName_1 : decode cX8_isName 1 = .ok (.getfield 36, 3) := by decide +kernel
theorem dX8_isName_4 : decode cX8_isName 4 = .ok (.iconst 1, 1) := by decide +kernel
theorem dX8_isName_5 : decode cX8_isName 5 = .ok (.if_icmp .ne 24, 3) := by decide +kernel
theorem dX8_isName_8 : decode cX8_isName 8 = .ok (.aload_n 0, 1) := by decide +kernel
theorem dX8_isName_9 : decode cX8_isName 9 = .ok (.getfield 45, 3) := by decide +kernel
theorem dX8_isName_12 : decode cX8_isName 12 = .ok (.iconst (-1), 1) := by decide +kernel
theorem dX8_isName_13 : decode cX8_isName 13 = .ok (.if_icmp .eq 16, 3) := by decide +kernel
theorem dX8_isName_16 : decode cX8_isName 16 = .ok (.aload_n 0, 1) := by decide +kernel
theorem dX8_isName_17 : decode cX8_isName 17 = .ok (.ldc 121, 2) := by decide +kernel
theorem dX8_isName_19 : decode cX8_isName 19 = .ok (.invokevirtual 53, 3) := by decide +kernel
theorem dX8_isName_22 : decode cX8_isName 22 = .ok (.ifCond .ne 7, 3) := by decide +kernel
theorem dX8_isName_25 : decode cX8_isName 25 = .ok (.iconst 1, 1) := by decide +kernel
theorem dX8_isName_26 : decode cX8_isName 26 = .ok (.goto 4, 3) := by decide +kernel
theorem dX8_isName_29 : decode cX8_isName 29 = .ok (.iconst 0, 1) := by decide +kernel
theorem dX8_isName_30 : decode cX8_isName 30 = .ok (.ireturn, 1) := by decide +kernel
set_option maxRecDepth 20000 in
theorem ggX8_isWord_J0_length_8abf5 : GoodIn wsX8_isWord wsJ0_length_8abf5 := goodIn_r _ [8, 9, 10, 11, 12, 7, 13, 14, 15] (by decide +kernel) (by decide +kernel)
set_option maxRecDepth 20000 in
theorem gX8_isWord_J0_length_8abf5 : GoodIn wsX8_isWord (wsV RX8 149 RJ0 yJ0_length_8abf5 wsJ0_length_8abf5) := goodIn_app (goodIn_of _ (by decide +kernel)) ggX8_isWord_J0_length_8abf5
set_option maxRecDepth 20000 in
theorem ggX8_isWord_X8_byteAt : GoodIn wsX8_isWord wsX8_byteAt := goodIn_r _ [20, 21, 22, 60, 61, 62, 63, 64, 65, 66, 67, 68, 69] (by decide +kernel) (by decide +kernel)
set_option maxRecDepth 20000 in
theorem gX8_isWord_X8_byteAt : GoodIn wsX8_isWord (wsV RX8 154 RX8 yX8_byteAt wsX8_byteAt) := goodIn_app (goodIn_of _ (by decide +kernel)) ggX8_isWord_X8_byteAt
set_option maxRecDepth 20000 in
theorem ggX8_isWord_J0_charAt_5068e : GoodIn wsX8_isWord wsJ0_charAt_5068e := goodIn_r _ [26, 9, 27, 28, 29, 7, 30, 14, 15, 31, 32, 33, 34, 35, 36, 37, 38, 39, 40, 41, 42, 43, 44, 45, 46, 47, 48, 49, 50, 51, 52, 53, 54, 55, 56, 57, 58, 59] (by decide +kernel) (by decide +kernel)
set_option maxRecDepth 20000 in
theorem gX8_isWord_J0_charAt_5068e : GoodIn wsX8_isWord (wsV RX8 157 RJ0 yJ0_charAt_5068e wsJ0_charAt_5068e) := goodIn_app (goodIn_of _ (by decide +kernel)) ggX8_isWord_J0_charAt_5068e
theorem dX8_isWord_0 : decode cX8_isWord 0 = .ok (.aload_n 0, 1) := by decide +kernel
theorem dX8_isWord_1 : decode cX8_isWord 1 = .ok (.getfield 36, 3) := by decide +kernel
theorem dX8_isWord_4 : decode cX8_isWord 4 = .ok (.iconst 1, 1) := by decide +kernel
theorem dX8_isWord_5 : decode cX8_isWord 5 = .ok (.if_icmp .ne 19, 3) := by decide +kernel
theorem dX8_isWord_8 : decode cX8_isWord 8 = .ok (.aload_n 0, 1) := by decide +kernel
theorem dX8_isWord_9 : decode cX8_isWord 9 = .ok (.getfield 42, 3) := by decide +kernel
theorem dX8_isWord_12 : decode cX8_isWord 12 = .ok (.aload_n 0, 1) := by decide +kernel
theorem dX8_isWord_13 : decode cX8_isWord 13 = .ok (.getfield 39, 3) := by decide +kernel
theorem dX8_isWord_16 : decode cX8_isWord 16 = .ok (.isub, 1) := by decide +kernel
theorem dX8_isWord_17 : decode cX8_isWord 17 = .ok (.aload_n 1, 1) := by decide +kernel
theorem dX8_isWord_18 : decode cX8_isWord 18 = .ok (.invokevirtual 149, 3) := by decide +kernel
theorem dX8_isWord_21 : decode cX8_isWord 21 = .ok (.if_icmp .eq 5, 3) := by decide +kernel
theorem dX8_isWord_24 : decode cX8_isWord 24 = .ok (.iconst 0, 1) := by decide +kernel
theorem dX8_isWord_25 : decode cX8_isWord 25 = .ok (.ireturn, 1) := by decide +kernel
theorem dX8_isWord_26 : decode cX8_isWord 26 = .ok (.iconst 0, 1) := by decide +kernel
theorem dX8_isWord_27 : decode cX8_isWord 27 = .ok (.istore_n 2, 1) := by decide +kernel
theorem dX8_isWord_28 : decode cX8_isWord 28 = .ok (.iload_n 2, 1) := by decide +kernel
theorem dX8_isWord_29 : decode cX8_isWord 29 = .ok (.aload_n 1, 1) := by decide +kernel
theorem dX8_isWord_30 : decode cX8_isWord 30 = .ok (.invokevirtual 149, 3) := by decide +kernel
theorem dX8_isWord_33 : decode cX8_isWord 33 = .ok (.if_icmp .ge 29, 3) := by decide +kernel
theorem dX8_isWord_36 : decode cX8_isWord 36 = .ok (.aload_n 0, 1) := by decide +kernel
theorem dX8_isWord_37 : decode cX8_isWord 37 = .ok (.aload_n 0, 1) := by decide +kernel
theorem dX8_isWord_38 : decode cX8_isWord 38 = .ok (.getfield 39, 3) := by decide +kernel
theorem dX8_isWord_41 : decode cX8_isWord 41 = .ok (.iload_n 2, 1) := by decide +kernel
theorem dX8_isWord_42 : decode cX8_isWord 42 = .ok (.iadd, 1) := by decide +kernel
theorem dX8_isWord_43 : decode cX8_isWord 43 = .ok (.invokevirtual 154, 3) := by decide +kernel
theorem dX8_isWord_46 : decode cX8_isWord 46 = .ok (.aload_n 1, 1) := by decide +kernel
theorem dX8_isWord_47 : decode cX8_isWord 47 = .ok (.iload_n 2, 1) := by decide +kernel
theorem dX8_isWord_48 : decode cX8_isWord 48 = .ok (.invokevirtual 157, 3) := by decide +kernel
theorem dX8_isWord_51 : decode cX8_isWord 51 = .ok (.if_icmp .eq 5, 3) := by decide +kernel
theorem dX8_isWord_54 : decode cX8_isWord 54 = .ok (.iconst 0, 1) := by decide +kernel
theorem dX8_isWord_55 : decode cX8_isWord 55 = .ok (.ireturn, 1) := by decide +kernel
theorem dX8_isWord_56 : decode cX8_isWord 56 = .ok (.iinc 2 1, 3) := by decide +kernel
theorem dX8_isWord_59 : decode cX8_isWord 59 = .ok (.goto (-31), 3) := by decide +kernel
theorem dX8_isWord_62 : decode cX8_isWord 62 = .ok (.iconst 1, 1) := by decide +kernel
theorem dX8_isWord_63 : decode cX8_isWord 63 = .ok (.ireturn, 1) := by decide +kernel
theorem dX8_variableOf_0 : decode cX8_variableOf 0 = .ok (.iconst 0, 1) := by decide +kernel
theorem dX8_variableOf_1 : decode cX8_variableOf 1 = .ok (.istore_n 2, 1) := by decide +kernel
theorem dX8_variableOf_2 : decode cX8_variableOf 2 = .ok (.iload_n 2, 1) := by decide +kernel
theorem dX8_variableOf_3 : decode cX8_variableOf 3 = .ok (.aload_n 0, 1) := by decide +kernel
theorem dX8_variableOf_4 : decode cX8_variableOf 4 = .ok (.getfield 32, 3) := by decide +kernel
theorem dX8_variableOf_7 : decode cX8_variableOf 7 = .ok (.getfield 79, 3) := by decide +kernel
theorem dX8_variableOf_10 : decode cX8_variableOf 10 = .ok (.if_icmp .ge 30, 3) := by decide +kernel
theorem dX8_variableOf_13 : decode cX8_variableOf 13 = .ok (.iload_n 2, 1) := by decide +kernel
theorem dX8_variableOf_14 : decode cX8_variableOf 14 = .ok (.aload_n 0, 1) := by decide +kernel
theorem dX8_variableOf_15 : decode cX8_variableOf 15 = .ok (.getfield 15, 3) := by decide +kernel
theorem dX8_variableOf_18 : decode cX8_variableOf 18 = .ok (.arraylength, 1) := by decide +kernel
theorem dX8_variableOf_19 : decode cX8_variableOf 19 = .ok (.if_icmp .ge 21, 3) := by decide +kernel
theorem dX8_variableOf_22 : decode cX8_variableOf 22 = .ok (.aload_n 0, 1) := by decide +kernel
theorem dX8_variableOf_23 : decode cX8_variableOf 23 = .ok (.getfield 15, 3) := by decide +kernel
theorem dX8_variableOf_26 : decode cX8_variableOf 26 = .ok (.iload_n 2, 1) := by decide +kernel
theorem dX8_variableOf_27 : decode cX8_variableOf 27 = .ok (.iaload, 1) := by decide +kernel
theorem dX8_variableOf_28 : decode cX8_variableOf 28 = .ok (.iload_n 1, 1) := by decide +kernel
theorem dX8_variableOf_29 : decode cX8_variableOf 29 = .ok (.if_icmp .ne 5, 3) := by decide +kernel
theorem dX8_variableOf_32 : decode cX8_variableOf 32 = .ok (.iload_n 2, 1) := by decide +kernel
theorem dX8_variableOf_33 : decode cX8_variableOf 33 = .ok (.ireturn, 1) := by decide +kernel
theorem dX8_variableOf_34 : decode cX8_variableOf 34 = .ok (.iinc 2 1, 3) := by decide +kernel
theorem dX8_variableOf_37 : decode cX8_variableOf 37 = .ok (.goto (-35), 3) := by decide +kernel
theorem dX8_variableOf_40 : decode cX8_variableOf 40 = .ok (.iconst (-1), 1) := by decide +kernel
theorem dX8_variableOf_41 : decode cX8_variableOf 41 = .ok (.ireturn, 1) := by decide +kernel
theorem dX8_byteAt_0 : decode cX8_byteAt 0 = .ok (.iload_n 1, 1) := by decide +kernel
theorem dX8_byteAt_1 : decode cX8_byteAt 1 = .ok (.ifCond .lt 33, 3) := by decide +kernel
theorem dX8_byteAt_4 : decode cX8_byteAt 4 = .ok (.iload_n 1, 1) := by decide +kernel
theorem dX8_byteAt_5 : decode cX8_byteAt 5 = .ok (.aload_n 0, 1) := by decide +kernel
theorem dX8_byteAt_6 : decode cX8_byteAt 6 = .ok (.getfield 19, 3) := by decide +kernel
theorem dX8_byteAt_9 : decode cX8_byteAt 9 = .ok (.if_icmp .ge 25, 3) := by decide +kernel
theorem dX8_byteAt_12 : decode cX8_byteAt 12 = .ok (.iload_n 1, 1) := by decide +kernel
theorem dX8_byteAt_13 : decode cX8_byteAt 13 = .ok (.aload_n 0, 1) := by decide +kernel
theorem dX8_byteAt_14 : decode cX8_byteAt 14 = .ok (.getfield 11, 3) := by decide +kernel
theorem dX8_byteAt_17 : decode cX8_byteAt 17 = .ok (.arraylength, 1) := by decide +kernel
theorem dX8_byteAt_18 : decode cX8_byteAt 18 = .ok (.if_icmp .ge 16, 3) := by decide +kernel
theorem dX8_byteAt_21 : decode cX8_byteAt 21 = .ok (.aload_n 0, 1) := by decide +kernel
theorem dX8_byteAt_22 : decode cX8_byteAt 22 = .ok (.getfield 11, 3) := by decide +kernel
theorem dX8_byteAt_25 : decode cX8_byteAt 25 = .ok (.iload_n 1, 1) := by decide +kernel
theorem dX8_byteAt_26 : decode cX8_byteAt 26 = .ok (.baload, 1) := by decide +kernel
theorem dX8_byteAt_27 : decode cX8_byteAt 27 = .ok (.sipush 255, 3) := by decide +kernel
theorem dX8_byteAt_30 : decode cX8_byteAt 30 = .ok (.iand, 1) := by decide +kernel
theorem dX8_byteAt_31 : decode cX8_byteAt 31 = .ok (.goto 4, 3) := by decide +kernel
theorem dX8_byteAt_34 : decode cX8_byteAt 34 = .ok (.iconst (-1), 1) := by decide +kernel
theorem dX8_byteAt_35 : decode cX8_byteAt 35 = .ok (.ireturn, 1) := by decide +kernel
theorem dX8_isLetter_0 : decode cX8_isLetter 0 = .ok (.iload_n 0, 1) := by decide +kernel
theorem dX8_isLetter_1 : decode cX8_isLetter 1 = .ok (.bipush 97, 2) := by decide +kernel
theorem dX8_isLetter_3 : decode cX8_isLetter 3 = .ok (.if_icmp .lt 13, 3) := by decide +kernel
theorem dX8_isLetter_6 : decode cX8_isLetter 6 = .ok (.iload_n 0, 1) := by decide +kernel
theorem dX8_isLetter_7 : decode cX8_isLetter 7 = .ok (.bipush 122, 2) := by decide +kernel
theorem dX8_isLetter_9 : decode cX8_isLetter 9 = .ok (.if_icmp .gt 7, 3) := by decide +kernel
theorem dX8_isLetter_12 : decode cX8_isLetter 12 = .ok (.iconst 1, 1) := by decide +kernel
theorem dX8_isLetter_13 : decode cX8_isLetter 13 = .ok (.goto 4, 3) := by decide +kernel
theorem dX8_isLetter_16 : decode cX8_isLetter 16 = .ok (.iconst 0, 1) := by decide +kernel
theorem dX8_isLetter_17 : decode cX8_isLetter 17 = .ok (.ireturn, 1) := by decide +kernel
theorem dX8_isDigit_0 : decode cX8_isDigit 0 = .ok (.iload_n 0, 1) := by decide +kernel
theorem dX8_isDigit_1 : decode cX8_isDigit 1 = .ok (.bipush 48, 2) := by decide +kernel
theorem dX8_isDigit_3 : decode cX8_isDigit 3 = .ok (.if_icmp .lt 13, 3) := by decide +kernel
theorem dX8_isDigit_6 : decode cX8_isDigit 6 = .ok (.iload_n 0, 1) := by decide +kernel
theorem dX8_isDigit_7 : decode cX8_isDigit 7 = .ok (.bipush 57, 2) := by decide +kernel
theorem dX8_isDigit_9 : decode cX8_isDigit 9 = .ok (.if_icmp .gt 7, 3) := by decide +kernel
theorem dX8_isDigit_12 : decode cX8_isDigit 12 = .ok (.iconst 1, 1) := by decide +kernel
theorem dX8_isDigit_13 : decode cX8_isDigit 13 = .ok (.goto 4, 3) := by decide +kernel
theorem dX8_isDigit_16 : decode cX8_isDigit 16 = .ok (.iconst 0, 1) := by decide +kernel
theorem dX8_isDigit_17 : decode cX8_isDigit 17 = .ok (.ireturn, 1) := by decide +kernel
set_option maxRecDepth 20000 in
theorem ggX8_nextToken_X8_byteAt : GoodIn wsX8_nextToken wsX8_byteAt := goodIn_r _ [9, 3, 10, 26, 27, 28, 29, 30, 31, 32, 33, 34, 35] (by decide +kernel) (by decide +kernel)
set_option maxRecDepth 20000 in
theorem gX8_nextToken_X8_byteAt : GoodIn wsX8_nextToken (wsV RX8 154 RX8 yX8_byteAt wsX8_byteAt) := goodIn_app (goodIn_of _ (by decide +kernel)) ggX8_nextToken_X8_byteAt
set_option maxRecDepth 20000 in
theorem ggX8_nextToken_X8_isLetter : GoodIn wsX8_nextToken wsX8_isLetter := goodIn_r _ [13] (by decide +kernel) (by decide +kernel)
set_option maxRecDepth 20000 in
theorem gX8_nextToken_X8_isLetter : GoodIn wsX8_nextToken (va_wsS RX8 161 yX8_isLetter wsX8_isLetter) := goodIn_app (goodIn_of _ (by decide +kernel)) ggX8_nextToken_X8_isLetter
set_option maxRecDepth 20000 in
theorem ggX8_nextToken_X8_takeWord : GoodIn wsX8_nextToken wsX8_takeWord := goodIn_r _ [17, 1, 3, 4, 2, 18, 5, 6, 7, 8, 9, 10, 11, 12, 13, 26, 27, 28, 29, 30, 31, 32, 33, 34, 35] (by decide +kernel) (by decide +kernel)
set_option maxRecDepth 20000 in
theorem gX8_nextToken_X8_takeWord : GoodIn wsX8_nextToken (wsV RX8 164 RX8 yX8_takeWord wsX8_takeWord) := goodIn_app (goodIn_of _ (by decide +kernel)) ggX8_nextToken_X8_takeWord
set_option maxRecDepth 20000 in
theorem ggX8_nextToken_X8_isDigit : GoodIn wsX8_nextToken wsX8_isDigit := goodIn_r _ [21] (by decide +kernel) (by decide +kernel)
set_option maxRecDepth 20000 in
theorem gX8_nextToken_X8_isDigit : GoodIn wsX8_nextToken (va_wsS RX8 167 yX8_isDigit wsX8_isDigit) := goodIn_app (goodIn_of _ (by decide +kernel)) ggX8_nextToken_X8_isDigit
set_option maxRecDepth 20000 in
theorem ggX8_nextToken_X8_takeNumber : GoodIn wsX8_nextToken wsX8_takeNumber := goodIn_r _ [25, 1, 3, 2, 4, 18, 5, 6, 7, 8, 9, 10, 19, 20, 21, 26, 27, 28, 29, 30, 31, 32, 33, 34, 35] (by decide +kernel) (by decide +kernel)
set_option maxRecDepth 20000 in
theorem gX8_nextToken_X8_takeNumber : GoodIn wsX8_nextToken (wsV RX8 170 RX8 yX8_takeNumber wsX8_takeNumber) := goodIn_app (goodIn_of _ (by decide +kernel)) ggX8_nextToken_X8_takeNumber
theorem dX8_nextToken_0 : decode cX8_nextToken 0 = .ok (.aload_n 0, 1) := by decide +kernel
theorem dX8_nextToken_1 : decode cX8_nextToken 1 = .ok (.aload_n 0, 1) := by decide +kernel
theorem dX8_nextToken_2 : decode cX8_nextToken 2 = .ok (.getfield 42, 3) := by decide +kernel
theorem dX8_nextToken_5 : decode cX8_nextToken 5 = .ok (.putfield 39, 3) := by decide +kernel
theorem dX8_nextToken_8 : decode cX8_nextToken 8 = .ok (.aload_n 0, 1) := by decide +kernel
theorem dX8_nextToken_9 : decode cX8_nextToken 9 = .ok (.getfield 39, 3) := by decide +kernel
theorem dX8_nextToken_12 : decode cX8_nextToken 12 = .ok (.aload_n 0, 1) := by decide +kernel
theorem dX8_nextToken_13 : decode cX8_nextToken 13 = .ok (.getfield 19, 3) := by decide +kernel
theorem dX8_nextToken_16 : decode cX8_nextToken 16 = .ok (.if_icmp .ge 42, 3) := by decide +kernel
theorem dX8_nextToken_19 : decode cX8_nextToken 19 = .ok (.aload_n 0, 1) := by decide +kernel
theorem dX8_nextToken_20 : decode cX8_nextToken 20 = .ok (.aload_n 0, 1) := by decide +kernel
theorem dX8_nextToken_21 : decode cX8_nextToken 21 = .ok (.getfield 39, 3) := by decide +kernel
theorem dX8_nextToken_24 : decode cX8_nextToken 24 = .ok (.invokevirtual 154, 3) := by decide +kernel
theorem dX8_nextToken_27 : decode cX8_nextToken 27 = .ok (.bipush 32, 2) := by decide +kernel
theorem dX8_nextToken_29 : decode cX8_nextToken 29 = .ok (.if_icmp .eq 16, 3) := by decide +kernel
theorem dX8_nextToken_32 : decode cX8_nextToken 32 = .ok (.aload_n 0, 1) := by decide +kernel
theorem dX8_nextToken_33 : decode cX8_nextToken 33 = .ok (.aload_n 0, 1) := by decide +kernel
theorem dX8_nextToken_34 : decode cX8_nextToken 34 = .ok (.getfield 39, 3) := by decide +kernel
theorem dX8_nextToken_37 : decode cX8_nextToken 37 = .ok (.invokevirtual 154, 3) := by decide +kernel
theorem dX8_nextToken_40 : decode cX8_nextToken 40 = .ok (.bipush 10, 2) := by decide +kernel
theorem dX8_nextToken_42 : decode cX8_nextToken 42 = .ok (.if_icmp .ne 16, 3) := by decide +kernel
theorem dX8_nextToken_45 : decode cX8_nextToken 45 = .ok (.aload_n 0, 1) := by decide +kernel
theorem dX8_nextToken_46 : decode cX8_nextToken 46 = .ok (.dup, 1) := by decide +kernel
theorem dX8_nextToken_47 : decode cX8_nextToken 47 = .ok (.getfield 39, 3) := by decide +kernel
theorem dX8_nextToken_50 : decode cX8_nextToken 50 = .ok (.iconst 1, 1) := by decide +kernel
theorem dX8_nextToken_51 : decode cX8_nextToken 51 = .ok (.iadd, 1) := by decide +kernel
theorem dX8_nextToken_52 : decode cX8_nextToken 52 = .ok (.putfield 39, 3) := by decide +kernel
theorem dX8_nextToken_55 : decode cX8_nextToken 55 = .ok (.goto (-47), 3) := by decide +kernel
theorem dX8_nextToken_58 : decode cX8_nextToken 58 = .ok (.aload_n 0, 1) := by decide +kernel
theorem dX8_nextToken_59 : decode cX8_nextToken 59 = .ok (.aload_n 0, 1) := by decide +kernel
theorem dX8_nextToken_60 : decode cX8_nextToken 60 = .ok (.getfield 39, 3) := by decide +kernel
theorem dX8_nextToken_63 : decode cX8_nextToken 63 = .ok (.putfield 42, 3) := by decide +kernel
theorem dX8_nextToken_66 : decode cX8_nextToken 66 = .ok (.aload_n 0, 1) := by decide +kernel
theorem dX8_nextToken_67 : decode cX8_nextToken 67 = .ok (.aload_n 0, 1) := by decide +kernel
theorem dX8_nextToken_68 : decode cX8_nextToken 68 = .ok (.getfield 39, 3) := by decide +kernel
theorem dX8_nextToken_71 : decode cX8_nextToken 71 = .ok (.invokevirtual 154, 3) := by decide +kernel
theorem dX8_nextToken_74 : decode cX8_nextToken 74 = .ok (.istore_n 1, 1) := by decide +kernel
theorem dX8_nextToken_75 : decode cX8_nextToken 75 = .ok (.iload_n 1, 1) := by decide +kernel
theorem dX8_nextToken_76 : decode cX8_nextToken 76 = .ok (.invokestatic 161, 3) := by decide +kernel
theorem dX8_nextToken_79 : decode cX8_nextToken 79 = .ok (.ifCond .eq 10, 3) := by decide +kernel
theorem dX8_nextToken_82 : decode cX8_nextToken 82 = .ok (.aload_n 0, 1) := by decide +kernel
theorem dX8_nextToken_83 : decode cX8_nextToken 83 = .ok (.invokevirtual 164, 3) := by decide +kernel
theorem dX8_nextToken_86 : decode cX8_nextToken 86 = .ok (.goto 61, 3) := by decide +kernel
theorem dX8_nextToken_89 : decode cX8_nextToken 89 = .ok (.iload_n 1, 1) := by decide +kernel
theorem dX8_nextToken_90 : decode cX8_nextToken 90 = .ok (.invokestatic 167, 3) := by decide +kernel
theorem dX8_nextToken_93 : decode cX8_nextToken 93 = .ok (.ifCond .eq 10, 3) := by decide +kernel
theorem dX8_nextToken_96 : decode cX8_nextToken 96 = .ok (.aload_n 0, 1) := by decide +kernel
theorem dX8_nextToken_97 : decode cX8_nextToken 97 = .ok (.invokevirtual 170, 3) := by decide +kernel
theorem dX8_nextToken_100 : decode cX8_nextToken 100 = .ok (.goto 47, 3) := by decide +kernel
theorem dX8_nextToken_103 : decode cX8_nextToken 103 = .ok (.aload_n 0, 1) := by decide +kernel
theorem dX8_nextToken_104 : decode cX8_nextToken 104 = .ok (.getfield 39, 3) := by decide +kernel
theorem dX8_nextToken_107 : decode cX8_nextToken 107 = .ok (.aload_n 0, 1) := by decide +kernel
theorem dX8_nextToken_108 : decode cX8_nextToken 108 = .ok (.getfield 19, 3) := by decide +kernel
theorem dX8_nextToken_111 : decode cX8_nextToken 111 = .ok (.if_icmp .lt 11, 3) := by decide +kernel
theorem dX8_nextToken_114 : decode cX8_nextToken 114 = .ok (.aload_n 0, 1) := by decide +kernel
theorem dX8_nextToken_115 : decode cX8_nextToken 115 = .ok (.iconst 0, 1) := by decide +kernel
theorem dX8_nextToken_116 : decode cX8_nextToken 116 = .ok (.putfield 36, 3) := by decide +kernel
theorem dX8_nextToken_119 : decode cX8_nextToken 119 = .ok (.goto 28, 3) := by decide +kernel
theorem dX8_nextToken_122 : decode cX8_nextToken 122 = .ok (.aload_n 0, 1) := by decide +kernel
theorem dX8_nextToken_123 : decode cX8_nextToken 123 = .ok (.iload_n 1, 1) := by decide +kernel
theorem dX8_nextToken_124 : decode cX8_nextToken 124 = .ok (.bipush 59, 2) := by decide +kernel
theorem dX8_nextToken_126 : decode cX8_nextToken 126 = .ok (.if_icmp .ne 7, 3) := by decide +kernel
theorem dX8_nextToken_129 : decode cX8_nextToken 129 = .ok (.iconst 3, 1) := by decide +kernel
theorem dX8_nextToken_130 : decode cX8_nextToken 130 = .ok (.goto 4, 3) := by decide +kernel
theorem dX8_nextToken_133 : decode cX8_nextToken 133 = .ok (.iconst 4, 1) := by decide +kernel
theorem dX8_nextToken_134 : decode cX8_nextToken 134 = .ok (.putfield 36, 3) := by decide +kernel
theorem dX8_nextToken_137 : decode cX8_nextToken 137 = .ok (.aload_n 0, 1) := by decide +kernel
theorem dX8_nextToken_138 : decode cX8_nextToken 138 = .ok (.aload_n 0, 1) := by decide +kernel
theorem dX8_nextToken_139 : decode cX8_nextToken 139 = .ok (.getfield 39, 3) := by decide +kernel
theorem dX8_nextToken_142 : decode cX8_nextToken 142 = .ok (.iconst 1, 1) := by decide +kernel
theorem dX8_nextToken_143 : decode cX8_nextToken 143 = .ok (.iadd, 1) := by decide +kernel
theorem dX8_nextToken_144 : decode cX8_nextToken 144 = .ok (.putfield 42, 3) := by decide +kernel
theorem dX8_nextToken_147 : decode cX8_nextToken 147 = .ok (.return_, 1) := by decide +kernel
set_option maxRecDepth 20000 in
theorem ggX8_takeWord_X8_byteAt : GoodIn wsX8_takeWord wsX8_byteAt := goodIn_r _ [10, 2, 11, 15, 16, 17, 18, 19, 20, 21, 22, 23, 24] (by decide +kernel) (by decide +kernel)
set_option maxRecDepth 20000 in
theorem gX8_takeWord_X8_byteAt : GoodIn wsX8_takeWord (wsV RX8 154 RX8 yX8_byteAt wsX8_byteAt) := goodIn_app (goodIn_of _ (by decide +kernel)) ggX8_takeWord_X8_byteAt
set_option maxRecDepth 20000 in
theorem ggX8_takeWord_X8_isLetter : GoodIn wsX8_takeWord wsX8_isLetter := goodIn_r _ [14] (by decide +kernel) (by decide +kernel)
set_option maxRecDepth 20000 in
theorem gX8_takeWord_X8_isLetter : GoodIn wsX8_takeWord (va_wsS RX8 161 yX8_isLetter wsX8_isLetter) := goodIn_app (goodIn_of _ (by decide +kernel)) ggX8_takeWord_X8_isLetter
theorem dX8_takeWord_0 : decode cX8_takeWord 0 = .ok (.iconst 0, 1) := by decide +kernel
theorem dX8_takeWord_1 : decode cX8_takeWord 1 = .ok (.istore_n 1, 1) := by decide +kernel
theorem dX8_takeWord_2 : decode cX8_takeWord 2 = .ok (.aload_n 0, 1) := by decide +kernel
theorem dX8_takeWord_3 : decode cX8_takeWord 3 = .ok (.getfield 42, 3) := by decide +kernel
theorem dX8_takeWord_6 : decode cX8_takeWord 6 = .ok (.aload_n 0, 1) := by decide +kernel
theorem dX8_takeWord_7 : decode cX8_takeWord 7 = .ok (.getfield 19, 3) := by decide +kernel
theorem dX8_takeWord_10 : decode cX8_takeWord 10 = .ok (.if_icmp .ge 48, 3) := by decide +kernel
theorem dX8_takeWord_13 : decode cX8_takeWord 13 = .ok (.aload_n 0, 1) := by decide +kernel
theorem dX8_takeWord_14 : decode cX8_takeWord 14 = .ok (.aload_n 0, 1) := by decide +kernel
theorem dX8_takeWord_15 : decode cX8_takeWord 15 = .ok (.getfield 42, 3) := by decide +kernel
theorem dX8_takeWord_18 : decode cX8_takeWord 18 = .ok (.invokevirtual 154, 3) := by decide +kernel
theorem dX8_takeWord_21 : decode cX8_takeWord 21 = .ok (.invokestatic 161, 3) := by decide +kernel
theorem dX8_takeWord_24 : decode cX8_takeWord 24 = .ok (.ifCond .eq 34, 3) := by decide +kernel
theorem dX8_takeWord_27 : decode cX8_takeWord 27 = .ok (.iload_n 1, 1) := by decide +kernel
theorem dX8_takeWord_28 : decode cX8_takeWord 28 = .ok (.iconst 5, 1) := by decide +kernel
theorem dX8_takeWord_29 : decode cX8_takeWord 29 = .ok (.ishl, 1) := by decide +kernel
theorem dX8_takeWord_30 : decode cX8_takeWord 30 = .ok (.aload_n 0, 1) := by decide +kernel
theorem dX8_takeWord_31 : decode cX8_takeWord 31 = .ok (.aload_n 0, 1) := by decide +kernel
theorem dX8_takeWord_32 : decode cX8_takeWord 32 = .ok (.getfield 42, 3) := by decide +kernel
theorem dX8_takeWord_35 : decode cX8_takeWord 35 = .ok (.invokevirtual 154, 3) := by decide +kernel
theorem dX8_takeWord_38 : decode cX8_takeWord 38 = .ok (.bipush 97, 2) := by decide +kernel
theorem dX8_takeWord_40 : decode cX8_takeWord 40 = .ok (.isub, 1) := by decide +kernel
theorem dX8_takeWord_41 : decode cX8_takeWord 41 = .ok (.iconst 1, 1) := by decide +kernel
theorem dX8_takeWord_42 : decode cX8_takeWord 42 = .ok (.iadd, 1) := by decide +kernel
theorem dX8_takeWord_43 : decode cX8_takeWord 43 = .ok (.ior, 1) := by decide +kernel
theorem dX8_takeWord_44 : decode cX8_takeWord 44 = .ok (.istore_n 1, 1) := by decide +kernel
theorem dX8_takeWord_45 : decode cX8_takeWord 45 = .ok (.aload_n 0, 1) := by decide +kernel
theorem dX8_takeWord_46 : decode cX8_takeWord 46 = .ok (.dup, 1) := by decide +kernel
theorem dX8_takeWord_47 : decode cX8_takeWord 47 = .ok (.getfield 42, 3) := by decide +kernel
theorem dX8_takeWord_50 : decode cX8_takeWord 50 = .ok (.iconst 1, 1) := by decide +kernel
theorem dX8_takeWord_51 : decode cX8_takeWord 51 = .ok (.iadd, 1) := by decide +kernel
theorem dX8_takeWord_52 : decode cX8_takeWord 52 = .ok (.putfield 42, 3) := by decide +kernel
theorem dX8_takeWord_55 : decode cX8_takeWord 55 = .ok (.goto (-53), 3) := by decide +kernel
theorem dX8_takeWord_58 : decode cX8_takeWord 58 = .ok (.aload_n 0, 1) := by decide +kernel
theorem dX8_takeWord_59 : decode cX8_takeWord 59 = .ok (.iconst 1, 1) := by decide +kernel
theorem dX8_takeWord_60 : decode cX8_takeWord 60 = .ok (.putfield 36, 3) := by decide +kernel
theorem dX8_takeWord_63 : decode cX8_takeWord 63 = .ok (.aload_n 0, 1) := by decide +kernel
theorem dX8_takeWord_64 : decode cX8_takeWord 64 = .ok (.aload_n 0, 1) := by decide +kernel
theorem dX8_takeWord_65 : decode cX8_takeWord 65 = .ok (.getfield 42, 3) := by decide +kernel
theorem dX8_takeWord_68 : decode cX8_takeWord 68 = .ok (.aload_n 0, 1) := by decide +kernel
theorem dX8_takeWord_69 : decode cX8_takeWord 69 = .ok (.getfield 39, 3) := by decide +kernel
theorem dX8_takeWord_72 : decode cX8_takeWord 72 = .ok (.isub, 1) := by decide +kernel
theorem dX8_takeWord_73 : decode cX8_takeWord 73 = .ok (.bipush 6, 2) := by decide +kernel
theorem dX8_takeWord_75 : decode cX8_takeWord 75 = .ok (.if_icmp .le 7, 3) := by decide +kernel
theorem dX8_takeWord_78 : decode cX8_takeWord 78 = .ok (.iconst (-1), 1) := by decide +kernel
theorem dX8_takeWord_79 : decode cX8_takeWord 79 = .ok (.goto 4, 3) := by decide +kernel
theorem dX8_takeWord_82 : decode cX8_takeWord 82 = .ok (.iload_n 1, 1) := by decide +kernel
theorem dX8_takeWord_83 : decode cX8_takeWord 83 = .ok (.putfield 45, 3) := by decide +kernel
theorem dX8_takeWord_86 : decode cX8_takeWord 86 = .ok (.return_, 1) := by decide +kernel
set_option maxRecDepth 20000 in
theorem ggX8_takeNumber_X8_byteAt : GoodIn wsX8_takeNumber wsX8_byteAt := goodIn_r _ [10, 2, 11, 15, 16, 17, 18, 19, 20, 21, 22, 23, 24] (by decide +kernel) (by decide +kernel)
set_option maxRecDepth 20000 in
theorem gX8_takeNumber_X8_byteAt : GoodIn wsX8_takeNumber (wsV RX8 154 RX8 yX8_byteAt wsX8_byteAt) := goodIn_app (goodIn_of _ (by decide +kernel)) ggX8_takeNumber_X8_byteAt
set_option maxRecDepth 20000 in
theorem ggX8_takeNumber_X8_isDigit : GoodIn wsX8_takeNumber wsX8_isDigit := goodIn_r _ [14] (by decide +kernel) (by decide +kernel)
set_option maxRecDepth 20000 in
theorem gX8_takeNumber_X8_isDigit : GoodIn wsX8_takeNumber (va_wsS RX8 167 yX8_isDigit wsX8_isDigit) := goodIn_app (goodIn_of _ (by decide +kernel)) ggX8_takeNumber_X8_isDigit
theorem dX8_takeNumber_0 : decode cX8_takeNumber 0 = .ok (.iconst 0, 1) := by decide +kernel
theorem dX8_takeNumber_1 : decode cX8_takeNumber 1 = .ok (.istore_n 1, 1) := by decide +kernel
theorem dX8_takeNumber_2 : decode cX8_takeNumber 2 = .ok (.aload_n 0, 1) := by decide +kernel
theorem dX8_takeNumber_3 : decode cX8_takeNumber 3 = .ok (.getfield 42, 3) := by decide +kernel
theorem dX8_takeNumber_6 : decode cX8_takeNumber 6 = .ok (.aload_n 0, 1) := by decide +kernel
theorem dX8_takeNumber_7 : decode cX8_takeNumber 7 = .ok (.getfield 19, 3) := by decide +kernel
theorem dX8_takeNumber_10 : decode cX8_takeNumber 10 = .ok (.if_icmp .ge 47, 3) := by decide +kernel
theorem dX8_takeNumber_13 : decode cX8_takeNumber 13 = .ok (.aload_n 0, 1) := by decide +kernel
theorem dX8_takeNumber_14 : decode cX8_takeNumber 14 = .ok (.aload_n 0, 1) := by decide +kernel
theorem dX8_takeNumber_15 : decode cX8_takeNumber 15 = .ok (.getfield 42, 3) := by decide +kernel
theorem dX8_takeNumber_18 : decode cX8_takeNumber 18 = .ok (.invokevirtual 154, 3) := by decide +kernel
theorem dX8_takeNumber_21 : decode cX8_takeNumber 21 = .ok (.invokestatic 167, 3) := by decide +kernel
theorem dX8_takeNumber_24 : decode cX8_takeNumber 24 = .ok (.ifCond .eq 33, 3) := by decide +kernel
theorem dX8_takeNumber_27 : decode cX8_takeNumber 27 = .ok (.bipush 10, 2) := by decide +kernel
theorem dX8_takeNumber_29 : decode cX8_takeNumber 29 = .ok (.iload_n 1, 1) := by decide +kernel
theorem dX8_takeNumber_30 : decode cX8_takeNumber 30 = .ok (.imul, 1) := by decide +kernel
theorem dX8_takeNumber_31 : decode cX8_takeNumber 31 = .ok (.aload_n 0, 1) := by decide +kernel
theorem dX8_takeNumber_32 : decode cX8_takeNumber 32 = .ok (.aload_n 0, 1) := by decide +kernel
theorem dX8_takeNumber_33 : decode cX8_takeNumber 33 = .ok (.getfield 42, 3) := by decide +kernel
theorem dX8_takeNumber_36 : decode cX8_takeNumber 36 = .ok (.invokevirtual 154, 3) := by decide +kernel
theorem dX8_takeNumber_39 : decode cX8_takeNumber 39 = .ok (.iadd, 1) := by decide +kernel
theorem dX8_takeNumber_40 : decode cX8_takeNumber 40 = .ok (.bipush 48, 2) := by decide +kernel
theorem dX8_takeNumber_42 : decode cX8_takeNumber 42 = .ok (.isub, 1) := by decide +kernel
theorem dX8_takeNumber_43 : decode cX8_takeNumber 43 = .ok (.istore_n 1, 1) := by decide +kernel
theorem dX8_takeNumber_44 : decode cX8_takeNumber 44 = .ok (.aload_n 0, 1) := by decide +kernel
theorem dX8_takeNumber_45 : decode cX8_takeNumber 45 = .ok (.dup, 1) := by decide +kernel
theorem dX8_takeNumber_46 : decode cX8_takeNumber 46 = .ok (.getfield 42, 3) := by decide +kernel
theorem dX8_takeNumber_49 : decode cX8_takeNumber 49 = .ok (.iconst 1, 1) := by decide +kernel
theorem dX8_takeNumber_50 : decode cX8_takeNumber 50 = .ok (.iadd, 1) := by decide +kernel
theorem dX8_takeNumber_51 : decode cX8_takeNumber 51 = .ok (.putfield 42, 3) := by decide +kernel
theorem dX8_takeNumber_54 : decode cX8_takeNumber 54 = .ok (.goto (-52), 3) := by decide +kernel
theorem dX8_takeNumber_57 : decode cX8_takeNumber 57 = .ok (.aload_n 0, 1) := by decide +kernel
theorem dX8_takeNumber_58 : decode cX8_takeNumber 58 = .ok (.aload_n 0, 1) := by decide +kernel
theorem dX8_takeNumber_59 : decode cX8_takeNumber 59 = .ok (.getfield 42, 3) := by decide +kernel
theorem dX8_takeNumber_62 : decode cX8_takeNumber 62 = .ok (.aload_n 0, 1) := by decide +kernel
theorem dX8_takeNumber_63 : decode cX8_takeNumber 63 = .ok (.getfield 39, 3) := by decide +kernel
theorem dX8_takeNumber_66 : decode cX8_takeNumber 66 = .ok (.isub, 1) := by decide +kernel
theorem dX8_takeNumber_67 : decode cX8_takeNumber 67 = .ok (.iconst 2, 1) := by decide +kernel
theorem dX8_takeNumber_68 : decode cX8_takeNumber 68 = .ok (.if_icmp .le 7, 3) := by decide +kernel
theorem dX8_takeNumber_71 : decode cX8_takeNumber 71 = .ok (.iconst 4, 1) := by decide +kernel
theorem dX8_takeNumber_72 : decode cX8_takeNumber 72 = .ok (.goto 4, 3) := by decide +kernel
theorem dX8_takeNumber_75 : decode cX8_takeNumber 75 = .ok (.iconst 2, 1) := by decide +kernel
theorem dX8_takeNumber_76 : decode cX8_takeNumber 76 = .ok (.putfield 36, 3) := by decide +kernel
theorem dX8_takeNumber_79 : decode cX8_takeNumber 79 = .ok (.aload_n 0, 1) := by decide +kernel
theorem dX8_takeNumber_80 : decode cX8_takeNumber 80 = .ok (.iload_n 1, 1) := by decide +kernel
theorem dX8_takeNumber_81 : decode cX8_takeNumber 81 = .ok (.putfield 45, 3) := by decide +kernel
theorem dX8_takeNumber_84 : decode cX8_takeNumber 84 = .ok (.return_, 1) := by decide +kernel
set_option maxRecDepth 20000 in
theorem ggX9_init_X3_init : GoodIn wsX9_init wsX3_init := goodIn_r _ [15, 16, 2, 3, 17, 18, 19, 20, 21, 22, 23, 24, 31, 32, 33, 34, 35, 36, 37] (by decide +kernel) (by decide +kernel)
set_option maxRecDepth 20000 in
theorem gX9_init_X3_init_n35 : GoodIn wsX9_init (wsX3_init) := ggX9_init_X3_init
theorem dX9_init_0 : decode cX9_init 0 = .ok (.aload_n 0, 1) := by decide +kernel
theorem dX9_init_1 : decode cX9_init 1 = .ok (.invokespecial 3, 3) := by decide +kernel
theorem dX9_init_4 : decode cX9_init 4 = .ok (.aload_n 0, 1) := by decide +kernel
theorem dX9_init_5 : decode cX9_init 5 = .ok (.bipush 35, 2) := by decide +kernel
theorem dX9_init_7 : decode cX9_init 7 = .ok (.anewarray 9, 3) := by decide +kernel
theorem dX9_init_10 : decode cX9_init 10 = .ok (.putfield 11, 3) := by decide +kernel
theorem dX9_init_13 : decode cX9_init 13 = .ok (.aload_n 0, 1) := by decide +kernel
theorem dX9_init_14 : decode cX9_init 14 = .ok (.bipush 7, 2) := by decide +kernel
theorem dX9_init_16 : decode cX9_init 16 = .ok (.newarray .long, 2) := by decide +kernel
theorem dX9_init_18 : decode cX9_init 18 = .ok (.putfield 17, 3) := by decide +kernel
theorem dX9_init_21 : decode cX9_init 21 = .ok (.aload_n 0, 1) := by decide +kernel
theorem dX9_init_22 : decode cX9_init 22 = .ok (.iconst 0, 1) := by decide +kernel
theorem dX9_init_23 : decode cX9_init 23 = .ok (.putfield 21, 3) := by decide +kernel
theorem dX9_init_26 : decode cX9_init 26 = .ok (.aload_n 0, 1) := by decide +kernel
theorem dX9_init_27 : decode cX9_init 27 = .ok (.iconst 0, 1) := by decide +kernel
theorem dX9_init_28 : decode cX9_init 28 = .ok (.putfield 25, 3) := by decide +kernel
theorem dX9_init_31 : decode cX9_init 31 = .ok (.aload_n 0, 1) := by decide +kernel
theorem dX9_init_32 : decode cX9_init 32 = .ok (.iconst 0, 1) := by decide +kernel
theorem dX9_init_33 : decode cX9_init 33 = .ok (.putfield 28, 3) := by decide +kernel
theorem dX9_init_36 : decode cX9_init 36 = .ok (.aload_n 0, 1) := by decide +kernel
theorem dX9_init_37 : decode cX9_init 37 = .ok (.lconst 0, 1) := by decide +kernel
theorem dX9_init_38 : decode cX9_init 38 = .ok (.putfield 31, 3) := by decide +kernel
theorem dX9_init_41 : decode cX9_init 41 = .ok (.iconst 0, 1) := by decide +kernel
theorem dX9_init_42 : decode cX9_init 42 = .ok (.istore_n 1, 1) := by decide +kernel
theorem dX9_init_43 : decode cX9_init 43 = .ok (.iload_n 1, 1) := by decide +kernel
theorem dX9_init_44 : decode cX9_init 44 = .ok (.aload_n 0, 1) := by decide +kernel
theorem dX9_init_45 : decode cX9_init 45 = .ok (.getfield 11, 3) := by decide +kernel
theorem dX9_init_48 : decode cX9_init 48 = .ok (.arraylength, 1) := by decide +kernel
theorem dX9_init_49 : decode cX9_init 49 = .ok (.if_icmp .ge 22, 3) := by decide +kernel
theorem dX9_init_52 : decode cX9_init 52 = .ok (.aload_n 0, 1) := by decide +kernel
theorem dX9_init_53 : decode cX9_init 53 = .ok (.getfield 11, 3) := by decide +kernel
theorem dX9_init_56 : decode cX9_init 56 = .ok (.iload_n 1, 1) := by decide +kernel
theorem dX9_init_57 : decode cX9_init 57 = .ok (.new 9, 3) := by decide +kernel
theorem dX9_init_60 : decode cX9_init 60 = .ok (.dup, 1) := by decide +kernel
theorem dX9_init_61 : decode cX9_init 61 = .ok (.invokespecial 35, 3) := by decide +kernel
theorem dX9_init_64 : decode cX9_init 64 = .ok (.aastore, 1) := by decide +kernel
theorem dX9_init_65 : decode cX9_init 65 = .ok (.iinc 1 1, 3) := by decide +kernel
theorem dX9_init_68 : decode cX9_init 68 = .ok (.goto (-25), 3) := by decide +kernel
theorem dX9_init_71 : decode cX9_init 71 = .ok (.return_, 1) := by decide +kernel
theorem dX9_begin_0 : decode cX9_begin 0 = .ok (.aload_n 0, 1) := by decide +kernel
theorem dX9_begin_1 : decode cX9_begin 1 = .ok (.iload_n 1, 1) := by decide +kernel
theorem dX9_begin_2 : decode cX9_begin 2 = .ok (.putfield 21, 3) := by decide +kernel
theorem dX9_begin_5 : decode cX9_begin 5 = .ok (.aload_n 0, 1) := by decide +kernel
theorem dX9_begin_6 : decode cX9_begin 6 = .ok (.iconst 0, 1) := by decide +kernel
theorem dX9_begin_7 : decode cX9_begin 7 = .ok (.putfield 25, 3) := by decide +kernel
theorem dX9_begin_10 : decode cX9_begin 10 = .ok (.aload_n 0, 1) := by decide +kernel
theorem dX9_begin_11 : decode cX9_begin 11 = .ok (.iconst 0, 1) := by decide +kernel
theorem dX9_begin_12 : decode cX9_begin 12 = .ok (.putfield 28, 3) := by decide +kernel
theorem dX9_begin_15 : decode cX9_begin 15 = .ok (.aload_n 0, 1) := by decide +kernel
theorem dX9_begin_16 : decode cX9_begin 16 = .ok (.lload_n 2, 1) := by decide +kernel
theorem dX9_begin_17 : decode cX9_begin 17 = .ok (.putfield 31, 3) := by decide +kernel
theorem dX9_begin_20 : decode cX9_begin 20 = .ok (.return_, 1) := by decide +kernel
set_option maxRecDepth 20000 in
theorem ggX9_hasFailed_X5_variablesIn : GoodIn wsX9_hasFailed wsX5_variablesIn := goodIn_r _ [6, 7, 8, 5, 9, 10, 11, 12, 13, 14, 15, 16, 17] (by decide +kernel) (by decide +kernel)
set_option maxRecDepth 20000 in
theorem gX9_hasFailed_X5_variablesIn : GoodIn wsX9_hasFailed (va_wsS RX9 36 yX5_variablesIn wsX5_variablesIn) := goodIn_app (goodIn_of _ (by decide +kernel)) ggX9_hasFailed_X5_variablesIn
theorem dX9_hasFailed_0 : decode cX9_hasFailed 0 = .ok (.aload_n 0, 1) := by decide +kernel
theorem dX9_hasFailed_1 : decode cX9_hasFailed 1 = .ok (.getfield 31, 3) := by decide +kernel
theorem dX9_hasFailed_4 : decode cX9_hasFailed 4 = .ok (.invokestatic 36, 3) := by decide +kernel
theorem dX9_hasFailed_7 : decode cX9_hasFailed 7 = .ok (.aload_n 0, 1) := by decide +kernel
theorem dX9_hasFailed_8 : decode cX9_hasFailed 8 = .ok (.getfield 21, 3) := by decide +kernel
theorem dX9_hasFailed_11 : decode cX9_hasFailed 11 = .ok (.if_icmp .ge 7, 3) := by decide +kernel
theorem dX9_hasFailed_14 : decode cX9_hasFailed 14 = .ok (.iconst 1, 1) := by decide +kernel
theorem dX9_hasFailed_15 : decode cX9_hasFailed 15 = .ok (.goto 4, 3) := by decide +kernel
theorem dX9_hasFailed_18 : decode cX9_hasFailed 18 = .ok (.iconst 0, 1) := by decide +kernel
theorem dX9_hasFailed_19 : decode cX9_hasFailed 19 = .ok (.ireturn, 1) := by decide +kernel
theorem dX9_factAt_0 : decode cX9_factAt 0 = .ok (.iload_n 1, 1) := by decide +kernel
theorem dX9_factAt_1 : decode cX9_factAt 1 = .ok (.ifCond .lt 29, 3) := by decide +kernel
theorem dX9_factAt_4 : decode cX9_factAt 4 = .ok (.iload_n 1, 1) := by decide +kernel
theorem dX9_factAt_5 : decode cX9_factAt 5 = .ok (.aload_n 0, 1) := by decide +kernel
theorem dX9_factAt_6 : decode cX9_factAt 6 = .ok (.getfield 25, 3) := by decide +kernel
theorem dX9_factAt_9 : decode cX9_factAt 9 = .ok (.if_icmp .ge 21, 3) := by decide +kernel
theorem dX9_factAt_12 : decode cX9_factAt 12 = .ok (.iload_n 1, 1) := by decide +kernel
theorem dX9_factAt_13 : decode cX9_factAt 13 = .ok (.aload_n 0, 1) := by decide +kernel
theorem dX9_factAt_14 : decode cX9_factAt 14 = .ok (.getfield 11, 3) := by decide +kernel
theorem dX9_factAt_17 : decode cX9_factAt 17 = .ok (.arraylength, 1) := by decide +kernel
theorem dX9_factAt_18 : decode cX9_factAt 18 = .ok (.if_icmp .ge 12, 3) := by decide +kernel
theorem dX9_factAt_21 : decode cX9_factAt 21 = .ok (.aload_n 0, 1) := by decide +kernel
theorem dX9_factAt_22 : decode cX9_factAt 22 = .ok (.getfield 11, 3) := by decide +kernel
theorem dX9_factAt_25 : decode cX9_factAt 25 = .ok (.iload_n 1, 1) := by decide +kernel
theorem dX9_factAt_26 : decode cX9_factAt 26 = .ok (.aaload, 1) := by decide +kernel
theorem dX9_factAt_27 : decode cX9_factAt 27 = .ok (.goto 4, 3) := by decide +kernel
theorem dX9_factAt_30 : decode cX9_factAt 30 = .ok (.aconst_null, 1) := by decide +kernel
theorem dX9_factAt_31 : decode cX9_factAt 31 = .ok (.areturn, 1) := by decide +kernel
set_option maxRecDepth 20000 in
theorem ggX9_pairAt_X9_factAt : GoodIn wsX9_pairAt wsX9_factAt := goodIn_r _ [5, 6, 7, 19, 20, 21, 22, 23, 24] (by decide +kernel) (by decide +kernel)
set_option maxRecDepth 20000 in
theorem gX9_pairAt_X9_factAt : GoodIn wsX9_pairAt (wsV RX9 42 RX9 yX9_factAt wsX9_factAt) := goodIn_app (goodIn_of _ (by decide +kernel)) ggX9_pairAt_X9_factAt
set_option maxRecDepth 20000 in
theorem ggX9_pairAt_X3_pair : GoodIn wsX9_pairAt wsX3_pair := goodIn_r _ [12, 13, 14, 15, 16, 17, 18, 25, 26, 27, 28, 29, 30, 31] (by decide +kernel) (by decide +kernel)
set_option maxRecDepth 20000 in
theorem gX9_pairAt_X3_pair : GoodIn wsX9_pairAt (wsV RX9 46 RX3 yX3_pair wsX3_pair) := goodIn_app (goodIn_of _ (by decide +kernel)) ggX9_pairAt_X3_pair
theorem dX9_pairAt_0 : decode cX9_pairAt 0 = .ok (.aload_n 0, 1) := by decide +kernel
theorem dX9_pairAt_1 : decode cX9_pairAt 1 = .ok (.iload_n 1, 1) := by decide +kernel
theorem dX9_pairAt_2 : decode cX9_pairAt 2 = .ok (.invokevirtual 42, 3) := by decide +kernel
theorem dX9_pairAt_5 : decode cX9_pairAt 5 = .ok (.astore_n 2, 1) := by decide +kernel
theorem dX9_pairAt_6 : decode cX9_pairAt 6 = .ok (.aload_n 2, 1) := by decide +kernel
theorem dX9_pairAt_7 : decode cX9_pairAt 7 = .ok (.ifnonnull 7, 3) := by decide +kernel
theorem dX9_pairAt_10 : decode cX9_pairAt 10 = .ok (.lconst 0, 1) := by decide +kernel
theorem dX9_pairAt_11 : decode cX9_pairAt 11 = .ok (.goto 7, 3) := by decide +kernel
theorem dX9_pairAt_14 : decode cX9_pairAt 14 = .ok (.aload_n 2, 1) := by decide +kernel
theorem dX9_pairAt_15 : decode cX9_pairAt 15 = .ok (.invokevirtual 46, 3) := by decide +kernel
theorem dX9_pairAt_18 : decode cX9_pairAt 18 = .ok (.lreturn, 1) := by decide +kernel
theorem dX9_decisionAt_0 : decode cX9_decisionAt 0 = .ok (.iload_n 1, 1) := by decide +kernel
theorem dX9_decisionAt_1 : decode cX9_decisionAt 1 = .ok (.ifCond .lt 29, 3) := by decide +kernel
theorem dX9_decisionAt_4 : decode cX9_decisionAt 4 = .ok (.iload_n 1, 1) := by decide +kernel
theorem dX9_decisionAt_5 : decode cX9_decisionAt 5 = .ok (.aload_n 0, 1) := by decide +kernel
theorem dX9_decisionAt_6 : decode cX9_decisionAt 6 = .ok (.getfield 28, 3) := by decide +kernel
theorem dX9_decisionAt_9 : decode cX9_decisionAt 9 = .ok (.if_icmp .ge 21, 3) := by decide +kernel
theorem dX9_decisionAt_12 : decode cX9_decisionAt 12 = .ok (.iload_n 1, 1) := by decide +kernel
theorem dX9_decisionAt_13 : decode cX9_decisionAt 13 = .ok (.aload_n 0, 1) := by decide +kernel
theorem dX9_decisionAt_14 : decode cX9_decisionAt 14 = .ok (.getfield 17, 3) := by decide +kernel
theorem dX9_decisionAt_17 : decode cX9_decisionAt 17 = .ok (.arraylength, 1) := by decide +kernel
theorem dX9_decisionAt_18 : decode cX9_decisionAt 18 = .ok (.if_icmp .ge 12, 3) := by decide +kernel
theorem dX9_decisionAt_21 : decode cX9_decisionAt 21 = .ok (.aload_n 0, 1) := by decide +kernel
theorem dX9_decisionAt_22 : decode cX9_decisionAt 22 = .ok (.getfield 17, 3) := by decide +kernel
theorem dX9_decisionAt_25 : decode cX9_decisionAt 25 = .ok (.iload_n 1, 1) := by decide +kernel
theorem dX9_decisionAt_26 : decode cX9_decisionAt 26 = .ok (.laload, 1) := by decide +kernel
theorem dX9_decisionAt_27 : decode cX9_decisionAt 27 = .ok (.goto 4, 3) := by decide +kernel
theorem dX9_decisionAt_30 : decode cX9_decisionAt 30 = .ok (.lconst 0, 1) := by decide +kernel
theorem dX9_decisionAt_31 : decode cX9_decisionAt 31 = .ok (.lreturn, 1) := by decide +kernel
set_option maxRecDepth 20000 in
theorem ggX9_remove_X9_factAt : GoodIn wsX9_remove wsX9_factAt := goodIn_r _ [15, 1, 16, 28, 29, 30, 31, 32, 33] (by decide +kernel) (by decide +kernel)
set_option maxRecDepth 20000 in
theorem gX9_remove_X9_factAt : GoodIn wsX9_remove (wsV RX9 42 RX9 yX9_factAt wsX9_factAt) := goodIn_app (goodIn_of _ (by decide +kernel)) ggX9_remove_X9_factAt
set_option maxRecDepth 20000 in
theorem ggX9_remove_X3_pair : GoodIn wsX9_remove wsX3_pair := goodIn_r _ [21, 22, 23, 24, 25, 26, 27, 34, 35, 36, 37, 38, 39, 40] (by decide +kernel) (by decide +kernel)
set_option maxRecDepth 20000 in
theorem gX9_remove_X3_pair : GoodIn wsX9_remove (wsV RX9 46 RX3 yX3_pair wsX3_pair) := goodIn_app (goodIn_of _ (by decide +kernel)) ggX9_remove_X3_pair
theorem dX9_remove_0 : decode cX9_remove 0 = .ok (.aload_n 0, 1) := by decide +kernel
theorem dX9_remove_1 : decode cX9_remove 1 = .ok (.dup, 1) := by decide +kernel
theorem dX9_remove_2 : decode cX9_remove 2 = .ok (.getfield 25, 3) := by decide +kernel
theorem dX9_remove_5 : decode cX9_remove 5 = .ok (.iconst 1, 1) := by decide +kernel
theorem dX9_remove_6 : decode cX9_remove 6 = .ok (.iadd, 1) := by decide +kernel
theorem dX9_remove_7 : decode cX9_remove 7 = .ok (.putfield 25, 3) := by decide +kernel
theorem dX9_remove_10 : decode cX9_remove 10 = .ok (.aload_n 0, 1) := by decide +kernel
theorem dX9_remove_11 : decode cX9_remove 11 = .ok (.aload_n 0, 1) := by decide +kernel
theorem dX9_remove_12 : decode cX9_remove 12 = .ok (.getfield 25, 3) := by decide +kernel
theorem dX9_remove_15 : decode cX9_remove 15 = .ok (.iconst 1, 1) := by decide +kernel
theorem dX9_remove_16 : decode cX9_remove 16 = .ok (.isub, 1) := by decide +kernel
theorem dX9_remove_17 : decode cX9_remove 17 = .ok (.invokevirtual 42, 3) := by decide +kernel
theorem dX9_remove_20 : decode cX9_remove 20 = .ok (.astore 6, 2) := by decide +kernel
theorem dX9_remove_22 : decode cX9_remove 22 = .ok (.aload 6, 2) := by decide +kernel
theorem dX9_remove_24 : decode cX9_remove 24 = .ok (.ifnonnull 14, 3) := by decide +kernel
theorem dX9_remove_27 : decode cX9_remove 27 = .ok (.aload_n 0, 1) := by decide +kernel
theorem dX9_remove_28 : decode cX9_remove 28 = .ok (.dup, 1) := by decide +kernel
theorem dX9_remove_29 : decode cX9_remove 29 = .ok (.getfield 25, 3) := by decide +kernel
theorem dX9_remove_32 : decode cX9_remove 32 = .ok (.iconst 1, 1) := by decide +kernel
theorem dX9_remove_33 : decode cX9_remove 33 = .ok (.isub, 1) := by decide +kernel
theorem dX9_remove_34 : decode cX9_remove 34 = .ok (.putfield 25, 3) := by decide +kernel
theorem dX9_remove_37 : decode cX9_remove 37 = .ok (.return_, 1) := by decide +kernel
theorem dX9_remove_38 : decode cX9_remove 38 = .ok (.aload 6, 2) := by decide +kernel
theorem dX9_remove_40 : decode cX9_remove 40 = .ok (.iload_n 1, 1) := by decide +kernel
theorem dX9_remove_41 : decode cX9_remove 41 = .ok (.putfield 50, 3) := by decide +kernel
theorem dX9_remove_44 : decode cX9_remove 44 = .ok (.aload 6, 2) := by decide +kernel
theorem dX9_remove_46 : decode cX9_remove 46 = .ok (.iload_n 2, 1) := by decide +kernel
theorem dX9_remove_47 : decode cX9_remove 47 = .ok (.putfield 53, 3) := by decide +kernel
theorem dX9_remove_50 : decode cX9_remove 50 = .ok (.aload 6, 2) := by decide +kernel
theorem dX9_remove_52 : decode cX9_remove 52 = .ok (.iload_n 3, 1) := by decide +kernel
theorem dX9_remove_53 : decode cX9_remove 53 = .ok (.putfield 56, 3) := by decide +kernel
theorem dX9_remove_56 : decode cX9_remove 56 = .ok (.aload 6, 2) := by decide +kernel
theorem dX9_remove_58 : decode cX9_remove 58 = .ok (.aload_n 0, 1) := by decide +kernel
theorem dX9_remove_59 : decode cX9_remove 59 = .ok (.getfield 28, 3) := by decide +kernel
theorem dX9_remove_62 : decode cX9_remove 62 = .ok (.putfield 59, 3) := by decide +kernel
theorem dX9_remove_65 : decode cX9_remove 65 = .ok (.aload 6, 2) := by decide +kernel
theorem dX9_remove_67 : decode cX9_remove 67 = .ok (.lload 4, 2) := by decide +kernel
theorem dX9_remove_69 : decode cX9_remove 69 = .ok (.putfield 60, 3) := by decide +kernel
theorem dX9_remove_72 : decode cX9_remove 72 = .ok (.aload 6, 2) := by decide +kernel
theorem dX9_remove_74 : decode cX9_remove 74 = .ok (.ldc2_w 63, 3) := by decide +kernel
theorem dX9_remove_77 : decode cX9_remove 77 = .ok (.putfield 65, 3) := by decide +kernel
theorem dX9_remove_80 : decode cX9_remove 80 = .ok (.aload_n 0, 1) := by decide +kernel
theorem dX9_remove_81 : decode cX9_remove 81 = .ok (.dup, 1) := by decide +kernel
theorem dX9_remove_82 : decode cX9_remove 82 = .ok (.getfield 31, 3) := by decide +kernel
theorem dX9_remove_85 : decode cX9_remove 85 = .ok (.aload 6, 2) := by decide +kernel
theorem dX9_remove_87 : decode cX9_remove 87 = .ok (.invokevirtual 46, 3) := by decide +kernel
theorem dX9_remove_90 : decode cX9_remove 90 = .ok (.ldc2_w 63, 3) := by decide +kernel
theorem dX9_remove_93 : decode cX9_remove 93 = .ok (.lxor, 1) := by decide +kernel
theorem dX9_remove_94 : decode cX9_remove 94 = .ok (.land, 1) := by decide +kernel
theorem dX9_remove_95 : decode cX9_remove 95 = .ok (.putfield 31, 3) := by decide +kernel
theorem dX9_remove_98 : decode cX9_remove 98 = .ok (.return_, 1) := by decide +kernel
set_option maxRecDepth 20000 in
theorem ggX9_assume_X5_pair : GoodIn wsX9_assume wsX5_pair := goodIn_r _ [7] (by decide +kernel) (by decide +kernel)
set_option maxRecDepth 20000 in
theorem gX9_assume_X5_pair : GoodIn wsX9_assume (va_wsS RX9 68 yX5_pair wsX5_pair) := goodIn_app (goodIn_of _ (by decide +kernel)) ggX9_assume_X5_pair
set_option maxRecDepth 20000 in
theorem ggX9_assume_X5_has : GoodIn wsX9_assume wsX5_has := goodIn_r _ [10, 11, 12, 13, 14, 5, 6, 7] (by decide +kernel) (by decide +kernel)
set_option maxRecDepth 20000 in
theorem gX9_assume_X5_has : GoodIn wsX9_assume (va_wsS RX9 71 yX5_has wsX5_has) := goodIn_app (goodIn_of _ (by decide +kernel)) ggX9_assume_X5_has
set_option maxRecDepth 20000 in
theorem ggX9_assume_X9_remove : GoodIn wsX9_assume wsX9_remove := goodIn_r _ [19, 20, 21, 22, 23, 1, 24, 25, 26, 27, 3, 28, 29, 30, 18, 31, 32, 33, 34, 35, 36, 37, 38, 39, 40, 5, 6, 7, 41, 42, 43, 44, 45, 46, 47, 48, 49, 50, 51, 52, 53] (by decide +kernel) (by decide +kernel)
set_option maxRecDepth 20000 in
theorem gX9_assume_X9_remove : GoodIn wsX9_assume (wsV RX9 75 RX9 yX9_remove wsX9_remove) := goodIn_app (goodIn_of _ (by decide +kernel)) ggX9_assume_X9_remove
theorem dX9_assume_0 : decode cX9_assume 0 = .ok (.aload_n 0, 1) := by decide +kernel
theorem dX9_assume_1 : decode cX9_assume 1 = .ok (.getfield 28, 3) := by decide +kernel
theorem dX9_assume_4 : decode cX9_assume 4 = .ok (.ifCond .lt 15, 3) := by decide +kernel
theorem dX9_assume_7 : decode cX9_assume 7 = .ok (.aload_n 0, 1) := by decide +kernel
theorem dX9_assume_8 : decode cX9_assume 8 = .ok (.getfield 28, 3) := by decide +kernel
theorem dX9_assume_11 : decode cX9_assume 11 = .ok (.aload_n 0, 1) := by decide +kernel
theorem dX9_assume_12 : decode cX9_assume 12 = .ok (.getfield 17, 3) := by decide +kernel
theorem dX9_assume_15 : decode cX9_assume 15 = .ok (.arraylength, 1) := by decide +kernel
theorem dX9_assume_16 : decode cX9_assume 16 = .ok (.if_icmp .lt 4, 3) := by decide +kernel
theorem dX9_assume_19 : decode cX9_assume 19 = .ok (.return_, 1) := by decide +kernel
theorem dX9_assume_20 : decode cX9_assume 20 = .ok (.aload_n 0, 1) := by decide +kernel
theorem dX9_assume_21 : decode cX9_assume 21 = .ok (.getfield 17, 3) := by decide +kernel
theorem dX9_assume_24 : decode cX9_assume 24 = .ok (.aload_n 0, 1) := by decide +kernel
theorem dX9_assume_25 : decode cX9_assume 25 = .ok (.getfield 28, 3) := by decide +kernel
theorem dX9_assume_28 : decode cX9_assume 28 = .ok (.iload_n 1, 1) := by decide +kernel
theorem dX9_assume_29 : decode cX9_assume 29 = .ok (.iload_n 2, 1) := by decide +kernel
theorem dX9_assume_30 : decode cX9_assume 30 = .ok (.invokestatic 68, 3) := by decide +kernel
theorem dX9_assume_33 : decode cX9_assume 33 = .ok (.lastore, 1) := by decide +kernel
theorem dX9_assume_34 : decode cX9_assume 34 = .ok (.aload_n 0, 1) := by decide +kernel
theorem dX9_assume_35 : decode cX9_assume 35 = .ok (.dup, 1) := by decide +kernel
theorem dX9_assume_36 : decode cX9_assume 36 = .ok (.getfield 28, 3) := by decide +kernel
theorem dX9_assume_39 : decode cX9_assume 39 = .ok (.iconst 1, 1) := by decide +kernel
theorem dX9_assume_40 : decode cX9_assume 40 = .ok (.iadd, 1) := by decide +kernel
theorem dX9_assume_41 : decode cX9_assume 41 = .ok (.putfield 28, 3) := by decide +kernel
theorem dX9_assume_44 : decode cX9_assume 44 = .ok (.iconst 0, 1) := by decide +kernel
theorem dX9_assume_45 : decode cX9_assume 45 = .ok (.istore_n 3, 1) := by decide +kernel
theorem dX9_assume_46 : decode cX9_assume 46 = .ok (.iload_n 3, 1) := by decide +kernel
theorem dX9_assume_47 : decode cX9_assume 47 = .ok (.iconst 5, 1) := by decide +kernel
theorem dX9_assume_48 : decode cX9_assume 48 = .ok (.if_icmp .ge 34, 3) := by decide +kernel
theorem dX9_assume_51 : decode cX9_assume 51 = .ok (.iload_n 3, 1) := by decide +kernel
theorem dX9_assume_52 : decode cX9_assume 52 = .ok (.iload_n 2, 1) := by decide +kernel
theorem dX9_assume_53 : decode cX9_assume 53 = .ok (.if_icmp .eq 23, 3) := by decide +kernel
theorem dX9_assume_56 : decode cX9_assume 56 = .ok (.aload_n 0, 1) := by decide +kernel
theorem dX9_assume_57 : decode cX9_assume 57 = .ok (.getfield 31, 3) := by decide +kernel
theorem dX9_assume_60 : decode cX9_assume 60 = .ok (.iload_n 1, 1) := by decide +kernel
theorem dX9_assume_61 : decode cX9_assume 61 = .ok (.iload_n 3, 1) := by decide +kernel
theorem dX9_assume_62 : decode cX9_assume 62 = .ok (.invokestatic 71, 3) := by decide +kernel
theorem dX9_assume_65 : decode cX9_assume 65 = .ok (.ifCond .eq 11, 3) := by decide +kernel
theorem dX9_assume_68 : decode cX9_assume 68 = .ok (.aload_n 0, 1) := by decide +kernel
theorem dX9_assume_69 : decode cX9_assume 69 = .ok (.iload_n 1, 1) := by decide +kernel
theorem dX9_assume_70 : decode cX9_assume 70 = .ok (.iload_n 3, 1) := by decide +kernel
theorem dX9_assume_71 : decode cX9_assume 71 = .ok (.iconst (-1), 1) := by decide +kernel
theorem dX9_assume_72 : decode cX9_assume 72 = .ok (.lconst 0, 1) := by decide +kernel
theorem dX9_assume_73 : decode cX9_assume 73 = .ok (.invokevirtual 75, 3) := by decide +kernel
theorem dX9_assume_76 : decode cX9_assume 76 = .ok (.iinc 3 1, 3) := by decide +kernel
theorem dX9_assume_79 : decode cX9_assume 79 = .ok (.goto (-33), 3) := by decide +kernel
theorem dX9_assume_82 : decode cX9_assume 82 = .ok (.return_, 1) := by decide +kernel
set_option maxRecDepth 20000 in
theorem ggX9_takeBack_X9_factAt : GoodIn wsX9_takeBack wsX9_factAt := goodIn_r _ [9, 1, 10, 22, 23, 24, 25, 26, 27] (by decide +kernel) (by decide +kernel)
set_option maxRecDepth 20000 in
theorem gX9_takeBack_X9_factAt : GoodIn wsX9_takeBack (wsV RX9 42 RX9 yX9_factAt wsX9_factAt) := goodIn_app (goodIn_of _ (by decide +kernel)) ggX9_takeBack_X9_factAt
set_option maxRecDepth 20000 in
theorem ggX9_takeBack_X3_pair : GoodIn wsX9_takeBack wsX3_pair := goodIn_r _ [15, 16, 17, 18, 19, 20, 21, 28, 29, 30, 31, 32, 33, 34] (by decide +kernel) (by decide +kernel)
set_option maxRecDepth 20000 in
theorem gX9_takeBack_X3_pair : GoodIn wsX9_takeBack (wsV RX9 46 RX3 yX3_pair wsX3_pair) := goodIn_app (goodIn_of _ (by decide +kernel)) ggX9_takeBack_X3_pair
theorem dX9_takeBack_0 : decode cX9_takeBack 0 = .ok (.aload_n 0, 1) := by decide +kernel
theorem dX9_takeBack_1 : decode cX9_takeBack 1 = .ok (.getfield 25, 3) := by decide +kernel
theorem dX9_takeBack_4 : decode cX9_takeBack 4 = .ok (.istore_n 1, 1) := by decide +kernel
theorem dX9_takeBack_5 : decode cX9_takeBack 5 = .ok (.iload_n 1, 1) := by decide +kernel
theorem dX9_takeBack_6 : decode cX9_takeBack 6 = .ok (.iconst 1, 1) := by decide +kernel
theorem dX9_takeBack_7 : decode cX9_takeBack 7 = .ok (.isub, 1) := by decide +kernel
theorem dX9_takeBack_8 : decode cX9_takeBack 8 = .ok (.istore_n 2, 1) := by decide +kernel
theorem dX9_takeBack_9 : decode cX9_takeBack 9 = .ok (.iload_n 2, 1) := by decide +kernel
theorem dX9_takeBack_10 : decode cX9_takeBack 10 = .ok (.ifCond .lt 56, 3) := by decide +kernel
theorem dX9_takeBack_13 : decode cX9_takeBack 13 = .ok (.aload_n 0, 1) := by decide +kernel
theorem dX9_takeBack_14 : decode cX9_takeBack 14 = .ok (.iload_n 2, 1) := by decide +kernel
theorem dX9_takeBack_15 : decode cX9_takeBack 15 = .ok (.invokevirtual 42, 3) := by decide +kernel
theorem dX9_takeBack_18 : decode cX9_takeBack 18 = .ok (.astore_n 3, 1) := by decide +kernel
theorem dX9_takeBack_19 : decode cX9_takeBack 19 = .ok (.aload_n 3, 1) := by decide +kernel
theorem dX9_takeBack_20 : decode cX9_takeBack 20 = .ok (.ifnull 46, 3) := by decide +kernel
theorem dX9_takeBack_23 : decode cX9_takeBack 23 = .ok (.aload_n 3, 1) := by decide +kernel
theorem dX9_takeBack_24 : decode cX9_takeBack 24 = .ok (.getfield 59, 3) := by decide +kernel
theorem dX9_takeBack_27 : decode cX9_takeBack 27 = .ok (.aload_n 0, 1) := by decide +kernel
theorem dX9_takeBack_28 : decode cX9_takeBack 28 = .ok (.getfield 28, 3) := by decide +kernel
theorem dX9_takeBack_31 : decode cX9_takeBack 31 = .ok (.if_icmp .ge 6, 3) := by decide +kernel
theorem dX9_takeBack_34 : decode cX9_takeBack 34 = .ok (.goto 32, 3) := by decide +kernel
theorem dX9_takeBack_37 : decode cX9_takeBack 37 = .ok (.aload_n 0, 1) := by decide +kernel
theorem dX9_takeBack_38 : decode cX9_takeBack 38 = .ok (.dup, 1) := by decide +kernel
theorem dX9_takeBack_39 : decode cX9_takeBack 39 = .ok (.getfield 31, 3) := by decide +kernel
theorem dX9_takeBack_42 : decode cX9_takeBack 42 = .ok (.aload_n 3, 1) := by decide +kernel
theorem dX9_takeBack_43 : decode cX9_takeBack 43 = .ok (.invokevirtual 46, 3) := by decide +kernel
theorem dX9_takeBack_46 : decode cX9_takeBack 46 = .ok (.lor, 1) := by decide +kernel
theorem dX9_takeBack_47 : decode cX9_takeBack 47 = .ok (.putfield 31, 3) := by decide +kernel
theorem dX9_takeBack_50 : decode cX9_takeBack 50 = .ok (.aload_n 0, 1) := by decide +kernel
theorem dX9_takeBack_51 : decode cX9_takeBack 51 = .ok (.dup, 1) := by decide +kernel
theorem dX9_takeBack_52 : decode cX9_takeBack 52 = .ok (.getfield 25, 3) := by decide +kernel
theorem dX9_takeBack_55 : decode cX9_takeBack 55 = .ok (.iconst 1, 1) := by decide +kernel
theorem dX9_takeBack_56 : decode cX9_takeBack 56 = .ok (.isub, 1) := by decide +kernel
theorem dX9_takeBack_57 : decode cX9_takeBack 57 = .ok (.putfield 25, 3) := by decide +kernel
theorem dX9_takeBack_60 : decode cX9_takeBack 60 = .ok (.iinc 2 (-1), 3) := by decide +kernel
theorem dX9_takeBack_63 : decode cX9_takeBack 63 = .ok (.goto (-54), 3) := by decide +kernel
theorem dX9_takeBack_66 : decode cX9_takeBack 66 = .ok (.aload_n 0, 1) := by decide +kernel
theorem dX9_takeBack_67 : decode cX9_takeBack 67 = .ok (.dup, 1) := by decide +kernel
theorem dX9_takeBack_68 : decode cX9_takeBack 68 = .ok (.getfield 28, 3) := by decide +kernel
theorem dX9_takeBack_71 : decode cX9_takeBack 71 = .ok (.iconst 1, 1) := by decide +kernel
theorem dX9_takeBack_72 : decode cX9_takeBack 72 = .ok (.isub, 1) := by decide +kernel
theorem dX9_takeBack_73 : decode cX9_takeBack 73 = .ok (.putfield 28, 3) := by decide +kernel
theorem dX9_takeBack_76 : decode cX9_takeBack 76 = .ok (.iload_n 1, 1) := by decide +kernel
theorem dX9_takeBack_77 : decode cX9_takeBack 77 = .ok (.aload_n 0, 1) := by decide +kernel
theorem dX9_takeBack_78 : decode cX9_takeBack 78 = .ok (.getfield 25, 3) := by decide +kernel
theorem dX9_takeBack_81 : decode cX9_takeBack 81 = .ok (.isub, 1) := by decide +kernel
theorem dX9_takeBack_82 : decode cX9_takeBack 82 = .ok (.ireturn, 1) := by decide +kernel
set_option maxRecDepth 20000 in
theorem ggX9_groundDomains_X9_factAt : GoodIn wsX9_groundDomains wsX9_factAt := goodIn_r _ [8, 1, 9, 21, 22, 23, 24, 25, 26] (by decide +kernel) (by decide +kernel)
set_option maxRecDepth 20000 in
theorem gX9_groundDomains_X9_factAt : GoodIn wsX9_groundDomains (wsV RX9 42 RX9 yX9_factAt wsX9_factAt) := goodIn_app (goodIn_of _ (by decide +kernel)) ggX9_groundDomains_X9_factAt
set_option maxRecDepth 20000 in
theorem ggX9_groundDomains_X3_pair : GoodIn wsX9_groundDomains wsX3_pair := goodIn_r _ [14, 15, 16, 17, 18, 19, 20, 27, 28, 29, 30, 31, 32, 33] (by decide +kernel) (by decide +kernel)
set_option maxRecDepth 20000 in
theorem gX9_groundDomains_X3_pair : GoodIn wsX9_groundDomains (wsV RX9 46 RX3 yX3_pair wsX3_pair) := goodIn_app (goodIn_of _ (by decide +kernel)) ggX9_groundDomains_X3_pair
theorem dX9_groundDomains_0 : decode cX9_groundDomains 0 = .ok (.lload_n 1, 1) := by decide +kernel
theorem dX9_groundDomains_1 : decode cX9_groundDomains 1 = .ok (.lstore_n 3, 1) := by decide +kernel
theorem dX9_groundDomains_2 : decode cX9_groundDomains 2 = .ok (.iconst 0, 1) := by decide +kernel
theorem dX9_groundDomains_3 : decode cX9_groundDomains 3 = .ok (.istore 5, 2) := by decide +kernel
theorem dX9_groundDomains_5 : decode cX9_groundDomains 5 = .ok (.iload 5, 2) := by decide +kernel
theorem dX9_groundDomains_7 : decode cX9_groundDomains 7 = .ok (.aload_n 0, 1) := by decide +kernel
theorem dX9_groundDomains_8 : decode cX9_groundDomains 8 = .ok (.getfield 25, 3) := by decide +kernel
theorem dX9_groundDomains_11 : decode cX9_groundDomains 11 = .ok (.if_icmp .ge 42, 3) := by decide +kernel
theorem dX9_groundDomains_14 : decode cX9_groundDomains 14 = .ok (.aload_n 0, 1) := by decide +kernel
theorem dX9_groundDomains_15 : decode cX9_groundDomains 15 = .ok (.iload 5, 2) := by decide +kernel
theorem dX9_groundDomains_17 : decode cX9_groundDomains 17 = .ok (.invokevirtual 42, 3) := by decide +kernel
theorem dX9_groundDomains_20 : decode cX9_groundDomains 20 = .ok (.astore 6, 2) := by decide +kernel
theorem dX9_groundDomains_22 : decode cX9_groundDomains 22 = .ok (.aload 6, 2) := by decide +kernel
theorem dX9_groundDomains_24 : decode cX9_groundDomains 24 = .ok (.ifnull 23, 3) := by decide +kernel
theorem dX9_groundDomains_27 : decode cX9_groundDomains 27 = .ok (.aload 6, 2) := by decide +kernel
theorem dX9_groundDomains_29 : decode cX9_groundDomains 29 = .ok (.getfield 59, 3) := by decide +kernel
theorem dX9_groundDomains_32 : decode cX9_groundDomains 32 = .ok (.ifCond .ne 15, 3) := by decide +kernel
theorem dX9_groundDomains_35 : decode cX9_groundDomains 35 = .ok (.lload_n 3, 1) := by decide +kernel
theorem dX9_groundDomains_36 : decode cX9_groundDomains 36 = .ok (.aload 6, 2) := by decide +kernel
theorem dX9_groundDomains_38 : decode cX9_groundDomains 38 = .ok (.invokevirtual 46, 3) := by decide +kernel
theorem dX9_groundDomains_41 : decode cX9_groundDomains 41 = .ok (.ldc2_w 63, 3) := by decide +kernel
theorem dX9_groundDomains_44 : decode cX9_groundDomains 44 = .ok (.lxor, 1) := by decide +kernel
theorem dX9_groundDomains_45 : decode cX9_groundDomains 45 = .ok (.land, 1) := by decide +kernel
theorem dX9_groundDomains_46 : decode cX9_groundDomains 46 = .ok (.lstore_n 3, 1) := by decide +kernel
theorem dX9_groundDomains_47 : decode cX9_groundDomains 47 = .ok (.iinc 5 1, 3) := by decide +kernel
theorem dX9_groundDomains_50 : decode cX9_groundDomains 50 = .ok (.goto (-45), 3) := by decide +kernel
theorem dX9_groundDomains_53 : decode cX9_groundDomains 53 = .ok (.lload_n 3, 1) := by decide +kernel
theorem dX9_groundDomains_54 : decode cX9_groundDomains 54 = .ok (.lreturn, 1) := by decide +kernel
set_option maxRecDepth 20000 in
theorem ggX10_init_X1_init : GoodIn wsX10_init wsX1_init := goodIn_r _ [8, 9, 10, 11, 12, 13, 14, 15, 24, 25, 26, 27, 28, 29, 30, 31, 32, 33, 34, 35, 36, 37, 38, 39, 16, 17, 18, 19, 20, 21, 22, 23] (by decide +kernel) (by decide +kernel)
set_option maxRecDepth 20000 in
theorem gX10_init_X1_init : GoodIn wsX10_init (wsX1_init) := ggX10_init_X1_init
theorem dX10_init_0 : decode cX10_init 0 = .ok (.aload_n 0, 1) := by decide +kernel
theorem dX10_init_1 : decode cX10_init 1 = .ok (.iconst 1, 1) := by decide +kernel
theorem dX10_init_2 : decode cX10_init 2 = .ok (.invokespecial 5, 3) := by decide +kernel
theorem dX10_init_5 : decode cX10_init 5 = .ok (.aload_n 0, 1) := by decide +kernel
theorem dX10_init_6 : decode cX10_init 6 = .ok (.iload_n 1, 1) := by decide +kernel
theorem dX10_init_7 : decode cX10_init 7 = .ok (.putfield 9, 3) := by decide +kernel
theorem dX10_init_10 : decode cX10_init 10 = .ok (.aload_n 0, 1) := by decide +kernel
theorem dX10_init_11 : decode cX10_init 11 = .ok (.iload_n 2, 1) := by decide +kernel
theorem dX10_init_12 : decode cX10_init 12 = .ok (.putfield 15, 3) := by decide +kernel
theorem dX10_init_15 : decode cX10_init 15 = .ok (.aload_n 0, 1) := by decide +kernel
theorem dX10_init_16 : decode cX10_init 16 = .ok (.iload_n 3, 1) := by decide +kernel
theorem dX10_init_17 : decode cX10_init 17 = .ok (.putfield 18, 3) := by decide +kernel
theorem dX10_init_20 : decode cX10_init 20 = .ok (.aload_n 0, 1) := by decide +kernel
theorem dX10_init_21 : decode cX10_init 21 = .ok (.iload 4, 2) := by decide +kernel
theorem dX10_init_23 : decode cX10_init 23 = .ok (.putfield 21, 3) := by decide +kernel
theorem dX10_init_26 : decode cX10_init 26 = .ok (.return_, 1) := by decide +kernel
set_option maxRecDepth 20000 in
theorem ggX10_verdict_X1_variableAt : GoodIn wsX10_verdict wsX1_variableAt := goodIn_r _ [18, 19, 47, 48, 49, 50, 51, 52, 53, 54, 55, 56, 57, 58, 59, 60, 61, 62, 39, 40, 41, 42, 43, 44, 45, 46] (by decide +kernel) (by decide +kernel)
set_option maxRecDepth 20000 in
theorem gX10_verdict_X1_variableAt_u27X10 : GoodIn wsX10_verdict (va_wsU RX10 27 RX10 "SupportSolver$Constraint" ⟨"SupportSolver$Window", "variableAt", "(I)I"⟩ yX1_variableAt wsX1_variableAt) := goodIn_app (goodIn_of _ (by decide +kernel)) ggX10_verdict_X1_variableAt
set_option maxRecDepth 20000 in
theorem ggX10_verdict_X5_allOf : GoodIn wsX10_verdict wsX5_allOf := goodIn_r _ [23, 24] (by decide +kernel) (by decide +kernel)
set_option maxRecDepth 20000 in
theorem gX10_verdict_X5_allOf : GoodIn wsX10_verdict (va_wsS RX10 31 yX5_allOf wsX5_allOf) := goodIn_app (goodIn_of _ (by decide +kernel)) ggX10_verdict_X5_allOf
set_option maxRecDepth 20000 in
theorem ggX10_verdict_X5_variablesIn : GoodIn wsX10_verdict wsX5_variablesIn := goodIn_r _ [27, 28, 29, 22, 30, 31, 32, 33, 34, 35, 36, 37, 38] (by decide +kernel) (by decide +kernel)
set_option maxRecDepth 20000 in
theorem gX10_verdict_X5_variablesIn : GoodIn wsX10_verdict (va_wsS RX10 39 yX5_variablesIn wsX5_variablesIn) := goodIn_app (goodIn_of _ (by decide +kernel)) ggX10_verdict_X5_variablesIn
theorem dX10_verdict_0 : decode cX10_verdict 0 = .ok (.iconst 2, 1) := by decide +kernel
theorem dX10_verdict_1 : decode cX10_verdict 1 = .ok (.istore_n 3, 1) := by decide +kernel
theorem dX10_verdict_2 : decode cX10_verdict 2 = .ok (.iconst 0, 1) := by decide +kernel
theorem dX10_verdict_3 : decode cX10_verdict 3 = .ok (.istore 4, 2) := by decide +kernel
theorem dX10_verdict_5 : decode cX10_verdict 5 = .ok (.iload 4, 2) := by decide +kernel
theorem dX10_verdict_7 : decode cX10_verdict 7 = .ok (.aload_n 0, 1) := by decide +kernel
theorem dX10_verdict_8 : decode cX10_verdict 8 = .ok (.getfield 9, 3) := by decide +kernel
theorem dX10_verdict_11 : decode cX10_verdict 11 = .ok (.iadd, 1) := by decide +kernel
theorem dX10_verdict_12 : decode cX10_verdict 12 = .ok (.aload_n 0, 1) := by decide +kernel
theorem dX10_verdict_13 : decode cX10_verdict 13 = .ok (.getfield 24, 3) := by decide +kernel
theorem dX10_verdict_16 : decode cX10_verdict 16 = .ok (.if_icmp .gt 116, 3) := by decide +kernel
theorem dX10_verdict_19 : decode cX10_verdict 19 = .ok (.iload_n 3, 1) := by decide +kernel
theorem dX10_verdict_20 : decode cX10_verdict 20 = .ok (.ifCond .eq 112, 3) := by decide +kernel
theorem dX10_verdict_23 : decode cX10_verdict 23 = .ok (.lconst 0, 1) := by decide +kernel
theorem dX10_verdict_24 : decode cX10_verdict 24 = .ok (.lstore 5, 2) := by decide +kernel
theorem dX10_verdict_26 : decode cX10_verdict 26 = .ok (.iload 4, 2) := by decide +kernel
theorem dX10_verdict_28 : decode cX10_verdict 28 = .ok (.istore 7, 2) := by decide +kernel
theorem dX10_verdict_30 : decode cX10_verdict 30 = .ok (.iload 7, 2) := by decide +kernel
theorem dX10_verdict_32 : decode cX10_verdict 32 = .ok (.iload 4, 2) := by decide +kernel
theorem dX10_verdict_34 : decode cX10_verdict 34 = .ok (.aload_n 0, 1) := by decide +kernel
theorem dX10_verdict_35 : decode cX10_verdict 35 = .ok (.getfield 9, 3) := by decide +kernel
theorem dX10_verdict_38 : decode cX10_verdict 38 = .ok (.iadd, 1) := by decide +kernel
theorem dX10_verdict_39 : decode cX10_verdict 39 = .ok (.if_icmp .ge 23, 3) := by decide +kernel
theorem dX10_verdict_42 : decode cX10_verdict 42 = .ok (.lload 5, 2) := by decide +kernel
theorem dX10_verdict_44 : decode cX10_verdict 44 = .ok (.aload_n 0, 1) := by decide +kernel
theorem dX10_verdict_45 : decode cX10_verdict 45 = .ok (.iload 7, 2) := by decide +kernel
theorem dX10_verdict_47 : decode cX10_verdict 47 = .ok (.invokevirtual 27, 3) := by decide +kernel
theorem dX10_verdict_50 : decode cX10_verdict 50 = .ok (.invokestatic 31, 3) := by decide +kernel
theorem dX10_verdict_53 : decode cX10_verdict 53 = .ok (.lor, 1) := by decide +kernel
theorem dX10_verdict_54 : decode cX10_verdict 54 = .ok (.lstore 5, 2) := by decide +kernel
theorem dX10_verdict_56 : decode cX10_verdict 56 = .ok (.iinc 7 1, 3) := by decide +kernel
theorem dX10_verdict_59 : decode cX10_verdict 59 = .ok (.goto (-29), 3) := by decide +kernel
theorem dX10_verdict_62 : decode cX10_verdict 62 = .ok (.ldc2_w 37, 3) := by decide +kernel
theorem dX10_verdict_65 : decode cX10_verdict 65 = .ok (.aload_n 0, 1) := by decide +kernel
theorem dX10_verdict_66 : decode cX10_verdict 66 = .ok (.getfield 15, 3) := by decide +kernel
theorem dX10_verdict_69 : decode cX10_verdict 69 = .ok (.i2l, 1) := by decide +kernel
theorem dX10_verdict_70 : decode cX10_verdict 70 = .ok (.lmul, 1) := by decide +kernel
theorem dX10_verdict_71 : decode cX10_verdict 71 = .ok (.lload 5, 2) := by decide +kernel
theorem dX10_verdict_73 : decode cX10_verdict 73 = .ok (.land, 1) := by decide +kernel
theorem dX10_verdict_74 : decode cX10_verdict 74 = .ok (.lstore 7, 2) := by decide +kernel
theorem dX10_verdict_76 : decode cX10_verdict 76 = .ok (.lload_n 1, 1) := by decide +kernel
theorem dX10_verdict_77 : decode cX10_verdict 77 = .ok (.lload 7, 2) := by decide +kernel
theorem dX10_verdict_79 : decode cX10_verdict 79 = .ok (.land, 1) := by decide +kernel
theorem dX10_verdict_80 : decode cX10_verdict 80 = .ok (.invokestatic 39, 3) := by decide +kernel
theorem dX10_verdict_83 : decode cX10_verdict 83 = .ok (.istore 9, 2) := by decide +kernel
theorem dX10_verdict_85 : decode cX10_verdict 85 = .ok (.aload_n 0, 1) := by decide +kernel
theorem dX10_verdict_86 : decode cX10_verdict 86 = .ok (.getfield 9, 3) := by decide +kernel
theorem dX10_verdict_89 : decode cX10_verdict 89 = .ok (.lload_n 1, 1) := by decide +kernel
theorem dX10_verdict_90 : decode cX10_verdict 90 = .ok (.lload 5, 2) := by decide +kernel
theorem dX10_verdict_92 : decode cX10_verdict 92 = .ok (.land, 1) := by decide +kernel
theorem dX10_verdict_93 : decode cX10_verdict 93 = .ok (.lload 7, 2) := by decide +kernel
theorem dX10_verdict_95 : decode cX10_verdict 95 = .ok (.ldc2_w 43, 3) := by decide +kernel
theorem dX10_verdict_98 : decode cX10_verdict 98 = .ok (.lxor, 1) := by decide +kernel
theorem dX10_verdict_99 : decode cX10_verdict 99 = .ok (.land, 1) := by decide +kernel
theorem dX10_verdict_100 : decode cX10_verdict 100 = .ok (.invokestatic 39, 3) := by decide +kernel
theorem dX10_verdict_103 : decode cX10_verdict 103 = .ok (.isub, 1) := by decide +kernel
theorem dX10_verdict_104 : decode cX10_verdict 104 = .ok (.istore 10, 2) := by decide +kernel
theorem dX10_verdict_106 : decode cX10_verdict 106 = .ok (.iload_n 3, 1) := by decide +kernel
theorem dX10_verdict_107 : decode cX10_verdict 107 = .ok (.iload 10, 2) := by decide +kernel
theorem dX10_verdict_109 : decode cX10_verdict 109 = .ok (.iload 9, 2) := by decide +kernel
theorem dX10_verdict_111 : decode cX10_verdict 111 = .ok (.aload_n 0, 1) := by decide +kernel
theorem dX10_verdict_112 : decode cX10_verdict 112 = .ok (.getfield 18, 3) := by decide +kernel
theorem dX10_verdict_115 : decode cX10_verdict 115 = .ok (.aload_n 0, 1) := by decide +kernel
theorem dX10_verdict_116 : decode cX10_verdict 116 = .ok (.getfield 21, 3) := by decide +kernel
theorem dX10_verdict_119 : decode cX10_verdict 119 = .ok (.invokestatic 45, 3) := by decide +kernel
theorem dX10_verdict_122 : decode cX10_verdict 122 = .ok (.invokestatic 49, 3) := by decide +kernel
theorem dX10_verdict_125 : decode cX10_verdict 125 = .ok (.istore_n 3, 1) := by decide +kernel
theorem dX10_verdict_126 : decode cX10_verdict 126 = .ok (.iinc 4 1, 3) := by decide +kernel
theorem dX10_verdict_129 : decode cX10_verdict 129 = .ok (.goto (-124), 3) := by decide +kernel
theorem dX10_verdict_132 : decode cX10_verdict 132 = .ok (.iload_n 3, 1) := by decide +kernel
theorem dX10_verdict_133 : decode cX10_verdict 133 = .ok (.ireturn, 1) := by decide +kernel
theorem dX10_alike_0 : decode cX10_alike 0 = .ok (.aload_n 0, 1) := by decide +kernel
theorem dX10_alike_1 : decode cX10_alike 1 = .ok (.getfield 15, 3) := by decide +kernel
theorem dX10_alike_4 : decode cX10_alike 4 = .ok (.iload_n 1, 1) := by decide +kernel
theorem dX10_alike_5 : decode cX10_alike 5 = .ok (.iushr, 1) := by decide +kernel
theorem dX10_alike_6 : decode cX10_alike 6 = .ok (.iconst 1, 1) := by decide +kernel
theorem dX10_alike_7 : decode cX10_alike 7 = .ok (.iand, 1) := by decide +kernel
theorem dX10_alike_8 : decode cX10_alike 8 = .ok (.ifCond .eq 10, 3) := by decide +kernel
theorem dX10_alike_11 : decode cX10_alike 11 = .ok (.aload_n 0, 1) := by decide +kernel
theorem dX10_alike_12 : decode cX10_alike 12 = .ok (.getfield 15, 3) := by decide +kernel
theorem dX10_alike_15 : decode cX10_alike 15 = .ok (.goto 12, 3) := by decide +kernel
theorem dX10_alike_18 : decode cX10_alike 18 = .ok (.bipush 31, 2) := by decide +kernel
theorem dX10_alike_20 : decode cX10_alike 20 = .ok (.aload_n 0, 1) := by decide +kernel
theorem dX10_alike_21 : decode cX10_alike 21 = .ok (.getfield 15, 3) := by decide +kernel
theorem dX10_alike_24 : decode cX10_alike 24 = .ok (.iconst (-1), 1) := by decide +kernel
theorem dX10_alike_25 : decode cX10_alike 25 = .ok (.ixor, 1) := by decide +kernel
theorem dX10_alike_26 : decode cX10_alike 26 = .ok (.iand, 1) := by decide +kernel
theorem dX10_alike_27 : decode cX10_alike 27 = .ok (.ireturn, 1) := by decide +kernel
set_option maxRecDepth 20000 in
theorem ggX11_init_X8_init : GoodIn wsX11_init wsX8_init := goodIn_r _ [30, 31, 2, 3, 32, 33, 34, 35, 36, 37, 38, 39, 24, 25, 40, 41, 42, 43, 44, 45, 46, 47, 48, 49, 50, 51, 52, 98, 99, 100, 101, 102, 103, 104, 105, 106, 107, 133, 134, 135, 136] (by decide +kernel) (by decide +kernel)
set_option maxRecDepth 20000 in
theorem gX11_init_X8_init_n11 : GoodIn wsX11_init (wsX8_init) := ggX11_init_X8_init
set_option maxRecDepth 20000 in
theorem ggX11_init_X9_init : GoodIn wsX11_init wsX9_init := goodIn_r _ [55, 56, 2, 3, 57, 58, 21, 59, 60, 61, 62, 63, 64, 65, 66, 67, 68, 69, 70, 71, 72, 73, 74, 75, 76, 117, 118, 119, 120, 121, 122, 137, 138, 139, 140, 141, 142, 143] (by decide +kernel) (by decide +kernel)
set_option maxRecDepth 20000 in
theorem gX11_init_X9_init : GoodIn wsX11_init (wsX9_init) := ggX11_init_X9_init
set_option maxRecDepth 20000 in
theorem ggX11_init_X4_init : GoodIn wsX11_init wsX4_init := goodIn_r _ [79, 80, 81, 82, 83, 84, 85, 2, 3, 86, 87, 88, 89, 123, 124, 125, 126, 127, 144, 145, 146, 147, 148, 149, 150, 151, 152, 153, 154, 155, 156, 157, 158, 159, 160, 161, 162] (by decide +kernel) (by decide +kernel)
set_option maxRecDepth 20000 in
theorem gX11_init_X4_init : GoodIn wsX11_init (wsX4_init) := ggX11_init_X4_init
set_option maxRecDepth 20000 in
theorem ggX11_init_X7_init : GoodIn wsX11_init wsX7_init := goodIn_r _ [91, 92, 2, 3, 93, 94, 95, 96, 97, 128, 129, 130, 131, 132] (by decide +kernel) (by decide +kernel)
set_option maxRecDepth 20000 in
theorem gX11_init_X7_init_n35 : GoodIn wsX11_init (wsX7_init) := ggX11_init_X7_init
set_option maxRecDepth 20000 in
theorem ggX11_init_X6_init : GoodIn wsX11_init wsX6_init := goodIn_r _ [46, 47, 2, 3, 48, 49, 50, 51, 52, 133, 134, 135, 136] (by decide +kernel) (by decide +kernel)
set_option maxRecDepth 20000 in
theorem gX11_init_X6_init_n46 : GoodIn wsX11_init (wsX6_init) := ggX11_init_X6_init
theorem dX11_init_0 : decode cX11_init 0 = .ok (.aload_n 0, 1) := by decide +kernel
theorem dX11_init_1 : decode cX11_init 1 = .ok (.invokespecial 3, 3) := by decide +kernel
theorem dX11_init_4 : decode cX11_init 4 = .ok (.aload_n 0, 1) := by decide +kernel
theorem dX11_init_5 : decode cX11_init 5 = .ok (.new 9, 3) := by decide +kernel
theorem dX11_init_8 : decode cX11_init 8 = .ok (.dup, 1) := by decide +kernel
theorem dX11_init_9 : decode cX11_init 9 = .ok (.invokespecial 11, 3) := by decide +kernel
theorem dX11_init_12 : decode cX11_init 12 = .ok (.putfield 12, 3) := by decide +kernel
theorem dX11_init_15 : decode cX11_init 15 = .ok (.aload_n 0, 1) := by decide +kernel
theorem dX11_init_16 : decode cX11_init 16 = .ok (.new 16, 3) := by decide +kernel
theorem dX11_init_19 : decode cX11_init 19 = .ok (.dup, 1) := by decide +kernel
theorem dX11_init_20 : decode cX11_init 20 = .ok (.invokespecial 18, 3) := by decide +kernel
theorem dX11_init_23 : decode cX11_init 23 = .ok (.putfield 19, 3) := by decide +kernel
theorem dX11_init_26 : decode cX11_init 26 = .ok (.aload_n 0, 1) := by decide +kernel
theorem dX11_init_27 : decode cX11_init 27 = .ok (.new 16, 3) := by decide +kernel
theorem dX11_init_30 : decode cX11_init 30 = .ok (.dup, 1) := by decide +kernel
theorem dX11_init_31 : decode cX11_init 31 = .ok (.invokespecial 18, 3) := by decide +kernel
theorem dX11_init_34 : decode cX11_init 34 = .ok (.putfield 23, 3) := by decide +kernel
theorem dX11_init_37 : decode cX11_init 37 = .ok (.aload_n 0, 1) := by decide +kernel
theorem dX11_init_38 : decode cX11_init 38 = .ok (.new 26, 3) := by decide +kernel
theorem dX11_init_41 : decode cX11_init 41 = .ok (.dup, 1) := by decide +kernel
theorem dX11_init_42 : decode cX11_init 42 = .ok (.invokespecial 28, 3) := by decide +kernel
theorem dX11_init_45 : decode cX11_init 45 = .ok (.putfield 29, 3) := by decide +kernel
theorem dX11_init_48 : decode cX11_init 48 = .ok (.aload_n 0, 1) := by decide +kernel
theorem dX11_init_49 : decode cX11_init 49 = .ok (.new 33, 3) := by decide +kernel
theorem dX11_init_52 : decode cX11_init 52 = .ok (.dup, 1) := by decide +kernel
theorem dX11_init_53 : decode cX11_init 53 = .ok (.invokespecial 35, 3) := by decide +kernel
theorem dX11_init_56 : decode cX11_init 56 = .ok (.putfield 36, 3) := by decide +kernel
theorem dX11_init_59 : decode cX11_init 59 = .ok (.aload_n 0, 1) := by decide +kernel
theorem dX11_init_60 : decode cX11_init 60 = .ok (.bipush 12, 2) := by decide +kernel
theorem dX11_init_62 : decode cX11_init 62 = .ok (.newarray .long, 2) := by decide +kernel
theorem dX11_init_64 : decode cX11_init 64 = .ok (.putfield 40, 3) := by decide +kernel
theorem dX11_init_67 : decode cX11_init 67 = .ok (.aload_n 0, 1) := by decide +kernel
theorem dX11_init_68 : decode cX11_init 68 = .ok (.new 44, 3) := by decide +kernel
theorem dX11_init_71 : decode cX11_init 71 = .ok (.dup, 1) := by decide +kernel
theorem dX11_init_72 : decode cX11_init 72 = .ok (.invokespecial 46, 3) := by decide +kernel
theorem dX11_init_75 : decode cX11_init 75 = .ok (.putfield 47, 3) := by decide +kernel
theorem dX11_init_78 : decode cX11_init 78 = .ok (.aload_n 0, 1) := by decide +kernel
theorem dX11_init_79 : decode cX11_init 79 = .ok (.iconst 0, 1) := by decide +kernel
theorem dX11_init_80 : decode cX11_init 80 = .ok (.putfield 51, 3) := by decide +kernel
theorem dX11_init_83 : decode cX11_init 83 = .ok (.aload_n 0, 1) := by decide +kernel
theorem dX11_init_84 : decode cX11_init 84 = .ok (.iconst 0, 1) := by decide +kernel
theorem dX11_init_85 : decode cX11_init 85 = .ok (.putfield 55, 3) := by decide +kernel
theorem dX11_init_88 : decode cX11_init 88 = .ok (.return_, 1) := by decide +kernel
set_option maxRecDepth 20000 in
theorem ggX11_append_X8_addFour : GoodIn wsX11_append wsX8_addFour := goodIn_r _ [9, 10, 11, 21, 22, 23, 24, 25, 26, 27, 28, 29, 30] (by decide +kernel) (by decide +kernel)
set_option maxRecDepth 20000 in
theorem gX11_append_X8_addFour : GoodIn wsX11_append (wsV RX11 68 RX8 yX8_addFour wsX8_addFour) := goodIn_app (goodIn_of _ (by decide +kernel)) ggX11_append_X8_addFour
theorem dX11_append_0 : decode cX11_append 0 = .ok (.aload_n 0, 1) := by decide +kernel
theorem dX11_append_1 : decode cX11_append 1 = .ok (.getfield 12, 3) := by decide +kernel
theorem dX11_append_4 : decode cX11_append 4 = .ok (.getfield 58, 3) := by decide +kernel
theorem dX11_append_7 : decode cX11_append 7 = .ok (.bipush 20, 2) := by decide +kernel
theorem dX11_append_9 : decode cX11_append 9 = .ok (.iadd, 1) := by decide +kernel
theorem dX11_append_10 : decode cX11_append 10 = .ok (.sipush 600, 3) := by decide +kernel
theorem dX11_append_13 : decode cX11_append 13 = .ok (.if_icmp .le 13, 3) := by decide +kernel
theorem dX11_append_16 : decode cX11_append 16 = .ok (.new 61, 3) := by decide +kernel
theorem dX11_append_19 : decode cX11_append 19 = .ok (.dup, 1) := by decide +kernel
theorem dX11_append_20 : decode cX11_append 20 = .ok (.ldc 63, 2) := by decide +kernel
theorem dX11_append_22 : decode cX11_append 22 = .ok (.invokespecial 65, 3) := by decide +kernel
theorem dX11_append_25 : decode cX11_append 25 = .ok (.athrow, 1) := by decide +kernel
theorem dX11_append_26 : decode cX11_append 26 = .ok (.aload_n 0, 1) := by decide +kernel
theorem dX11_append_27 : decode cX11_append 27 = .ok (.getfield 12, 3) := by decide +kernel
theorem dX11_append_30 : decode cX11_append 30 = .ok (.iload_n 1, 1) := by decide +kernel
theorem dX11_append_31 : decode cX11_append 31 = .ok (.invokevirtual 68, 3) := by decide +kernel
theorem dX11_append_34 : decode cX11_append 34 = .ok (.aload_n 0, 1) := by decide +kernel
theorem dX11_append_35 : decode cX11_append 35 = .ok (.getfield 12, 3) := by decide +kernel
theorem dX11_append_38 : decode cX11_append 38 = .ok (.iload_n 2, 1) := by decide +kernel
theorem dX11_append_39 : decode cX11_append 39 = .ok (.invokevirtual 68, 3) := by decide +kernel
theorem dX11_append_42 : decode cX11_append 42 = .ok (.aload_n 0, 1) := by decide +kernel
theorem dX11_append_43 : decode cX11_append 43 = .ok (.getfield 12, 3) := by decide +kernel
theorem dX11_append_46 : decode cX11_append 46 = .ok (.iload_n 3, 1) := by decide +kernel
theorem dX11_append_47 : decode cX11_append 47 = .ok (.invokevirtual 68, 3) := by decide +kernel
theorem dX11_append_50 : decode cX11_append 50 = .ok (.aload_n 0, 1) := by decide +kernel
theorem dX11_append_51 : decode cX11_append 51 = .ok (.getfield 12, 3) := by decide +kernel
theorem dX11_append_54 : decode cX11_append 54 = .ok (.iload 4, 2) := by decide +kernel
theorem dX11_append_56 : decode cX11_append 56 = .ok (.invokevirtual 68, 3) := by decide +kernel
theorem dX11_append_59 : decode cX11_append 59 = .ok (.aload_n 0, 1) := by decide +kernel
theorem dX11_append_60 : decode cX11_append 60 = .ok (.getfield 12, 3) := by decide +kernel
theorem dX11_append_63 : decode cX11_append 63 = .ok (.iload 5, 2) := by decide +kernel
theorem dX11_append_65 : decode cX11_append 65 = .ok (.invokevirtual 68, 3) := by decide +kernel
theorem dX11_append_68 : decode cX11_append 68 = .ok (.aload_n 0, 1) := by decide +kernel
theorem dX11_append_69 : decode cX11_append 69 = .ok (.getfield 12, 3) := by decide +kernel
theorem dX11_append_72 : decode cX11_append 72 = .ok (.getfield 58, 3) := by decide +kernel
theorem dX11_append_75 : decode cX11_append 75 = .ok (.ireturn, 1) := by decide +kernel
theorem dX11_truncate_0 : decode cX11_truncate 0 = .ok (.iload_n 1, 1) := by decide +kernel
theorem dX11_truncate_1 : decode cX11_truncate 1 = .ok (.ifCond .lt 14, 3) := by decide +kernel
theorem dX11_truncate_4 : decode cX11_truncate 4 = .ok (.iload_n 1, 1) := by decide +kernel
theorem dX11_truncate_5 : decode cX11_truncate 5 = .ok (.aload_n 0, 1) := by decide +kernel
theorem dX11_truncate_6 : decode cX11_truncate 6 = .ok (.getfield 12, 3) := by decide +kernel
theorem dX11_truncate_9 : decode cX11_truncate 9 = .ok (.getfield 58, 3) := by decide +kernel
theorem dX11_truncate_12 : decode cX11_truncate 12 = .ok (.if_icmp .le 13, 3) := by decide +kernel
theorem dX11_truncate_15 : decode cX11_truncate 15 = .ok (.new 72, 3) := by decide +kernel
theorem dX11_truncate_18 : decode cX11_truncate 18 = .ok (.dup, 1) := by decide +kernel
theorem dX11_truncate_19 : decode cX11_truncate 19 = .ok (.ldc 74, 2) := by decide +kernel
theorem dX11_truncate_21 : decode cX11_truncate 21 = .ok (.invokespecial 76, 3) := by decide +kernel
theorem dX11_truncate_24 : decode cX11_truncate 24 = .ok (.athrow, 1) := by decide +kernel
theorem dX11_truncate_25 : decode cX11_truncate 25 = .ok (.aload_n 0, 1) := by decide +kernel
theorem dX11_truncate_26 : decode cX11_truncate 26 = .ok (.getfield 12, 3) := by decide +kernel
theorem dX11_truncate_29 : decode cX11_truncate 29 = .ok (.iload_n 1, 1) := by decide +kernel
theorem dX11_truncate_30 : decode cX11_truncate 30 = .ok (.putfield 58, 3) := by decide +kernel
theorem dX11_truncate_33 : decode cX11_truncate 33 = .ok (.iload_n 1, 1) := by decide +kernel
theorem dX11_truncate_34 : decode cX11_truncate 34 = .ok (.ireturn, 1) := by decide +kernel
set_option maxRecDepth 20000 in
theorem ggX11_load_X8_begin : GoodIn wsX11_load wsX8_begin := goodIn_r _ [19, 20, 21, 22, 23, 24, 25, 26, 27, 28, 29, 30, 31, 32, 33, 34, 35, 36, 37, 38, 39, 18, 40, 41, 42, 43, 44, 45, 46, 47, 48, 49, 50, 51, 52, 53, 54, 55, 56, 57, 58, 59, 60, 61, 62, 63, 456, 457, 458, 459, 446, 447, 448, 449, 450, 451, 452, 453, 454, 455] (by decide +kernel) (by decide +kernel)
set_option maxRecDepth 20000 in
theorem gX11_load_X8_begin : GoodIn wsX11_load (wsV RX11 77 RX8 yX8_begin wsX8_begin) := goodIn_app (goodIn_of _ (by decide +kernel)) ggX11_load_X8_begin
set_option maxRecDepth 20000 in
theorem ggX11_load_X8_readVariables : GoodIn wsX11_load wsX8_readVariables := goodIn_r _ [67, 68, 69, 70, 18, 71, 43, 26, 41, 72, 73, 74, 75, 76, 77, 78, 79, 80, 81, 82, 83, 44, 45, 46, 47, 42, 48, 84, 85, 86, 87, 88, 89, 90, 91, 92, 93, 94, 95, 96, 97, 98, 99, 100, 101, 102, 103, 104, 105, 106, 107, 108, 109, 110, 111, 112, 113, 114, 115, 116, 117, 118, 119, 120, 121, 122, 123, 124, 24, 25, 125, 126, 127, 128, 56, 23, 129, 130, 37, 38, 39, 40, 49, 50, 51, 52, 53, 54, 55, 57, 58, 59, 60, 61, 62, 63, 131, 132, 133, 134, 135, 136, 137, 138, 139, 140, 141, 142, 143, 144, 145, 146, 147, 148, 149, 22, 150, 36, 34, 151, 152, 153, 154, 446, 447, 448, 449, 450, 451, 452, 453, 454, 455, 456, 457, 458, 459] (by decide +kernel) (by decide +kernel)
set_option maxRecDepth 20000 in
theorem gX11_load_X8_readVariables : GoodIn wsX11_load (wsV RX11 80 RX8 yX8_readVariables wsX8_readVariables) := goodIn_app (goodIn_of _ (by decide +kernel)) ggX11_load_X8_readVariables
set_option maxRecDepth 20000 in
theorem ggX11_load_X8_readConstraints : GoodIn wsX11_load wsX8_readConstraints := goodIn_r _ [158, 43, 23, 68, 69, 70, 18, 71, 26, 41, 72, 73, 74, 75, 76, 77, 78, 79, 80, 81, 82, 83, 44, 45, 46, 47, 42, 48, 84, 85, 86, 87, 88, 89, 90, 91, 92, 93, 94, 95, 96, 97, 98, 99, 100, 101, 102, 103, 104, 105, 106, 107, 108, 109, 110, 111, 112, 113, 114, 115, 116, 117, 118, 119, 120, 121, 122, 123, 124, 24, 25, 37, 38, 39, 40, 49, 50, 51, 52, 53, 54, 55, 56, 57, 58, 59, 60, 61, 62, 63, 159, 160, 161, 162, 163, 164, 165, 166, 167, 168, 169, 170, 171, 172, 173, 174, 175, 176, 30, 31, 177, 178, 179, 180, 181, 182, 183, 184, 131, 132, 133, 134, 135, 136, 137, 138, 129, 130, 185, 186, 187, 188, 189, 190, 191, 153, 192, 193, 194, 195, 196, 197, 198, 199, 200, 201, 202, 203, 204, 205, 206, 207, 208, 209, 210, 211, 212, 213, 214, 215, 139, 140, 141, 142, 216, 217, 218, 219, 220, 221, 222, 223, 224, 225, 226, 227, 228, 229, 230, 231, 232, 233, 234, 235, 236, 237, 238, 239, 240, 241, 242, 243, 244, 245, 143, 144, 145, 146, 246, 247, 248, 22, 249, 35, 33, 446, 447, 448, 449, 450, 451, 452, 453, 454, 455, 471, 472, 473, 474, 475, 476, 477, 478, 479, 480, 481, 482, 483, 484, 485, 486, 487, 488, 489, 490, 491, 492, 493, 494, 456, 457, 458, 459] (by decide +kernel) (by decide +kernel)
set_option maxRecDepth 20000 in
theorem gX11_load_X8_readConstraints : GoodIn wsX11_load (wsV RX11 84 RX8 yX8_readConstraints wsX8_readConstraints) := goodIn_app (goodIn_of _ (by decide +kernel)) ggX11_load_X8_readConstraints
set_option maxRecDepth 20000 in
theorem ggX11_load_X9_begin : GoodIn wsX11_load wsX9_begin := goodIn_r _ [254, 255, 256, 257, 258, 465, 466, 467, 468, 469, 470] (by decide +kernel) (by decide +kernel)
set_option maxRecDepth 20000 in
theorem gX11_load_X9_begin : GoodIn wsX11_load (wsV RX11 100 RX9 yX9_begin wsX9_begin) := goodIn_app (goodIn_of _ (by decide +kernel)) ggX11_load_X9_begin
set_option maxRecDepth 20000 in
theorem ggX11_load_X11_propagate : GoodIn wsX11_load wsX11_propagate := goodIn_r _ [262, 14, 6, 263, 12, 264, 265, 266, 267, 22, 268, 35, 33, 269, 270, 214, 271, 272, 273, 274, 275, 276, 277, 174, 278, 179, 279, 280, 281, 282, 283, 284, 253, 285, 258, 255, 286, 287, 153, 288, 289, 290, 291, 292, 293, 294, 295, 296, 297, 298, 299, 300, 301, 302, 213, 215, 303, 152, 154, 304, 305, 306, 307, 308, 191, 192, 193, 309, 310, 177, 178, 311, 312, 313, 314, 241, 315, 316, 317, 318, 319, 320, 321, 322, 323, 324, 325, 326, 327, 328, 329, 330, 331, 332, 333, 334, 335, 165, 336, 337, 338, 339, 340, 341, 342, 169, 170, 343, 344, 345, 346, 347, 348, 349, 350, 351, 352, 353, 354, 355, 356, 357, 358, 359, 360, 226, 361, 230, 362, 363, 364, 231, 365, 232, 233, 366, 367, 368, 369, 370, 371, 372, 373, 374, 375, 376, 377, 378, 379, 380, 381, 382, 383, 384, 385, 386, 387, 171, 388, 210, 211, 212, 389, 390, 391, 392, 393, 394, 395, 396, 397, 398, 256, 399, 400, 401, 257, 402, 403, 404, 405, 406, 407, 408, 409, 410, 411, 412, 413, 414, 415, 416, 417, 418, 419, 420, 421, 422, 423, 424, 425, 426, 427, 428, 429, 430, 431, 432, 433, 434, 435, 436, 200, 201, 190, 465, 466, 467, 468, 469, 470, 437, 438, 439, 440, 441, 442, 443, 444, 445, 456, 457, 458, 459, 478, 479, 480, 481, 471, 472, 473, 474, 475, 476, 477, 482, 483, 484, 485, 486, 487, 488, 489, 490, 491, 492, 493, 494, 495, 496, 497, 498, 499, 500, 501] (by decide +kernel) (by decide +kernel)
set_option maxRecDepth 20000 in
theorem gX11_load_X11_propagate : GoodIn wsX11_load (wsV RX11 107 RX11 yX11_propagate wsX11_propagate) := goodIn_app (goodIn_of _ (by decide +kernel)) ggX11_load_X11_propagate
theorem dX11_load_0 : decode cX11_load 0 = .ok (.aload_n 0, 1) := by decide +kernel
theorem dX11_load_1 : decode cX11_load 1 = .ok (.getfield 12, 3) := by decide +kernel
theorem dX11_load_4 : decode cX11_load 4 = .ok (.invokevirtual 77, 3) := by decide +kernel
theorem dX11_load_7 : decode cX11_load 7 = .ok (.aload_n 0, 1) := by decide +kernel
theorem dX11_load_8 : decode cX11_load 8 = .ok (.getfield 12, 3) := by decide +kernel
theorem dX11_load_11 : decode cX11_load 11 = .ok (.invokevirtual 80, 3) := by decide +kernel
theorem dX11_load_14 : decode cX11_load 14 = .ok (.ifCond .eq 17, 3) := by decide +kernel
theorem dX11_load_17 : decode cX11_load 17 = .ok (.aload_n 0, 1) := by decide +kernel
theorem dX11_load_18 : decode cX11_load 18 = .ok (.getfield 12, 3) := by decide +kernel
theorem dX11_load_21 : decode cX11_load 21 = .ok (.invokevirtual 84, 3) := by decide +kernel
theorem dX11_load_24 : decode cX11_load 24 = .ok (.ifCond .eq 7, 3) := by decide +kernel
theorem dX11_load_27 : decode cX11_load 27 = .ok (.iconst 1, 1) := by decide +kernel
theorem dX11_load_28 : decode cX11_load 28 = .ok (.goto 4, 3) := by decide +kernel
theorem dX11_load_31 : decode cX11_load 31 = .ok (.iconst 0, 1) := by decide +kernel
theorem dX11_load_32 : decode cX11_load 32 = .ok (.istore_n 1, 1) := by decide +kernel
theorem dX11_load_33 : decode cX11_load 33 = .ok (.aload_n 0, 1) := by decide +kernel
theorem dX11_load_34 : decode cX11_load 34 = .ok (.getfield 12, 3) := by decide +kernel
theorem dX11_load_37 : decode cX11_load 37 = .ok (.iconst 0, 1) := by decide +kernel
theorem dX11_load_38 : decode cX11_load 38 = .ok (.putfield 58, 3) := by decide +kernel
theorem dX11_load_41 : decode cX11_load 41 = .ok (.iload_n 1, 1) := by decide +kernel
theorem dX11_load_42 : decode cX11_load 42 = .ok (.ifCond .ne 13, 3) := by decide +kernel
theorem dX11_load_45 : decode cX11_load 45 = .ok (.new 87, 3) := by decide +kernel
theorem dX11_load_48 : decode cX11_load 48 = .ok (.dup, 1) := by decide +kernel
theorem dX11_load_49 : decode cX11_load 49 = .ok (.ldc 89, 2) := by decide +kernel
theorem dX11_load_51 : decode cX11_load 51 = .ok (.invokespecial 91, 3) := by decide +kernel
theorem dX11_load_54 : decode cX11_load 54 = .ok (.athrow, 1) := by decide +kernel
theorem dX11_load_55 : decode cX11_load 55 = .ok (.aload_n 0, 1) := by decide +kernel
theorem dX11_load_56 : decode cX11_load 56 = .ok (.aload_n 0, 1) := by decide +kernel
theorem dX11_load_57 : decode cX11_load 57 = .ok (.getfield 12, 3) := by decide +kernel
theorem dX11_load_60 : decode cX11_load 60 = .ok (.getfield 92, 3) := by decide +kernel
theorem dX11_load_63 : decode cX11_load 63 = .ok (.putfield 47, 3) := by decide +kernel
theorem dX11_load_66 : decode cX11_load 66 = .ok (.aload_n 0, 1) := by decide +kernel
theorem dX11_load_67 : decode cX11_load 67 = .ok (.getfield 19, 3) := by decide +kernel
theorem dX11_load_70 : decode cX11_load 70 = .ok (.aload_n 0, 1) := by decide +kernel
theorem dX11_load_71 : decode cX11_load 71 = .ok (.getfield 47, 3) := by decide +kernel
theorem dX11_load_74 : decode cX11_load 74 = .ok (.getfield 93, 3) := by decide +kernel
theorem dX11_load_77 : decode cX11_load 77 = .ok (.aload_n 0, 1) := by decide +kernel
theorem dX11_load_78 : decode cX11_load 78 = .ok (.getfield 47, 3) := by decide +kernel
theorem dX11_load_81 : decode cX11_load 81 = .ok (.getfield 96, 3) := by decide +kernel
theorem dX11_load_84 : decode cX11_load 84 = .ok (.invokevirtual 100, 3) := by decide +kernel
theorem dX11_load_87 : decode cX11_load 87 = .ok (.aload_n 0, 1) := by decide +kernel
theorem dX11_load_88 : decode cX11_load 88 = .ok (.getfield 36, 3) := by decide +kernel
theorem dX11_load_91 : decode cX11_load 91 = .ok (.iconst 0, 1) := by decide +kernel
theorem dX11_load_92 : decode cX11_load 92 = .ok (.putfield 103, 3) := by decide +kernel
theorem dX11_load_95 : decode cX11_load 95 = .ok (.aload_n 0, 1) := by decide +kernel
theorem dX11_load_96 : decode cX11_load 96 = .ok (.iconst 0, 1) := by decide +kernel
theorem dX11_load_97 : decode cX11_load 97 = .ok (.putfield 51, 3) := by decide +kernel
theorem dX11_load_100 : decode cX11_load 100 = .ok (.aload_n 0, 1) := by decide +kernel
theorem dX11_load_101 : decode cX11_load 101 = .ok (.iconst 0, 1) := by decide +kernel
theorem dX11_load_102 : decode cX11_load 102 = .ok (.putfield 55, 3) := by decide +kernel
theorem dX11_load_105 : decode cX11_load 105 = .ok (.aload_n 0, 1) := by decide +kernel
