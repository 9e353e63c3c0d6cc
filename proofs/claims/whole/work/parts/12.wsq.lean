/-! words of the three methods that throw NoSuchElementException, without the printed ones of its chain (they speak of another entry) -/
def wsQ_factOf : List Cond := .code yX11_factOf cX11_factOf 6 (some .int) :: ((wsX11_factOf_r1 ++ wsX11_factOf_r2) ++ wsX110 ++ wsX90 ++ wsX60 ++ wsX30 ++ (vx_atS RX11 76 "java/lang/IndexOutOfBoundsException" ["java/lang/RuntimeException", "java/lang/Exception"]).filter goodWord ++ (vx_atS RX11 91 "java/lang/IllegalArgumentException" ["java/lang/RuntimeException", "java/lang/Exception"]).filter goodWord)
set_option maxRecDepth 20000 in
theorem qggX11_factOf_X11_isVariable : GoodIn wsQ_factOf wsX11_isVariable := goodIn_r _ [13, 14, 15, 42, 43, 44, 45, 46, 47, 48, 49, 50, 57, 58, 59, 60] (by decide +kernel) (by decide +kernel)
set_option maxRecDepth 20000 in
theorem qgX11_factOf_X11_isVariable : GoodIn wsQ_factOf (wsV RX11 154 RX11 yX11_isVariable wsX11_isVariable) := goodIn_app (goodIn_of _ (by decide +kernel)) qggX11_factOf_X11_isVariable
set_option maxRecDepth 20000 in
theorem qggX11_factOf_X11_isValue : GoodIn wsQ_factOf wsX11_isValue := goodIn_r _ [18] (by decide +kernel) (by decide +kernel)
set_option maxRecDepth 20000 in
theorem qgX11_factOf_X11_isValue : GoodIn wsQ_factOf (va_wsS RX11 199 yX11_isValue wsX11_isValue) := goodIn_app (goodIn_of _ (by decide +kernel)) qggX11_factOf_X11_isValue
set_option maxRecDepth 20000 in
theorem qggX11_factOf_X5_pair : GoodIn wsQ_factOf wsX5_pair := goodIn_r _ [22] (by decide +kernel) (by decide +kernel)
set_option maxRecDepth 20000 in
theorem qgX11_factOf_X5_pair : GoodIn wsQ_factOf (va_wsS RX11 204 yX5_pair wsX5_pair) := goodIn_app (goodIn_of _ (by decide +kernel)) qggX11_factOf_X5_pair
set_option maxRecDepth 20000 in
theorem qggX11_factOf_X9_pairAt : GoodIn wsQ_factOf wsX9_pairAt := goodIn_r _ [27, 28, 29, 30, 26, 31, 32, 33, 34, 35, 36, 37, 38, 39, 40, 41, 20, 21, 22, 51, 52, 53, 54, 55, 56, 61, 62, 63, 64, 65, 66, 67] (by decide +kernel) (by decide +kernel)
set_option maxRecDepth 20000 in
theorem qgX11_factOf_X9_pairAt : GoodIn wsQ_factOf (wsV RX11 208 RX9 yX9_pairAt wsX9_pairAt) := goodIn_app (goodIn_of _ (by decide +kernel)) qggX11_factOf_X9_pairAt
def wsQ_first : List Cond := .code yX11_first cX11_first 2 (some .int) :: ((wsX11_first_r1 ++ (wsX11_first_r2 ++ (wsX11_first_r3 ++ (wsX11_first_r4 ++ (wsX11_first_r5 ++ (wsX11_first_r6 ++ wsX11_first_r7)))))) ++ wsX110 ++ wsX90 ++ wsX70 ++ wsX60 ++ wsX00 ++ wsX20 ++ wsX40 ++ wsX100 ++ (vx_atS RX11 76 "java/lang/IndexOutOfBoundsException" ["java/lang/RuntimeException", "java/lang/Exception"]).filter goodWord)
set_option maxRecDepth 20000 in
theorem qggX11_first_X11_isVariable : GoodIn wsQ_first wsX11_isVariable := goodIn_r _ [15, 6, 16, 167, 168, 169, 170, 171, 172, 173, 174, 175, 187, 188, 189, 190] (by decide +kernel) (by decide +kernel)
set_option maxRecDepth 20000 in
theorem qgX11_first_X11_isVariable : GoodIn wsQ_first (wsV RX11 154 RX11 yX11_isVariable wsX11_isVariable) := goodIn_app (goodIn_of _ (by decide +kernel)) qggX11_first_X11_isVariable
set_option maxRecDepth 20000 in
theorem qggX11_first_X7_find : GoodIn wsQ_first wsX7_find := goodIn_r _ [21, 22, 23, 24, 25, 26, 27, 28, 20, 29, 30, 31, 32, 33, 34, 35, 36, 37, 38, 39, 40, 41, 42, 43, 44, 45, 46, 47, 48, 49, 50, 51, 52, 53, 54, 55, 56, 57, 58, 59, 60, 61, 62, 63, 64, 65, 66, 67, 68, 69, 70, 71, 72, 73, 74, 75, 76, 77, 78, 79, 80, 81, 82, 83, 84, 85, 86, 87, 88, 89, 90, 91, 92, 93, 94, 95, 96, 97, 98, 99, 100, 101, 102, 103, 104, 105, 106, 107, 108, 109, 110, 111, 112, 113, 114, 115, 116, 117, 118, 119, 120, 121, 122, 123, 124, 125, 126, 127, 128, 129, 130, 131, 132, 133, 134, 135, 136, 137, 138, 139, 140, 141, 142, 143, 144, 145, 146, 147, 148, 149, 150, 151, 152, 153, 154, 14, 155, 156, 157, 158, 159, 160, 161, 162, 182, 183, 184, 185, 186, 187, 188, 189, 190, 191, 192, 193, 194, 195, 196, 197, 198, 199, 200, 201, 202, 203, 204, 205, 206, 207, 208, 209, 210, 211, 212, 213, 214] (by decide +kernel) (by decide +kernel)
set_option maxRecDepth 20000 in
theorem qgX11_first_X7_find : GoodIn wsQ_first (wsV RX11 306 RX7 yX7_find wsX7_find) := goodIn_app (goodIn_of _ (by decide +kernel)) qggX11_first_X7_find
set_option maxRecDepth 20000 in
theorem qggX11_first_X5_leastValueOf : GoodIn wsQ_first wsX5_leastValueOf := goodIn_r _ [165, 166, 152, 63, 153, 154, 14, 155, 156, 157, 158] (by decide +kernel) (by decide +kernel)
set_option maxRecDepth 20000 in
theorem qgX11_first_X5_leastValueOf : GoodIn wsQ_first (va_wsS RX11 282 yX5_leastValueOf wsX5_leastValueOf) := goodIn_app (goodIn_of _ (by decide +kernel)) qggX11_first_X5_leastValueOf
def wsQ_support : List Cond := .code yX11_support cX11_support 8 (some .int) :: ((wsX11_support_r1 ++ (wsX11_support_r2 ++ (wsX11_support_r3 ++ (wsX11_support_r4 ++ (wsX11_support_r5 ++ (wsX11_support_r6 ++ (wsX11_support_r7 ++ wsX11_support_r8))))))) ++ wsX110 ++ wsX60 ++ wsX00 ++ wsX20 ++ wsX40 ++ wsX100 ++ wsX90 ++ (vx_atS RX11 76 "java/lang/IndexOutOfBoundsException" ["java/lang/RuntimeException", "java/lang/Exception"]).filter goodWord ++ (vx_atS RX11 91 "java/lang/IllegalArgumentException" ["java/lang/RuntimeException", "java/lang/Exception"]).filter goodWord)
set_option maxRecDepth 20000 in
theorem qggX11_support_X6_constraintAt : GoodIn wsQ_support wsX6_constraintAt := goodIn_r _ [12, 13, 14, 184, 185, 186, 187] (by decide +kernel) (by decide +kernel)
set_option maxRecDepth 20000 in
theorem qgX11_support_X6_constraintAt : GoodIn wsQ_support (wsV RX11 159 RX6 yX6_constraintAt wsX6_constraintAt) := goodIn_app (goodIn_of _ (by decide +kernel)) qggX11_support_X6_constraintAt
set_option maxRecDepth 20000 in
theorem qggX11_support_X1_hasVariable : GoodIn wsQ_support wsX1_hasVariable := goodIn_r _ [20, 21, 22, 23, 24, 25, 26, 188, 189, 190, 191, 192, 193, 194, 195, 196, 197, 198, 199, 200, 201, 202, 203, 204, 205, 206, 207, 208, 209, 210, 211] (by decide +kernel) (by decide +kernel)
set_option maxRecDepth 20000 in
theorem qgX11_support_X1_hasVariable_u178X0 : GoodIn wsQ_support (va_wsU RX11 178 RX0 "SupportSolver$Constraint" ⟨"SupportSolver$Constraint", "hasVariable", "(I)Z"⟩ yX1_hasVariable wsX1_hasVariable) := goodIn_app (goodIn_of _ (by decide +kernel)) qggX11_support_X1_hasVariable
set_option maxRecDepth 20000 in
theorem qgX11_support_X1_hasVariable_u178X2 : GoodIn wsQ_support (va_wsU RX11 178 RX2 "SupportSolver$Constraint" ⟨"SupportSolver$Constraint", "hasVariable", "(I)Z"⟩ yX1_hasVariable wsX1_hasVariable) := goodIn_app (goodIn_of _ (by decide +kernel)) qggX11_support_X1_hasVariable
set_option maxRecDepth 20000 in
theorem qgX11_support_X1_hasVariable_u178X4 : GoodIn wsQ_support (va_wsU RX11 178 RX4 "SupportSolver$Constraint" ⟨"SupportSolver$Constraint", "hasVariable", "(I)Z"⟩ yX1_hasVariable wsX1_hasVariable) := goodIn_app (goodIn_of _ (by decide +kernel)) qggX11_support_X1_hasVariable
set_option maxRecDepth 20000 in
theorem qgX11_support_X1_hasVariable_u178X10 : GoodIn wsQ_support (va_wsU RX11 178 RX10 "SupportSolver$Constraint" ⟨"SupportSolver$Constraint", "hasVariable", "(I)Z"⟩ yX1_hasVariable wsX1_hasVariable) := goodIn_app (goodIn_of _ (by decide +kernel)) qggX11_support_X1_hasVariable
set_option maxRecDepth 20000 in
theorem qggX11_support_X11_isValue : GoodIn wsQ_support wsX11_isValue := goodIn_r _ [33] (by decide +kernel) (by decide +kernel)
set_option maxRecDepth 20000 in
theorem qgX11_support_X11_isValue : GoodIn wsQ_support (va_wsS RX11 199 yX11_isValue wsX11_isValue) := goodIn_app (goodIn_of _ (by decide +kernel)) qggX11_support_X11_isValue
set_option maxRecDepth 20000 in
theorem qggX11_support_X11_presentSupport : GoodIn wsQ_support wsX11_presentSupport := goodIn_r _ [37, 38, 39, 40, 41, 24, 42, 43, 44, 23, 25, 26, 45, 46, 47, 48, 19, 49, 50, 21, 51, 52, 53, 54, 55, 56, 57, 58, 59, 60, 61, 62, 63, 64, 65, 66, 67, 68, 69, 70, 71, 72, 73, 74, 75, 76, 77, 78, 79, 80, 81, 82, 83, 84, 85, 86, 87, 88, 89, 90, 91, 92, 93, 94, 95, 96, 97, 98, 99, 100, 101, 102, 103, 104, 105, 106, 107, 108, 109, 110, 111, 112, 113, 114, 115, 116, 117, 118, 119, 120, 121, 122, 123, 124, 125, 126, 127, 128, 129, 130, 131, 132, 133, 134, 135, 136, 137, 138, 139, 140, 141, 142, 143, 144, 145, 146, 147, 148, 149, 150, 151, 152, 153, 154, 155, 156, 157, 158, 159, 160, 161, 162, 31, 32, 33, 163, 164, 165, 166, 167, 168, 175, 176, 177, 178, 179, 180, 181, 182, 183, 212, 213, 214, 215, 216, 217, 188, 189, 190, 191, 192, 193, 194, 195, 196, 197, 198, 199, 200, 201, 202, 203, 204, 205, 206, 207, 208, 209, 210, 211] (by decide +kernel) (by decide +kernel)
set_option maxRecDepth 20000 in
theorem qgX11_support_X11_presentSupport : GoodIn wsQ_support (wsV RX11 276 RX11 yX11_presentSupport wsX11_presentSupport) := goodIn_app (goodIn_of _ (by decide +kernel)) qggX11_support_X11_presentSupport
set_option maxRecDepth 20000 in
theorem qggX11_support_X5_leastValueOf : GoodIn wsQ_support wsX5_leastValueOf := goodIn_r _ [171, 172, 173, 24, 174, 31, 32, 33, 45, 46, 47] (by decide +kernel) (by decide +kernel)
set_option maxRecDepth 20000 in
theorem qgX11_support_X5_leastValueOf : GoodIn wsQ_support (va_wsS RX11 282 yX5_leastValueOf wsX5_leastValueOf) := goodIn_app (goodIn_of _ (by decide +kernel)) qggX11_support_X5_leastValueOf
