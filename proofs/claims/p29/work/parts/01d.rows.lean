theorem dX8_differences_0 : decode cX8_differences 0 = .ok (.iload_n 1, 1) := by decide +kernel
theorem dX8_differences_1 : decode cX8_differences 1 = .ok (.invokestatic 51, 3) := by decide +kernel
theorem dX8_differences_4 : decode cX8_differences 4 = .ok (.ifCond .ne 5, 3) := by decide +kernel
theorem dX8_differences_7 : decode cX8_differences 7 = .ok (.iconst (-1), 1) := by decide +kernel
theorem dX8_differences_8 : decode cX8_differences 8 = .ok (.ireturn, 1) := by decide +kernel
theorem dX8_differences_9 : decode cX8_differences 9 = .ok (.aload_n 0, 1) := by decide +kernel
theorem dX8_differences_10 : decode cX8_differences 10 = .ok (.getfield 10, 3) := by decide +kernel
theorem dX8_differences_13 : decode cX8_differences 13 = .ok (.iload_n 1, 1) := by decide +kernel
theorem dX8_differences_14 : decode cX8_differences 14 = .ok (.invokevirtual 61, 3) := by decide +kernel
theorem dX8_differences_17 : decode cX8_differences 17 = .ok (.astore_n 2, 1) := by decide +kernel
theorem dX8_differences_18 : decode cX8_differences 18 = .ok (.aload_n 2, 1) := by decide +kernel
theorem dX8_differences_19 : decode cX8_differences 19 = .ok (.getfield 65, 3) := by decide +kernel
theorem dX8_differences_22 : decode cX8_differences 22 = .ok (.ifCond .ne 6, 3) := by decide +kernel
theorem dX8_differences_25 : decode cX8_differences 25 = .ok (.bipush (-5), 2) := by decide +kernel
theorem dX8_differences_27 : decode cX8_differences 27 = .ok (.ireturn, 1) := by decide +kernel
theorem dX8_differences_28 : decode cX8_differences 28 = .ok (.aload_n 2, 1) := by decide +kernel
theorem dX8_differences_29 : decode cX8_differences 29 = .ok (.aload_n 0, 1) := by decide +kernel
theorem dX8_differences_30 : decode cX8_differences 30 = .ok (.getfield 47, 3) := by decide +kernel
theorem dX8_differences_33 : decode cX8_differences 33 = .ok (.invokestatic 115, 3) := by decide +kernel
theorem dX8_differences_36 : decode cX8_differences 36 = .ok (.ifCond .ne 6, 3) := by decide +kernel
theorem dX8_differences_39 : decode cX8_differences 39 = .ok (.bipush (-4), 2) := by decide +kernel
theorem dX8_differences_41 : decode cX8_differences 41 = .ok (.ireturn, 1) := by decide +kernel
theorem dX8_differences_42 : decode cX8_differences 42 = .ok (.aload_n 0, 1) := by decide +kernel
theorem dX8_differences_43 : decode cX8_differences 43 = .ok (.iload_n 1, 1) := by decide +kernel
theorem dX8_differences_44 : decode cX8_differences 44 = .ok (.invokevirtual 98, 3) := by decide +kernel
theorem dX8_differences_47 : decode cX8_differences 47 = .ok (.ireturn, 1) := by decide +kernel
set_option maxRecDepth 20000 in
theorem ggX8_take_X8_isTable : GoodIn wsX8_take wsX8_isTable := goodIn_r _ [8, 9, 10, 7, 11] (by decide +kernel) (by decide +kernel)
set_option maxRecDepth 20000 in
theorem gX8_take_X8_isTable : GoodIn wsX8_take (va_wsS RX8 118 yX8_isTable wsX8_isTable) := goodIn_app (goodIn_of _ (by decide +kernel)) ggX8_take_X8_isTable
set_option maxRecDepth 20000 in
theorem ggX8_take_X1_build : GoodIn wsX8_take wsX1_build := goodIn_r _ [16, 17, 18, 19, 20, 21, 22, 23, 24, 25, 26, 27, 28, 29, 30, 31, 32, 33, 34, 35, 15, 36, 37, 38, 39, 40, 41, 42, 43, 44, 45, 46, 47, 48, 49, 50, 51, 52, 53, 54, 55, 56, 57, 58, 59, 60, 61, 62, 63, 64, 65, 66, 67, 68, 69, 70, 71, 72, 73, 74, 75, 76, 77, 78, 79, 80, 81, 82, 83, 151, 152, 153, 154, 155, 156, 157, 158, 159, 160, 161, 162, 163, 164, 149, 150] (by decide +kernel) (by decide +kernel)
set_option maxRecDepth 20000 in
theorem gX8_take_X1_build : GoodIn wsX8_take (wsV RX8 122 RX1 yX1_build wsX1_build) := goodIn_app (goodIn_of _ (by decide +kernel)) ggX8_take_X1_build
set_option maxRecDepth 20000 in
theorem ggX8_take_X1_copyColumn : GoodIn wsX8_take wsX1_copyColumn := goodIn_r _ [87, 23, 24, 39, 40, 41, 15, 42, 17, 88, 89, 90, 91, 92, 93, 94, 95, 38, 96, 97, 98, 99, 37, 100, 101, 57, 102, 103, 104, 105, 106, 107, 108, 109, 110, 111, 149, 150, 151, 152, 153, 154, 155, 156, 157, 158, 159, 160] (by decide +kernel) (by decide +kernel)
set_option maxRecDepth 20000 in
theorem gX8_take_X1_copyColumn : GoodIn wsX8_take (wsV RX8 126 RX1 yX1_copyColumn wsX1_copyColumn) := goodIn_app (goodIn_of _ (by decide +kernel)) ggX8_take_X1_copyColumn
set_option maxRecDepth 20000 in
theorem ggX8_take_X8_putDraft : GoodIn wsX8_take wsX8_putDraft := goodIn_r _ [115, 116, 2, 3, 4, 117, 118, 119, 120, 121, 122, 123, 124, 125, 126, 127, 29, 128, 31, 32, 129, 130, 131, 132, 133, 134, 135, 136, 137, 108, 138, 111, 139, 110, 140, 27, 28, 30, 141, 142, 143, 144, 145, 146, 147, 148, 149, 150, 165, 166, 167, 161, 162, 163, 164] (by decide +kernel) (by decide +kernel)
set_option maxRecDepth 20000 in
theorem gX8_take_X8_putDraft : GoodIn wsX8_take (wsV RX8 98 RX8 yX8_putDraft wsX8_putDraft) := goodIn_app (goodIn_of _ (by decide +kernel)) ggX8_take_X8_putDraft
theorem dX8_take_0 : decode cX8_take 0 = .ok (.iload_n 1, 1) := by decide +kernel
theorem dX8_take_1 : decode cX8_take 1 = .ok (.iload_n 2, 1) := by decide +kernel
theorem dX8_take_2 : decode cX8_take 2 = .ok (.invokestatic 118, 3) := by decide +kernel
theorem dX8_take_5 : decode cX8_take 5 = .ok (.ifCond .ne 5, 3) := by decide +kernel
theorem dX8_take_8 : decode cX8_take 8 = .ok (.iconst (-1), 1) := by decide +kernel
theorem dX8_take_9 : decode cX8_take 9 = .ok (.ireturn, 1) := by decide +kernel
theorem dX8_take_10 : decode cX8_take 10 = .ok (.iload_n 3, 1) := by decide +kernel
theorem dX8_take_11 : decode cX8_take 11 = .ok (.ifCond .lt 9, 3) := by decide +kernel
theorem dX8_take_14 : decode cX8_take 14 = .ok (.iload_n 3, 1) := by decide +kernel
theorem dX8_take_15 : decode cX8_take 15 = .ok (.bipush 16, 2) := by decide +kernel
theorem dX8_take_17 : decode cX8_take 17 = .ok (.if_icmp .lt 6, 3) := by decide +kernel
theorem dX8_take_20 : decode cX8_take 20 = .ok (.bipush (-2), 2) := by decide +kernel
theorem dX8_take_22 : decode cX8_take 22 = .ok (.ireturn, 1) := by decide +kernel
theorem dX8_take_23 : decode cX8_take 23 = .ok (.aload_n 0, 1) := by decide +kernel
theorem dX8_take_24 : decode cX8_take 24 = .ok (.getfield 40, 3) := by decide +kernel
theorem dX8_take_27 : decode cX8_take 27 = .ok (.aload_n 0, 1) := by decide +kernel
theorem dX8_take_28 : decode cX8_take 28 = .ok (.getfield 10, 3) := by decide +kernel
theorem dX8_take_31 : decode cX8_take 31 = .ok (.iconst 1, 1) := by decide +kernel
theorem dX8_take_32 : decode cX8_take 32 = .ok (.iload_n 1, 1) := by decide +kernel
theorem dX8_take_33 : decode cX8_take 33 = .ok (.isub, 1) := by decide +kernel
theorem dX8_take_34 : decode cX8_take 34 = .ok (.iload_n 2, 1) := by decide +kernel
theorem dX8_take_35 : decode cX8_take 35 = .ok (.invokevirtual 122, 3) := by decide +kernel
theorem dX8_take_38 : decode cX8_take 38 = .ok (.aload_n 0, 1) := by decide +kernel
theorem dX8_take_39 : decode cX8_take 39 = .ok (.getfield 40, 3) := by decide +kernel
theorem dX8_take_42 : decode cX8_take 42 = .ok (.iload_n 3, 1) := by decide +kernel
theorem dX8_take_43 : decode cX8_take 43 = .ok (.aload_n 0, 1) := by decide +kernel
theorem dX8_take_44 : decode cX8_take 44 = .ok (.getfield 47, 3) := by decide +kernel
theorem dX8_take_47 : decode cX8_take 47 = .ok (.invokevirtual 126, 3) := by decide +kernel
theorem dX8_take_50 : decode cX8_take 50 = .ok (.aload_n 0, 1) := by decide +kernel
theorem dX8_take_51 : decode cX8_take 51 = .ok (.getfield 47, 3) := by decide +kernel
theorem dX8_take_54 : decode cX8_take 54 = .ok (.getfield 65, 3) := by decide +kernel
theorem dX8_take_57 : decode cX8_take 57 = .ok (.ifCond .ne 6, 3) := by decide +kernel
theorem dX8_take_60 : decode cX8_take 60 = .ok (.bipush (-4), 2) := by decide +kernel
theorem dX8_take_62 : decode cX8_take 62 = .ok (.ireturn, 1) := by decide +kernel
theorem dX8_take_63 : decode cX8_take 63 = .ok (.aload_n 0, 1) := by decide +kernel
theorem dX8_take_64 : decode cX8_take 64 = .ok (.iload_n 1, 1) := by decide +kernel
theorem dX8_take_65 : decode cX8_take 65 = .ok (.invokevirtual 98, 3) := by decide +kernel
theorem dX8_take_68 : decode cX8_take 68 = .ok (.ireturn, 1) := by decide +kernel
set_option maxRecDepth 20000 in
theorem ggX8_setting_X5_isSetting : GoodIn wsX8_setting wsX5_isSetting := goodIn_r _ [7] (by decide +kernel) (by decide +kernel)
set_option maxRecDepth 20000 in
theorem gX8_setting_X5_isSetting : GoodIn wsX8_setting (va_wsS RX8 130 yX5_isSetting wsX5_isSetting) := goodIn_app (goodIn_of _ (by decide +kernel)) ggX8_setting_X5_isSetting
set_option maxRecDepth 20000 in
theorem ggX8_setting_X0_isNan : GoodIn wsX8_setting wsX0_isNan := goodIn_r _ [11, 12, 13, 14, 10, 15, 16] (by decide +kernel) (by decide +kernel)
set_option maxRecDepth 20000 in
theorem gX8_setting_X0_isNan : GoodIn wsX8_setting (va_wsS RX8 133 yX0_isNan wsX0_isNan) := goodIn_app (goodIn_of _ (by decide +kernel)) ggX8_setting_X0_isNan
set_option maxRecDepth 20000 in
theorem ggX8_setting_X0_isMinusZero : GoodIn wsX8_setting wsX0_isMinusZero := goodIn_r _ [19, 20] (by decide +kernel) (by decide +kernel)
set_option maxRecDepth 20000 in
theorem gX8_setting_X0_isMinusZero : GoodIn wsX8_setting (va_wsS RX8 136 yX0_isMinusZero wsX0_isMinusZero) := goodIn_app (goodIn_of _ (by decide +kernel)) ggX8_setting_X0_isMinusZero
set_option maxRecDepth 20000 in
theorem ggX8_setting_X0_decoded : GoodIn wsX8_setting wsX0_decoded := goodIn_r _ [23, 12, 24, 13, 14, 10, 15, 16, 25, 26, 27, 28, 29] (by decide +kernel) (by decide +kernel)
set_option maxRecDepth 20000 in
theorem gX8_setting_X0_decoded : GoodIn wsX8_setting (va_wsS RX8 73 yX0_decoded wsX0_decoded) := goodIn_app (goodIn_of _ (by decide +kernel)) ggX8_setting_X0_decoded
set_option maxRecDepth 20000 in
theorem ggX8_setting_X5_inRange : GoodIn wsX8_setting wsX5_inRange := goodIn_r _ [32, 33, 34, 35, 36] (by decide +kernel) (by decide +kernel)
set_option maxRecDepth 20000 in
theorem gX8_setting_X5_inRange : GoodIn wsX8_setting (va_wsS RX8 139 yX5_inRange wsX5_inRange) := goodIn_app (goodIn_of _ (by decide +kernel)) ggX8_setting_X5_inRange
set_option maxRecDepth 20000 in
theorem ggX8_setting_X2_remember : GoodIn wsX8_setting wsX2_remember := goodIn_r _ [41, 42, 43, 44, 45, 46, 47, 6, 48, 49, 50, 51, 52, 53, 54, 55, 56, 57, 58, 59, 60, 61, 62, 63, 64, 76, 77, 78, 72, 73, 74, 75, 79, 80] (by decide +kernel) (by decide +kernel)
set_option maxRecDepth 20000 in
theorem gX8_setting_X2_remember : GoodIn wsX8_setting (wsV RX8 69 RX2 yX2_remember wsX2_remember) := goodIn_app (goodIn_of _ (by decide +kernel)) ggX8_setting_X2_remember
theorem dX8_setting_0 : decode cX8_setting 0 = .ok (.iload_n 1, 1) := by decide +kernel
theorem dX8_setting_1 : decode cX8_setting 1 = .ok (.invokestatic 130, 3) := by decide +kernel
theorem dX8_setting_4 : decode cX8_setting 4 = .ok (.ifCond .eq 17, 3) := by decide +kernel
theorem dX8_setting_7 : decode cX8_setting 7 = .ok (.lload_n 2, 1) := by decide +kernel
theorem dX8_setting_8 : decode cX8_setting 8 = .ok (.invokestatic 133, 3) := by decide +kernel
theorem dX8_setting_11 : decode cX8_setting 11 = .ok (.ifCond .ne 10, 3) := by decide +kernel
theorem dX8_setting_14 : decode cX8_setting 14 = .ok (.lload_n 2, 1) := by decide +kernel
theorem dX8_setting_15 : decode cX8_setting 15 = .ok (.invokestatic 136, 3) := by decide +kernel
theorem dX8_setting_18 : decode cX8_setting 18 = .ok (.ifCond .eq 6, 3) := by decide +kernel
theorem dX8_setting_21 : decode cX8_setting 21 = .ok (.bipush (-2), 2) := by decide +kernel
theorem dX8_setting_23 : decode cX8_setting 23 = .ok (.ireturn, 1) := by decide +kernel
theorem dX8_setting_24 : decode cX8_setting 24 = .ok (.lload_n 2, 1) := by decide +kernel
theorem dX8_setting_25 : decode cX8_setting 25 = .ok (.invokestatic 73, 3) := by decide +kernel
theorem dX8_setting_28 : decode cX8_setting 28 = .ok (.dstore 4, 2) := by decide +kernel
theorem dX8_setting_30 : decode cX8_setting 30 = .ok (.iload_n 1, 1) := by decide +kernel
theorem dX8_setting_31 : decode cX8_setting 31 = .ok (.dload 4, 2) := by decide +kernel
theorem dX8_setting_33 : decode cX8_setting 33 = .ok (.invokestatic 139, 3) := by decide +kernel
theorem dX8_setting_36 : decode cX8_setting 36 = .ok (.ifCond .ne 6, 3) := by decide +kernel
theorem dX8_setting_39 : decode cX8_setting 39 = .ok (.bipush (-2), 2) := by decide +kernel
theorem dX8_setting_41 : decode cX8_setting 41 = .ok (.ireturn, 1) := by decide +kernel
theorem dX8_setting_42 : decode cX8_setting 42 = .ok (.aload_n 0, 1) := by decide +kernel
theorem dX8_setting_43 : decode cX8_setting 43 = .ok (.getfield 10, 3) := by decide +kernel
theorem dX8_setting_46 : decode cX8_setting 46 = .ok (.getfield 102, 3) := by decide +kernel
theorem dX8_setting_49 : decode cX8_setting 49 = .ok (.iload_n 1, 1) := by decide +kernel
theorem dX8_setting_50 : decode cX8_setting 50 = .ok (.daload, 1) := by decide +kernel
theorem dX8_setting_51 : decode cX8_setting 51 = .ok (.dload 4, 2) := by decide +kernel
theorem dX8_setting_53 : decode cX8_setting 53 = .ok (.dcmp .l, 1) := by decide +kernel
theorem dX8_setting_54 : decode cX8_setting 54 = .ok (.ifCond .ne 6, 3) := by decide +kernel
theorem dX8_setting_57 : decode cX8_setting 57 = .ok (.bipush (-5), 2) := by decide +kernel
theorem dX8_setting_59 : decode cX8_setting 59 = .ok (.ireturn, 1) := by decide +kernel
theorem dX8_setting_60 : decode cX8_setting 60 = .ok (.aload_n 0, 1) := by decide +kernel
theorem dX8_setting_61 : decode cX8_setting 61 = .ok (.getfield 26, 3) := by decide +kernel
theorem dX8_setting_64 : decode cX8_setting 64 = .ok (.aload_n 0, 1) := by decide +kernel
theorem dX8_setting_65 : decode cX8_setting 65 = .ok (.getfield 10, 3) := by decide +kernel
theorem dX8_setting_68 : decode cX8_setting 68 = .ok (.invokevirtual 69, 3) := by decide +kernel
theorem dX8_setting_71 : decode cX8_setting 71 = .ok (.aload_n 0, 1) := by decide +kernel
theorem dX8_setting_72 : decode cX8_setting 72 = .ok (.getfield 10, 3) := by decide +kernel
theorem dX8_setting_75 : decode cX8_setting 75 = .ok (.getfield 102, 3) := by decide +kernel
theorem dX8_setting_78 : decode cX8_setting 78 = .ok (.iload_n 1, 1) := by decide +kernel
theorem dX8_setting_79 : decode cX8_setting 79 = .ok (.dload 4, 2) := by decide +kernel
theorem dX8_setting_81 : decode cX8_setting 81 = .ok (.dastore, 1) := by decide +kernel
theorem dX8_setting_82 : decode cX8_setting 82 = .ok (.iload_n 1, 1) := by decide +kernel
theorem dX8_setting_83 : decode cX8_setting 83 = .ok (.ireturn, 1) := by decide +kernel
set_option maxRecDepth 20000 in
theorem ggX8_bridge_X2_remember : GoodIn wsX8_bridge wsX2_remember := goodIn_r _ [8, 9, 10, 11, 12, 13, 14, 15, 16, 17, 18, 19, 20, 21, 22, 23, 24, 25, 26, 27, 28, 29, 30, 31, 32, 135, 136, 137, 131, 132, 133, 134, 138, 139] (by decide +kernel) (by decide +kernel)
set_option maxRecDepth 20000 in
theorem gX8_bridge_X2_remember : GoodIn wsX8_bridge (wsV RX8 69 RX2 yX2_remember wsX2_remember) := goodIn_app (goodIn_of _ (by decide +kernel)) ggX8_bridge_X2_remember
set_option maxRecDepth 20000 in
theorem ggX8_bridge_X8_brokenInAll : GoodIn wsX8_bridge wsX8_brokenInAll := goodIn_r _ [37, 38, 1, 39, 40, 41, 42, 43, 44, 45, 46, 47, 48, 49, 50, 51, 52, 53, 54, 55, 15, 56, 17, 18, 57, 58, 59, 60, 61, 62, 63, 64, 65, 66, 67, 68, 69, 70, 71, 72, 73, 74, 75, 76, 77, 78, 79, 80, 81, 82, 83, 84, 85, 86, 87, 88, 89, 90, 91, 92, 93, 94, 95, 96, 97, 98, 99, 100, 101, 102, 103, 104, 105, 106, 107, 108, 109, 110, 111, 112, 113, 114, 115, 116, 117, 118, 119, 120, 121, 122, 123, 124, 125, 126, 127, 128, 129, 130, 140, 141, 142, 143, 144, 145, 146, 147, 148, 149, 131, 132, 133, 134, 138, 139] (by decide +kernel) (by decide +kernel)
set_option maxRecDepth 20000 in
theorem gX8_bridge_X8_brokenInAll : GoodIn wsX8_bridge (wsV RX8 146 RX8 yX8_brokenInAll wsX8_brokenInAll) := goodIn_app (goodIn_of _ (by decide +kernel)) ggX8_bridge_X8_brokenInAll
theorem dX8_bridge_0 : decode cX8_bridge 0 = .ok (.aload_n 0, 1) := by decide +kernel
theorem dX8_bridge_1 : decode cX8_bridge 1 = .ok (.getfield 10, 3) := by decide +kernel
theorem dX8_bridge_4 : decode cX8_bridge 4 = .ok (.getfield 143, 3) := by decide +kernel
theorem dX8_bridge_7 : decode cX8_bridge 7 = .ok (.iload_n 1, 1) := by decide +kernel
theorem dX8_bridge_8 : decode cX8_bridge 8 = .ok (.if_icmp .ne 6, 3) := by decide +kernel
theorem dX8_bridge_11 : decode cX8_bridge 11 = .ok (.bipush (-5), 2) := by decide +kernel
theorem dX8_bridge_13 : decode cX8_bridge 13 = .ok (.ireturn, 1) := by decide +kernel
theorem dX8_bridge_14 : decode cX8_bridge 14 = .ok (.aload_n 0, 1) := by decide +kernel
theorem dX8_bridge_15 : decode cX8_bridge 15 = .ok (.getfield 26, 3) := by decide +kernel
theorem dX8_bridge_18 : decode cX8_bridge 18 = .ok (.aload_n 0, 1) := by decide +kernel
theorem dX8_bridge_19 : decode cX8_bridge 19 = .ok (.getfield 10, 3) := by decide +kernel
theorem dX8_bridge_22 : decode cX8_bridge 22 = .ok (.invokevirtual 69, 3) := by decide +kernel
theorem dX8_bridge_25 : decode cX8_bridge 25 = .ok (.aload_n 0, 1) := by decide +kernel
theorem dX8_bridge_26 : decode cX8_bridge 26 = .ok (.getfield 10, 3) := by decide +kernel
theorem dX8_bridge_29 : decode cX8_bridge 29 = .ok (.iload_n 1, 1) := by decide +kernel
theorem dX8_bridge_30 : decode cX8_bridge 30 = .ok (.putfield 143, 3) := by decide +kernel
theorem dX8_bridge_33 : decode cX8_bridge 33 = .ok (.aload_n 0, 1) := by decide +kernel
theorem dX8_bridge_34 : decode cX8_bridge 34 = .ok (.invokevirtual 146, 3) := by decide +kernel
theorem dX8_bridge_37 : decode cX8_bridge 37 = .ok (.ireturn, 1) := by decide +kernel
set_option maxRecDepth 20000 in
theorem ggX8_type_X7_append : GoodIn wsX8_type wsX7_append := goodIn_r _ [7, 8, 9, 17, 18, 19, 20] (by decide +kernel) (by decide +kernel)
set_option maxRecDepth 20000 in
theorem gX8_type_X7_append : GoodIn wsX8_type (wsV RX8 151 RX7 yX7_append wsX7_append) := goodIn_app (goodIn_of _ (by decide +kernel)) ggX8_type_X7_append
theorem dX8_type_0 : decode cX8_type 0 = .ok (.aload_n 0, 1) := by decide +kernel
theorem dX8_type_1 : decode cX8_type 1 = .ok (.getfield 33, 3) := by decide +kernel
theorem dX8_type_4 : decode cX8_type 4 = .ok (.getfield 150, 3) := by decide +kernel
theorem dX8_type_7 : decode cX8_type 7 = .ok (.bipush 60, 2) := by decide +kernel
theorem dX8_type_9 : decode cX8_type 9 = .ok (.if_icmp .ne 6, 3) := by decide +kernel
theorem dX8_type_12 : decode cX8_type 12 = .ok (.bipush (-3), 2) := by decide +kernel
theorem dX8_type_14 : decode cX8_type 14 = .ok (.ireturn, 1) := by decide +kernel
theorem dX8_type_15 : decode cX8_type 15 = .ok (.aload_n 0, 1) := by decide +kernel
theorem dX8_type_16 : decode cX8_type 16 = .ok (.getfield 33, 3) := by decide +kernel
theorem dX8_type_19 : decode cX8_type 19 = .ok (.iload_n 1, 1) := by decide +kernel
theorem dX8_type_20 : decode cX8_type 20 = .ok (.invokevirtual 151, 3) := by decide +kernel
theorem dX8_type_23 : decode cX8_type 23 = .ok (.aload_n 0, 1) := by decide +kernel
theorem dX8_type_24 : decode cX8_type 24 = .ok (.getfield 33, 3) := by decide +kernel
theorem dX8_type_27 : decode cX8_type 27 = .ok (.getfield 150, 3) := by decide +kernel
theorem dX8_type_30 : decode cX8_type 30 = .ok (.ireturn, 1) := by decide +kernel
theorem dX8_clearText_0 : decode cX8_clearText 0 = .ok (.aload_n 0, 1) := by decide +kernel
theorem dX8_clearText_1 : decode cX8_clearText 1 = .ok (.getfield 33, 3) := by decide +kernel
theorem dX8_clearText_4 : decode cX8_clearText 4 = .ok (.getfield 150, 3) := by decide +kernel
theorem dX8_clearText_7 : decode cX8_clearText 7 = .ok (.istore_n 1, 1) := by decide +kernel
theorem dX8_clearText_8 : decode cX8_clearText 8 = .ok (.aload_n 0, 1) := by decide +kernel
theorem dX8_clearText_9 : decode cX8_clearText 9 = .ok (.getfield 33, 3) := by decide +kernel
theorem dX8_clearText_12 : decode cX8_clearText 12 = .ok (.iconst 0, 1) := by decide +kernel
theorem dX8_clearText_13 : decode cX8_clearText 13 = .ok (.putfield 150, 3) := by decide +kernel
theorem dX8_clearText_16 : decode cX8_clearText 16 = .ok (.iload_n 1, 1) := by decide +kernel
theorem dX8_clearText_17 : decode cX8_clearText 17 = .ok (.ireturn, 1) := by decide +kernel
set_option maxRecDepth 20000 in
theorem ggX8_undo_X2_bringBack : GoodIn wsX8_undo wsX2_bringBack := goodIn_r _ [8, 9, 10, 11, 12, 13, 14, 15, 16, 17, 18, 19, 20, 21, 22, 23, 24, 25, 26, 27, 28, 29, 30, 31, 32, 40, 41, 42, 43, 44, 45, 46, 47, 48] (by decide +kernel) (by decide +kernel)
set_option maxRecDepth 20000 in
theorem gX8_undo_X2_bringBack : GoodIn wsX8_undo (wsV RX8 157 RX2 yX2_bringBack wsX2_bringBack) := goodIn_app (goodIn_of _ (by decide +kernel)) ggX8_undo_X2_bringBack
theorem dX8_undo_0 : decode cX8_undo 0 = .ok (.aload_n 0, 1) := by decide +kernel
theorem dX8_undo_1 : decode cX8_undo 1 = .ok (.getfield 26, 3) := by decide +kernel
theorem dX8_undo_4 : decode cX8_undo 4 = .ok (.getfield 154, 3) := by decide +kernel
theorem dX8_undo_7 : decode cX8_undo 7 = .ok (.ifCond .ne 6, 3) := by decide +kernel
theorem dX8_undo_10 : decode cX8_undo 10 = .ok (.bipush (-5), 2) := by decide +kernel
theorem dX8_undo_12 : decode cX8_undo 12 = .ok (.ireturn, 1) := by decide +kernel
theorem dX8_undo_13 : decode cX8_undo 13 = .ok (.aload_n 0, 1) := by decide +kernel
theorem dX8_undo_14 : decode cX8_undo 14 = .ok (.getfield 26, 3) := by decide +kernel
theorem dX8_undo_17 : decode cX8_undo 17 = .ok (.aload_n 0, 1) := by decide +kernel
theorem dX8_undo_18 : decode cX8_undo 18 = .ok (.getfield 10, 3) := by decide +kernel
theorem dX8_undo_21 : decode cX8_undo 21 = .ok (.invokevirtual 157, 3) := by decide +kernel
theorem dX8_undo_24 : decode cX8_undo 24 = .ok (.aload_n 0, 1) := by decide +kernel
theorem dX8_undo_25 : decode cX8_undo 25 = .ok (.getfield 26, 3) := by decide +kernel
theorem dX8_undo_28 : decode cX8_undo 28 = .ok (.getfield 154, 3) := by decide +kernel
theorem dX8_undo_31 : decode cX8_undo 31 = .ok (.ireturn, 1) := by decide +kernel
set_option maxRecDepth 20000 in
theorem ggX8_keep_X5_copyFrom : GoodIn wsX8_keep wsX5_copyFrom := goodIn_r _ [8, 9, 10, 11, 12, 13, 14, 15, 16, 17, 18, 19, 20, 21, 22, 23, 24, 37, 38, 39, 40, 41, 42] (by decide +kernel) (by decide +kernel)
set_option maxRecDepth 20000 in
theorem gX8_keep_X5_copyFrom : GoodIn wsX8_keep (wsV RX8 160 RX5 yX5_copyFrom wsX5_copyFrom) := goodIn_app (goodIn_of _ (by decide +kernel)) ggX8_keep_X5_copyFrom
set_option maxRecDepth 20000 in
theorem ggX8_keep_X5_manyNumbers : GoodIn wsX8_keep wsX5_manyNumbers := goodIn_r _ [28, 9, 29, 10, 37, 38, 39, 40, 41, 42] (by decide +kernel) (by decide +kernel)
set_option maxRecDepth 20000 in
theorem gX8_keep_X5_manyNumbers : GoodIn wsX8_keep (wsV RX8 163 RX5 yX5_manyNumbers wsX5_manyNumbers) := goodIn_app (goodIn_of _ (by decide +kernel)) ggX8_keep_X5_manyNumbers
theorem dX8_keep_0 : decode cX8_keep 0 = .ok (.aload_n 0, 1) := by decide +kernel
theorem dX8_keep_1 : decode cX8_keep 1 = .ok (.getfield 16, 3) := by decide +kernel
theorem dX8_keep_4 : decode cX8_keep 4 = .ok (.aload_n 0, 1) := by decide +kernel
theorem dX8_keep_5 : decode cX8_keep 5 = .ok (.getfield 10, 3) := by decide +kernel
theorem dX8_keep_8 : decode cX8_keep 8 = .ok (.invokevirtual 160, 3) := by decide +kernel
theorem dX8_keep_11 : decode cX8_keep 11 = .ok (.aload_n 0, 1) := by decide +kernel
theorem dX8_keep_12 : decode cX8_keep 12 = .ok (.iconst 1, 1) := by decide +kernel
theorem dX8_keep_13 : decode cX8_keep 13 = .ok (.putfield 19, 3) := by decide +kernel
theorem dX8_keep_16 : decode cX8_keep 16 = .ok (.aload_n 0, 1) := by decide +kernel
theorem dX8_keep_17 : decode cX8_keep 17 = .ok (.getfield 10, 3) := by decide +kernel
theorem dX8_keep_20 : decode cX8_keep 20 = .ok (.invokevirtual 163, 3) := by decide +kernel
theorem dX8_keep_23 : decode cX8_keep 23 = .ok (.ireturn, 1) := by decide +kernel
set_option maxRecDepth 20000 in
theorem ggX8_restore_X2_remember : GoodIn wsX8_restore wsX2_remember := goodIn_r _ [9, 10, 11, 12, 13, 14, 15, 16, 17, 18, 19, 20, 21, 22, 23, 24, 25, 26, 27, 28, 29, 30, 31, 32, 33, 47, 48, 49, 50, 51, 52, 53, 54, 55] (by decide +kernel) (by decide +kernel)
set_option maxRecDepth 20000 in
theorem gX8_restore_X2_remember : GoodIn wsX8_restore (wsV RX8 69 RX2 yX2_remember wsX2_remember) := goodIn_app (goodIn_of _ (by decide +kernel)) ggX8_restore_X2_remember
set_option maxRecDepth 20000 in
theorem ggX8_restore_X5_copyFrom : GoodIn wsX8_restore wsX5_copyFrom := goodIn_r _ [17, 18, 19, 20, 21, 22, 23, 24, 25, 26, 27, 28, 29, 30, 31, 32, 33, 50, 51, 52, 53, 54, 55] (by decide +kernel) (by decide +kernel)
set_option maxRecDepth 20000 in
theorem gX8_restore_X5_copyFrom : GoodIn wsX8_restore (wsV RX8 160 RX5 yX5_copyFrom wsX5_copyFrom) := goodIn_app (goodIn_of _ (by decide +kernel)) ggX8_restore_X5_copyFrom
set_option maxRecDepth 20000 in
theorem ggX8_restore_X5_manyNumbers : GoodIn wsX8_restore wsX5_manyNumbers := goodIn_r _ [38, 18, 39, 19, 50, 51, 52, 53, 54, 55] (by decide +kernel) (by decide +kernel)
set_option maxRecDepth 20000 in
theorem gX8_restore_X5_manyNumbers : GoodIn wsX8_restore (wsV RX8 163 RX5 yX5_manyNumbers wsX5_manyNumbers) := goodIn_app (goodIn_of _ (by decide +kernel)) ggX8_restore_X5_manyNumbers
theorem dX8_restore_0 : decode cX8_restore 0 = .ok (.aload_n 0, 1) := by decide +kernel
theorem dX8_restore_1 : decode cX8_restore 1 = .ok (.getfield 19, 3) := by decide +kernel
theorem dX8_restore_4 : decode cX8_restore 4 = .ok (.ifCond .ne 6, 3) := by decide +kernel
theorem dX8_restore_7 : decode cX8_restore 7 = .ok (.bipush (-5), 2) := by decide +kernel
theorem dX8_restore_9 : decode cX8_restore 9 = .ok (.ireturn, 1) := by decide +kernel
theorem dX8_restore_10 : decode cX8_restore 10 = .ok (.aload_n 0, 1) := by decide +kernel
theorem dX8_restore_11 : decode cX8_restore 11 = .ok (.getfield 26, 3) := by decide +kernel
theorem dX8_restore_14 : decode cX8_restore 14 = .ok (.aload_n 0, 1) := by decide +kernel
theorem dX8_restore_15 : decode cX8_restore 15 = .ok (.getfield 10, 3) := by decide +kernel
theorem dX8_restore_18 : decode cX8_restore 18 = .ok (.invokevirtual 69, 3) := by decide +kernel
theorem dX8_restore_21 : decode cX8_restore 21 = .ok (.aload_n 0, 1) := by decide +kernel
theorem dX8_restore_22 : decode cX8_restore 22 = .ok (.getfield 10, 3) := by decide +kernel
theorem dX8_restore_25 : decode cX8_restore 25 = .ok (.aload_n 0, 1) := by decide +kernel
theorem dX8_restore_26 : decode cX8_restore 26 = .ok (.getfield 16, 3) := by decide +kernel
theorem dX8_restore_29 : decode cX8_restore 29 = .ok (.invokevirtual 160, 3) := by decide +kernel
theorem dX8_restore_32 : decode cX8_restore 32 = .ok (.aload_n 0, 1) := by decide +kernel
theorem dX8_restore_33 : decode cX8_restore 33 = .ok (.getfield 10, 3) := by decide +kernel
theorem dX8_restore_36 : decode cX8_restore 36 = .ok (.invokevirtual 163, 3) := by decide +kernel
theorem dX8_restore_39 : decode cX8_restore 39 = .ok (.ireturn, 1) := by decide +kernel
set_option maxRecDepth 20000 in
theorem ggX8_number_X8_isRow : GoodIn wsX8_number wsX8_isRow := goodIn_r _ [6] (by decide +kernel) (by decide +kernel)
set_option maxRecDepth 20000 in
theorem gX8_number_X8_isRow : GoodIn wsX8_number (va_wsS RX8 51 yX8_isRow wsX8_isRow) := goodIn_app (goodIn_of _ (by decide +kernel)) ggX8_number_X8_isRow
set_option maxRecDepth 20000 in
theorem ggX8_number_X5_rowAt : GoodIn wsX8_number wsX5_rowAt := goodIn_r _ [11, 12, 13, 33, 34, 35, 36] (by decide +kernel) (by decide +kernel)
set_option maxRecDepth 20000 in
theorem gX8_number_X5_rowAt : GoodIn wsX8_number (wsV RX8 61 RX5 yX5_rowAt wsX5_rowAt) := goodIn_app (goodIn_of _ (by decide +kernel)) ggX8_number_X5_rowAt
set_option maxRecDepth 20000 in
theorem ggX8_number_X4_hasPlace : GoodIn wsX8_number wsX4_hasPlace := goodIn_r _ [18, 19, 31, 32] (by decide +kernel) (by decide +kernel)
set_option maxRecDepth 20000 in
theorem gX8_number_X4_hasPlace : GoodIn wsX8_number (wsV RX8 81 RX4 yX4_hasPlace wsX4_hasPlace) := goodIn_app (goodIn_of _ (by decide +kernel)) ggX8_number_X4_hasPlace
set_option maxRecDepth 20000 in
theorem ggX8_number_X8_noNumber : GoodIn wsX8_number wsX8_noNumber := goodIn_r _ [22, 23] (by decide +kernel) (by decide +kernel)
set_option maxRecDepth 20000 in
theorem gX8_number_X8_noNumber : GoodIn wsX8_number (va_wsS RX8 166 yX8_noNumber wsX8_noNumber) := goodIn_app (goodIn_of _ (by decide +kernel)) ggX8_number_X8_noNumber
theorem dX8_number_0 : decode cX8_number 0 = .ok (.iload_n 1, 1) := by decide +kernel
theorem dX8_number_1 : decode cX8_number 1 = .ok (.invokestatic 51, 3) := by decide +kernel
theorem dX8_number_4 : decode cX8_number 4 = .ok (.ifCond .eq 18, 3) := by decide +kernel
theorem dX8_number_7 : decode cX8_number 7 = .ok (.aload_n 0, 1) := by decide +kernel
theorem dX8_number_8 : decode cX8_number 8 = .ok (.getfield 10, 3) := by decide +kernel
theorem dX8_number_11 : decode cX8_number 11 = .ok (.iload_n 1, 1) := by decide +kernel
theorem dX8_number_12 : decode cX8_number 12 = .ok (.invokevirtual 61, 3) := by decide +kernel
theorem dX8_number_15 : decode cX8_number 15 = .ok (.iload_n 2, 1) := by decide +kernel
theorem dX8_number_16 : decode cX8_number 16 = .ok (.invokevirtual 81, 3) := by decide +kernel
theorem dX8_number_19 : decode cX8_number 19 = .ok (.ifCond .ne 7, 3) := by decide +kernel
theorem dX8_number_22 : decode cX8_number 22 = .ok (.invokestatic 166, 3) := by decide +kernel
theorem dX8_number_25 : decode cX8_number 25 = .ok (.dreturn, 1) := by decide +kernel
theorem dX8_number_26 : decode cX8_number 26 = .ok (.aload_n 0, 1) := by decide +kernel
theorem dX8_number_27 : decode cX8_number 27 = .ok (.getfield 10, 3) := by decide +kernel
theorem dX8_number_30 : decode cX8_number 30 = .ok (.iload_n 1, 1) := by decide +kernel
theorem dX8_number_31 : decode cX8_number 31 = .ok (.invokevirtual 61, 3) := by decide +kernel
theorem dX8_number_34 : decode cX8_number 34 = .ok (.getfield 84, 3) := by decide +kernel
theorem dX8_number_37 : decode cX8_number 37 = .ok (.iload_n 2, 1) := by decide +kernel
theorem dX8_number_38 : decode cX8_number 38 = .ok (.daload, 1) := by decide +kernel
theorem dX8_number_39 : decode cX8_number 39 = .ok (.dreturn, 1) := by decide +kernel
set_option maxRecDepth 20000 in
theorem ggX8_entry_X8_isTable : GoodIn wsX8_entry wsX8_isTable := goodIn_r _ [6, 7, 8, 5, 9] (by decide +kernel) (by decide +kernel)
set_option maxRecDepth 20000 in
theorem gX8_entry_X8_isTable : GoodIn wsX8_entry (va_wsS RX8 118 yX8_isTable wsX8_isTable) := goodIn_app (goodIn_of _ (by decide +kernel)) ggX8_entry_X8_isTable
set_option maxRecDepth 20000 in
theorem ggX8_entry_X8_noNumber : GoodIn wsX8_entry wsX8_noNumber := goodIn_r _ [12, 13] (by decide +kernel) (by decide +kernel)
set_option maxRecDepth 20000 in
theorem gX8_entry_X8_noNumber : GoodIn wsX8_entry (va_wsS RX8 166 yX8_noNumber wsX8_noNumber) := goodIn_app (goodIn_of _ (by decide +kernel)) ggX8_entry_X8_noNumber
set_option maxRecDepth 20000 in
theorem ggX8_entry_X1_build : GoodIn wsX8_entry wsX1_build := goodIn_r _ [18, 19, 20, 21, 22, 23, 24, 25, 26, 27, 28, 29, 30, 31, 32, 33, 34, 35, 36, 37, 17, 38, 39, 40, 41, 42, 43, 44, 45, 46, 47, 48, 49, 50, 51, 52, 53, 54, 55, 56, 57, 58, 59, 60, 61, 62, 63, 64, 65, 66, 67, 68, 69, 70, 71, 72, 73, 74, 75, 76, 77, 78, 79, 80, 81, 82, 83, 84, 85, 109, 110, 111, 112, 113, 114, 115, 116, 117, 118, 119, 120, 121, 122, 123, 124] (by decide +kernel) (by decide +kernel)
set_option maxRecDepth 20000 in
theorem gX8_entry_X1_build : GoodIn wsX8_entry (wsV RX8 122 RX1 yX1_build wsX1_build) := goodIn_app (goodIn_of _ (by decide +kernel)) ggX8_entry_X1_build
set_option maxRecDepth 20000 in
theorem ggX8_entry_X1_hasEntry : GoodIn wsX8_entry wsX1_hasEntry := goodIn_r _ [89, 26, 41, 42, 43, 17, 44, 19, 109, 110, 111, 112, 113, 114, 115, 116, 117, 118] (by decide +kernel) (by decide +kernel)
set_option maxRecDepth 20000 in
theorem gX8_entry_X1_hasEntry : GoodIn wsX8_entry (wsV RX8 170 RX1 yX1_hasEntry wsX1_hasEntry) := goodIn_app (goodIn_of _ (by decide +kernel)) ggX8_entry_X1_hasEntry
set_option maxRecDepth 20000 in
theorem ggX8_entry_X1_isBroken : GoodIn wsX8_entry wsX1_isBroken := goodIn_r _ [93, 94, 95, 96, 17, 97, 40, 109, 110, 111, 112, 113, 114, 115, 116, 117, 118] (by decide +kernel) (by decide +kernel)
set_option maxRecDepth 20000 in
theorem gX8_entry_X1_isBroken : GoodIn wsX8_entry (wsV RX8 173 RX1 yX1_isBroken wsX1_isBroken) := goodIn_app (goodIn_of _ (by decide +kernel)) ggX8_entry_X1_isBroken
set_option maxRecDepth 20000 in
theorem ggX8_entry_X1_valueAt : GoodIn wsX8_entry wsX1_valueAt := goodIn_r _ [101, 39, 109, 110, 111, 112, 113, 114, 115, 116, 117, 118] (by decide +kernel) (by decide +kernel)
set_option maxRecDepth 20000 in
theorem gX8_entry_X1_valueAt : GoodIn wsX8_entry (wsV RX8 176 RX1 yX1_valueAt wsX1_valueAt) := goodIn_app (goodIn_of _ (by decide +kernel)) ggX8_entry_X1_valueAt
theorem dX8_entry_0 : decode cX8_entry 0 = .ok (.iload_n 1, 1) := by decide +kernel
theorem dX8_entry_1 : decode cX8_entry 1 = .ok (.iload_n 2, 1) := by decide +kernel
theorem dX8_entry_2 : decode cX8_entry 2 = .ok (.invokestatic 118, 3) := by decide +kernel
theorem dX8_entry_5 : decode cX8_entry 5 = .ok (.ifCond .ne 7, 3) := by decide +kernel
theorem dX8_entry_8 : decode cX8_entry 8 = .ok (.invokestatic 166, 3) := by decide +kernel
theorem dX8_entry_11 : decode cX8_entry 11 = .ok (.dreturn, 1) := by decide +kernel
theorem dX8_entry_12 : decode cX8_entry 12 = .ok (.aload_n 0, 1) := by decide +kernel
theorem dX8_entry_13 : decode cX8_entry 13 = .ok (.getfield 40, 3) := by decide +kernel
theorem dX8_entry_16 : decode cX8_entry 16 = .ok (.aload_n 0, 1) := by decide +kernel
theorem dX8_entry_17 : decode cX8_entry 17 = .ok (.getfield 10, 3) := by decide +kernel
theorem dX8_entry_20 : decode cX8_entry 20 = .ok (.iload_n 1, 1) := by decide +kernel
theorem dX8_entry_21 : decode cX8_entry 21 = .ok (.iload_n 2, 1) := by decide +kernel
theorem dX8_entry_22 : decode cX8_entry 22 = .ok (.invokevirtual 122, 3) := by decide +kernel
theorem dX8_entry_25 : decode cX8_entry 25 = .ok (.aload_n 0, 1) := by decide +kernel
theorem dX8_entry_26 : decode cX8_entry 26 = .ok (.getfield 40, 3) := by decide +kernel
theorem dX8_entry_29 : decode cX8_entry 29 = .ok (.iload_n 3, 1) := by decide +kernel
theorem dX8_entry_30 : decode cX8_entry 30 = .ok (.iload 4, 2) := by decide +kernel
theorem dX8_entry_32 : decode cX8_entry 32 = .ok (.invokevirtual 170, 3) := by decide +kernel
theorem dX8_entry_35 : decode cX8_entry 35 = .ok (.ifCond .eq 16, 3) := by decide +kernel
theorem dX8_entry_38 : decode cX8_entry 38 = .ok (.aload_n 0, 1) := by decide +kernel
theorem dX8_entry_39 : decode cX8_entry 39 = .ok (.getfield 40, 3) := by decide +kernel
theorem dX8_entry_42 : decode cX8_entry 42 = .ok (.iload_n 3, 1) := by decide +kernel
theorem dX8_entry_43 : decode cX8_entry 43 = .ok (.iload 4, 2) := by decide +kernel
theorem dX8_entry_45 : decode cX8_entry 45 = .ok (.invokevirtual 173, 3) := by decide +kernel
theorem dX8_entry_48 : decode cX8_entry 48 = .ok (.ifCond .eq 7, 3) := by decide +kernel
theorem dX8_entry_51 : decode cX8_entry 51 = .ok (.invokestatic 166, 3) := by decide +kernel
theorem dX8_entry_54 : decode cX8_entry 54 = .ok (.dreturn, 1) := by decide +kernel
theorem dX8_entry_55 : decode cX8_entry 55 = .ok (.aload_n 0, 1) := by decide +kernel
theorem dX8_entry_56 : decode cX8_entry 56 = .ok (.getfield 40, 3) := by decide +kernel
theorem dX8_entry_59 : decode cX8_entry 59 = .ok (.iload_n 3, 1) := by decide +kernel
theorem dX8_entry_60 : decode cX8_entry 60 = .ok (.iload 4, 2) := by decide +kernel
theorem dX8_entry_62 : decode cX8_entry 62 = .ok (.invokevirtual 176, 3) := by decide +kernel
theorem dX8_entry_65 : decode cX8_entry 65 = .ok (.dreturn, 1) := by decide +kernel
set_option maxRecDepth 20000 in
theorem ggX8_kind_X8_isTable : GoodIn wsX8_kind wsX8_isTable := goodIn_r _ [6, 7, 8, 5, 9] (by decide +kernel) (by decide +kernel)
set_option maxRecDepth 20000 in
theorem gX8_kind_X8_isTable : GoodIn wsX8_kind (va_wsS RX8 118 yX8_isTable wsX8_isTable) := goodIn_app (goodIn_of _ (by decide +kernel)) ggX8_kind_X8_isTable
set_option maxRecDepth 20000 in
theorem ggX8_kind_X1_build : GoodIn wsX8_kind wsX1_build := goodIn_r _ [14, 15, 16, 17, 18, 19, 20, 21, 22, 23, 24, 25, 26, 27, 28, 29, 30, 31, 32, 33, 13, 34, 35, 36, 37, 38, 39, 40, 41, 42, 43, 44, 45, 46, 47, 48, 49, 50, 51, 52, 53, 54, 55, 56, 57, 58, 59, 60, 61, 62, 63, 64, 65, 66, 67, 68, 69, 70, 71, 72, 73, 74, 75, 76, 77, 78, 79, 80, 81, 97, 98, 99, 100, 101, 102, 103, 104, 105, 106, 107, 108, 109, 110, 111, 112] (by decide +kernel) (by decide +kernel)
set_option maxRecDepth 20000 in
theorem gX8_kind_X1_build : GoodIn wsX8_kind (wsV RX8 122 RX1 yX1_build wsX1_build) := goodIn_app (goodIn_of _ (by decide +kernel)) ggX8_kind_X1_build
set_option maxRecDepth 20000 in
theorem ggX8_kind_X1_hasEntry : GoodIn wsX8_kind wsX1_hasEntry := goodIn_r _ [85, 22, 37, 38, 39, 13, 40, 15, 97, 98, 99, 100, 101, 102, 103, 104, 105, 106] (by decide +kernel) (by decide +kernel)
set_option maxRecDepth 20000 in
theorem gX8_kind_X1_hasEntry : GoodIn wsX8_kind (wsV RX8 170 RX1 yX1_hasEntry wsX1_hasEntry) := goodIn_app (goodIn_of _ (by decide +kernel)) ggX8_kind_X1_hasEntry
set_option maxRecDepth 20000 in
theorem ggX8_kind_X1_kindAt : GoodIn wsX8_kind wsX1_kindAt := goodIn_r _ [89, 36, 97, 98, 99, 100, 101, 102, 103, 104, 105, 106] (by decide +kernel) (by decide +kernel)
set_option maxRecDepth 20000 in
theorem gX8_kind_X1_kindAt : GoodIn wsX8_kind (wsV RX8 180 RX1 yX1_kindAt wsX1_kindAt) := goodIn_app (goodIn_of _ (by decide +kernel)) ggX8_kind_X1_kindAt
theorem dX8_kind_0 : decode cX8_kind 0 = .ok (.iload_n 1, 1) := by decide +kernel
theorem dX8_kind_1 : decode cX8_kind 1 = .ok (.iload_n 2, 1) := by decide +kernel
theorem dX8_kind_2 : decode cX8_kind 2 = .ok (.invokestatic 118, 3) := by decide +kernel
theorem dX8_kind_5 : decode cX8_kind 5 = .ok (.ifCond .ne 5, 3) := by decide +kernel
theorem dX8_kind_8 : decode cX8_kind 8 = .ok (.iconst (-1), 1) := by decide +kernel
theorem dX8_kind_9 : decode cX8_kind 9 = .ok (.ireturn, 1) := by decide +kernel
theorem dX8_kind_10 : decode cX8_kind 10 = .ok (.aload_n 0, 1) := by decide +kernel
theorem dX8_kind_11 : decode cX8_kind 11 = .ok (.getfield 40, 3) := by decide +kernel
theorem dX8_kind_14 : decode cX8_kind 14 = .ok (.aload_n 0, 1) := by decide +kernel
theorem dX8_kind_15 : decode cX8_kind 15 = .ok (.getfield 10, 3) := by decide +kernel
theorem dX8_kind_18 : decode cX8_kind 18 = .ok (.iload_n 1, 1) := by decide +kernel
theorem dX8_kind_19 : decode cX8_kind 19 = .ok (.iload_n 2, 1) := by decide +kernel
theorem dX8_kind_20 : decode cX8_kind 20 = .ok (.invokevirtual 122, 3) := by decide +kernel
theorem dX8_kind_23 : decode cX8_kind 23 = .ok (.aload_n 0, 1) := by decide +kernel
theorem dX8_kind_24 : decode cX8_kind 24 = .ok (.getfield 40, 3) := by decide +kernel
theorem dX8_kind_27 : decode cX8_kind 27 = .ok (.iload_n 3, 1) := by decide +kernel
theorem dX8_kind_28 : decode cX8_kind 28 = .ok (.iload 4, 2) := by decide +kernel
theorem dX8_kind_30 : decode cX8_kind 30 = .ok (.invokevirtual 170, 3) := by decide +kernel
theorem dX8_kind_33 : decode cX8_kind 33 = .ok (.ifCond .ne 6, 3) := by decide +kernel
theorem dX8_kind_36 : decode cX8_kind 36 = .ok (.bipush (-5), 2) := by decide +kernel
theorem dX8_kind_38 : decode cX8_kind 38 = .ok (.ireturn, 1) := by decide +kernel
theorem dX8_kind_39 : decode cX8_kind 39 = .ok (.aload_n 0, 1) := by decide +kernel
theorem dX8_kind_40 : decode cX8_kind 40 = .ok (.getfield 40, 3) := by decide +kernel
theorem dX8_kind_43 : decode cX8_kind 43 = .ok (.iload_n 3, 1) := by decide +kernel
theorem dX8_kind_44 : decode cX8_kind 44 = .ok (.iload 4, 2) := by decide +kernel
theorem dX8_kind_46 : decode cX8_kind 46 = .ok (.invokevirtual 180, 3) := by decide +kernel
theorem dX8_kind_49 : decode cX8_kind 49 = .ok (.ireturn, 1) := by decide +kernel
set_option maxRecDepth 20000 in
theorem ggX8_table_X8_isTable : GoodIn wsX8_table wsX8_isTable := goodIn_r _ [8, 9, 10, 7, 11] (by decide +kernel) (by decide +kernel)
set_option maxRecDepth 20000 in
theorem gX8_table_X8_isTable : GoodIn wsX8_table (va_wsS RX8 118 yX8_isTable wsX8_isTable) := goodIn_app (goodIn_of _ (by decide +kernel)) ggX8_table_X8_isTable
set_option maxRecDepth 20000 in
theorem ggX8_table_X1_build : GoodIn wsX8_table wsX1_build := goodIn_r _ [16, 17, 18, 19, 20, 21, 22, 23, 24, 25, 26, 27, 28, 29, 30, 31, 32, 33, 34, 35, 15, 36, 37, 38, 39, 40, 41, 42, 43, 44, 45, 46, 47, 48, 49, 50, 51, 52, 53, 54, 55, 56, 57, 58, 59, 60, 61, 62, 63, 64, 65, 66, 67, 68, 69, 70, 71, 72, 73, 74, 75, 76, 77, 78, 79, 80, 81, 82, 83, 138, 139, 140, 141, 142, 143, 144, 145, 146, 147, 148, 149, 150, 151, 152, 153] (by decide +kernel) (by decide +kernel)
set_option maxRecDepth 20000 in
theorem gX8_table_X1_build : GoodIn wsX8_table (wsV RX8 122 RX1 yX1_build wsX1_build) := goodIn_app (goodIn_of _ (by decide +kernel)) ggX8_table_X1_build
set_option maxRecDepth 20000 in
theorem ggX8_table_X1_manyColumns : GoodIn wsX8_table wsX1_manyColumns := goodIn_r _ [87, 24, 39, 40, 41, 15, 42, 17, 138, 139, 140, 141, 142, 143, 144, 145, 146, 147] (by decide +kernel) (by decide +kernel)
set_option maxRecDepth 20000 in
theorem gX8_table_X1_manyColumns : GoodIn wsX8_table (wsV RX8 184 RX1 yX1_manyColumns wsX1_manyColumns) := goodIn_app (goodIn_of _ (by decide +kernel)) ggX8_table_X1_manyColumns
set_option maxRecDepth 20000 in
theorem ggX8_table_X1_manyBroken : GoodIn wsX8_table wsX1_manyBroken := goodIn_r _ [91, 92, 93, 94, 15, 95, 96, 97, 98, 99, 24, 39, 40, 41, 42, 17, 100, 101, 102, 103, 38, 138, 139, 140, 141, 142, 143, 144, 145, 146, 147] (by decide +kernel) (by decide +kernel)
set_option maxRecDepth 20000 in
theorem gX8_table_X1_manyBroken : GoodIn wsX8_table (wsV RX8 187 RX1 yX1_manyBroken wsX1_manyBroken) := goodIn_app (goodIn_of _ (by decide +kernel)) ggX8_table_X1_manyBroken
set_option maxRecDepth 20000 in
theorem ggX8_table_X1_manyBridged : GoodIn wsX8_table wsX1_manyBridged := goodIn_r _ [107, 92, 93, 94, 15, 95, 96, 97, 98, 99, 24, 39, 40, 41, 42, 17, 100, 101, 102, 103, 38, 138, 139, 140, 141, 142, 143, 144, 145, 146, 147] (by decide +kernel) (by decide +kernel)
set_option maxRecDepth 20000 in
theorem gX8_table_X1_manyBridged : GoodIn wsX8_table (wsV RX8 190 RX1 yX1_manyBridged wsX1_manyBridged) := goodIn_app (goodIn_of _ (by decide +kernel)) ggX8_table_X1_manyBridged
set_option maxRecDepth 20000 in
theorem ggX8_table_X1_lowestBroken : GoodIn wsX8_table wsX1_lowestBroken := goodIn_r _ [111, 96, 97, 98, 15, 99, 24, 39, 40, 41, 42, 17, 100, 101, 102, 103, 38, 138, 139, 140, 141, 142, 143, 144, 145, 146, 147] (by decide +kernel) (by decide +kernel)
set_option maxRecDepth 20000 in
theorem gX8_table_X1_lowestBroken : GoodIn wsX8_table (wsV RX8 193 RX1 yX1_lowestBroken wsX1_lowestBroken) := goodIn_app (goodIn_of _ (by decide +kernel)) ggX8_table_X1_lowestBroken
set_option maxRecDepth 20000 in
theorem ggX8_table_X1_seekGuess : GoodIn wsX8_table wsX1_seekGuess := goodIn_r _ [115, 17, 116, 117, 37, 118, 119, 120, 121, 15, 122, 39, 40, 41, 42, 123, 124, 125, 126, 100, 101, 102, 103, 38, 127, 128, 129, 130, 65, 66, 57, 67, 138, 139, 140, 141, 142, 143, 144, 145, 146, 147] (by decide +kernel) (by decide +kernel)
set_option maxRecDepth 20000 in
theorem gX8_table_X1_seekGuess : GoodIn wsX8_table (wsV RX8 197 RX1 yX1_seekGuess wsX1_seekGuess) := goodIn_app (goodIn_of _ (by decide +kernel)) ggX8_table_X1_seekGuess
theorem dX8_table_0 : decode cX8_table 0 = .ok (.iload_n 1, 1) := by decide +kernel
theorem dX8_table_1 : decode cX8_table 1 = .ok (.iload_n 2, 1) := by decide +kernel
theorem dX8_table_2 : decode cX8_table 2 = .ok (.invokestatic 118, 3) := by decide +kernel
theorem dX8_table_5 : decode cX8_table 5 = .ok (.ifCond .ne 5, 3) := by decide +kernel
theorem dX8_table_8 : decode cX8_table 8 = .ok (.iconst (-1), 1) := by decide +kernel
theorem dX8_table_9 : decode cX8_table 9 = .ok (.ireturn, 1) := by decide +kernel
theorem dX8_table_10 : decode cX8_table 10 = .ok (.iload_n 3, 1) := by decide +kernel
theorem dX8_table_11 : decode cX8_table 11 = .ok (.ifCond .lt 8, 3) := by decide +kernel
theorem dX8_table_14 : decode cX8_table 14 = .ok (.iload_n 3, 1) := by decide +kernel
theorem dX8_table_15 : decode cX8_table 15 = .ok (.iconst 4, 1) := by decide +kernel
theorem dX8_table_16 : decode cX8_table 16 = .ok (.if_icmp .le 6, 3) := by decide +kernel
theorem dX8_table_19 : decode cX8_table 19 = .ok (.bipush (-2), 2) := by decide +kernel
theorem dX8_table_21 : decode cX8_table 21 = .ok (.ireturn, 1) := by decide +kernel
theorem dX8_table_22 : decode cX8_table 22 = .ok (.aload_n 0, 1) := by decide +kernel
theorem dX8_table_23 : decode cX8_table 23 = .ok (.getfield 40, 3) := by decide +kernel
theorem dX8_table_26 : decode cX8_table 26 = .ok (.aload_n 0, 1) := by decide +kernel
theorem dX8_table_27 : decode cX8_table 27 = .ok (.getfield 10, 3) := by decide +kernel
theorem dX8_table_30 : decode cX8_table 30 = .ok (.iload_n 1, 1) := by decide +kernel
theorem dX8_table_31 : decode cX8_table 31 = .ok (.iload_n 2, 1) := by decide +kernel
theorem dX8_table_32 : decode cX8_table 32 = .ok (.invokevirtual 122, 3) := by decide +kernel
theorem dX8_table_35 : decode cX8_table 35 = .ok (.iload_n 3, 1) := by decide +kernel
theorem dX8_table_36 : decode cX8_table 36 = .ok (.tableswitch 64 0 3 #[32, 40, 48, 56], 32) := by decide +kernel
theorem dX8_table_68 : decode cX8_table 68 = .ok (.aload_n 0, 1) := by decide +kernel
theorem dX8_table_69 : decode cX8_table 69 = .ok (.getfield 40, 3) := by decide +kernel
theorem dX8_table_72 : decode cX8_table 72 = .ok (.invokevirtual 184, 3) := by decide +kernel
theorem dX8_table_75 : decode cX8_table 75 = .ok (.ireturn, 1) := by decide +kernel
theorem dX8_table_76 : decode cX8_table 76 = .ok (.aload_n 0, 1) := by decide +kernel
theorem dX8_table_77 : decode cX8_table 77 = .ok (.getfield 40, 3) := by decide +kernel
theorem dX8_table_80 : decode cX8_table 80 = .ok (.invokevirtual 187, 3) := by decide +kernel
theorem dX8_table_83 : decode cX8_table 83 = .ok (.ireturn, 1) := by decide +kernel
theorem dX8_table_84 : decode cX8_table 84 = .ok (.aload_n 0, 1) := by decide +kernel
theorem dX8_table_85 : decode cX8_table 85 = .ok (.getfield 40, 3) := by decide +kernel
theorem dX8_table_88 : decode cX8_table 88 = .ok (.invokevirtual 190, 3) := by decide +kernel
theorem dX8_table_91 : decode cX8_table 91 = .ok (.ireturn, 1) := by decide +kernel
theorem dX8_table_92 : decode cX8_table 92 = .ok (.aload_n 0, 1) := by decide +kernel
theorem dX8_table_93 : decode cX8_table 93 = .ok (.getfield 40, 3) := by decide +kernel
theorem dX8_table_96 : decode cX8_table 96 = .ok (.invokevirtual 193, 3) := by decide +kernel
theorem dX8_table_99 : decode cX8_table 99 = .ok (.ireturn, 1) := by decide +kernel
theorem dX8_table_100 : decode cX8_table 100 = .ok (.aload_n 0, 1) := by decide +kernel
theorem dX8_table_101 : decode cX8_table 101 = .ok (.getfield 40, 3) := by decide +kernel
theorem dX8_table_104 : decode cX8_table 104 = .ok (.aload_n 0, 1) := by decide +kernel
theorem dX8_table_105 : decode cX8_table 105 = .ok (.getfield 40, 3) := by decide +kernel
theorem dX8_table_108 : decode cX8_table 108 = .ok (.getfield 196, 3) := by decide +kernel
theorem dX8_table_111 : decode cX8_table 111 = .ok (.invokevirtual 197, 3) := by decide +kernel
theorem dX8_table_114 : decode cX8_table 114 = .ok (.ifCond .eq 13, 3) := by decide +kernel
theorem dX8_table_117 : decode cX8_table 117 = .ok (.aload_n 0, 1) := by decide +kernel
theorem dX8_table_118 : decode cX8_table 118 = .ok (.getfield 40, 3) := by decide +kernel
theorem dX8_table_121 : decode cX8_table 121 = .ok (.getfield 200, 3) := by decide +kernel
theorem dX8_table_124 : decode cX8_table 124 = .ok (.goto 5, 3) := by decide +kernel
theorem dX8_table_127 : decode cX8_table 127 = .ok (.bipush (-5), 2) := by decide +kernel
theorem dX8_table_129 : decode cX8_table 129 = .ok (.ireturn, 1) := by decide +kernel
set_option maxRecDepth 20000 in
theorem ggX8_guess_X8_isTable : GoodIn wsX8_guess wsX8_isTable := goodIn_r _ [6, 7, 8, 5, 9] (by decide +kernel) (by decide +kernel)
set_option maxRecDepth 20000 in
theorem gX8_guess_X8_isTable : GoodIn wsX8_guess (va_wsS RX8 118 yX8_isTable wsX8_isTable) := goodIn_app (goodIn_of _ (by decide +kernel)) ggX8_guess_X8_isTable
set_option maxRecDepth 20000 in
theorem ggX8_guess_X5_rowAt : GoodIn wsX8_guess wsX5_rowAt := goodIn_r _ [14, 15, 16, 126, 127, 128, 129] (by decide +kernel) (by decide +kernel)
set_option maxRecDepth 20000 in
theorem gX8_guess_X5_rowAt : GoodIn wsX8_guess (wsV RX8 61 RX5 yX5_rowAt wsX5_rowAt) := goodIn_app (goodIn_of _ (by decide +kernel)) ggX8_guess_X5_rowAt
set_option maxRecDepth 20000 in
theorem ggX8_guess_X8_noNumber : GoodIn wsX8_guess wsX8_noNumber := goodIn_r _ [19, 20] (by decide +kernel) (by decide +kernel)
set_option maxRecDepth 20000 in
theorem gX8_guess_X8_noNumber : GoodIn wsX8_guess (va_wsS RX8 166 yX8_noNumber wsX8_noNumber) := goodIn_app (goodIn_of _ (by decide +kernel)) ggX8_guess_X8_noNumber
set_option maxRecDepth 20000 in
theorem ggX8_guess_X8_guessOf : GoodIn wsX8_guess wsX8_guessOf := goodIn_r _ [24, 25, 1, 26, 27, 28, 29, 30, 31, 32, 33, 34, 35, 36, 37, 38, 39, 40, 41, 42, 11, 12, 13, 14, 15, 16, 43, 44, 45, 46, 47, 48, 49, 50, 51, 52, 53, 54, 55, 56, 57, 58, 59, 60, 61, 62, 63, 64, 65, 66, 67, 68, 69, 70, 71, 72, 73, 74, 75, 76, 77, 78, 79, 80, 81, 82, 83, 84, 85, 86, 87, 88, 89, 90, 91, 92, 93, 94, 95, 96, 97, 98, 99, 100, 101, 102, 103, 104, 105, 106, 107, 108, 109, 110, 111, 112, 113, 114, 115, 116, 117, 118, 119, 120, 121, 122, 123, 130, 131, 132, 133, 134, 135, 136, 137, 138, 139, 126, 127, 128, 129, 124, 125] (by decide +kernel) (by decide +kernel)
set_option maxRecDepth 20000 in
theorem gX8_guess_X8_guessOf : GoodIn wsX8_guess (wsV RX8 203 RX8 yX8_guessOf wsX8_guessOf) := goodIn_app (goodIn_of _ (by decide +kernel)) ggX8_guess_X8_guessOf
theorem dX8_guess_0 : decode cX8_guess 0 = .ok (.iload_n 1, 1) := by decide +kernel
theorem dX8_guess_1 : decode cX8_guess 1 = .ok (.iload_n 2, 1) := by decide +kernel
theorem dX8_guess_2 : decode cX8_guess 2 = .ok (.invokestatic 118, 3) := by decide +kernel
theorem dX8_guess_5 : decode cX8_guess 5 = .ok (.ifCond .eq 17, 3) := by decide +kernel
theorem dX8_guess_8 : decode cX8_guess 8 = .ok (.aload_n 0, 1) := by decide +kernel
theorem dX8_guess_9 : decode cX8_guess 9 = .ok (.getfield 10, 3) := by decide +kernel
theorem dX8_guess_12 : decode cX8_guess 12 = .ok (.iload_n 1, 1) := by decide +kernel
theorem dX8_guess_13 : decode cX8_guess 13 = .ok (.invokevirtual 61, 3) := by decide +kernel
theorem dX8_guess_16 : decode cX8_guess 16 = .ok (.getfield 65, 3) := by decide +kernel
theorem dX8_guess_19 : decode cX8_guess 19 = .ok (.ifCond .ne 7, 3) := by decide +kernel
theorem dX8_guess_22 : decode cX8_guess 22 = .ok (.invokestatic 166, 3) := by decide +kernel
theorem dX8_guess_25 : decode cX8_guess 25 = .ok (.dreturn, 1) := by decide +kernel
theorem dX8_guess_26 : decode cX8_guess 26 = .ok (.aload_n 0, 1) := by decide +kernel
theorem dX8_guess_27 : decode cX8_guess 27 = .ok (.iload_n 1, 1) := by decide +kernel
theorem dX8_guess_28 : decode cX8_guess 28 = .ok (.iload_n 2, 1) := by decide +kernel
theorem dX8_guess_29 : decode cX8_guess 29 = .ok (.invokevirtual 203, 3) := by decide +kernel
theorem dX8_guess_32 : decode cX8_guess 32 = .ok (.dreturn, 1) := by decide +kernel
set_option maxRecDepth 20000 in
theorem ggX8_error_X8_isTable : GoodIn wsX8_error wsX8_isTable := goodIn_r _ [8, 9, 10, 7, 11] (by decide +kernel) (by decide +kernel)
set_option maxRecDepth 20000 in
theorem gX8_error_X8_isTable : GoodIn wsX8_error (va_wsS RX8 118 yX8_isTable wsX8_isTable) := goodIn_app (goodIn_of _ (by decide +kernel)) ggX8_error_X8_isTable
set_option maxRecDepth 20000 in
theorem ggX8_error_X8_noNumber : GoodIn wsX8_error wsX8_noNumber := goodIn_r _ [14, 15] (by decide +kernel) (by decide +kernel)
set_option maxRecDepth 20000 in
theorem gX8_error_X8_noNumber : GoodIn wsX8_error (va_wsS RX8 166 yX8_noNumber wsX8_noNumber) := goodIn_app (goodIn_of _ (by decide +kernel)) ggX8_error_X8_noNumber
set_option maxRecDepth 20000 in
theorem ggX8_error_X1_build : GoodIn wsX8_error wsX1_build := goodIn_r _ [20, 21, 22, 23, 24, 25, 26, 27, 28, 29, 30, 31, 32, 33, 34, 35, 36, 37, 38, 39, 19, 40, 41, 42, 43, 44, 45, 46, 47, 48, 49, 50, 51, 52, 53, 54, 55, 56, 57, 58, 59, 60, 61, 62, 63, 64, 65, 66, 67, 68, 69, 70, 71, 72, 73, 74, 75, 76, 77, 78, 79, 80, 81, 82, 83, 84, 85, 86, 87, 118, 119, 120, 121, 122, 123, 124, 125, 126, 127, 128, 129, 130, 131, 132, 133] (by decide +kernel) (by decide +kernel)
set_option maxRecDepth 20000 in
theorem gX8_error_X1_build : GoodIn wsX8_error (wsV RX8 122 RX1 yX1_build wsX1_build) := goodIn_app (goodIn_of _ (by decide +kernel)) ggX8_error_X1_build
set_option maxRecDepth 20000 in
theorem ggX8_error_X1_seekGuess : GoodIn wsX8_error wsX1_seekGuess := goodIn_r _ [91, 21, 92, 93, 41, 94, 95, 96, 97, 19, 98, 43, 44, 45, 46, 99, 100, 101, 102, 103, 104, 105, 106, 42, 107, 108, 109, 110, 69, 70, 61, 71, 118, 119, 120, 121, 122, 123, 124, 125, 126, 127] (by decide +kernel) (by decide +kernel)
set_option maxRecDepth 20000 in
theorem gX8_error_X1_seekGuess : GoodIn wsX8_error (wsV RX8 197 RX1 yX1_seekGuess wsX1_seekGuess) := goodIn_app (goodIn_of _ (by decide +kernel)) ggX8_error_X1_seekGuess
theorem dX8_error_0 : decode cX8_error 0 = .ok (.iload_n 1, 1) := by decide +kernel
theorem dX8_error_1 : decode cX8_error 1 = .ok (.iload_n 2, 1) := by decide +kernel
theorem dX8_error_2 : decode cX8_error 2 = .ok (.invokestatic 118, 3) := by decide +kernel
theorem dX8_error_5 : decode cX8_error 5 = .ok (.ifCond .ne 7, 3) := by decide +kernel
theorem dX8_error_8 : decode cX8_error 8 = .ok (.invokestatic 166, 3) := by decide +kernel
theorem dX8_error_11 : decode cX8_error 11 = .ok (.dreturn, 1) := by decide +kernel
theorem dX8_error_12 : decode cX8_error 12 = .ok (.aload_n 0, 1) := by decide +kernel
theorem dX8_error_13 : decode cX8_error 13 = .ok (.getfield 40, 3) := by decide +kernel
theorem dX8_error_16 : decode cX8_error 16 = .ok (.aload_n 0, 1) := by decide +kernel
theorem dX8_error_17 : decode cX8_error 17 = .ok (.getfield 10, 3) := by decide +kernel
theorem dX8_error_20 : decode cX8_error 20 = .ok (.iload_n 1, 1) := by decide +kernel
theorem dX8_error_21 : decode cX8_error 21 = .ok (.iload_n 2, 1) := by decide +kernel
theorem dX8_error_22 : decode cX8_error 22 = .ok (.invokevirtual 122, 3) := by decide +kernel
theorem dX8_error_25 : decode cX8_error 25 = .ok (.aload_n 0, 1) := by decide +kernel
theorem dX8_error_26 : decode cX8_error 26 = .ok (.getfield 40, 3) := by decide +kernel
theorem dX8_error_29 : decode cX8_error 29 = .ok (.aload_n 0, 1) := by decide +kernel
theorem dX8_error_30 : decode cX8_error 30 = .ok (.getfield 40, 3) := by decide +kernel
theorem dX8_error_33 : decode cX8_error 33 = .ok (.getfield 196, 3) := by decide +kernel
theorem dX8_error_36 : decode cX8_error 36 = .ok (.invokevirtual 197, 3) := by decide +kernel
theorem dX8_error_39 : decode cX8_error 39 = .ok (.ifCond .eq 13, 3) := by decide +kernel
theorem dX8_error_42 : decode cX8_error 42 = .ok (.aload_n 0, 1) := by decide +kernel
theorem dX8_error_43 : decode cX8_error 43 = .ok (.getfield 40, 3) := by decide +kernel
theorem dX8_error_46 : decode cX8_error 46 = .ok (.getfield 206, 3) := by decide +kernel
theorem dX8_error_49 : decode cX8_error 49 = .ok (.goto 6, 3) := by decide +kernel
theorem dX8_error_52 : decode cX8_error 52 = .ok (.invokestatic 166, 3) := by decide +kernel
theorem dX8_error_55 : decode cX8_error 55 = .ok (.dreturn, 1) := by decide +kernel
set_option maxRecDepth 20000 in
theorem ggX8_spread_X8_isRow : GoodIn wsX8_spread wsX8_isRow := goodIn_r _ [6] (by decide +kernel) (by decide +kernel)
set_option maxRecDepth 20000 in
theorem gX8_spread_X8_isRow : GoodIn wsX8_spread (va_wsS RX8 51 yX8_isRow wsX8_isRow) := goodIn_app (goodIn_of _ (by decide +kernel)) ggX8_spread_X8_isRow
set_option maxRecDepth 20000 in
theorem ggX8_spread_X5_rowAt : GoodIn wsX8_spread wsX5_rowAt := goodIn_r _ [11, 12, 13, 123, 124, 125, 126] (by decide +kernel) (by decide +kernel)
set_option maxRecDepth 20000 in
theorem gX8_spread_X5_rowAt : GoodIn wsX8_spread (wsV RX8 61 RX5 yX5_rowAt wsX5_rowAt) := goodIn_app (goodIn_of _ (by decide +kernel)) ggX8_spread_X5_rowAt
set_option maxRecDepth 20000 in
theorem ggX8_spread_X8_noNumber : GoodIn wsX8_spread wsX8_noNumber := goodIn_r _ [16, 17] (by decide +kernel) (by decide +kernel)
set_option maxRecDepth 20000 in
theorem gX8_spread_X8_noNumber : GoodIn wsX8_spread (va_wsS RX8 166 yX8_noNumber wsX8_noNumber) := goodIn_app (goodIn_of _ (by decide +kernel)) ggX8_spread_X8_noNumber
set_option maxRecDepth 20000 in
theorem ggX8_spread_X8_guessOf : GoodIn wsX8_spread wsX8_guessOf := goodIn_r _ [21, 22, 1, 23, 24, 25, 26, 27, 28, 29, 30, 31, 32, 33, 34, 35, 36, 37, 38, 39, 8, 9, 10, 11, 12, 13, 40, 41, 42, 43, 44, 45, 46, 47, 48, 49, 50, 51, 52, 53, 54, 55, 56, 57, 58, 59, 60, 61, 62, 63, 64, 65, 66, 67, 68, 69, 70, 71, 72, 73, 74, 75, 76, 77, 78, 79, 80, 81, 82, 83, 84, 85, 86, 87, 88, 89, 90, 91, 92, 93, 94, 95, 96, 97, 98, 99, 100, 101, 102, 103, 104, 105, 106, 107, 108, 109, 110, 111, 112, 113, 114, 115, 116, 117, 118, 119, 120, 127, 128, 129, 130, 131, 132, 133, 134, 135, 136, 123, 124, 125, 126, 121, 122] (by decide +kernel) (by decide +kernel)
set_option maxRecDepth 20000 in
theorem gX8_spread_X8_guessOf : GoodIn wsX8_spread (wsV RX8 203 RX8 yX8_guessOf wsX8_guessOf) := goodIn_app (goodIn_of _ (by decide +kernel)) ggX8_spread_X8_guessOf
theorem dX8_spread_0 : decode cX8_spread 0 = .ok (.iload_n 1, 1) := by decide +kernel
theorem dX8_spread_1 : decode cX8_spread 1 = .ok (.invokestatic 51, 3) := by decide +kernel
theorem dX8_spread_4 : decode cX8_spread 4 = .ok (.ifCond .eq 17, 3) := by decide +kernel
theorem dX8_spread_7 : decode cX8_spread 7 = .ok (.aload_n 0, 1) := by decide +kernel
theorem dX8_spread_8 : decode cX8_spread 8 = .ok (.getfield 10, 3) := by decide +kernel
theorem dX8_spread_11 : decode cX8_spread 11 = .ok (.iload_n 1, 1) := by decide +kernel
theorem dX8_spread_12 : decode cX8_spread 12 = .ok (.invokevirtual 61, 3) := by decide +kernel
theorem dX8_spread_15 : decode cX8_spread 15 = .ok (.getfield 65, 3) := by decide +kernel
theorem dX8_spread_18 : decode cX8_spread 18 = .ok (.ifCond .ne 7, 3) := by decide +kernel
theorem dX8_spread_21 : decode cX8_spread 21 = .ok (.invokestatic 166, 3) := by decide +kernel
theorem dX8_spread_24 : decode cX8_spread 24 = .ok (.dreturn, 1) := by decide +kernel
theorem dX8_spread_25 : decode cX8_spread 25 = .ok (.aload_n 0, 1) := by decide +kernel
theorem dX8_spread_26 : decode cX8_spread 26 = .ok (.iload_n 1, 1) := by decide +kernel
theorem dX8_spread_27 : decode cX8_spread 27 = .ok (.iconst 0, 1) := by decide +kernel
theorem dX8_spread_28 : decode cX8_spread 28 = .ok (.invokevirtual 203, 3) := by decide +kernel
theorem dX8_spread_31 : decode cX8_spread 31 = .ok (.dstore_n 2, 1) := by decide +kernel
theorem dX8_spread_32 : decode cX8_spread 32 = .ok (.dload_n 2, 1) := by decide +kernel
theorem dX8_spread_33 : decode cX8_spread 33 = .ok (.dstore 4, 2) := by decide +kernel
theorem dX8_spread_35 : decode cX8_spread 35 = .ok (.iconst 1, 1) := by decide +kernel
theorem dX8_spread_36 : decode cX8_spread 36 = .ok (.istore 6, 2) := by decide +kernel
theorem dX8_spread_38 : decode cX8_spread 38 = .ok (.iload 6, 2) := by decide +kernel
theorem dX8_spread_40 : decode cX8_spread 40 = .ok (.iconst 4, 1) := by decide +kernel
theorem dX8_spread_41 : decode cX8_spread 41 = .ok (.if_icmp .ge 49, 3) := by decide +kernel
theorem dX8_spread_44 : decode cX8_spread 44 = .ok (.aload_n 0, 1) := by decide +kernel
theorem dX8_spread_45 : decode cX8_spread 45 = .ok (.iload_n 1, 1) := by decide +kernel
theorem dX8_spread_46 : decode cX8_spread 46 = .ok (.iload 6, 2) := by decide +kernel
theorem dX8_spread_48 : decode cX8_spread 48 = .ok (.invokevirtual 203, 3) := by decide +kernel
theorem dX8_spread_51 : decode cX8_spread 51 = .ok (.dstore 7, 2) := by decide +kernel
theorem dX8_spread_53 : decode cX8_spread 53 = .ok (.dload 7, 2) := by decide +kernel
theorem dX8_spread_55 : decode cX8_spread 55 = .ok (.dload_n 2, 1) := by decide +kernel
theorem dX8_spread_56 : decode cX8_spread 56 = .ok (.dcmp .g, 1) := by decide +kernel
theorem dX8_spread_57 : decode cX8_spread 57 = .ok (.ifCond .ge 8, 3) := by decide +kernel
theorem dX8_spread_60 : decode cX8_spread 60 = .ok (.dload 7, 2) := by decide +kernel
theorem dX8_spread_62 : decode cX8_spread 62 = .ok (.goto 4, 3) := by decide +kernel
theorem dX8_spread_65 : decode cX8_spread 65 = .ok (.dload_n 2, 1) := by decide +kernel
theorem dX8_spread_66 : decode cX8_spread 66 = .ok (.dstore_n 2, 1) := by decide +kernel
theorem dX8_spread_67 : decode cX8_spread 67 = .ok (.dload 7, 2) := by decide +kernel
theorem dX8_spread_69 : decode cX8_spread 69 = .ok (.dload 4, 2) := by decide +kernel
theorem dX8_spread_71 : decode cX8_spread 71 = .ok (.dcmp .l, 1) := by decide +kernel
theorem dX8_spread_72 : decode cX8_spread 72 = .ok (.ifCond .le 8, 3) := by decide +kernel
theorem dX8_spread_75 : decode cX8_spread 75 = .ok (.dload 7, 2) := by decide +kernel
theorem dX8_spread_77 : decode cX8_spread 77 = .ok (.goto 5, 3) := by decide +kernel
theorem dX8_spread_80 : decode cX8_spread 80 = .ok (.dload 4, 2) := by decide +kernel
theorem dX8_spread_82 : decode cX8_spread 82 = .ok (.dstore 4, 2) := by decide +kernel
theorem dX8_spread_84 : decode cX8_spread 84 = .ok (.iinc 6 1, 3) := by decide +kernel
theorem dX8_spread_87 : decode cX8_spread 87 = .ok (.goto (-49), 3) := by decide +kernel
theorem dX8_spread_90 : decode cX8_spread 90 = .ok (.dload 4, 2) := by decide +kernel
theorem dX8_spread_92 : decode cX8_spread 92 = .ok (.dload_n 2, 1) := by decide +kernel
theorem dX8_spread_93 : decode cX8_spread 93 = .ok (.dsub, 1) := by decide +kernel
theorem dX8_spread_94 : decode cX8_spread 94 = .ok (.dreturn, 1) := by decide +kernel
set_option maxRecDepth 20000 in
theorem ggX8_best_X8_isRow : GoodIn wsX8_best wsX8_isRow := goodIn_r _ [8] (by decide +kernel) (by decide +kernel)
set_option maxRecDepth 20000 in
theorem gX8_best_X8_isRow : GoodIn wsX8_best (va_wsS RX8 51 yX8_isRow wsX8_isRow) := goodIn_app (goodIn_of _ (by decide +kernel)) ggX8_best_X8_isRow
set_option maxRecDepth 20000 in
theorem ggX8_best_X1_build : GoodIn wsX8_best wsX1_build := goodIn_r _ [13, 14, 15, 16, 17, 18, 19, 20, 21, 22, 23, 24, 25, 26, 27, 28, 29, 30, 31, 32, 12, 33, 34, 35, 36, 37, 38, 39, 40, 41, 42, 43, 44, 45, 46, 47, 48, 49, 50, 51, 52, 53, 54, 55, 56, 57, 58, 59, 60, 61, 62, 63, 64, 65, 66, 67, 68, 69, 70, 71, 72, 73, 74, 75, 76, 77, 78, 79, 80, 111, 112, 113, 114, 115, 116, 117, 118, 119, 120, 121, 122, 123, 124, 125, 126] (by decide +kernel) (by decide +kernel)
set_option maxRecDepth 20000 in
theorem gX8_best_X1_build : GoodIn wsX8_best (wsV RX8 122 RX1 yX1_build wsX1_build) := goodIn_app (goodIn_of _ (by decide +kernel)) ggX8_best_X1_build
set_option maxRecDepth 20000 in
theorem ggX8_best_X1_seekGuess : GoodIn wsX8_best wsX1_seekGuess := goodIn_r _ [84, 14, 85, 86, 34, 87, 88, 89, 90, 12, 91, 36, 37, 38, 39, 92, 93, 94, 95, 96, 97, 98, 99, 35, 100, 101, 102, 103, 62, 63, 54, 64, 111, 112, 113, 114, 115, 116, 117, 118, 119, 120] (by decide +kernel) (by decide +kernel)
set_option maxRecDepth 20000 in
theorem gX8_best_X1_seekGuess : GoodIn wsX8_best (wsV RX8 197 RX1 yX1_seekGuess wsX1_seekGuess) := goodIn_app (goodIn_of _ (by decide +kernel)) ggX8_best_X1_seekGuess
theorem dX8_best_0 : decode cX8_best 0 = .ok (.iload_n 1, 1) := by decide +kernel
theorem dX8_best_1 : decode cX8_best 1 = .ok (.invokestatic 51, 3) := by decide +kernel
theorem dX8_best_4 : decode cX8_best 4 = .ok (.ifCond .ne 5, 3) := by decide +kernel
theorem dX8_best_7 : decode cX8_best 7 = .ok (.iconst (-1), 1) := by decide +kernel
theorem dX8_best_8 : decode cX8_best 8 = .ok (.ireturn, 1) := by decide +kernel
theorem dX8_best_9 : decode cX8_best 9 = .ok (.bipush (-5), 2) := by decide +kernel
theorem dX8_best_11 : decode cX8_best 11 = .ok (.istore_n 2, 1) := by decide +kernel
theorem dX8_best_12 : decode cX8_best 12 = .ok (.dconst 0, 1) := by decide +kernel
theorem dX8_best_13 : decode cX8_best 13 = .ok (.dstore_n 3, 1) := by decide +kernel
theorem dX8_best_14 : decode cX8_best 14 = .ok (.iconst 0, 1) := by decide +kernel
theorem dX8_best_15 : decode cX8_best 15 = .ok (.istore 5, 2) := by decide +kernel
theorem dX8_best_17 : decode cX8_best 17 = .ok (.iload 5, 2) := by decide +kernel
theorem dX8_best_19 : decode cX8_best 19 = .ok (.iconst 4, 1) := by decide +kernel
theorem dX8_best_20 : decode cX8_best 20 = .ok (.if_icmp .ge 69, 3) := by decide +kernel
theorem dX8_best_23 : decode cX8_best 23 = .ok (.aload_n 0, 1) := by decide +kernel
theorem dX8_best_24 : decode cX8_best 24 = .ok (.getfield 40, 3) := by decide +kernel
theorem dX8_best_27 : decode cX8_best 27 = .ok (.aload_n 0, 1) := by decide +kernel
theorem dX8_best_28 : decode cX8_best 28 = .ok (.getfield 10, 3) := by decide +kernel
theorem dX8_best_31 : decode cX8_best 31 = .ok (.iload_n 1, 1) := by decide +kernel
theorem dX8_best_32 : decode cX8_best 32 = .ok (.iload 5, 2) := by decide +kernel
theorem dX8_best_34 : decode cX8_best 34 = .ok (.invokevirtual 122, 3) := by decide +kernel
theorem dX8_best_37 : decode cX8_best 37 = .ok (.aload_n 0, 1) := by decide +kernel
theorem dX8_best_38 : decode cX8_best 38 = .ok (.getfield 40, 3) := by decide +kernel
theorem dX8_best_41 : decode cX8_best 41 = .ok (.aload_n 0, 1) := by decide +kernel
theorem dX8_best_42 : decode cX8_best 42 = .ok (.getfield 40, 3) := by decide +kernel
theorem dX8_best_45 : decode cX8_best 45 = .ok (.getfield 196, 3) := by decide +kernel
theorem dX8_best_48 : decode cX8_best 48 = .ok (.invokevirtual 197, 3) := by decide +kernel
theorem dX8_best_51 : decode cX8_best 51 = .ok (.ifCond .eq 32, 3) := by decide +kernel
theorem dX8_best_54 : decode cX8_best 54 = .ok (.iload_n 2, 1) := by decide +kernel
theorem dX8_best_55 : decode cX8_best 55 = .ok (.bipush (-5), 2) := by decide +kernel
theorem dX8_best_57 : decode cX8_best 57 = .ok (.if_icmp .eq 15, 3) := by decide +kernel
theorem dX8_best_60 : decode cX8_best 60 = .ok (.aload_n 0, 1) := by decide +kernel
theorem dX8_best_61 : decode cX8_best 61 = .ok (.getfield 40, 3) := by decide +kernel
theorem dX8_best_64 : decode cX8_best 64 = .ok (.getfield 206, 3) := by decide +kernel
theorem dX8_best_67 : decode cX8_best 67 = .ok (.dload_n 3, 1) := by decide +kernel
theorem dX8_best_68 : decode cX8_best 68 = .ok (.dcmp .g, 1) := by decide +kernel
theorem dX8_best_69 : decode cX8_best 69 = .ok (.ifCond .ge 14, 3) := by decide +kernel
theorem dX8_best_72 : decode cX8_best 72 = .ok (.iload 5, 2) := by decide +kernel
theorem dX8_best_74 : decode cX8_best 74 = .ok (.istore_n 2, 1) := by decide +kernel
theorem dX8_best_75 : decode cX8_best 75 = .ok (.aload_n 0, 1) := by decide +kernel
theorem dX8_best_76 : decode cX8_best 76 = .ok (.getfield 40, 3) := by decide +kernel
theorem dX8_best_79 : decode cX8_best 79 = .ok (.getfield 206, 3) := by decide +kernel
theorem dX8_best_82 : decode cX8_best 82 = .ok (.dstore_n 3, 1) := by decide +kernel
theorem dX8_best_83 : decode cX8_best 83 = .ok (.iinc 5 1, 3) := by decide +kernel
theorem dX8_best_86 : decode cX8_best 86 = .ok (.goto (-69), 3) := by decide +kernel
theorem dX8_best_89 : decode cX8_best 89 = .ok (.iload_n 2, 1) := by decide +kernel
theorem dX8_best_90 : decode cX8_best 90 = .ok (.ireturn, 1) := by decide +kernel
set_option maxRecDepth 20000 in
theorem ggX8_needed_X8_isTable : GoodIn wsX8_needed wsX8_isTable := goodIn_r _ [8, 9, 10, 7, 11] (by decide +kernel) (by decide +kernel)
set_option maxRecDepth 20000 in
theorem gX8_needed_X8_isTable : GoodIn wsX8_needed (va_wsS RX8 118 yX8_isTable wsX8_isTable) := goodIn_app (goodIn_of _ (by decide +kernel)) ggX8_needed_X8_isTable
set_option maxRecDepth 20000 in
theorem ggX8_needed_X0_isNan : GoodIn wsX8_needed wsX0_isNan := goodIn_r _ [15, 16, 17, 18, 14, 19, 20] (by decide +kernel) (by decide +kernel)
set_option maxRecDepth 20000 in
theorem gX8_needed_X0_isNan : GoodIn wsX8_needed (va_wsS RX8 133 yX0_isNan wsX0_isNan) := goodIn_app (goodIn_of _ (by decide +kernel)) ggX8_needed_X0_isNan
set_option maxRecDepth 20000 in
theorem ggX8_needed_X0_decoded : GoodIn wsX8_needed wsX0_decoded := goodIn_r _ [23, 16, 24, 17, 18, 14, 19, 20, 25, 26, 27, 28, 29] (by decide +kernel) (by decide +kernel)
set_option maxRecDepth 20000 in
theorem gX8_needed_X0_decoded : GoodIn wsX8_needed (va_wsS RX8 73 yX0_decoded wsX0_decoded) := goodIn_app (goodIn_of _ (by decide +kernel)) ggX8_needed_X0_decoded
set_option maxRecDepth 20000 in
theorem ggX8_needed_X1_build : GoodIn wsX8_needed wsX1_build := goodIn_r _ [34, 35, 36, 37, 38, 39, 40, 41, 42, 43, 44, 45, 46, 47, 48, 49, 50, 51, 52, 53, 33, 54, 55, 56, 57, 58, 59, 60, 61, 62, 63, 64, 65, 66, 67, 68, 69, 70, 71, 72, 73, 74, 75, 76, 77, 78, 79, 80, 81, 82, 83, 84, 85, 86, 87, 88, 89, 90, 91, 92, 93, 94, 95, 96, 97, 98, 99, 100, 101, 132, 133, 134, 135, 136, 137, 138, 139, 140, 141, 142, 143, 144, 145, 146, 147] (by decide +kernel) (by decide +kernel)
set_option maxRecDepth 20000 in
theorem gX8_needed_X1_build : GoodIn wsX8_needed (wsV RX8 122 RX1 yX1_build wsX1_build) := goodIn_app (goodIn_of _ (by decide +kernel)) ggX8_needed_X1_build
set_option maxRecDepth 20000 in
theorem ggX8_needed_X1_seekGuess : GoodIn wsX8_needed wsX1_seekGuess := goodIn_r _ [105, 35, 106, 107, 55, 108, 109, 110, 111, 33, 112, 57, 58, 59, 60, 113, 114, 115, 116, 117, 118, 119, 120, 56, 121, 122, 123, 124, 83, 84, 75, 85, 132, 133, 134, 135, 136, 137, 138, 139, 140, 141] (by decide +kernel) (by decide +kernel)
set_option maxRecDepth 20000 in
theorem gX8_needed_X1_seekGuess : GoodIn wsX8_needed (wsV RX8 197 RX1 yX1_seekGuess wsX1_seekGuess) := goodIn_app (goodIn_of _ (by decide +kernel)) ggX8_needed_X1_seekGuess
theorem dX8_needed_0 : decode cX8_needed 0 = .ok (.iload_n 1, 1) := by decide +kernel
theorem dX8_needed_1 : decode cX8_needed 1 = .ok (.iload_n 2, 1) := by decide +kernel
theorem dX8_needed_2 : decode cX8_needed 2 = .ok (.invokestatic 118, 3) := by decide +kernel
theorem dX8_needed_5 : decode cX8_needed 5 = .ok (.ifCond .ne 5, 3) := by decide +kernel
theorem dX8_needed_8 : decode cX8_needed 8 = .ok (.iconst (-1), 1) := by decide +kernel
theorem dX8_needed_9 : decode cX8_needed 9 = .ok (.ireturn, 1) := by decide +kernel
theorem dX8_needed_10 : decode cX8_needed 10 = .ok (.lload_n 3, 1) := by decide +kernel
theorem dX8_needed_11 : decode cX8_needed 11 = .ok (.invokestatic 133, 3) := by decide +kernel
theorem dX8_needed_14 : decode cX8_needed 14 = .ok (.ifCond .eq 6, 3) := by decide +kernel
theorem dX8_needed_17 : decode cX8_needed 17 = .ok (.bipush (-2), 2) := by decide +kernel
theorem dX8_needed_19 : decode cX8_needed 19 = .ok (.ireturn, 1) := by decide +kernel
theorem dX8_needed_20 : decode cX8_needed 20 = .ok (.lload_n 3, 1) := by decide +kernel
theorem dX8_needed_21 : decode cX8_needed 21 = .ok (.invokestatic 73, 3) := by decide +kernel
theorem dX8_needed_24 : decode cX8_needed 24 = .ok (.dstore 5, 2) := by decide +kernel
theorem dX8_needed_26 : decode cX8_needed 26 = .ok (.dload 5, 2) := by decide +kernel
theorem dX8_needed_28 : decode cX8_needed 28 = .ok (.dconst 0, 1) := by decide +kernel
theorem dX8_needed_29 : decode cX8_needed 29 = .ok (.dcmp .g, 1) := by decide +kernel
theorem dX8_needed_30 : decode cX8_needed 30 = .ok (.ifCond .ge 6, 3) := by decide +kernel
theorem dX8_needed_33 : decode cX8_needed 33 = .ok (.bipush (-2), 2) := by decide +kernel
theorem dX8_needed_35 : decode cX8_needed 35 = .ok (.ireturn, 1) := by decide +kernel
theorem dX8_needed_36 : decode cX8_needed 36 = .ok (.aload_n 0, 1) := by decide +kernel
theorem dX8_needed_37 : decode cX8_needed 37 = .ok (.getfield 40, 3) := by decide +kernel
theorem dX8_needed_40 : decode cX8_needed 40 = .ok (.aload_n 0, 1) := by decide +kernel
theorem dX8_needed_41 : decode cX8_needed 41 = .ok (.getfield 10, 3) := by decide +kernel
theorem dX8_needed_44 : decode cX8_needed 44 = .ok (.iload_n 1, 1) := by decide +kernel
theorem dX8_needed_45 : decode cX8_needed 45 = .ok (.iload_n 2, 1) := by decide +kernel
theorem dX8_needed_46 : decode cX8_needed 46 = .ok (.invokevirtual 122, 3) := by decide +kernel
theorem dX8_needed_49 : decode cX8_needed 49 = .ok (.iconst 1, 1) := by decide +kernel
theorem dX8_needed_50 : decode cX8_needed 50 = .ok (.istore 7, 2) := by decide +kernel
theorem dX8_needed_52 : decode cX8_needed 52 = .ok (.iload 7, 2) := by decide +kernel
theorem dX8_needed_54 : decode cX8_needed 54 = .ok (.aload_n 0, 1) := by decide +kernel
theorem dX8_needed_55 : decode cX8_needed 55 = .ok (.getfield 40, 3) := by decide +kernel
theorem dX8_needed_58 : decode cX8_needed 58 = .ok (.getfield 196, 3) := by decide +kernel
theorem dX8_needed_61 : decode cX8_needed 61 = .ok (.if_icmp .gt 37, 3) := by decide +kernel
theorem dX8_needed_64 : decode cX8_needed 64 = .ok (.aload_n 0, 1) := by decide +kernel
theorem dX8_needed_65 : decode cX8_needed 65 = .ok (.getfield 40, 3) := by decide +kernel
theorem dX8_needed_68 : decode cX8_needed 68 = .ok (.iload 7, 2) := by decide +kernel
theorem dX8_needed_70 : decode cX8_needed 70 = .ok (.invokevirtual 197, 3) := by decide +kernel
theorem dX8_needed_73 : decode cX8_needed 73 = .ok (.ifCond .eq 19, 3) := by decide +kernel
theorem dX8_needed_76 : decode cX8_needed 76 = .ok (.aload_n 0, 1) := by decide +kernel
theorem dX8_needed_77 : decode cX8_needed 77 = .ok (.getfield 40, 3) := by decide +kernel
theorem dX8_needed_80 : decode cX8_needed 80 = .ok (.getfield 206, 3) := by decide +kernel
theorem dX8_needed_83 : decode cX8_needed 83 = .ok (.dload 5, 2) := by decide +kernel
theorem dX8_needed_85 : decode cX8_needed 85 = .ok (.dcmp .g, 1) := by decide +kernel
theorem dX8_needed_86 : decode cX8_needed 86 = .ok (.ifCond .gt 6, 3) := by decide +kernel
theorem dX8_needed_89 : decode cX8_needed 89 = .ok (.iload 7, 2) := by decide +kernel
theorem dX8_needed_91 : decode cX8_needed 91 = .ok (.ireturn, 1) := by decide +kernel
theorem dX8_needed_92 : decode cX8_needed 92 = .ok (.iinc 7 1, 3) := by decide +kernel
theorem dX8_needed_95 : decode cX8_needed 95 = .ok (.goto (-43), 3) := by decide +kernel
theorem dX8_needed_98 : decode cX8_needed 98 = .ok (.bipush (-5), 2) := by decide +kernel
theorem dX8_needed_100 : decode cX8_needed 100 = .ok (.ireturn, 1) := by decide +kernel
set_option maxRecDepth 20000 in
theorem ggX8_told_X5_isSetting : GoodIn wsX8_told wsX5_isSetting := goodIn_r _ [6] (by decide +kernel) (by decide +kernel)
set_option maxRecDepth 20000 in
theorem gX8_told_X5_isSetting : GoodIn wsX8_told (va_wsS RX8 130 yX5_isSetting wsX5_isSetting) := goodIn_app (goodIn_of _ (by decide +kernel)) ggX8_told_X5_isSetting
set_option maxRecDepth 20000 in
theorem ggX8_told_X8_noNumber : GoodIn wsX8_told wsX8_noNumber := goodIn_r _ [10, 11] (by decide +kernel) (by decide +kernel)
set_option maxRecDepth 20000 in
theorem gX8_told_X8_noNumber : GoodIn wsX8_told (va_wsS RX8 166 yX8_noNumber wsX8_noNumber) := goodIn_app (goodIn_of _ (by decide +kernel)) ggX8_told_X8_noNumber
theorem dX8_told_0 : decode cX8_told 0 = .ok (.iload_n 1, 1) := by decide +kernel
theorem dX8_told_1 : decode cX8_told 1 = .ok (.invokestatic 130, 3) := by decide +kernel
theorem dX8_told_4 : decode cX8_told 4 = .ok (.ifCond .eq 15, 3) := by decide +kernel
theorem dX8_told_7 : decode cX8_told 7 = .ok (.aload_n 0, 1) := by decide +kernel
theorem dX8_told_8 : decode cX8_told 8 = .ok (.getfield 10, 3) := by decide +kernel
theorem dX8_told_11 : decode cX8_told 11 = .ok (.getfield 102, 3) := by decide +kernel
theorem dX8_told_14 : decode cX8_told 14 = .ok (.iload_n 1, 1) := by decide +kernel
theorem dX8_told_15 : decode cX8_told 15 = .ok (.daload, 1) := by decide +kernel
theorem dX8_told_16 : decode cX8_told 16 = .ok (.goto 6, 3) := by decide +kernel
theorem dX8_told_19 : decode cX8_told 19 = .ok (.invokestatic 166, 3) := by decide +kernel
theorem dX8_told_22 : decode cX8_told 22 = .ok (.dreturn, 1) := by decide +kernel
set_option maxRecDepth 20000 in
theorem ggX8_count_X5_rowAt : GoodIn wsX8_count wsX5_rowAt := goodIn_r _ [12, 13, 14, 112, 113, 114, 115] (by decide +kernel) (by decide +kernel)
set_option maxRecDepth 20000 in
theorem gX8_count_X5_rowAt : GoodIn wsX8_count (wsV RX8 61 RX5 yX5_rowAt wsX5_rowAt) := goodIn_app (goodIn_of _ (by decide +kernel)) ggX8_count_X5_rowAt
set_option maxRecDepth 20000 in
theorem ggX8_count_X8_brokenInAll : GoodIn wsX8_count wsX8_brokenInAll := goodIn_r _ [19, 20, 1, 21, 22, 23, 24, 25, 26, 27, 28, 29, 30, 31, 32, 33, 34, 35, 9, 10, 11, 12, 13, 14, 36, 37, 38, 39, 40, 41, 42, 43, 44, 45, 46, 47, 48, 49, 50, 51, 52, 53, 54, 55, 56, 57, 58, 59, 60, 61, 62, 63, 64, 65, 66, 67, 68, 69, 70, 71, 72, 73, 74, 75, 76, 77, 78, 79, 80, 81, 82, 83, 84, 85, 86, 87, 88, 89, 90, 91, 92, 93, 94, 95, 96, 97, 98, 99, 100, 101, 102, 103, 104, 105, 106, 107, 108, 109, 123, 124, 125, 126, 127, 128, 129, 130, 131, 132, 112, 113, 114, 115, 110, 111] (by decide +kernel) (by decide +kernel)
set_option maxRecDepth 20000 in
theorem gX8_count_X8_brokenInAll : GoodIn wsX8_count (wsV RX8 146 RX8 yX8_brokenInAll wsX8_brokenInAll) := goodIn_app (goodIn_of _ (by decide +kernel)) ggX8_count_X8_brokenInAll
theorem dX8_count_0 : decode cX8_count 0 = .ok (.iload_n 1, 1) := by decide +kernel
theorem dX8_count_1 : decode cX8_count 1 = .ok (.tableswitch 100 0 5 #[39, 51, 63, 79, 84, 92], 39) := by decide +kernel
theorem dX8_count_40 : decode cX8_count 40 = .ok (.aload_n 0, 1) := by decide +kernel
theorem dX8_count_41 : decode cX8_count 41 = .ok (.getfield 10, 3) := by decide +kernel
theorem dX8_count_44 : decode cX8_count 44 = .ok (.iconst 0, 1) := by decide +kernel
theorem dX8_count_45 : decode cX8_count 45 = .ok (.invokevirtual 61, 3) := by decide +kernel
theorem dX8_count_48 : decode cX8_count 48 = .ok (.getfield 65, 3) := by decide +kernel
theorem dX8_count_51 : decode cX8_count 51 = .ok (.ireturn, 1) := by decide +kernel
theorem dX8_count_52 : decode cX8_count 52 = .ok (.aload_n 0, 1) := by decide +kernel
theorem dX8_count_53 : decode cX8_count 53 = .ok (.getfield 10, 3) := by decide +kernel
theorem dX8_count_56 : decode cX8_count 56 = .ok (.iconst 1, 1) := by decide +kernel
theorem dX8_count_57 : decode cX8_count 57 = .ok (.invokevirtual 61, 3) := by decide +kernel
theorem dX8_count_60 : decode cX8_count 60 = .ok (.getfield 65, 3) := by decide +kernel
theorem dX8_count_63 : decode cX8_count 63 = .ok (.ireturn, 1) := by decide +kernel
theorem dX8_count_64 : decode cX8_count 64 = .ok (.aload_n 0, 1) := by decide +kernel
theorem dX8_count_65 : decode cX8_count 65 = .ok (.getfield 10, 3) := by decide +kernel
theorem dX8_count_68 : decode cX8_count 68 = .ok (.getfield 143, 3) := by decide +kernel
theorem dX8_count_71 : decode cX8_count 71 = .ok (.ifCond .eq 7, 3) := by decide +kernel
theorem dX8_count_74 : decode cX8_count 74 = .ok (.iconst 1, 1) := by decide +kernel
theorem dX8_count_75 : decode cX8_count 75 = .ok (.goto 4, 3) := by decide +kernel
theorem dX8_count_78 : decode cX8_count 78 = .ok (.iconst 0, 1) := by decide +kernel
theorem dX8_count_79 : decode cX8_count 79 = .ok (.ireturn, 1) := by decide +kernel
theorem dX8_count_80 : decode cX8_count 80 = .ok (.aload_n 0, 1) := by decide +kernel
theorem dX8_count_81 : decode cX8_count 81 = .ok (.invokevirtual 146, 3) := by decide +kernel
theorem dX8_count_84 : decode cX8_count 84 = .ok (.ireturn, 1) := by decide +kernel
theorem dX8_count_85 : decode cX8_count 85 = .ok (.aload_n 0, 1) := by decide +kernel
theorem dX8_count_86 : decode cX8_count 86 = .ok (.getfield 26, 3) := by decide +kernel
theorem dX8_count_89 : decode cX8_count 89 = .ok (.getfield 154, 3) := by decide +kernel
theorem dX8_count_92 : decode cX8_count 92 = .ok (.ireturn, 1) := by decide +kernel
theorem dX8_count_93 : decode cX8_count 93 = .ok (.aload_n 0, 1) := by decide +kernel
theorem dX8_count_94 : decode cX8_count 94 = .ok (.getfield 33, 3) := by decide +kernel
theorem dX8_count_97 : decode cX8_count 97 = .ok (.getfield 150, 3) := by decide +kernel
theorem dX8_count_100 : decode cX8_count 100 = .ok (.ireturn, 1) := by decide +kernel
theorem dX8_count_101 : decode cX8_count 101 = .ok (.bipush (-2), 2) := by decide +kernel
theorem dX8_count_103 : decode cX8_count 103 = .ok (.ireturn, 1) := by decide +kernel
theorem dX8_isRow_0 : decode cX8_isRow 0 = .ok (.iload_n 0, 1) := by decide +kernel
theorem dX8_isRow_1 : decode cX8_isRow 1 = .ok (.ifCond .lt 12, 3) := by decide +kernel
theorem dX8_isRow_4 : decode cX8_isRow 4 = .ok (.iload_n 0, 1) := by decide +kernel
theorem dX8_isRow_5 : decode cX8_isRow 5 = .ok (.iconst 2, 1) := by decide +kernel
theorem dX8_isRow_6 : decode cX8_isRow 6 = .ok (.if_icmp .ge 7, 3) := by decide +kernel
theorem dX8_isRow_9 : decode cX8_isRow 9 = .ok (.iconst 1, 1) := by decide +kernel
theorem dX8_isRow_10 : decode cX8_isRow 10 = .ok (.goto 4, 3) := by decide +kernel
theorem dX8_isRow_13 : decode cX8_isRow 13 = .ok (.iconst 0, 1) := by decide +kernel
theorem dX8_isRow_14 : decode cX8_isRow 14 = .ok (.ireturn, 1) := by decide +kernel
set_option maxRecDepth 20000 in
theorem ggX8_isTable_X8_isRow : GoodIn wsX8_isTable wsX8_isRow := goodIn_r _ [4] (by decide +kernel) (by decide +kernel)
set_option maxRecDepth 20000 in
theorem gX8_isTable_X8_isRow : GoodIn wsX8_isTable (va_wsS RX8 51 yX8_isRow wsX8_isRow) := goodIn_app (goodIn_of _ (by decide +kernel)) ggX8_isTable_X8_isRow
theorem dX8_isTable_0 : decode cX8_isTable 0 = .ok (.iload_n 0, 1) := by decide +kernel
theorem dX8_isTable_1 : decode cX8_isTable 1 = .ok (.invokestatic 51, 3) := by decide +kernel
theorem dX8_isTable_4 : decode cX8_isTable 4 = .ok (.ifCond .eq 16, 3) := by decide +kernel
theorem dX8_isTable_7 : decode cX8_isTable 7 = .ok (.iload_n 1, 1) := by decide +kernel
theorem dX8_isTable_8 : decode cX8_isTable 8 = .ok (.ifCond .lt 12, 3) := by decide +kernel
theorem dX8_isTable_11 : decode cX8_isTable 11 = .ok (.iload_n 1, 1) := by decide +kernel
theorem dX8_isTable_12 : decode cX8_isTable 12 = .ok (.iconst 4, 1) := by decide +kernel
theorem dX8_isTable_13 : decode cX8_isTable 13 = .ok (.if_icmp .ge 7, 3) := by decide +kernel
theorem dX8_isTable_16 : decode cX8_isTable 16 = .ok (.iconst 1, 1) := by decide +kernel
theorem dX8_isTable_17 : decode cX8_isTable 17 = .ok (.goto 4, 3) := by decide +kernel
theorem dX8_isTable_20 : decode cX8_isTable 20 = .ok (.iconst 0, 1) := by decide +kernel
theorem dX8_isTable_21 : decode cX8_isTable 21 = .ok (.ireturn, 1) := by decide +kernel
theorem dX8_noNumber_0 : decode cX8_noNumber 0 = .ok (.ldc2_w 212, 3) := by decide +kernel
theorem dX8_noNumber_3 : decode cX8_noNumber 3 = .ok (.dreturn, 1) := by decide +kernel
set_option maxRecDepth 20000 in
theorem ggX8_putDraft_X2_remember : GoodIn wsX8_putDraft wsX2_remember := goodIn_r _ [9, 10, 11, 12, 13, 14, 15, 16, 17, 18, 19, 20, 21, 22, 23, 24, 25, 26, 27, 28, 29, 30, 31, 32, 33, 48, 49, 50, 51, 52, 53, 54, 46, 47] (by decide +kernel) (by decide +kernel)
set_option maxRecDepth 20000 in
theorem gX8_putDraft_X2_remember : GoodIn wsX8_putDraft (wsV RX8 69 RX2 yX2_remember wsX2_remember) := goodIn_app (goodIn_of _ (by decide +kernel)) ggX8_putDraft_X2_remember
set_option maxRecDepth 20000 in
theorem ggX8_putDraft_X5_rowAt : GoodIn wsX8_putDraft wsX5_rowAt := goodIn_r _ [37, 18, 19, 51, 52, 53, 54] (by decide +kernel) (by decide +kernel)
set_option maxRecDepth 20000 in
theorem gX8_putDraft_X5_rowAt : GoodIn wsX8_putDraft (wsV RX8 61 RX5 yX5_rowAt wsX5_rowAt) := goodIn_app (goodIn_of _ (by decide +kernel)) ggX8_putDraft_X5_rowAt
set_option maxRecDepth 20000 in
theorem ggX8_putDraft_X4_copyFrom : GoodIn wsX8_putDraft wsX4_copyFrom := goodIn_r _ [30, 31, 32, 22, 23, 24, 33, 46, 47] (by decide +kernel) (by decide +kernel)
set_option maxRecDepth 20000 in
theorem gX8_putDraft_X4_copyFrom : GoodIn wsX8_putDraft (wsV RX8 214 RX4 yX4_copyFrom wsX4_copyFrom) := goodIn_app (goodIn_of _ (by decide +kernel)) ggX8_putDraft_X4_copyFrom
theorem dX8_putDraft_0 : decode cX8_putDraft 0 = .ok (.aload_n 0, 1) := by decide +kernel
theorem dX8_putDraft_1 : decode cX8_putDraft 1 = .ok (.getfield 26, 3) := by decide +kernel
theorem dX8_putDraft_4 : decode cX8_putDraft 4 = .ok (.aload_n 0, 1) := by decide +kernel
theorem dX8_putDraft_5 : decode cX8_putDraft 5 = .ok (.getfield 10, 3) := by decide +kernel
theorem dX8_putDraft_8 : decode cX8_putDraft 8 = .ok (.invokevirtual 69, 3) := by decide +kernel
theorem dX8_putDraft_11 : decode cX8_putDraft 11 = .ok (.aload_n 0, 1) := by decide +kernel
theorem dX8_putDraft_12 : decode cX8_putDraft 12 = .ok (.getfield 10, 3) := by decide +kernel
theorem dX8_putDraft_15 : decode cX8_putDraft 15 = .ok (.iload_n 1, 1) := by decide +kernel
theorem dX8_putDraft_16 : decode cX8_putDraft 16 = .ok (.invokevirtual 61, 3) := by decide +kernel
theorem dX8_putDraft_19 : decode cX8_putDraft 19 = .ok (.astore_n 2, 1) := by decide +kernel
theorem dX8_putDraft_20 : decode cX8_putDraft 20 = .ok (.aload_n 2, 1) := by decide +kernel
theorem dX8_putDraft_21 : decode cX8_putDraft 21 = .ok (.aload_n 0, 1) := by decide +kernel
theorem dX8_putDraft_22 : decode cX8_putDraft 22 = .ok (.getfield 47, 3) := by decide +kernel
theorem dX8_putDraft_25 : decode cX8_putDraft 25 = .ok (.invokevirtual 214, 3) := by decide +kernel
theorem dX8_putDraft_28 : decode cX8_putDraft 28 = .ok (.aload_n 2, 1) := by decide +kernel
theorem dX8_putDraft_29 : decode cX8_putDraft 29 = .ok (.getfield 65, 3) := by decide +kernel
theorem dX8_putDraft_32 : decode cX8_putDraft 32 = .ok (.ireturn, 1) := by decide +kernel
set_option maxRecDepth 20000 in
theorem ggX8_guessOf_X1_build : GoodIn wsX8_guessOf wsX1_build := goodIn_r _ [9, 10, 11, 12, 13, 14, 15, 16, 17, 18, 19, 20, 21, 22, 23, 24, 25, 26, 27, 28, 8, 29, 30, 31, 32, 33, 34, 35, 36, 37, 38, 39, 40, 41, 42, 43, 44, 45, 46, 47, 48, 49, 50, 51, 52, 53, 54, 55, 56, 57, 58, 59, 60, 61, 62, 63, 64, 65, 66, 67, 68, 69, 70, 71, 72, 73, 74, 75, 76, 107, 108, 109, 110, 111, 112, 113, 114, 115, 116, 117, 118, 119, 120, 121, 122] (by decide +kernel) (by decide +kernel)
set_option maxRecDepth 20000 in
theorem gX8_guessOf_X1_build : GoodIn wsX8_guessOf (wsV RX8 122 RX1 yX1_build wsX1_build) := goodIn_app (goodIn_of _ (by decide +kernel)) ggX8_guessOf_X1_build
set_option maxRecDepth 20000 in
theorem ggX8_guessOf_X1_seekGuess : GoodIn wsX8_guessOf wsX1_seekGuess := goodIn_r _ [80, 10, 81, 82, 30, 83, 84, 85, 86, 8, 87, 32, 33, 34, 35, 88, 89, 90, 91, 92, 93, 94, 95, 31, 96, 97, 98, 99, 58, 59, 50, 60, 107, 108, 109, 110, 111, 112, 113, 114, 115, 116] (by decide +kernel) (by decide +kernel)
set_option maxRecDepth 20000 in
theorem gX8_guessOf_X1_seekGuess : GoodIn wsX8_guessOf (wsV RX8 197 RX1 yX1_seekGuess wsX1_seekGuess) := goodIn_app (goodIn_of _ (by decide +kernel)) ggX8_guessOf_X1_seekGuess
theorem dX8_guessOf_0 : decode cX8_guessOf 0 = .ok (.aload_n 0, 1) := by decide +kernel
theorem dX8_guessOf_1 : decode cX8_guessOf 1 = .ok (.getfield 40, 3) := by decide +kernel
theorem dX8_guessOf_4 : decode cX8_guessOf 4 = .ok (.aload_n 0, 1) := by decide +kernel
theorem dX8_guessOf_5 : decode cX8_guessOf 5 = .ok (.getfield 10, 3) := by decide +kernel
theorem dX8_guessOf_8 : decode cX8_guessOf 8 = .ok (.iload_n 1, 1) := by decide +kernel
theorem dX8_guessOf_9 : decode cX8_guessOf 9 = .ok (.iload_n 2, 1) := by decide +kernel
theorem dX8_guessOf_10 : decode cX8_guessOf 10 = .ok (.invokevirtual 122, 3) := by decide +kernel
theorem dX8_guessOf_13 : decode cX8_guessOf 13 = .ok (.aload_n 0, 1) := by decide +kernel
theorem dX8_guessOf_14 : decode cX8_guessOf 14 = .ok (.getfield 40, 3) := by decide +kernel
theorem dX8_guessOf_17 : decode cX8_guessOf 17 = .ok (.aload_n 0, 1) := by decide +kernel
theorem dX8_guessOf_18 : decode cX8_guessOf 18 = .ok (.getfield 40, 3) := by decide +kernel
theorem dX8_guessOf_21 : decode cX8_guessOf 21 = .ok (.getfield 196, 3) := by decide +kernel
theorem dX8_guessOf_24 : decode cX8_guessOf 24 = .ok (.invokevirtual 197, 3) := by decide +kernel
theorem dX8_guessOf_27 : decode cX8_guessOf 27 = .ok (.pop, 1) := by decide +kernel
theorem dX8_guessOf_28 : decode cX8_guessOf 28 = .ok (.aload_n 0, 1) := by decide +kernel
theorem dX8_guessOf_29 : decode cX8_guessOf 29 = .ok (.getfield 40, 3) := by decide +kernel
theorem dX8_guessOf_32 : decode cX8_guessOf 32 = .ok (.getfield 217, 3) := by decide +kernel
theorem dX8_guessOf_35 : decode cX8_guessOf 35 = .ok (.dreturn, 1) := by decide +kernel
set_option maxRecDepth 20000 in
theorem ggX8_brokenInAll_X1_build : GoodIn wsX8_brokenInAll wsX1_build := goodIn_r _ [7, 8, 9, 10, 11, 12, 13, 14, 15, 16, 17, 18, 19, 20, 21, 22, 23, 24, 25, 26, 6, 27, 28, 29, 30, 31, 32, 33, 34, 35, 36, 37, 38, 39, 40, 41, 42, 43, 44, 45, 46, 47, 48, 49, 50, 51, 52, 53, 54, 55, 56, 57, 58, 59, 60, 61, 62, 63, 64, 65, 66, 67, 68, 69, 70, 71, 72, 73, 74, 98, 99, 100, 101, 102, 103, 104, 105, 106, 107, 108, 109, 110, 111, 112, 113] (by decide +kernel) (by decide +kernel)
set_option maxRecDepth 20000 in
theorem gX8_brokenInAll_X1_build : GoodIn wsX8_brokenInAll (wsV RX8 122 RX1 yX1_build wsX1_build) := goodIn_app (goodIn_of _ (by decide +kernel)) ggX8_brokenInAll_X1_build
set_option maxRecDepth 20000 in
theorem ggX8_brokenInAll_X1_manyBroken : GoodIn wsX8_brokenInAll wsX1_manyBroken := goodIn_r _ [78, 79, 80, 81, 6, 82, 83, 84, 85, 86, 15, 30, 31, 32, 33, 8, 87, 88, 89, 90, 29, 98, 99, 100, 101, 102, 103, 104, 105, 106, 107] (by decide +kernel) (by decide +kernel)
set_option maxRecDepth 20000 in
theorem gX8_brokenInAll_X1_manyBroken : GoodIn wsX8_brokenInAll (wsV RX8 187 RX1 yX1_manyBroken wsX1_manyBroken) := goodIn_app (goodIn_of _ (by decide +kernel)) ggX8_brokenInAll_X1_manyBroken
theorem dX8_brokenInAll_0 : decode cX8_brokenInAll 0 = .ok (.iconst 0, 1) := by decide +kernel
theorem dX8_brokenInAll_1 : decode cX8_brokenInAll 1 = .ok (.istore_n 1, 1) := by decide +kernel
theorem dX8_brokenInAll_2 : decode cX8_brokenInAll 2 = .ok (.iconst 0, 1) := by decide +kernel
theorem dX8_brokenInAll_3 : decode cX8_brokenInAll 3 = .ok (.istore_n 2, 1) := by decide +kernel
theorem dX8_brokenInAll_4 : decode cX8_brokenInAll 4 = .ok (.iload_n 2, 1) := by decide +kernel
theorem dX8_brokenInAll_5 : decode cX8_brokenInAll 5 = .ok (.iconst 2, 1) := by decide +kernel
theorem dX8_brokenInAll_6 : decode cX8_brokenInAll 6 = .ok (.if_icmp .ge 45, 3) := by decide +kernel
theorem dX8_brokenInAll_9 : decode cX8_brokenInAll 9 = .ok (.iconst 0, 1) := by decide +kernel
theorem dX8_brokenInAll_10 : decode cX8_brokenInAll 10 = .ok (.istore_n 3, 1) := by decide +kernel
theorem dX8_brokenInAll_11 : decode cX8_brokenInAll 11 = .ok (.iload_n 3, 1) := by decide +kernel
theorem dX8_brokenInAll_12 : decode cX8_brokenInAll 12 = .ok (.iconst 4, 1) := by decide +kernel
theorem dX8_brokenInAll_13 : decode cX8_brokenInAll 13 = .ok (.if_icmp .ge 32, 3) := by decide +kernel
theorem dX8_brokenInAll_16 : decode cX8_brokenInAll 16 = .ok (.aload_n 0, 1) := by decide +kernel
theorem dX8_brokenInAll_17 : decode cX8_brokenInAll 17 = .ok (.getfield 40, 3) := by decide +kernel
theorem dX8_brokenInAll_20 : decode cX8_brokenInAll 20 = .ok (.aload_n 0, 1) := by decide +kernel
theorem dX8_brokenInAll_21 : decode cX8_brokenInAll 21 = .ok (.getfield 10, 3) := by decide +kernel
theorem dX8_brokenInAll_24 : decode cX8_brokenInAll 24 = .ok (.iload_n 2, 1) := by decide +kernel
theorem dX8_brokenInAll_25 : decode cX8_brokenInAll 25 = .ok (.iload_n 3, 1) := by decide +kernel
theorem dX8_brokenInAll_26 : decode cX8_brokenInAll 26 = .ok (.invokevirtual 122, 3) := by decide +kernel
theorem dX8_brokenInAll_29 : decode cX8_brokenInAll 29 = .ok (.iload_n 1, 1) := by decide +kernel
theorem dX8_brokenInAll_30 : decode cX8_brokenInAll 30 = .ok (.aload_n 0, 1) := by decide +kernel
theorem dX8_brokenInAll_31 : decode cX8_brokenInAll 31 = .ok (.getfield 40, 3) := by decide +kernel
theorem dX8_brokenInAll_34 : decode cX8_brokenInAll 34 = .ok (.invokevirtual 187, 3) := by decide +kernel
theorem dX8_brokenInAll_37 : decode cX8_brokenInAll 37 = .ok (.iadd, 1) := by decide +kernel
theorem dX8_brokenInAll_38 : decode cX8_brokenInAll 38 = .ok (.istore_n 1, 1) := by decide +kernel
theorem dX8_brokenInAll_39 : decode cX8_brokenInAll 39 = .ok (.iinc 3 1, 3) := by decide +kernel
theorem dX8_brokenInAll_42 : decode cX8_brokenInAll 42 = .ok (.goto (-31), 3) := by decide +kernel
theorem dX8_brokenInAll_45 : decode cX8_brokenInAll 45 = .ok (.iinc 2 1, 3) := by decide +kernel
theorem dX8_brokenInAll_48 : decode cX8_brokenInAll 48 = .ok (.goto (-44), 3) := by decide +kernel
theorem dX8_brokenInAll_51 : decode cX8_brokenInAll 51 = .ok (.iload_n 1, 1) := by decide +kernel
theorem dX8_brokenInAll_52 : decode cX8_brokenInAll 52 = .ok (.ireturn, 1) := by decide +kernel
theorem dL_part_0 : decode cL_part 0 = .ok (.iload_n 0, 1) := by decide +kernel
theorem dL_part_1 : decode cL_part 1 = .ok (.ldc 7, 2) := by decide +kernel
theorem dL_part_3 : decode cL_part 3 = .ok (.iand, 1) := by decide +kernel
theorem dL_part_4 : decode cL_part 4 = .ok (.iload_n 1, 1) := by decide +kernel
theorem dL_part_5 : decode cL_part 5 = .ok (.irem, 1) := by decide +kernel
theorem dL_part_6 : decode cL_part 6 = .ok (.ireturn, 1) := by decide +kernel
theorem dL_drawn_0 : decode cL_drawn 0 = .ok (.aload_n 0, 1) := by decide +kernel
theorem dL_drawn_1 : decode cL_drawn 1 = .ok (.arraylength, 1) := by decide +kernel
theorem dL_drawn_2 : decode cL_drawn 2 = .ok (.ifCond .ne 13, 3) := by decide +kernel
theorem dL_drawn_5 : decode cL_drawn 5 = .ok (.sipush 7919, 3) := by decide +kernel
theorem dL_drawn_8 : decode cL_drawn 8 = .ok (.iload_n 1, 1) := by decide +kernel
theorem dL_drawn_9 : decode cL_drawn 9 = .ok (.imul, 1) := by decide +kernel
theorem dL_drawn_10 : decode cL_drawn 10 = .ok (.iconst 3, 1) := by decide +kernel
theorem dL_drawn_11 : decode cL_drawn 11 = .ok (.iadd, 1) := by decide +kernel
theorem dL_drawn_12 : decode cL_drawn 12 = .ok (.goto 27, 3) := by decide +kernel
theorem dL_drawn_15 : decode cL_drawn 15 = .ok (.aload_n 0, 1) := by decide +kernel
theorem dL_drawn_16 : decode cL_drawn 16 = .ok (.iload_n 1, 1) := by decide +kernel
theorem dL_drawn_17 : decode cL_drawn 17 = .ok (.aload_n 0, 1) := by decide +kernel
theorem dL_drawn_18 : decode cL_drawn 18 = .ok (.arraylength, 1) := by decide +kernel
theorem dL_drawn_19 : decode cL_drawn 19 = .ok (.irem, 1) := by decide +kernel
theorem dL_drawn_20 : decode cL_drawn 20 = .ok (.iaload, 1) := by decide +kernel
theorem dL_drawn_21 : decode cL_drawn 21 = .ok (.iload_n 1, 1) := by decide +kernel
theorem dL_drawn_22 : decode cL_drawn 22 = .ok (.bipush 7, 2) := by decide +kernel
theorem dL_drawn_24 : decode cL_drawn 24 = .ok (.irem, 1) := by decide +kernel
theorem dL_drawn_25 : decode cL_drawn 25 = .ok (.ishr, 1) := by decide +kernel
theorem dL_drawn_26 : decode cL_drawn 26 = .ok (.iload_n 1, 1) := by decide +kernel
theorem dL_drawn_27 : decode cL_drawn 27 = .ok (.aload_n 0, 1) := by decide +kernel
theorem dL_drawn_28 : decode cL_drawn 28 = .ok (.arraylength, 1) := by decide +kernel
theorem dL_drawn_29 : decode cL_drawn 29 = .ok (.idiv, 1) := by decide +kernel
theorem dL_drawn_30 : decode cL_drawn 30 = .ok (.bipush 31, 2) := by decide +kernel
theorem dL_drawn_32 : decode cL_drawn 32 = .ok (.imul, 1) := by decide +kernel
theorem dL_drawn_33 : decode cL_drawn 33 = .ok (.ixor, 1) := by decide +kernel
theorem dL_drawn_34 : decode cL_drawn 34 = .ok (.iload_n 1, 1) := by decide +kernel
theorem dL_drawn_35 : decode cL_drawn 35 = .ok (.ldc 8, 2) := by decide +kernel
theorem dL_drawn_37 : decode cL_drawn 37 = .ok (.imul, 1) := by decide +kernel
theorem dL_drawn_38 : decode cL_drawn 38 = .ok (.ixor, 1) := by decide +kernel
theorem dL_drawn_39 : decode cL_drawn 39 = .ok (.ireturn, 1) := by decide +kernel
set_option maxRecDepth 20000 in
theorem ggL_isNumber_X8_number : GoodIn wsL_isNumber wsX8_number := goodIn_r _ [5, 6, 7, 8, 9, 4, 10, 11, 12, 13, 14, 15, 16, 17, 18, 19, 20, 21, 22, 23, 24, 25, 26, 27, 28, 29, 30, 31, 32, 33, 34, 35, 36, 37, 38, 39, 40] (by decide +kernel) (by decide +kernel)
set_option maxRecDepth 20000 in
theorem gL_isNumber_X8_number : GoodIn wsL_isNumber (wsV RL 9 RX8 yX8_number wsX8_number) := goodIn_app (goodIn_of _ (by decide +kernel)) ggL_isNumber_X8_number
theorem dL_isNumber_0 : decode cL_isNumber 0 = .ok (.aload_n 0, 1) := by decide +kernel
theorem dL_isNumber_1 : decode cL_isNumber 1 = .ok (.iload_n 1, 1) := by decide +kernel
theorem dL_isNumber_2 : decode cL_isNumber 2 = .ok (.iload_n 2, 1) := by decide +kernel
theorem dL_isNumber_3 : decode cL_isNumber 3 = .ok (.invokevirtual 9, 3) := by decide +kernel
theorem dL_isNumber_6 : decode cL_isNumber 6 = .ok (.aload_n 0, 1) := by decide +kernel
theorem dL_isNumber_7 : decode cL_isNumber 7 = .ok (.iload_n 1, 1) := by decide +kernel
theorem dL_isNumber_8 : decode cL_isNumber 8 = .ok (.iload_n 2, 1) := by decide +kernel
theorem dL_isNumber_9 : decode cL_isNumber 9 = .ok (.invokevirtual 9, 3) := by decide +kernel
theorem dL_isNumber_12 : decode cL_isNumber 12 = .ok (.dcmp .l, 1) := by decide +kernel
theorem dL_isNumber_13 : decode cL_isNumber 13 = .ok (.ifCond .ne 7, 3) := by decide +kernel
theorem dL_isNumber_16 : decode cL_isNumber 16 = .ok (.iconst 1, 1) := by decide +kernel
theorem dL_isNumber_17 : decode cL_isNumber 17 = .ok (.goto 4, 3) := by decide +kernel
theorem dL_isNumber_20 : decode cL_isNumber 20 = .ok (.iconst 0, 1) := by decide +kernel
theorem dL_isNumber_21 : decode cL_isNumber 21 = .ok (.ireturn, 1) := by decide +kernel
set_option maxRecDepth 20000 in
theorem ggL_refusesAny_X8_add : GoodIn wsL_refusesAny wsX8_add := goodIn_r _ [14, 15, 16, 17, 18, 19, 13, 20, 21, 22, 23, 24, 25, 26, 27, 28, 29, 30, 31, 32, 33, 34, 35, 36, 37, 38, 39, 40, 41, 42, 43, 44, 45, 46, 47, 48, 49, 50, 51, 52, 53, 54, 55, 56, 57, 58, 59, 60, 61, 62, 63, 64, 65, 66, 67, 68, 69, 70, 71, 72, 73, 74, 75, 76, 77, 78, 79, 80, 81, 82, 83, 84, 85, 394, 395, 396, 397, 398, 399, 400, 401, 402, 403, 404, 405, 406, 407, 408, 409] (by decide +kernel) (by decide +kernel)
set_option maxRecDepth 20000 in
theorem gL_refusesAny_X8_add : GoodIn wsL_refusesAny (wsV RL 25 RX8 yX8_add wsX8_add) := goodIn_app (goodIn_of _ (by decide +kernel)) ggL_refusesAny_X8_add
set_option maxRecDepth 20000 in
theorem ggL_refusesAny_X8_cut : GoodIn wsL_refusesAny wsX8_cut := goodIn_r _ [89, 15, 16, 17, 18, 19, 13, 20, 48, 49, 50, 51, 52, 53, 54, 55, 56, 57, 58, 59, 60, 61, 62, 63, 64, 65, 66, 67, 68, 69, 70, 71, 72, 73, 74, 75, 76, 77, 78, 79, 80, 394, 395, 396, 397, 398, 399, 400, 401, 402, 403, 404, 405, 406, 407, 408, 409] (by decide +kernel) (by decide +kernel)
set_option maxRecDepth 20000 in
theorem gL_refusesAny_X8_cut : GoodIn wsL_refusesAny (wsV RL 29 RX8 yX8_cut wsX8_cut) := goodIn_app (goodIn_of _ (by decide +kernel)) ggL_refusesAny_X8_cut
set_option maxRecDepth 20000 in
theorem ggL_refusesAny_X8_count : GoodIn wsL_refusesAny wsX8_count := goodIn_r _ [93, 15, 16, 94, 17, 95, 96, 97, 48, 49, 50, 51, 52, 53, 54, 98, 99, 100, 13, 101, 102, 103, 104, 105, 106, 107, 108, 109, 110, 111, 112, 113, 114, 115, 116, 117, 118, 119, 120, 121, 122, 123, 124, 125, 126, 127, 128, 129, 130, 131, 132, 133, 134, 135, 136, 137, 138, 139, 140, 141, 44, 142, 143, 144, 145, 146, 147, 148, 149, 150, 151, 152, 153, 154, 155, 156, 157, 158, 159, 160, 161, 162, 163, 164, 165, 166, 167, 168, 169, 170, 171, 172, 173, 174, 175, 176, 177, 178, 179, 180, 181, 182, 183, 394, 395, 396, 397, 398, 399, 400, 401, 402, 403, 404, 405, 406, 407, 408, 409, 410, 411, 412, 413, 414, 415, 416, 417, 418, 419, 420, 421, 422, 423] (by decide +kernel) (by decide +kernel)
set_option maxRecDepth 20000 in
theorem gL_refusesAny_X8_count : GoodIn wsL_refusesAny (wsV RL 33 RX8 yX8_count wsX8_count) := goodIn_app (goodIn_of _ (by decide +kernel)) ggL_refusesAny_X8_count
set_option maxRecDepth 20000 in
theorem ggL_refusesAny_X8_set : GoodIn wsL_refusesAny wsX8_set := goodIn_r _ [187, 15, 188, 17, 18, 19, 13, 20, 48, 49, 50, 51, 52, 53, 54, 189, 190, 191, 76, 192, 80, 21, 22, 23, 24, 25, 26, 27, 28, 29, 30, 31, 32, 33, 34, 35, 36, 37, 38, 39, 40, 41, 42, 43, 44, 45, 46, 47, 81, 193, 194, 195, 55, 56, 57, 58, 59, 60, 61, 62, 63, 64, 65, 66, 67, 68, 69, 70, 71, 72, 73, 74, 75, 77, 78, 79, 394, 395, 396, 397, 398, 399, 400, 401, 402, 403, 404, 405, 406, 407, 408, 409] (by decide +kernel) (by decide +kernel)
set_option maxRecDepth 20000 in
theorem gL_refusesAny_X8_set : GoodIn wsL_refusesAny (wsV RL 37 RX8 yX8_set wsX8_set) := goodIn_app (goodIn_of _ (by decide +kernel)) ggL_refusesAny_X8_set
set_option maxRecDepth 20000 in
theorem ggL_refusesAny_X8_read : GoodIn wsL_refusesAny wsX8_read := goodIn_r _ [199, 96, 200, 18, 19, 13, 20, 201, 202, 203, 204, 205, 206, 207, 208, 209, 210, 211, 212, 213, 214, 215, 216, 217, 218, 219, 220, 221, 222, 223, 224, 225, 226, 227, 228, 229, 230, 231, 83, 84, 76, 85, 80, 78, 232, 233, 234, 235, 17, 15, 16, 55, 56, 57, 58, 59, 60, 61, 62, 63, 64, 65, 51, 66, 53, 54, 67, 68, 69, 70, 71, 72, 73, 74, 75, 77, 79, 48, 49, 50, 52, 236, 394, 395, 396, 397, 398, 399, 400, 410, 411, 412, 413, 401, 402, 407, 408, 409, 403, 404, 405, 406] (by decide +kernel) (by decide +kernel)
set_option maxRecDepth 20000 in
theorem gL_refusesAny_X8_read : GoodIn wsL_refusesAny (wsV RL 41 RX8 yX8_read wsX8_read) := goodIn_app (goodIn_of _ (by decide +kernel)) ggL_refusesAny_X8_read
set_option maxRecDepth 20000 in
theorem ggL_refusesAny_X8_fill : GoodIn wsL_refusesAny wsX8_fill := goodIn_r _ [240, 200, 15, 241, 18, 19, 13, 20, 242, 243, 244, 245, 246, 247, 248, 249, 250, 251, 83, 84, 76, 85, 80, 78, 232, 233, 234, 235, 17, 16, 55, 56, 57, 58, 59, 60, 61, 62, 63, 64, 65, 51, 66, 53, 54, 67, 68, 69, 70, 71, 72, 73, 74, 75, 77, 79, 48, 49, 50, 52, 236, 394, 395, 396, 397, 398, 399, 400, 403, 404, 405, 406, 401, 402, 407, 408, 409] (by decide +kernel) (by decide +kernel)
set_option maxRecDepth 20000 in
theorem gL_refusesAny_X8_fill : GoodIn wsL_refusesAny (wsV RL 44 RX8 yX8_fill wsX8_fill) := goodIn_app (goodIn_of _ (by decide +kernel)) ggL_refusesAny_X8_fill
set_option maxRecDepth 20000 in
theorem ggL_refusesAny_X8_sum : GoodIn wsL_refusesAny wsX8_sum := goodIn_r _ [255, 15, 16, 200, 18, 19, 13, 20, 48, 49, 50, 51, 52, 53, 54, 256, 257, 244, 258, 246, 259, 260, 43, 44, 45, 46, 47, 251, 83, 84, 76, 85, 80, 78, 232, 233, 234, 235, 17, 55, 56, 57, 58, 59, 60, 61, 62, 63, 64, 65, 66, 67, 68, 69, 70, 71, 72, 73, 74, 75, 77, 79, 236, 394, 395, 396, 397, 398, 399, 400, 401, 402, 403, 404, 405, 406, 407, 408, 409] (by decide +kernel) (by decide +kernel)
set_option maxRecDepth 20000 in
theorem gL_refusesAny_X8_sum : GoodIn wsL_refusesAny (wsV RL 48 RX8 yX8_sum wsX8_sum) := goodIn_app (goodIn_of _ (by decide +kernel)) ggL_refusesAny_X8_sum
set_option maxRecDepth 20000 in
theorem ggL_refusesAny_X8_differences : GoodIn wsL_refusesAny wsX8_differences := goodIn_r _ [264, 15, 16, 200, 18, 19, 13, 20, 48, 49, 50, 51, 52, 53, 54, 265, 266, 244, 267, 246, 259, 260, 43, 44, 45, 46, 47, 251, 83, 84, 76, 85, 80, 78, 232, 233, 234, 235, 17, 55, 56, 57, 58, 59, 60, 61, 62, 63, 64, 65, 66, 67, 68, 69, 70, 71, 72, 73, 74, 75, 77, 79, 236, 394, 395, 396, 397, 398, 399, 400, 401, 402, 403, 404, 405, 406, 407, 408, 409] (by decide +kernel) (by decide +kernel)
set_option maxRecDepth 20000 in
theorem gL_refusesAny_X8_differences : GoodIn wsL_refusesAny (wsV RL 51 RX8 yX8_differences wsX8_differences) := goodIn_app (goodIn_of _ (by decide +kernel)) ggL_refusesAny_X8_differences
set_option maxRecDepth 20000 in
theorem ggL_refusesAny_X8_take : GoodIn wsL_refusesAny wsX8_take := goodIn_r _ [271, 102, 15, 200, 16, 272, 273, 13, 274, 18, 19, 20, 103, 104, 105, 106, 107, 108, 109, 110, 111, 112, 113, 114, 115, 116, 117, 49, 50, 51, 52, 53, 54, 118, 119, 120, 121, 122, 123, 124, 125, 126, 127, 128, 129, 130, 131, 132, 133, 134, 135, 136, 137, 138, 139, 140, 141, 44, 142, 143, 144, 145, 146, 147, 148, 149, 150, 151, 152, 153, 154, 155, 156, 157, 158, 159, 160, 161, 162, 163, 164, 165, 166, 167, 275, 276, 277, 278, 279, 280, 281, 282, 180, 181, 182, 183, 283, 284, 285, 286, 287, 43, 45, 46, 47, 288, 83, 84, 76, 85, 80, 78, 232, 233, 234, 235, 17, 55, 56, 57, 58, 59, 60, 61, 62, 63, 64, 65, 66, 67, 68, 69, 70, 71, 72, 73, 74, 75, 77, 79, 48, 236, 394, 395, 396, 397, 398, 399, 400, 401, 402, 414, 415, 416, 417, 418, 419, 420, 421, 422, 423, 403, 404, 405, 406, 407, 408, 409] (by decide +kernel) (by decide +kernel)
set_option maxRecDepth 20000 in
theorem gL_refusesAny_X8_take : GoodIn wsL_refusesAny (wsV RL 54 RX8 yX8_take wsX8_take) := goodIn_app (goodIn_of _ (by decide +kernel)) ggL_refusesAny_X8_take
set_option maxRecDepth 20000 in
theorem ggL_refusesAny_X8_setting : GoodIn wsL_refusesAny wsX8_setting := goodIn_r _ [292, 15, 241, 17, 293, 294, 51, 295, 296, 26, 23, 27, 28, 29, 30, 31, 32, 297, 298, 299, 300, 81, 34, 35, 36, 37, 38, 39, 40, 41, 301, 302, 303, 304, 305, 306, 307, 55, 56, 57, 58, 59, 60, 61, 62, 63, 64, 65, 66, 53, 54, 67, 68, 69, 70, 71, 72, 73, 74, 75, 76, 77, 78, 79, 80, 394, 395, 396, 397, 398, 399, 400, 403, 404, 405, 406, 407, 408, 409, 401, 402] (by decide +kernel) (by decide +kernel)
set_option maxRecDepth 20000 in
theorem gL_refusesAny_X8_setting : GoodIn wsL_refusesAny (wsV RL 59 RX8 yX8_setting wsX8_setting) := goodIn_app (goodIn_of _ (by decide +kernel)) ggL_refusesAny_X8_setting
set_option maxRecDepth 20000 in
theorem ggL_refusesAny_X8_told : GoodIn wsL_refusesAny wsX8_told := goodIn_r _ [311, 15, 241, 293, 294, 51, 295, 312, 313, 13, 314, 315, 394, 395, 396, 397, 398, 399, 400, 403, 404, 405, 406] (by decide +kernel) (by decide +kernel)
set_option maxRecDepth 20000 in
theorem gL_refusesAny_X8_told : GoodIn wsL_refusesAny (wsV RL 68 RX8 yX8_told wsX8_told) := goodIn_app (goodIn_of _ (by decide +kernel)) ggL_refusesAny_X8_told
set_option maxRecDepth 20000 in
theorem ggL_refusesAny_L_isNumber : GoodIn wsL_refusesAny wsL_isNumber := goodIn_r _ [319, 320, 321, 322, 13, 323, 15, 188, 18, 19, 20, 48, 49, 50, 51, 52, 53, 54, 189, 190, 191, 76, 192, 80, 312, 313, 314, 315, 394, 395, 396, 397, 398, 399, 400, 401, 402, 403, 404, 405, 406] (by decide +kernel) (by decide +kernel)
set_option maxRecDepth 20000 in
theorem gL_refusesAny_L_isNumber : GoodIn wsL_refusesAny (va_wsS RL 72 yL_isNumber wsL_isNumber) := goodIn_app (goodIn_of _ (by decide +kernel)) ggL_refusesAny_L_isNumber
set_option maxRecDepth 20000 in
theorem ggL_refusesAny_X8_entry : GoodIn wsL_refusesAny wsX8_entry := goodIn_r _ [327, 102, 15, 272, 273, 13, 274, 18, 19, 20, 312, 313, 314, 315, 103, 104, 105, 106, 107, 108, 109, 110, 111, 112, 113, 114, 115, 116, 117, 49, 50, 51, 52, 53, 54, 118, 119, 120, 121, 122, 123, 124, 125, 126, 127, 128, 129, 130, 131, 132, 133, 134, 135, 136, 137, 138, 139, 140, 141, 44, 142, 143, 144, 145, 146, 147, 148, 149, 150, 151, 152, 153, 154, 155, 156, 157, 158, 159, 160, 161, 162, 163, 164, 165, 166, 167, 328, 329, 330, 331, 332, 280, 281, 282, 180, 181, 182, 183, 333, 284, 285, 286, 394, 395, 396, 397, 398, 399, 400, 414, 415, 416, 417, 418, 419, 420, 421, 422, 423, 403, 404, 405, 406, 401, 402] (by decide +kernel) (by decide +kernel)
set_option maxRecDepth 20000 in
theorem gL_refusesAny_X8_entry : GoodIn wsL_refusesAny (wsV RL 76 RX8 yX8_entry wsX8_entry) := goodIn_app (goodIn_of _ (by decide +kernel)) ggL_refusesAny_X8_entry
set_option maxRecDepth 20000 in
theorem ggL_refusesAny_X8_kind : GoodIn wsL_refusesAny wsX8_kind := goodIn_r _ [337, 102, 15, 272, 273, 13, 274, 18, 19, 20, 103, 104, 105, 106, 107, 108, 109, 110, 111, 112, 113, 114, 115, 116, 117, 49, 50, 51, 52, 53, 54, 118, 119, 120, 121, 122, 123, 124, 125, 126, 127, 128, 129, 130, 131, 132, 133, 134, 135, 136, 137, 138, 139, 140, 141, 44, 142, 143, 144, 145, 146, 147, 148, 149, 150, 151, 152, 153, 154, 155, 156, 157, 158, 159, 160, 161, 162, 163, 164, 165, 166, 167, 328, 329, 330, 331, 338, 181, 182, 183, 394, 395, 396, 397, 398, 399, 400, 414, 415, 416, 417, 418, 419, 420, 421, 422, 423, 403, 404, 405, 406, 401, 402] (by decide +kernel) (by decide +kernel)
set_option maxRecDepth 20000 in
theorem gL_refusesAny_X8_kind : GoodIn wsL_refusesAny (wsV RL 80 RX8 yX8_kind wsX8_kind) := goodIn_app (goodIn_of _ (by decide +kernel)) ggL_refusesAny_X8_kind
set_option maxRecDepth 20000 in
theorem ggL_refusesAny_X8_table : GoodIn wsL_refusesAny wsX8_table := goodIn_r _ [342, 102, 15, 343, 344, 272, 273, 13, 274, 18, 19, 20, 103, 104, 105, 106, 107, 108, 109, 110, 111, 112, 113, 114, 115, 116, 117, 49, 50, 51, 52, 53, 54, 118, 119, 120, 121, 122, 123, 124, 125, 126, 127, 128, 129, 130, 131, 132, 133, 134, 135, 136, 137, 138, 139, 140, 141, 44, 142, 143, 144, 145, 146, 147, 148, 149, 150, 151, 152, 153, 154, 155, 156, 157, 158, 159, 160, 161, 162, 163, 164, 165, 166, 167, 345, 346, 347, 348, 168, 169, 170, 171, 172, 173, 174, 175, 176, 177, 178, 179, 180, 181, 182, 183, 349, 350, 351, 352, 353, 354, 355, 356, 357, 358, 359, 360, 361, 362, 363, 364, 365, 366, 367, 279, 280, 281, 282, 283, 284, 285, 286, 394, 395, 396, 397, 398, 399, 400, 414, 415, 416, 417, 418, 419, 420, 421, 422, 423, 403, 404, 405, 406, 401, 402] (by decide +kernel) (by decide +kernel)
set_option maxRecDepth 20000 in
theorem gL_refusesAny_X8_table : GoodIn wsL_refusesAny (wsV RL 84 RX8 yX8_table wsX8_table) := goodIn_app (goodIn_of _ (by decide +kernel)) ggL_refusesAny_X8_table
set_option maxRecDepth 20000 in
theorem ggL_refusesAny_X8_guess : GoodIn wsL_refusesAny wsX8_guess := goodIn_r _ [371, 15, 16, 272, 273, 13, 274, 18, 19, 20, 48, 49, 50, 51, 52, 53, 54, 312, 313, 314, 315, 372, 373, 374, 375, 102, 343, 376, 103, 104, 105, 106, 107, 108, 109, 110, 111, 112, 113, 114, 115, 116, 117, 118, 119, 120, 121, 122, 123, 124, 125, 126, 127, 128, 129, 130, 131, 132, 133, 134, 135, 136, 137, 138, 139, 140, 141, 44, 142, 143, 144, 145, 146, 147, 148, 149, 150, 151, 152, 153, 154, 155, 156, 157, 158, 159, 160, 161, 162, 163, 164, 165, 166, 167, 357, 358, 359, 360, 361, 362, 363, 364, 365, 366, 367, 279, 280, 281, 282, 180, 181, 182, 183, 283, 284, 285, 286, 394, 395, 396, 397, 398, 399, 400, 401, 402, 403, 404, 405, 406, 414, 415, 416, 417, 418, 419, 420, 421, 422, 423] (by decide +kernel) (by decide +kernel)
set_option maxRecDepth 20000 in
theorem gL_refusesAny_X8_guess : GoodIn wsL_refusesAny (wsV RL 87 RX8 yX8_guess wsX8_guess) := goodIn_app (goodIn_of _ (by decide +kernel)) ggL_refusesAny_X8_guess
set_option maxRecDepth 20000 in
theorem ggL_refusesAny_X8_error : GoodIn wsL_refusesAny wsX8_error := goodIn_r _ [380, 102, 15, 343, 381, 272, 273, 13, 274, 18, 19, 20, 312, 313, 314, 315, 103, 104, 105, 106, 107, 108, 109, 110, 111, 112, 113, 114, 115, 116, 117, 49, 50, 51, 52, 53, 54, 118, 119, 120, 121, 122, 123, 124, 125, 126, 127, 128, 129, 130, 131, 132, 133, 134, 135, 136, 137, 138, 139, 140, 141, 44, 142, 143, 144, 145, 146, 147, 148, 149, 150, 151, 152, 153, 154, 155, 156, 157, 158, 159, 160, 161, 162, 163, 164, 165, 166, 167, 357, 358, 359, 360, 361, 362, 363, 364, 365, 366, 367, 279, 280, 281, 282, 180, 181, 182, 183, 283, 284, 285, 286, 394, 395, 396, 397, 398, 399, 400, 414, 415, 416, 417, 418, 419, 420, 421, 422, 423, 403, 404, 405, 406, 401, 402] (by decide +kernel) (by decide +kernel)
set_option maxRecDepth 20000 in
theorem gL_refusesAny_X8_error : GoodIn wsL_refusesAny (wsV RL 90 RX8 yX8_error wsX8_error) := goodIn_app (goodIn_of _ (by decide +kernel)) ggL_refusesAny_X8_error
set_option maxRecDepth 20000 in
theorem ggL_refusesAny_X8_spread : GoodIn wsL_refusesAny wsX8_spread := goodIn_r _ [385, 15, 16, 18, 19, 13, 20, 48, 49, 50, 51, 52, 53, 54, 312, 313, 314, 315, 372, 373, 374, 375, 102, 343, 376, 103, 104, 105, 106, 107, 108, 109, 110, 111, 112, 113, 114, 115, 116, 117, 118, 119, 120, 121, 122, 123, 124, 125, 126, 127, 128, 129, 130, 131, 132, 133, 134, 135, 136, 137, 138, 139, 140, 141, 44, 142, 143, 144, 145, 146, 147, 148, 149, 150, 151, 152, 153, 154, 155, 156, 157, 158, 159, 160, 161, 162, 163, 164, 165, 166, 167, 357, 358, 359, 360, 361, 362, 363, 364, 365, 366, 367, 279, 280, 281, 282, 180, 181, 182, 183, 283, 284, 285, 286, 394, 395, 396, 397, 398, 399, 400, 401, 402, 403, 404, 405, 406, 414, 415, 416, 417, 418, 419, 420, 421, 422, 423] (by decide +kernel) (by decide +kernel)
set_option maxRecDepth 20000 in
theorem gL_refusesAny_X8_spread : GoodIn wsL_refusesAny (wsV RL 93 RX8 yX8_spread wsX8_spread) := goodIn_app (goodIn_of _ (by decide +kernel)) ggL_refusesAny_X8_spread
set_option maxRecDepth 20000 in
theorem ggL_refusesAny_X8_best : GoodIn wsL_refusesAny wsX8_best := goodIn_r _ [389, 102, 15, 343, 381, 18, 19, 13, 20, 103, 104, 105, 106, 107, 108, 109, 110, 111, 112, 113, 114, 115, 116, 117, 49, 50, 51, 52, 53, 54, 118, 119, 120, 121, 122, 123, 124, 125, 126, 127, 128, 129, 130, 131, 132, 133, 134, 135, 136, 137, 138, 139, 140, 141, 44, 142, 143, 144, 145, 146, 147, 148, 149, 150, 151, 152, 153, 154, 155, 156, 157, 158, 159, 160, 161, 162, 163, 164, 165, 166, 167, 357, 358, 359, 360, 361, 362, 363, 364, 365, 366, 367, 279, 280, 281, 282, 180, 181, 182, 183, 283, 284, 285, 286, 394, 395, 396, 397, 398, 399, 400, 414, 415, 416, 417, 418, 419, 420, 421, 422, 423, 403, 404, 405, 406, 401, 402] (by decide +kernel) (by decide +kernel)
set_option maxRecDepth 20000 in
theorem gL_refusesAny_X8_best : GoodIn wsL_refusesAny (wsV RL 96 RX8 yX8_best wsX8_best) := goodIn_app (goodIn_of _ (by decide +kernel)) ggL_refusesAny_X8_best
set_option maxRecDepth 20000 in
theorem ggL_refusesAny_X8_needed : GoodIn wsL_refusesAny wsX8_needed := goodIn_r _ [393, 102, 15, 343, 381, 272, 273, 13, 274, 18, 19, 20, 296, 26, 23, 27, 28, 29, 30, 31, 32, 81, 34, 35, 36, 37, 38, 39, 40, 41, 103, 104, 105, 106, 107, 108, 109, 110, 111, 112, 113, 114, 115, 116, 117, 49, 50, 51, 52, 53, 54, 118, 119, 120, 121, 122, 123, 124, 125, 126, 127, 128, 129, 130, 131, 132, 133, 134, 135, 136, 137, 138, 139, 140, 141, 44, 142, 143, 144, 145, 146, 147, 148, 149, 150, 151, 152, 153, 154, 155, 156, 157, 158, 159, 160, 161, 162, 163, 164, 165, 166, 167, 357, 358, 359, 360, 361, 362, 363, 364, 365, 366, 367, 279, 280, 281, 282, 180, 181, 182, 183, 283, 284, 285, 286, 394, 395, 396, 397, 398, 399, 400, 414, 415, 416, 417, 418, 419, 420, 421, 422, 423, 403, 404, 405, 406, 401, 402] (by decide +kernel) (by decide +kernel)
set_option maxRecDepth 20000 in
theorem gL_refusesAny_X8_needed : GoodIn wsL_refusesAny (wsV RL 99 RX8 yX8_needed wsX8_needed) := goodIn_app (goodIn_of _ (by decide +kernel)) ggL_refusesAny_X8_needed
theorem dL_refusesAny_0 : decode cL_refusesAny 0 = .ok (.iload_n 1, 1) := by decide +kernel
theorem dL_refusesAny_1 : decode cL_refusesAny 1 = .ok (.ifCond .ne 7, 3) := by decide +kernel
theorem dL_refusesAny_4 : decode cL_refusesAny 4 = .ok (.iconst 2, 1) := by decide +kernel
theorem dL_refusesAny_5 : decode cL_refusesAny 5 = .ok (.goto 4, 3) := by decide +kernel
theorem dL_refusesAny_8 : decode cL_refusesAny 8 = .ok (.iconst (-1), 1) := by decide +kernel
theorem dL_refusesAny_9 : decode cL_refusesAny 9 = .ok (.istore_n 2, 1) := by decide +kernel
theorem dL_refusesAny_10 : decode cL_refusesAny 10 = .ok (.iload_n 1, 1) := by decide +kernel
theorem dL_refusesAny_11 : decode cL_refusesAny 11 = .ok (.ifCond .ne 7, 3) := by decide +kernel
theorem dL_refusesAny_14 : decode cL_refusesAny 14 = .ok (.iconst 4, 1) := by decide +kernel
theorem dL_refusesAny_15 : decode cL_refusesAny 15 = .ok (.goto 4, 3) := by decide +kernel
theorem dL_refusesAny_18 : decode cL_refusesAny 18 = .ok (.iconst (-1), 1) := by decide +kernel
theorem dL_refusesAny_19 : decode cL_refusesAny 19 = .ok (.istore_n 3, 1) := by decide +kernel
theorem dL_refusesAny_20 : decode cL_refusesAny 20 = .ok (.iload_n 1, 1) := by decide +kernel
theorem dL_refusesAny_21 : decode cL_refusesAny 21 = .ok (.ifCond .ne 9, 3) := by decide +kernel
theorem dL_refusesAny_24 : decode cL_refusesAny 24 = .ok (.ldc2_w 17, 3) := by decide +kernel
theorem dL_refusesAny_27 : decode cL_refusesAny 27 = .ok (.goto 6, 3) := by decide +kernel
theorem dL_refusesAny_30 : decode cL_refusesAny 30 = .ok (.ldc2_w 19, 3) := by decide +kernel
theorem dL_refusesAny_33 : decode cL_refusesAny 33 = .ok (.lstore 4, 2) := by decide +kernel
theorem dL_refusesAny_35 : decode cL_refusesAny 35 = .ok (.iload_n 1, 1) := by decide +kernel
theorem dL_refusesAny_36 : decode cL_refusesAny 36 = .ok (.ifCond .ne 9, 3) := by decide +kernel
theorem dL_refusesAny_39 : decode cL_refusesAny 39 = .ok (.ldc2_w 21, 3) := by decide +kernel
theorem dL_refusesAny_42 : decode cL_refusesAny 42 = .ok (.goto 6, 3) := by decide +kernel
theorem dL_refusesAny_45 : decode cL_refusesAny 45 = .ok (.ldc2_w 23, 3) := by decide +kernel
theorem dL_refusesAny_48 : decode cL_refusesAny 48 = .ok (.lstore 6, 2) := by decide +kernel
theorem dL_refusesAny_50 : decode cL_refusesAny 50 = .ok (.aload_n 0, 1) := by decide +kernel
theorem dL_refusesAny_51 : decode cL_refusesAny 51 = .ok (.iload_n 2, 1) := by decide +kernel
theorem dL_refusesAny_52 : decode cL_refusesAny 52 = .ok (.lload 4, 2) := by decide +kernel
theorem dL_refusesAny_54 : decode cL_refusesAny 54 = .ok (.invokevirtual 25, 3) := by decide +kernel
theorem dL_refusesAny_57 : decode cL_refusesAny 57 = .ok (.iconst (-1), 1) := by decide +kernel
theorem dL_refusesAny_58 : decode cL_refusesAny 58 = .ok (.if_icmp .ne 119, 3) := by decide +kernel
theorem dL_refusesAny_61 : decode cL_refusesAny 61 = .ok (.aload_n 0, 1) := by decide +kernel
theorem dL_refusesAny_62 : decode cL_refusesAny 62 = .ok (.iconst 0, 1) := by decide +kernel
theorem dL_refusesAny_63 : decode cL_refusesAny 63 = .ok (.lload 4, 2) := by decide +kernel
