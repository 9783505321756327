theorem dX7_parseNumber_0 : decode cX7_parseNumber 0 = .ok (.aload_n 0, 1) := by decide +kernel
theorem dX7_parseNumber_1 : decode cX7_parseNumber 1 = .ok (.lconst 0, 1) := by decide +kernel
theorem dX7_parseNumber_2 : decode cX7_parseNumber 2 = .ok (.putfield 20, 3) := by decide +kernel
theorem dX7_parseNumber_5 : decode cX7_parseNumber 5 = .ok (.aload_n 0, 1) := by decide +kernel
theorem dX7_parseNumber_6 : decode cX7_parseNumber 6 = .ok (.bipush 45, 2) := by decide +kernel
theorem dX7_parseNumber_8 : decode cX7_parseNumber 8 = .ok (.invokevirtual 31, 3) := by decide +kernel
theorem dX7_parseNumber_11 : decode cX7_parseNumber 11 = .ok (.istore_n 2, 1) := by decide +kernel
theorem dX7_parseNumber_12 : decode cX7_parseNumber 12 = .ok (.iload_n 2, 1) := by decide +kernel
theorem dX7_parseNumber_13 : decode cX7_parseNumber 13 = .ok (.ifCond .eq 13, 3) := by decide +kernel
theorem dX7_parseNumber_16 : decode cX7_parseNumber 16 = .ok (.aload_n 0, 1) := by decide +kernel
theorem dX7_parseNumber_17 : decode cX7_parseNumber 17 = .ok (.dup, 1) := by decide +kernel
theorem dX7_parseNumber_18 : decode cX7_parseNumber 18 = .ok (.getfield 17, 3) := by decide +kernel
theorem dX7_parseNumber_21 : decode cX7_parseNumber 21 = .ok (.iconst 1, 1) := by decide +kernel
theorem dX7_parseNumber_22 : decode cX7_parseNumber 22 = .ok (.iadd, 1) := by decide +kernel
theorem dX7_parseNumber_23 : decode cX7_parseNumber 23 = .ok (.putfield 17, 3) := by decide +kernel
theorem dX7_parseNumber_26 : decode cX7_parseNumber 26 = .ok (.aload_n 0, 1) := by decide +kernel
theorem dX7_parseNumber_27 : decode cX7_parseNumber 27 = .ok (.aload_n 0, 1) := by decide +kernel
theorem dX7_parseNumber_28 : decode cX7_parseNumber 28 = .ok (.bipush 48, 2) := by decide +kernel
theorem dX7_parseNumber_30 : decode cX7_parseNumber 30 = .ok (.invokevirtual 31, 3) := by decide +kernel
theorem dX7_parseNumber_33 : decode cX7_parseNumber 33 = .ok (.ifCond .eq 7, 3) := by decide +kernel
theorem dX7_parseNumber_36 : decode cX7_parseNumber 36 = .ok (.iconst 1, 1) := by decide +kernel
theorem dX7_parseNumber_37 : decode cX7_parseNumber 37 = .ok (.goto 5, 3) := by decide +kernel
theorem dX7_parseNumber_40 : decode cX7_parseNumber 40 = .ok (.bipush 6, 2) := by decide +kernel
theorem dX7_parseNumber_42 : decode cX7_parseNumber 42 = .ok (.invokevirtual 35, 3) := by decide +kernel
theorem dX7_parseNumber_45 : decode cX7_parseNumber 45 = .ok (.ifCond .ne 5, 3) := by decide +kernel
theorem dX7_parseNumber_48 : decode cX7_parseNumber 48 = .ok (.iconst 0, 1) := by decide +kernel
theorem dX7_parseNumber_49 : decode cX7_parseNumber 49 = .ok (.ireturn, 1) := by decide +kernel
theorem dX7_parseNumber_50 : decode cX7_parseNumber 50 = .ok (.aload_n 0, 1) := by decide +kernel
theorem dX7_parseNumber_51 : decode cX7_parseNumber 51 = .ok (.getfield 17, 3) := by decide +kernel
theorem dX7_parseNumber_54 : decode cX7_parseNumber 54 = .ok (.istore_n 3, 1) := by decide +kernel
theorem dX7_parseNumber_55 : decode cX7_parseNumber 55 = .ok (.aload_n 0, 1) := by decide +kernel
theorem dX7_parseNumber_56 : decode cX7_parseNumber 56 = .ok (.bipush 46, 2) := by decide +kernel
theorem dX7_parseNumber_58 : decode cX7_parseNumber 58 = .ok (.invokevirtual 31, 3) := by decide +kernel
theorem dX7_parseNumber_61 : decode cX7_parseNumber 61 = .ok (.ifCond .eq 29, 3) := by decide +kernel
theorem dX7_parseNumber_64 : decode cX7_parseNumber 64 = .ok (.aload_n 0, 1) := by decide +kernel
theorem dX7_parseNumber_65 : decode cX7_parseNumber 65 = .ok (.dup, 1) := by decide +kernel
theorem dX7_parseNumber_66 : decode cX7_parseNumber 66 = .ok (.getfield 17, 3) := by decide +kernel
theorem dX7_parseNumber_69 : decode cX7_parseNumber 69 = .ok (.iconst 1, 1) := by decide +kernel
theorem dX7_parseNumber_70 : decode cX7_parseNumber 70 = .ok (.iadd, 1) := by decide +kernel
theorem dX7_parseNumber_71 : decode cX7_parseNumber 71 = .ok (.putfield 17, 3) := by decide +kernel
theorem dX7_parseNumber_74 : decode cX7_parseNumber 74 = .ok (.aload_n 0, 1) := by decide +kernel
theorem dX7_parseNumber_75 : decode cX7_parseNumber 75 = .ok (.getfield 17, 3) := by decide +kernel
theorem dX7_parseNumber_78 : decode cX7_parseNumber 78 = .ok (.istore_n 3, 1) := by decide +kernel
theorem dX7_parseNumber_79 : decode cX7_parseNumber 79 = .ok (.aload_n 0, 1) := by decide +kernel
theorem dX7_parseNumber_80 : decode cX7_parseNumber 80 = .ok (.bipush 6, 2) := by decide +kernel
theorem dX7_parseNumber_82 : decode cX7_parseNumber 82 = .ok (.invokevirtual 35, 3) := by decide +kernel
theorem dX7_parseNumber_85 : decode cX7_parseNumber 85 = .ok (.ifCond .ne 5, 3) := by decide +kernel
theorem dX7_parseNumber_88 : decode cX7_parseNumber 88 = .ok (.iconst 0, 1) := by decide +kernel
theorem dX7_parseNumber_89 : decode cX7_parseNumber 89 = .ok (.ireturn, 1) := by decide +kernel
theorem dX7_parseNumber_90 : decode cX7_parseNumber 90 = .ok (.aload_n 0, 1) := by decide +kernel
theorem dX7_parseNumber_91 : decode cX7_parseNumber 91 = .ok (.getfield 20, 3) := by decide +kernel
theorem dX7_parseNumber_94 : decode cX7_parseNumber 94 = .ok (.l2d, 1) := by decide +kernel
theorem dX7_parseNumber_95 : decode cX7_parseNumber 95 = .ok (.aload_n 0, 1) := by decide +kernel
theorem dX7_parseNumber_96 : decode cX7_parseNumber 96 = .ok (.getfield 17, 3) := by decide +kernel
theorem dX7_parseNumber_99 : decode cX7_parseNumber 99 = .ok (.iload_n 3, 1) := by decide +kernel
theorem dX7_parseNumber_100 : decode cX7_parseNumber 100 = .ok (.isub, 1) := by decide +kernel
theorem dX7_parseNumber_101 : decode cX7_parseNumber 101 = .ok (.invokestatic 39, 3) := by decide +kernel
theorem dX7_parseNumber_104 : decode cX7_parseNumber 104 = .ok (.l2d, 1) := by decide +kernel
theorem dX7_parseNumber_105 : decode cX7_parseNumber 105 = .ok (.ddiv, 1) := by decide +kernel
theorem dX7_parseNumber_106 : decode cX7_parseNumber 106 = .ok (.dstore 4, 2) := by decide +kernel
theorem dX7_parseNumber_108 : decode cX7_parseNumber 108 = .ok (.aload_n 1, 1) := by decide +kernel
theorem dX7_parseNumber_109 : decode cX7_parseNumber 109 = .ok (.iload_n 2, 1) := by decide +kernel
theorem dX7_parseNumber_110 : decode cX7_parseNumber 110 = .ok (.ifCond .eq 10, 3) := by decide +kernel
theorem dX7_parseNumber_113 : decode cX7_parseNumber 113 = .ok (.dconst 0, 1) := by decide +kernel
theorem dX7_parseNumber_114 : decode cX7_parseNumber 114 = .ok (.dload 4, 2) := by decide +kernel
theorem dX7_parseNumber_116 : decode cX7_parseNumber 116 = .ok (.dsub, 1) := by decide +kernel
theorem dX7_parseNumber_117 : decode cX7_parseNumber 117 = .ok (.goto 5, 3) := by decide +kernel
theorem dX7_parseNumber_120 : decode cX7_parseNumber 120 = .ok (.dload 4, 2) := by decide +kernel
theorem dX7_parseNumber_122 : decode cX7_parseNumber 122 = .ok (.invokevirtual 43, 3) := by decide +kernel
theorem dX7_parseNumber_125 : decode cX7_parseNumber 125 = .ok (.iconst 1, 1) := by decide +kernel
theorem dX7_parseNumber_126 : decode cX7_parseNumber 126 = .ok (.ireturn, 1) := by decide +kernel
set_option maxRecDepth 20000 in
theorem ggX7_parseDigits_X7_isDigitHere : GoodIn wsX7_parseDigits wsX7_isDigitHere := goodIn_r _ [9, 1, 10, 4, 11, 12, 13, 14] (by decide +kernel) (by decide +kernel)
set_option maxRecDepth 20000 in
theorem gX7_parseDigits_X7_isDigitHere : GoodIn wsX7_parseDigits (wsV RX7 47 RX7 yX7_isDigitHere wsX7_isDigitHere) := goodIn_app (goodIn_of _ (by decide +kernel)) ggX7_parseDigits_X7_isDigitHere
theorem dX7_parseDigits_0 : decode cX7_parseDigits 0 = .ok (.aload_n 0, 1) := by decide +kernel
theorem dX7_parseDigits_1 : decode cX7_parseDigits 1 = .ok (.getfield 17, 3) := by decide +kernel
theorem dX7_parseDigits_4 : decode cX7_parseDigits 4 = .ok (.istore_n 2, 1) := by decide +kernel
theorem dX7_parseDigits_5 : decode cX7_parseDigits 5 = .ok (.iconst 0, 1) := by decide +kernel
theorem dX7_parseDigits_6 : decode cX7_parseDigits 6 = .ok (.istore_n 3, 1) := by decide +kernel
theorem dX7_parseDigits_7 : decode cX7_parseDigits 7 = .ok (.iload_n 3, 1) := by decide +kernel
theorem dX7_parseDigits_8 : decode cX7_parseDigits 8 = .ok (.iload_n 1, 1) := by decide +kernel
theorem dX7_parseDigits_9 : decode cX7_parseDigits 9 = .ok (.if_icmp .ge 52, 3) := by decide +kernel
theorem dX7_parseDigits_12 : decode cX7_parseDigits 12 = .ok (.aload_n 0, 1) := by decide +kernel
theorem dX7_parseDigits_13 : decode cX7_parseDigits 13 = .ok (.invokevirtual 47, 3) := by decide +kernel
theorem dX7_parseDigits_16 : decode cX7_parseDigits 16 = .ok (.ifCond .eq 45, 3) := by decide +kernel
theorem dX7_parseDigits_19 : decode cX7_parseDigits 19 = .ok (.aload_n 0, 1) := by decide +kernel
theorem dX7_parseDigits_20 : decode cX7_parseDigits 20 = .ok (.aload_n 0, 1) := by decide +kernel
theorem dX7_parseDigits_21 : decode cX7_parseDigits 21 = .ok (.getfield 20, 3) := by decide +kernel
theorem dX7_parseDigits_24 : decode cX7_parseDigits 24 = .ok (.ldc2_w 51, 3) := by decide +kernel
theorem dX7_parseDigits_27 : decode cX7_parseDigits 27 = .ok (.lmul, 1) := by decide +kernel
theorem dX7_parseDigits_28 : decode cX7_parseDigits 28 = .ok (.aload_n 0, 1) := by decide +kernel
theorem dX7_parseDigits_29 : decode cX7_parseDigits 29 = .ok (.getfield 9, 3) := by decide +kernel
theorem dX7_parseDigits_32 : decode cX7_parseDigits 32 = .ok (.aload_n 0, 1) := by decide +kernel
theorem dX7_parseDigits_33 : decode cX7_parseDigits 33 = .ok (.getfield 17, 3) := by decide +kernel
theorem dX7_parseDigits_36 : decode cX7_parseDigits 36 = .ok (.caload, 1) := by decide +kernel
theorem dX7_parseDigits_37 : decode cX7_parseDigits 37 = .ok (.bipush 48, 2) := by decide +kernel
theorem dX7_parseDigits_39 : decode cX7_parseDigits 39 = .ok (.isub, 1) := by decide +kernel
theorem dX7_parseDigits_40 : decode cX7_parseDigits 40 = .ok (.i2l, 1) := by decide +kernel
theorem dX7_parseDigits_41 : decode cX7_parseDigits 41 = .ok (.ladd, 1) := by decide +kernel
theorem dX7_parseDigits_42 : decode cX7_parseDigits 42 = .ok (.putfield 20, 3) := by decide +kernel
theorem dX7_parseDigits_45 : decode cX7_parseDigits 45 = .ok (.aload_n 0, 1) := by decide +kernel
theorem dX7_parseDigits_46 : decode cX7_parseDigits 46 = .ok (.dup, 1) := by decide +kernel
theorem dX7_parseDigits_47 : decode cX7_parseDigits 47 = .ok (.getfield 17, 3) := by decide +kernel
theorem dX7_parseDigits_50 : decode cX7_parseDigits 50 = .ok (.iconst 1, 1) := by decide +kernel
theorem dX7_parseDigits_51 : decode cX7_parseDigits 51 = .ok (.iadd, 1) := by decide +kernel
theorem dX7_parseDigits_52 : decode cX7_parseDigits 52 = .ok (.putfield 17, 3) := by decide +kernel
theorem dX7_parseDigits_55 : decode cX7_parseDigits 55 = .ok (.iinc 3 1, 3) := by decide +kernel
theorem dX7_parseDigits_58 : decode cX7_parseDigits 58 = .ok (.goto (-51), 3) := by decide +kernel
theorem dX7_parseDigits_61 : decode cX7_parseDigits 61 = .ok (.aload_n 0, 1) := by decide +kernel
theorem dX7_parseDigits_62 : decode cX7_parseDigits 62 = .ok (.getfield 17, 3) := by decide +kernel
theorem dX7_parseDigits_65 : decode cX7_parseDigits 65 = .ok (.iload_n 2, 1) := by decide +kernel
theorem dX7_parseDigits_66 : decode cX7_parseDigits 66 = .ok (.if_icmp .le 7, 3) := by decide +kernel
theorem dX7_parseDigits_69 : decode cX7_parseDigits 69 = .ok (.iconst 1, 1) := by decide +kernel
theorem dX7_parseDigits_70 : decode cX7_parseDigits 70 = .ok (.goto 4, 3) := by decide +kernel
theorem dX7_parseDigits_73 : decode cX7_parseDigits 73 = .ok (.iconst 0, 1) := by decide +kernel
theorem dX7_parseDigits_74 : decode cX7_parseDigits 74 = .ok (.ireturn, 1) := by decide +kernel
theorem dX7_tenToThe_0 : decode cX7_tenToThe 0 = .ok (.lconst 1, 1) := by decide +kernel
theorem dX7_tenToThe_1 : decode cX7_tenToThe 1 = .ok (.lstore_n 1, 1) := by decide +kernel
theorem dX7_tenToThe_2 : decode cX7_tenToThe 2 = .ok (.iconst 0, 1) := by decide +kernel
theorem dX7_tenToThe_3 : decode cX7_tenToThe 3 = .ok (.istore_n 3, 1) := by decide +kernel
theorem dX7_tenToThe_4 : decode cX7_tenToThe 4 = .ok (.iload_n 3, 1) := by decide +kernel
theorem dX7_tenToThe_5 : decode cX7_tenToThe 5 = .ok (.iload_n 0, 1) := by decide +kernel
theorem dX7_tenToThe_6 : decode cX7_tenToThe 6 = .ok (.if_icmp .ge 15, 3) := by decide +kernel
theorem dX7_tenToThe_9 : decode cX7_tenToThe 9 = .ok (.lload_n 1, 1) := by decide +kernel
theorem dX7_tenToThe_10 : decode cX7_tenToThe 10 = .ok (.ldc2_w 51, 3) := by decide +kernel
theorem dX7_tenToThe_13 : decode cX7_tenToThe 13 = .ok (.lmul, 1) := by decide +kernel
theorem dX7_tenToThe_14 : decode cX7_tenToThe 14 = .ok (.lstore_n 1, 1) := by decide +kernel
theorem dX7_tenToThe_15 : decode cX7_tenToThe 15 = .ok (.iinc 3 1, 3) := by decide +kernel
theorem dX7_tenToThe_18 : decode cX7_tenToThe 18 = .ok (.goto (-14), 3) := by decide +kernel
theorem dX7_tenToThe_21 : decode cX7_tenToThe 21 = .ok (.lload_n 1, 1) := by decide +kernel
theorem dX7_tenToThe_22 : decode cX7_tenToThe 22 = .ok (.lreturn, 1) := by decide +kernel
set_option maxRecDepth 20000 in
theorem ggX8_init_X5_init : GoodIn wsX8_init wsX5_init := goodIn_r _ [28, 29, 2, 3, 30, 23, 24, 31, 32, 33, 34, 35, 36, 37, 38, 39, 40, 41, 42, 43, 103, 104, 75, 76, 77, 78] (by decide +kernel) (by decide +kernel)
set_option maxRecDepth 20000 in
theorem gX8_init_X5_init : GoodIn wsX8_init (wsX5_init) := ggX8_init_X5_init
set_option maxRecDepth 20000 in
theorem ggX8_init_X2_init : GoodIn wsX8_init wsX2_init := goodIn_r _ [46, 47, 2, 3, 48, 49, 50, 51, 5, 6, 52, 27, 28, 29, 30, 23, 24, 31, 32, 33, 34, 35, 36, 37, 38, 39, 40, 41, 42, 43, 86, 87, 88, 75, 76, 77, 78, 103, 104] (by decide +kernel) (by decide +kernel)
set_option maxRecDepth 20000 in
theorem gX8_init_X2_init : GoodIn wsX8_init (wsX2_init) := ggX8_init_X2_init
set_option maxRecDepth 20000 in
theorem ggX8_init_X7_init : GoodIn wsX8_init wsX7_init := goodIn_r _ [54, 55, 2, 3, 56, 57, 58, 59, 60, 89, 90, 91, 92] (by decide +kernel) (by decide +kernel)
set_option maxRecDepth 20000 in
theorem gX8_init_X7_init_n32 : GoodIn wsX8_init (wsX7_init) := ggX8_init_X7_init
set_option maxRecDepth 20000 in
theorem ggX8_init_X1_init : GoodIn wsX8_init wsX1_init := goodIn_r _ [62, 63, 2, 3, 33, 64, 65, 66, 67, 68, 69, 70, 71, 72, 73, 74, 93, 94, 95, 96, 97, 98, 99, 100, 101, 102] (by decide +kernel) (by decide +kernel)
set_option maxRecDepth 20000 in
theorem gX8_init_X1_init_n39 : GoodIn wsX8_init (wsX1_init) := ggX8_init_X1_init
set_option maxRecDepth 20000 in
theorem ggX8_init_X4_init : GoodIn wsX8_init wsX4_init := goodIn_r _ [40, 41, 2, 3, 33, 42, 43, 103, 104] (by decide +kernel) (by decide +kernel)
set_option maxRecDepth 20000 in
theorem gX8_init_X4_init_n46 : GoodIn wsX8_init (wsX4_init) := ggX8_init_X4_init
theorem dX8_init_0 : decode cX8_init 0 = .ok (.aload_n 0, 1) := by decide +kernel
theorem dX8_init_1 : decode cX8_init 1 = .ok (.invokespecial 1, 3) := by decide +kernel
theorem dX8_init_4 : decode cX8_init 4 = .ok (.aload_n 0, 1) := by decide +kernel
theorem dX8_init_5 : decode cX8_init 5 = .ok (.new 7, 3) := by decide +kernel
theorem dX8_init_8 : decode cX8_init 8 = .ok (.dup, 1) := by decide +kernel
theorem dX8_init_9 : decode cX8_init 9 = .ok (.invokespecial 9, 3) := by decide +kernel
theorem dX8_init_12 : decode cX8_init 12 = .ok (.putfield 10, 3) := by decide +kernel
theorem dX8_init_15 : decode cX8_init 15 = .ok (.aload_n 0, 1) := by decide +kernel
theorem dX8_init_16 : decode cX8_init 16 = .ok (.new 7, 3) := by decide +kernel
theorem dX8_init_19 : decode cX8_init 19 = .ok (.dup, 1) := by decide +kernel
theorem dX8_init_20 : decode cX8_init 20 = .ok (.invokespecial 9, 3) := by decide +kernel
theorem dX8_init_23 : decode cX8_init 23 = .ok (.putfield 16, 3) := by decide +kernel
theorem dX8_init_26 : decode cX8_init 26 = .ok (.aload_n 0, 1) := by decide +kernel
theorem dX8_init_27 : decode cX8_init 27 = .ok (.iconst 0, 1) := by decide +kernel
theorem dX8_init_28 : decode cX8_init 28 = .ok (.putfield 19, 3) := by decide +kernel
theorem dX8_init_31 : decode cX8_init 31 = .ok (.aload_n 0, 1) := by decide +kernel
theorem dX8_init_32 : decode cX8_init 32 = .ok (.new 23, 3) := by decide +kernel
theorem dX8_init_35 : decode cX8_init 35 = .ok (.dup, 1) := by decide +kernel
theorem dX8_init_36 : decode cX8_init 36 = .ok (.invokespecial 25, 3) := by decide +kernel
theorem dX8_init_39 : decode cX8_init 39 = .ok (.putfield 26, 3) := by decide +kernel
theorem dX8_init_42 : decode cX8_init 42 = .ok (.aload_n 0, 1) := by decide +kernel
theorem dX8_init_43 : decode cX8_init 43 = .ok (.new 30, 3) := by decide +kernel
theorem dX8_init_46 : decode cX8_init 46 = .ok (.dup, 1) := by decide +kernel
theorem dX8_init_47 : decode cX8_init 47 = .ok (.invokespecial 32, 3) := by decide +kernel
theorem dX8_init_50 : decode cX8_init 50 = .ok (.putfield 33, 3) := by decide +kernel
theorem dX8_init_53 : decode cX8_init 53 = .ok (.aload_n 0, 1) := by decide +kernel
theorem dX8_init_54 : decode cX8_init 54 = .ok (.new 37, 3) := by decide +kernel
theorem dX8_init_57 : decode cX8_init 57 = .ok (.dup, 1) := by decide +kernel
theorem dX8_init_58 : decode cX8_init 58 = .ok (.invokespecial 39, 3) := by decide +kernel
theorem dX8_init_61 : decode cX8_init 61 = .ok (.putfield 40, 3) := by decide +kernel
theorem dX8_init_64 : decode cX8_init 64 = .ok (.aload_n 0, 1) := by decide +kernel
theorem dX8_init_65 : decode cX8_init 65 = .ok (.new 44, 3) := by decide +kernel
theorem dX8_init_68 : decode cX8_init 68 = .ok (.dup, 1) := by decide +kernel
theorem dX8_init_69 : decode cX8_init 69 = .ok (.invokespecial 46, 3) := by decide +kernel
theorem dX8_init_72 : decode cX8_init 72 = .ok (.putfield 47, 3) := by decide +kernel
theorem dX8_init_75 : decode cX8_init 75 = .ok (.return_, 1) := by decide +kernel
set_option maxRecDepth 20000 in
theorem ggX8_add_X8_isRow : GoodIn wsX8_add wsX8_isRow := goodIn_r _ [7] (by decide +kernel) (by decide +kernel)
set_option maxRecDepth 20000 in
theorem gX8_add_X8_isRow : GoodIn wsX8_add (va_wsS RX8 51 yX8_isRow wsX8_isRow) := goodIn_app (goodIn_of _ (by decide +kernel)) ggX8_add_X8_isRow
set_option maxRecDepth 20000 in
theorem ggX8_add_X0_fitRow : GoodIn wsX8_add wsX0_fitRow := goodIn_r _ [11, 12, 13, 10, 14, 15, 16, 17, 18, 19, 20, 21, 22, 23, 24, 25, 26, 27, 28, 29, 30, 31, 32, 33, 34] (by decide +kernel) (by decide +kernel)
set_option maxRecDepth 20000 in
theorem gX8_add_X0_fitRow : GoodIn wsX8_add (va_wsS RX8 55 yX0_fitRow wsX0_fitRow) := goodIn_app (goodIn_of _ (by decide +kernel)) ggX8_add_X0_fitRow
set_option maxRecDepth 20000 in
theorem ggX8_add_X5_rowAt : GoodIn wsX8_add wsX5_rowAt := goodIn_r _ [39, 40, 41, 82, 83, 84, 85] (by decide +kernel) (by decide +kernel)
set_option maxRecDepth 20000 in
theorem gX8_add_X5_rowAt : GoodIn wsX8_add (wsV RX8 61 RX5 yX5_rowAt wsX5_rowAt) := goodIn_app (goodIn_of _ (by decide +kernel)) ggX8_add_X5_rowAt
set_option maxRecDepth 20000 in
theorem ggX8_add_X2_remember : GoodIn wsX8_add wsX2_remember := goodIn_r _ [46, 47, 48, 49, 50, 51, 52, 38, 53, 40, 41, 54, 55, 56, 57, 58, 59, 60, 61, 62, 63, 64, 65, 66, 67, 86, 87, 88, 82, 83, 84, 85, 80, 81] (by decide +kernel) (by decide +kernel)
set_option maxRecDepth 20000 in
theorem gX8_add_X2_remember : GoodIn wsX8_add (wsV RX8 69 RX2 yX2_remember wsX2_remember) := goodIn_app (goodIn_of _ (by decide +kernel)) ggX8_add_X2_remember
set_option maxRecDepth 20000 in
theorem ggX8_add_X0_decoded : GoodIn wsX8_add wsX0_decoded := goodIn_r _ [22, 15, 23, 16, 17, 10, 18, 19, 24, 25, 26, 27, 28] (by decide +kernel) (by decide +kernel)
set_option maxRecDepth 20000 in
theorem gX8_add_X0_decoded : GoodIn wsX8_add (va_wsS RX8 73 yX0_decoded wsX0_decoded) := goodIn_app (goodIn_of _ (by decide +kernel)) ggX8_add_X0_decoded
set_option maxRecDepth 20000 in
theorem ggX8_add_X4_append : GoodIn wsX8_add wsX4_append := goodIn_r _ [72, 67, 65, 80, 81] (by decide +kernel) (by decide +kernel)
set_option maxRecDepth 20000 in
theorem gX8_add_X4_append : GoodIn wsX8_add (wsV RX8 77 RX4 yX4_append wsX4_append) := goodIn_app (goodIn_of _ (by decide +kernel)) ggX8_add_X4_append
theorem dX8_add_0 : decode cX8_add 0 = .ok (.iload_n 1, 1) := by decide +kernel
theorem dX8_add_1 : decode cX8_add 1 = .ok (.invokestatic 51, 3) := by decide +kernel
theorem dX8_add_4 : decode cX8_add 4 = .ok (.ifCond .ne 5, 3) := by decide +kernel
theorem dX8_add_7 : decode cX8_add 7 = .ok (.iconst (-1), 1) := by decide +kernel
theorem dX8_add_8 : decode cX8_add 8 = .ok (.ireturn, 1) := by decide +kernel
theorem dX8_add_9 : decode cX8_add 9 = .ok (.lload_n 2, 1) := by decide +kernel
theorem dX8_add_10 : decode cX8_add 10 = .ok (.invokestatic 55, 3) := by decide +kernel
theorem dX8_add_13 : decode cX8_add 13 = .ok (.ifCond .ne 6, 3) := by decide +kernel
theorem dX8_add_16 : decode cX8_add 16 = .ok (.bipush (-2), 2) := by decide +kernel
theorem dX8_add_18 : decode cX8_add 18 = .ok (.ireturn, 1) := by decide +kernel
theorem dX8_add_19 : decode cX8_add 19 = .ok (.aload_n 0, 1) := by decide +kernel
theorem dX8_add_20 : decode cX8_add 20 = .ok (.getfield 10, 3) := by decide +kernel
theorem dX8_add_23 : decode cX8_add 23 = .ok (.iload_n 1, 1) := by decide +kernel
theorem dX8_add_24 : decode cX8_add 24 = .ok (.invokevirtual 61, 3) := by decide +kernel
theorem dX8_add_27 : decode cX8_add 27 = .ok (.astore 4, 2) := by decide +kernel
theorem dX8_add_29 : decode cX8_add 29 = .ok (.aload 4, 2) := by decide +kernel
theorem dX8_add_31 : decode cX8_add 31 = .ok (.getfield 65, 3) := by decide +kernel
theorem dX8_add_34 : decode cX8_add 34 = .ok (.bipush 16, 2) := by decide +kernel
theorem dX8_add_36 : decode cX8_add 36 = .ok (.if_icmp .ne 6, 3) := by decide +kernel
theorem dX8_add_39 : decode cX8_add 39 = .ok (.bipush (-3), 2) := by decide +kernel
theorem dX8_add_41 : decode cX8_add 41 = .ok (.ireturn, 1) := by decide +kernel
theorem dX8_add_42 : decode cX8_add 42 = .ok (.aload_n 0, 1) := by decide +kernel
theorem dX8_add_43 : decode cX8_add 43 = .ok (.getfield 26, 3) := by decide +kernel
theorem dX8_add_46 : decode cX8_add 46 = .ok (.aload_n 0, 1) := by decide +kernel
theorem dX8_add_47 : decode cX8_add 47 = .ok (.getfield 10, 3) := by decide +kernel
theorem dX8_add_50 : decode cX8_add 50 = .ok (.invokevirtual 69, 3) := by decide +kernel
theorem dX8_add_53 : decode cX8_add 53 = .ok (.aload 4, 2) := by decide +kernel
theorem dX8_add_55 : decode cX8_add 55 = .ok (.lload_n 2, 1) := by decide +kernel
theorem dX8_add_56 : decode cX8_add 56 = .ok (.invokestatic 73, 3) := by decide +kernel
theorem dX8_add_59 : decode cX8_add 59 = .ok (.invokevirtual 77, 3) := by decide +kernel
theorem dX8_add_62 : decode cX8_add 62 = .ok (.aload 4, 2) := by decide +kernel
theorem dX8_add_64 : decode cX8_add 64 = .ok (.getfield 65, 3) := by decide +kernel
theorem dX8_add_67 : decode cX8_add 67 = .ok (.ireturn, 1) := by decide +kernel
set_option maxRecDepth 20000 in
theorem ggX8_cut_X8_isRow : GoodIn wsX8_cut wsX8_isRow := goodIn_r _ [7] (by decide +kernel) (by decide +kernel)
set_option maxRecDepth 20000 in
theorem gX8_cut_X8_isRow : GoodIn wsX8_cut (va_wsS RX8 51 yX8_isRow wsX8_isRow) := goodIn_app (goodIn_of _ (by decide +kernel)) ggX8_cut_X8_isRow
set_option maxRecDepth 20000 in
theorem ggX8_cut_X5_rowAt : GoodIn wsX8_cut wsX5_rowAt := goodIn_r _ [12, 13, 14, 50, 51, 52, 53] (by decide +kernel) (by decide +kernel)
set_option maxRecDepth 20000 in
theorem gX8_cut_X5_rowAt : GoodIn wsX8_cut (wsV RX8 61 RX5 yX5_rowAt wsX5_rowAt) := goodIn_app (goodIn_of _ (by decide +kernel)) ggX8_cut_X5_rowAt
set_option maxRecDepth 20000 in
theorem ggX8_cut_X2_remember : GoodIn wsX8_cut wsX2_remember := goodIn_r _ [19, 20, 21, 22, 23, 24, 25, 11, 26, 13, 14, 27, 28, 29, 30, 31, 32, 33, 34, 35, 36, 37, 38, 39, 40, 54, 55, 56, 50, 51, 52, 53, 48, 49] (by decide +kernel) (by decide +kernel)
set_option maxRecDepth 20000 in
theorem gX8_cut_X2_remember : GoodIn wsX8_cut (wsV RX8 69 RX2 yX2_remember wsX2_remember) := goodIn_app (goodIn_of _ (by decide +kernel)) ggX8_cut_X2_remember
theorem dX8_cut_0 : decode cX8_cut 0 = .ok (.iload_n 1, 1) := by decide +kernel
theorem dX8_cut_1 : decode cX8_cut 1 = .ok (.invokestatic 51, 3) := by decide +kernel
theorem dX8_cut_4 : decode cX8_cut 4 = .ok (.ifCond .ne 5, 3) := by decide +kernel
theorem dX8_cut_7 : decode cX8_cut 7 = .ok (.iconst (-1), 1) := by decide +kernel
theorem dX8_cut_8 : decode cX8_cut 8 = .ok (.ireturn, 1) := by decide +kernel
theorem dX8_cut_9 : decode cX8_cut 9 = .ok (.iload_n 2, 1) := by decide +kernel
theorem dX8_cut_10 : decode cX8_cut 10 = .ok (.iconst 1, 1) := by decide +kernel
theorem dX8_cut_11 : decode cX8_cut 11 = .ok (.if_icmp .lt 9, 3) := by decide +kernel
theorem dX8_cut_14 : decode cX8_cut 14 = .ok (.iload_n 2, 1) := by decide +kernel
theorem dX8_cut_15 : decode cX8_cut 15 = .ok (.bipush 16, 2) := by decide +kernel
theorem dX8_cut_17 : decode cX8_cut 17 = .ok (.if_icmp .le 6, 3) := by decide +kernel
theorem dX8_cut_20 : decode cX8_cut 20 = .ok (.bipush (-2), 2) := by decide +kernel
theorem dX8_cut_22 : decode cX8_cut 22 = .ok (.ireturn, 1) := by decide +kernel
theorem dX8_cut_23 : decode cX8_cut 23 = .ok (.aload_n 0, 1) := by decide +kernel
theorem dX8_cut_24 : decode cX8_cut 24 = .ok (.getfield 10, 3) := by decide +kernel
theorem dX8_cut_27 : decode cX8_cut 27 = .ok (.iload_n 1, 1) := by decide +kernel
theorem dX8_cut_28 : decode cX8_cut 28 = .ok (.invokevirtual 61, 3) := by decide +kernel
theorem dX8_cut_31 : decode cX8_cut 31 = .ok (.astore_n 3, 1) := by decide +kernel
theorem dX8_cut_32 : decode cX8_cut 32 = .ok (.iload_n 2, 1) := by decide +kernel
theorem dX8_cut_33 : decode cX8_cut 33 = .ok (.aload_n 3, 1) := by decide +kernel
theorem dX8_cut_34 : decode cX8_cut 34 = .ok (.getfield 65, 3) := by decide +kernel
theorem dX8_cut_37 : decode cX8_cut 37 = .ok (.if_icmp .le 6, 3) := by decide +kernel
theorem dX8_cut_40 : decode cX8_cut 40 = .ok (.bipush (-4), 2) := by decide +kernel
theorem dX8_cut_42 : decode cX8_cut 42 = .ok (.ireturn, 1) := by decide +kernel
theorem dX8_cut_43 : decode cX8_cut 43 = .ok (.aload_n 0, 1) := by decide +kernel
theorem dX8_cut_44 : decode cX8_cut 44 = .ok (.getfield 26, 3) := by decide +kernel
theorem dX8_cut_47 : decode cX8_cut 47 = .ok (.aload_n 0, 1) := by decide +kernel
theorem dX8_cut_48 : decode cX8_cut 48 = .ok (.getfield 10, 3) := by decide +kernel
theorem dX8_cut_51 : decode cX8_cut 51 = .ok (.invokevirtual 69, 3) := by decide +kernel
theorem dX8_cut_54 : decode cX8_cut 54 = .ok (.aload_n 3, 1) := by decide +kernel
theorem dX8_cut_55 : decode cX8_cut 55 = .ok (.aload_n 3, 1) := by decide +kernel
theorem dX8_cut_56 : decode cX8_cut 56 = .ok (.getfield 65, 3) := by decide +kernel
theorem dX8_cut_59 : decode cX8_cut 59 = .ok (.iload_n 2, 1) := by decide +kernel
theorem dX8_cut_60 : decode cX8_cut 60 = .ok (.isub, 1) := by decide +kernel
theorem dX8_cut_61 : decode cX8_cut 61 = .ok (.putfield 65, 3) := by decide +kernel
theorem dX8_cut_64 : decode cX8_cut 64 = .ok (.aload_n 3, 1) := by decide +kernel
theorem dX8_cut_65 : decode cX8_cut 65 = .ok (.getfield 65, 3) := by decide +kernel
theorem dX8_cut_68 : decode cX8_cut 68 = .ok (.ireturn, 1) := by decide +kernel
set_option maxRecDepth 20000 in
theorem ggX8_set_X8_isRow : GoodIn wsX8_set wsX8_isRow := goodIn_r _ [7] (by decide +kernel) (by decide +kernel)
set_option maxRecDepth 20000 in
theorem gX8_set_X8_isRow : GoodIn wsX8_set (va_wsS RX8 51 yX8_isRow wsX8_isRow) := goodIn_app (goodIn_of _ (by decide +kernel)) ggX8_set_X8_isRow
set_option maxRecDepth 20000 in
theorem ggX8_set_X5_rowAt : GoodIn wsX8_set wsX5_rowAt := goodIn_r _ [12, 13, 14, 85, 86, 87, 88] (by decide +kernel) (by decide +kernel)
set_option maxRecDepth 20000 in
theorem gX8_set_X5_rowAt : GoodIn wsX8_set (wsV RX8 61 RX5 yX5_rowAt wsX5_rowAt) := goodIn_app (goodIn_of _ (by decide +kernel)) ggX8_set_X5_rowAt
set_option maxRecDepth 20000 in
theorem ggX8_set_X4_hasPlace : GoodIn wsX8_set wsX4_hasPlace := goodIn_r _ [19, 20, 83, 84] (by decide +kernel) (by decide +kernel)
set_option maxRecDepth 20000 in
theorem gX8_set_X4_hasPlace : GoodIn wsX8_set (wsV RX8 81 RX4 yX4_hasPlace wsX4_hasPlace) := goodIn_app (goodIn_of _ (by decide +kernel)) ggX8_set_X4_hasPlace
set_option maxRecDepth 20000 in
theorem ggX8_set_X0_fitRow : GoodIn wsX8_set wsX0_fitRow := goodIn_r _ [24, 25, 26, 23, 27, 28, 29, 30, 31, 32, 33, 34, 35, 36, 37, 38, 39, 40, 41, 42, 43, 44, 45, 46, 47] (by decide +kernel) (by decide +kernel)
set_option maxRecDepth 20000 in
theorem gX8_set_X0_fitRow : GoodIn wsX8_set (va_wsS RX8 55 yX0_fitRow wsX0_fitRow) := goodIn_app (goodIn_of _ (by decide +kernel)) ggX8_set_X0_fitRow
set_option maxRecDepth 20000 in
theorem ggX8_set_X0_decoded : GoodIn wsX8_set wsX0_decoded := goodIn_r _ [35, 28, 36, 29, 30, 23, 31, 32, 37, 38, 39, 40, 41] (by decide +kernel) (by decide +kernel)
set_option maxRecDepth 20000 in
theorem gX8_set_X0_decoded : GoodIn wsX8_set (va_wsS RX8 73 yX0_decoded wsX0_decoded) := goodIn_app (goodIn_of _ (by decide +kernel)) ggX8_set_X0_decoded
set_option maxRecDepth 20000 in
theorem ggX8_set_X3_sameBits : GoodIn wsX8_set wsX3_sameBits := goodIn_r _ [51] (by decide +kernel) (by decide +kernel)
set_option maxRecDepth 20000 in
theorem gX8_set_X3_sameBits : GoodIn wsX8_set (va_wsS RX8 88 yX3_sameBits wsX3_sameBits) := goodIn_app (goodIn_of _ (by decide +kernel)) ggX8_set_X3_sameBits
set_option maxRecDepth 20000 in
theorem ggX8_set_X2_remember : GoodIn wsX8_set wsX2_remember := goodIn_r _ [56, 57, 58, 59, 60, 61, 62, 11, 63, 13, 14, 64, 65, 66, 67, 68, 69, 70, 71, 72, 18, 73, 74, 75, 20, 89, 90, 91, 85, 86, 87, 88, 83, 84] (by decide +kernel) (by decide +kernel)
set_option maxRecDepth 20000 in
theorem gX8_set_X2_remember : GoodIn wsX8_set (wsV RX8 69 RX2 yX2_remember wsX2_remember) := goodIn_app (goodIn_of _ (by decide +kernel)) ggX8_set_X2_remember
theorem dX8_set_0 : decode cX8_set 0 = .ok (.iload_n 1, 1) := by decide +kernel
theorem dX8_set_1 : decode cX8_set 1 = .ok (.invokestatic 51, 3) := by decide +kernel
theorem dX8_set_4 : decode cX8_set 4 = .ok (.ifCond .eq 18, 3) := by decide +kernel
theorem dX8_set_7 : decode cX8_set 7 = .ok (.aload_n 0, 1) := by decide +kernel
theorem dX8_set_8 : decode cX8_set 8 = .ok (.getfield 10, 3) := by decide +kernel
theorem dX8_set_11 : decode cX8_set 11 = .ok (.iload_n 1, 1) := by decide +kernel
theorem dX8_set_12 : decode cX8_set 12 = .ok (.invokevirtual 61, 3) := by decide +kernel
theorem dX8_set_15 : decode cX8_set 15 = .ok (.iload_n 2, 1) := by decide +kernel
theorem dX8_set_16 : decode cX8_set 16 = .ok (.invokevirtual 81, 3) := by decide +kernel
theorem dX8_set_19 : decode cX8_set 19 = .ok (.ifCond .ne 5, 3) := by decide +kernel
theorem dX8_set_22 : decode cX8_set 22 = .ok (.iconst (-1), 1) := by decide +kernel
theorem dX8_set_23 : decode cX8_set 23 = .ok (.ireturn, 1) := by decide +kernel
theorem dX8_set_24 : decode cX8_set 24 = .ok (.lload_n 3, 1) := by decide +kernel
theorem dX8_set_25 : decode cX8_set 25 = .ok (.invokestatic 55, 3) := by decide +kernel
theorem dX8_set_28 : decode cX8_set 28 = .ok (.ifCond .ne 6, 3) := by decide +kernel
theorem dX8_set_31 : decode cX8_set 31 = .ok (.bipush (-2), 2) := by decide +kernel
theorem dX8_set_33 : decode cX8_set 33 = .ok (.ireturn, 1) := by decide +kernel
theorem dX8_set_34 : decode cX8_set 34 = .ok (.aload_n 0, 1) := by decide +kernel
theorem dX8_set_35 : decode cX8_set 35 = .ok (.getfield 10, 3) := by decide +kernel
theorem dX8_set_38 : decode cX8_set 38 = .ok (.iload_n 1, 1) := by decide +kernel
theorem dX8_set_39 : decode cX8_set 39 = .ok (.invokevirtual 61, 3) := by decide +kernel
theorem dX8_set_42 : decode cX8_set 42 = .ok (.astore 5, 2) := by decide +kernel
theorem dX8_set_44 : decode cX8_set 44 = .ok (.lload_n 3, 1) := by decide +kernel
theorem dX8_set_45 : decode cX8_set 45 = .ok (.invokestatic 73, 3) := by decide +kernel
theorem dX8_set_48 : decode cX8_set 48 = .ok (.dstore 6, 2) := by decide +kernel
theorem dX8_set_50 : decode cX8_set 50 = .ok (.aload 5, 2) := by decide +kernel
theorem dX8_set_52 : decode cX8_set 52 = .ok (.getfield 84, 3) := by decide +kernel
theorem dX8_set_55 : decode cX8_set 55 = .ok (.iload_n 2, 1) := by decide +kernel
theorem dX8_set_56 : decode cX8_set 56 = .ok (.daload, 1) := by decide +kernel
theorem dX8_set_57 : decode cX8_set 57 = .ok (.dload 6, 2) := by decide +kernel
theorem dX8_set_59 : decode cX8_set 59 = .ok (.invokestatic 88, 3) := by decide +kernel
theorem dX8_set_62 : decode cX8_set 62 = .ok (.ifCond .eq 6, 3) := by decide +kernel
theorem dX8_set_65 : decode cX8_set 65 = .ok (.bipush (-5), 2) := by decide +kernel
theorem dX8_set_67 : decode cX8_set 67 = .ok (.ireturn, 1) := by decide +kernel
theorem dX8_set_68 : decode cX8_set 68 = .ok (.aload_n 0, 1) := by decide +kernel
theorem dX8_set_69 : decode cX8_set 69 = .ok (.getfield 26, 3) := by decide +kernel
theorem dX8_set_72 : decode cX8_set 72 = .ok (.aload_n 0, 1) := by decide +kernel
theorem dX8_set_73 : decode cX8_set 73 = .ok (.getfield 10, 3) := by decide +kernel
theorem dX8_set_76 : decode cX8_set 76 = .ok (.invokevirtual 69, 3) := by decide +kernel
theorem dX8_set_79 : decode cX8_set 79 = .ok (.aload 5, 2) := by decide +kernel
theorem dX8_set_81 : decode cX8_set 81 = .ok (.getfield 84, 3) := by decide +kernel
theorem dX8_set_84 : decode cX8_set 84 = .ok (.iload_n 2, 1) := by decide +kernel
theorem dX8_set_85 : decode cX8_set 85 = .ok (.dload 6, 2) := by decide +kernel
theorem dX8_set_87 : decode cX8_set 87 = .ok (.dastore, 1) := by decide +kernel
theorem dX8_set_88 : decode cX8_set 88 = .ok (.iload_n 2, 1) := by decide +kernel
theorem dX8_set_89 : decode cX8_set 89 = .ok (.ireturn, 1) := by decide +kernel
set_option maxRecDepth 20000 in
theorem ggX8_read_X8_isRow : GoodIn wsX8_read wsX8_isRow := goodIn_r _ [6] (by decide +kernel) (by decide +kernel)
set_option maxRecDepth 20000 in
theorem gX8_read_X8_isRow : GoodIn wsX8_read (va_wsS RX8 51 yX8_isRow wsX8_isRow) := goodIn_app (goodIn_of _ (by decide +kernel)) ggX8_read_X8_isRow
set_option maxRecDepth 20000 in
theorem ggX8_read_X7_parseInto : GoodIn wsX8_read wsX7_parseInto := goodIn_r _ [11, 12, 13, 14, 15, 16, 17, 10, 18, 19, 20, 21, 22, 23, 24, 25, 26, 27, 28, 29, 30, 31, 32, 33, 34, 35, 36, 37, 38, 39, 40, 41, 42, 43, 89, 90, 91, 92, 93, 94] (by decide +kernel) (by decide +kernel)
set_option maxRecDepth 20000 in
theorem gX8_read_X7_parseInto : GoodIn wsX8_read (wsV RX8 94 RX7 yX7_parseInto wsX7_parseInto) := goodIn_app (goodIn_of _ (by decide +kernel)) ggX8_read_X7_parseInto
set_option maxRecDepth 20000 in
theorem ggX8_read_X8_putDraft : GoodIn wsX8_read wsX8_putDraft := goodIn_r _ [47, 48, 49, 2, 50, 51, 52, 53, 54, 55, 56, 57, 58, 59, 60, 61, 62, 63, 64, 65, 66, 67, 68, 69, 70, 71, 72, 73, 74, 40, 75, 43, 76, 42, 77, 78, 79, 80, 81, 82, 83, 84, 85, 86, 87, 88, 93, 94, 95, 96, 97, 98, 99, 100, 101] (by decide +kernel) (by decide +kernel)
set_option maxRecDepth 20000 in
theorem gX8_read_X8_putDraft : GoodIn wsX8_read (wsV RX8 98 RX8 yX8_putDraft wsX8_putDraft) := goodIn_app (goodIn_of _ (by decide +kernel)) ggX8_read_X8_putDraft
theorem dX8_read_0 : decode cX8_read 0 = .ok (.iload_n 1, 1) := by decide +kernel
theorem dX8_read_1 : decode cX8_read 1 = .ok (.invokestatic 51, 3) := by decide +kernel
theorem dX8_read_4 : decode cX8_read 4 = .ok (.ifCond .ne 5, 3) := by decide +kernel
theorem dX8_read_7 : decode cX8_read 7 = .ok (.iconst (-1), 1) := by decide +kernel
theorem dX8_read_8 : decode cX8_read 8 = .ok (.ireturn, 1) := by decide +kernel
theorem dX8_read_9 : decode cX8_read 9 = .ok (.aload_n 0, 1) := by decide +kernel
theorem dX8_read_10 : decode cX8_read 10 = .ok (.getfield 33, 3) := by decide +kernel
theorem dX8_read_13 : decode cX8_read 13 = .ok (.aload_n 0, 1) := by decide +kernel
theorem dX8_read_14 : decode cX8_read 14 = .ok (.getfield 47, 3) := by decide +kernel
theorem dX8_read_17 : decode cX8_read 17 = .ok (.invokevirtual 94, 3) := by decide +kernel
theorem dX8_read_20 : decode cX8_read 20 = .ok (.istore_n 2, 1) := by decide +kernel
theorem dX8_read_21 : decode cX8_read 21 = .ok (.iload_n 2, 1) := by decide +kernel
theorem dX8_read_22 : decode cX8_read 22 = .ok (.ifCond .ge 5, 3) := by decide +kernel
theorem dX8_read_25 : decode cX8_read 25 = .ok (.iload_n 2, 1) := by decide +kernel
theorem dX8_read_26 : decode cX8_read 26 = .ok (.ireturn, 1) := by decide +kernel
theorem dX8_read_27 : decode cX8_read 27 = .ok (.iload_n 2, 1) := by decide +kernel
theorem dX8_read_28 : decode cX8_read 28 = .ok (.bipush 16, 2) := by decide +kernel
theorem dX8_read_30 : decode cX8_read 30 = .ok (.if_icmp .le 6, 3) := by decide +kernel
theorem dX8_read_33 : decode cX8_read 33 = .ok (.bipush (-3), 2) := by decide +kernel
theorem dX8_read_35 : decode cX8_read 35 = .ok (.ireturn, 1) := by decide +kernel
theorem dX8_read_36 : decode cX8_read 36 = .ok (.aload_n 0, 1) := by decide +kernel
theorem dX8_read_37 : decode cX8_read 37 = .ok (.iload_n 1, 1) := by decide +kernel
theorem dX8_read_38 : decode cX8_read 38 = .ok (.invokevirtual 98, 3) := by decide +kernel
theorem dX8_read_41 : decode cX8_read 41 = .ok (.ireturn, 1) := by decide +kernel
set_option maxRecDepth 20000 in
theorem ggX8_fill_X8_isRow : GoodIn wsX8_fill wsX8_isRow := goodIn_r _ [7] (by decide +kernel) (by decide +kernel)
set_option maxRecDepth 20000 in
theorem gX8_fill_X8_isRow : GoodIn wsX8_fill (va_wsS RX8 51 yX8_isRow wsX8_isRow) := goodIn_app (goodIn_of _ (by decide +kernel)) ggX8_fill_X8_isRow
set_option maxRecDepth 20000 in
theorem ggX8_fill_X6_fillSeries : GoodIn wsX8_fill wsX6_fillSeries := goodIn_r _ [11, 12, 13, 14, 10, 15, 16, 17, 18, 19, 20, 21, 22, 23, 72, 73] (by decide +kernel) (by decide +kernel)
set_option maxRecDepth 20000 in
theorem gX8_fill_X6_fillSeries : GoodIn wsX8_fill (va_wsS RX8 105 yX6_fillSeries wsX6_fillSeries) := goodIn_app (goodIn_of _ (by decide +kernel)) ggX8_fill_X6_fillSeries
set_option maxRecDepth 20000 in
theorem ggX8_fill_X8_putDraft : GoodIn wsX8_fill wsX8_putDraft := goodIn_r _ [27, 28, 2, 1, 29, 30, 31, 32, 33, 34, 35, 36, 37, 38, 39, 40, 41, 42, 43, 44, 45, 46, 47, 48, 49, 50, 51, 52, 53, 20, 54, 23, 55, 22, 56, 57, 58, 59, 60, 61, 62, 63, 64, 65, 66, 67, 72, 73, 74, 75, 76, 68, 69, 70, 71] (by decide +kernel) (by decide +kernel)
set_option maxRecDepth 20000 in
theorem gX8_fill_X8_putDraft : GoodIn wsX8_fill (wsV RX8 98 RX8 yX8_putDraft wsX8_putDraft) := goodIn_app (goodIn_of _ (by decide +kernel)) ggX8_fill_X8_putDraft
theorem dX8_fill_0 : decode cX8_fill 0 = .ok (.iload_n 1, 1) := by decide +kernel
theorem dX8_fill_1 : decode cX8_fill 1 = .ok (.invokestatic 51, 3) := by decide +kernel
theorem dX8_fill_4 : decode cX8_fill 4 = .ok (.ifCond .ne 5, 3) := by decide +kernel
theorem dX8_fill_7 : decode cX8_fill 7 = .ok (.iconst (-1), 1) := by decide +kernel
theorem dX8_fill_8 : decode cX8_fill 8 = .ok (.ireturn, 1) := by decide +kernel
theorem dX8_fill_9 : decode cX8_fill 9 = .ok (.iload_n 2, 1) := by decide +kernel
theorem dX8_fill_10 : decode cX8_fill 10 = .ok (.ifCond .lt 19, 3) := by decide +kernel
theorem dX8_fill_13 : decode cX8_fill 13 = .ok (.iload_n 2, 1) := by decide +kernel
theorem dX8_fill_14 : decode cX8_fill 14 = .ok (.iconst 5, 1) := by decide +kernel
theorem dX8_fill_15 : decode cX8_fill 15 = .ok (.if_icmp .ge 14, 3) := by decide +kernel
theorem dX8_fill_18 : decode cX8_fill 18 = .ok (.iload_n 3, 1) := by decide +kernel
theorem dX8_fill_19 : decode cX8_fill 19 = .ok (.iconst 1, 1) := by decide +kernel
theorem dX8_fill_20 : decode cX8_fill 20 = .ok (.if_icmp .lt 9, 3) := by decide +kernel
theorem dX8_fill_23 : decode cX8_fill 23 = .ok (.iload_n 3, 1) := by decide +kernel
theorem dX8_fill_24 : decode cX8_fill 24 = .ok (.bipush 16, 2) := by decide +kernel
theorem dX8_fill_26 : decode cX8_fill 26 = .ok (.if_icmp .le 6, 3) := by decide +kernel
theorem dX8_fill_29 : decode cX8_fill 29 = .ok (.bipush (-2), 2) := by decide +kernel
theorem dX8_fill_31 : decode cX8_fill 31 = .ok (.ireturn, 1) := by decide +kernel
theorem dX8_fill_32 : decode cX8_fill 32 = .ok (.aload_n 0, 1) := by decide +kernel
theorem dX8_fill_33 : decode cX8_fill 33 = .ok (.getfield 47, 3) := by decide +kernel
theorem dX8_fill_36 : decode cX8_fill 36 = .ok (.iload_n 2, 1) := by decide +kernel
theorem dX8_fill_37 : decode cX8_fill 37 = .ok (.iload_n 3, 1) := by decide +kernel
theorem dX8_fill_38 : decode cX8_fill 38 = .ok (.aload_n 0, 1) := by decide +kernel
theorem dX8_fill_39 : decode cX8_fill 39 = .ok (.getfield 10, 3) := by decide +kernel
theorem dX8_fill_42 : decode cX8_fill 42 = .ok (.getfield 102, 3) := by decide +kernel
theorem dX8_fill_45 : decode cX8_fill 45 = .ok (.iconst 2, 1) := by decide +kernel
theorem dX8_fill_46 : decode cX8_fill 46 = .ok (.daload, 1) := by decide +kernel
theorem dX8_fill_47 : decode cX8_fill 47 = .ok (.invokestatic 105, 3) := by decide +kernel
theorem dX8_fill_50 : decode cX8_fill 50 = .ok (.aload_n 0, 1) := by decide +kernel
theorem dX8_fill_51 : decode cX8_fill 51 = .ok (.iload_n 1, 1) := by decide +kernel
theorem dX8_fill_52 : decode cX8_fill 52 = .ok (.invokevirtual 98, 3) := by decide +kernel
theorem dX8_fill_55 : decode cX8_fill 55 = .ok (.ireturn, 1) := by decide +kernel
set_option maxRecDepth 20000 in
theorem ggX8_sum_X8_isRow : GoodIn wsX8_sum wsX8_isRow := goodIn_r _ [7] (by decide +kernel) (by decide +kernel)
set_option maxRecDepth 20000 in
theorem gX8_sum_X8_isRow : GoodIn wsX8_sum (va_wsS RX8 51 yX8_isRow wsX8_isRow) := goodIn_app (goodIn_of _ (by decide +kernel)) ggX8_sum_X8_isRow
set_option maxRecDepth 20000 in
theorem ggX8_sum_X5_rowAt : GoodIn wsX8_sum wsX5_rowAt := goodIn_r _ [12, 13, 14, 72, 73, 74, 75] (by decide +kernel) (by decide +kernel)
set_option maxRecDepth 20000 in
theorem gX8_sum_X5_rowAt : GoodIn wsX8_sum (wsV RX8 61 RX5 yX5_rowAt wsX5_rowAt) := goodIn_app (goodIn_of _ (by decide +kernel)) ggX8_sum_X5_rowAt
set_option maxRecDepth 20000 in
theorem ggX8_sum_X6_sumUp : GoodIn wsX8_sum wsX6_sumUp := goodIn_r _ [18, 19, 20, 21, 22, 23, 24, 25, 26, 27, 28, 29, 30, 31, 32, 33, 70, 71] (by decide +kernel) (by decide +kernel)
set_option maxRecDepth 20000 in
theorem gX8_sum_X6_sumUp : GoodIn wsX8_sum (va_wsS RX8 111 yX6_sumUp wsX6_sumUp) := goodIn_app (goodIn_of _ (by decide +kernel)) ggX8_sum_X6_sumUp
set_option maxRecDepth 20000 in
theorem ggX8_sum_X8_putDraft : GoodIn wsX8_sum wsX8_putDraft := goodIn_r _ [37, 38, 1, 3, 2, 39, 40, 41, 42, 43, 44, 45, 46, 47, 48, 49, 11, 50, 13, 14, 51, 52, 53, 54, 55, 56, 57, 58, 59, 30, 60, 33, 61, 32, 8, 9, 10, 12, 62, 63, 64, 65, 66, 67, 68, 69, 70, 71, 76, 77, 78, 72, 73, 74, 75] (by decide +kernel) (by decide +kernel)
set_option maxRecDepth 20000 in
theorem gX8_sum_X8_putDraft : GoodIn wsX8_sum (wsV RX8 98 RX8 yX8_putDraft wsX8_putDraft) := goodIn_app (goodIn_of _ (by decide +kernel)) ggX8_sum_X8_putDraft
theorem dX8_sum_0 : decode cX8_sum 0 = .ok (.iload_n 1, 1) := by decide +kernel
theorem dX8_sum_1 : decode cX8_sum 1 = .ok (.invokestatic 51, 3) := by decide +kernel
theorem dX8_sum_4 : decode cX8_sum 4 = .ok (.ifCond .ne 5, 3) := by decide +kernel
theorem dX8_sum_7 : decode cX8_sum 7 = .ok (.iconst (-1), 1) := by decide +kernel
theorem dX8_sum_8 : decode cX8_sum 8 = .ok (.ireturn, 1) := by decide +kernel
theorem dX8_sum_9 : decode cX8_sum 9 = .ok (.aload_n 0, 1) := by decide +kernel
theorem dX8_sum_10 : decode cX8_sum 10 = .ok (.getfield 10, 3) := by decide +kernel
theorem dX8_sum_13 : decode cX8_sum 13 = .ok (.iload_n 1, 1) := by decide +kernel
theorem dX8_sum_14 : decode cX8_sum 14 = .ok (.invokevirtual 61, 3) := by decide +kernel
theorem dX8_sum_17 : decode cX8_sum 17 = .ok (.astore_n 2, 1) := by decide +kernel
theorem dX8_sum_18 : decode cX8_sum 18 = .ok (.aload_n 2, 1) := by decide +kernel
theorem dX8_sum_19 : decode cX8_sum 19 = .ok (.getfield 65, 3) := by decide +kernel
theorem dX8_sum_22 : decode cX8_sum 22 = .ok (.ifCond .ne 6, 3) := by decide +kernel
theorem dX8_sum_25 : decode cX8_sum 25 = .ok (.bipush (-5), 2) := by decide +kernel
theorem dX8_sum_27 : decode cX8_sum 27 = .ok (.ireturn, 1) := by decide +kernel
theorem dX8_sum_28 : decode cX8_sum 28 = .ok (.aload_n 2, 1) := by decide +kernel
theorem dX8_sum_29 : decode cX8_sum 29 = .ok (.aload_n 0, 1) := by decide +kernel
theorem dX8_sum_30 : decode cX8_sum 30 = .ok (.getfield 47, 3) := by decide +kernel
theorem dX8_sum_33 : decode cX8_sum 33 = .ok (.invokestatic 111, 3) := by decide +kernel
theorem dX8_sum_36 : decode cX8_sum 36 = .ok (.ifCond .ne 6, 3) := by decide +kernel
theorem dX8_sum_39 : decode cX8_sum 39 = .ok (.bipush (-4), 2) := by decide +kernel
theorem dX8_sum_41 : decode cX8_sum 41 = .ok (.ireturn, 1) := by decide +kernel
theorem dX8_sum_42 : decode cX8_sum 42 = .ok (.aload_n 0, 1) := by decide +kernel
theorem dX8_sum_43 : decode cX8_sum 43 = .ok (.iload_n 1, 1) := by decide +kernel
theorem dX8_sum_44 : decode cX8_sum 44 = .ok (.invokevirtual 98, 3) := by decide +kernel
theorem dX8_sum_47 : decode cX8_sum 47 = .ok (.ireturn, 1) := by decide +kernel
set_option maxRecDepth 20000 in
theorem ggX8_differences_X8_isRow : GoodIn wsX8_differences wsX8_isRow := goodIn_r _ [7] (by decide +kernel) (by decide +kernel)
set_option maxRecDepth 20000 in
theorem gX8_differences_X8_isRow : GoodIn wsX8_differences (va_wsS RX8 51 yX8_isRow wsX8_isRow) := goodIn_app (goodIn_of _ (by decide +kernel)) ggX8_differences_X8_isRow
set_option maxRecDepth 20000 in
theorem ggX8_differences_X5_rowAt : GoodIn wsX8_differences wsX5_rowAt := goodIn_r _ [12, 13, 14, 72, 73, 74, 75] (by decide +kernel) (by decide +kernel)
set_option maxRecDepth 20000 in
theorem gX8_differences_X5_rowAt : GoodIn wsX8_differences (wsV RX8 61 RX5 yX5_rowAt wsX5_rowAt) := goodIn_app (goodIn_of _ (by decide +kernel)) ggX8_differences_X5_rowAt
set_option maxRecDepth 20000 in
theorem ggX8_differences_X6_takeDifferences : GoodIn wsX8_differences wsX6_takeDifferences := goodIn_r _ [18, 19, 20, 21, 22, 23, 24, 25, 26, 27, 28, 29, 30, 31, 32, 33, 70, 71] (by decide +kernel) (by decide +kernel)
set_option maxRecDepth 20000 in
theorem gX8_differences_X6_takeDifferences : GoodIn wsX8_differences (va_wsS RX8 115 yX6_takeDifferences wsX6_takeDifferences) := goodIn_app (goodIn_of _ (by decide +kernel)) ggX8_differences_X6_takeDifferences
set_option maxRecDepth 20000 in
theorem ggX8_differences_X8_putDraft : GoodIn wsX8_differences wsX8_putDraft := goodIn_r _ [37, 38, 1, 3, 2, 39, 40, 41, 42, 43, 44, 45, 46, 47, 48, 49, 11, 50, 13, 14, 51, 52, 53, 54, 55, 56, 57, 58, 59, 30, 60, 33, 61, 32, 8, 9, 10, 12, 62, 63, 64, 65, 66, 67, 68, 69, 70, 71, 76, 77, 78, 72, 73, 74, 75] (by decide +kernel) (by decide +kernel)
set_option maxRecDepth 20000 in
theorem gX8_differences_X8_putDraft : GoodIn wsX8_differences (wsV RX8 98 RX8 yX8_putDraft wsX8_putDraft) := goodIn_app (goodIn_of _ (by decide +kernel)) ggX8_differences_X8_putDraft
theorem dX8_differences_0 : decode cX8_differences 0 = .ok (.iload_n 1, 1) := by decide +kernel
theorem dX8_differences_1 : decode cX8_differences 1 = .ok (.invokestatic 51, 3) := by decide +kernel
theorem dX8_differences_4 : decode cX8_differences 4 = .ok (.ifCond .ne 5, 3) := by decide +kernel
theorem dX8_differences_7 : decode cX8_differences 7 = .ok (.iconst (-1), 1) := by decide +kernel
theorem dX8_differences_8 : decode cX8_differences 8 = .ok (.ireturn, 1) := by decide +kernel
theorem dX8_differences_9 : decode cX8_differences 9 = .ok (.aload_n 0, 1) := by decide +kernel
theorem dX8_differences_10 : decode cX8_differences 10 = .ok (.getfield 10, 3) := by decide +kernel
theorem dX8_differences_13 : decode cX8_differences 13 = .ok (.iload_n 1, 1) := by decide +kernel
theorem dX8_differences_14 : decode cX8_differences 14 = .ok (.invokevirtual 61, 3) := by decide +kernel
theorem dX8_differences_17 : decode cX8_differences 17 = .ok (.astore_n 2, 1) := by decide +kernel
theorem dX8_differences_18 : decode cX8_differences 18 = .ok (.aload_n 2, 1) := by decide +kernel
theorem dX8_differences_19 : decode cX8_differences 19 = .ok (.getfield 65, 3) := by decide +kernel
theorem dX8_differences_22 : decode cX8_differences 22 = .ok (.ifCond .ne 6, 3) := by decide +kernel
theorem dX8_differences_25 : decode cX8_differences 25 = .ok (.bipush (-5), 2) := by decide +kernel
theorem dX8_differences_27 : decode cX8_differences 27 = .ok (.ireturn, 1) := by decide +kernel
theorem dX8_differences_28 : decode cX8_differences 28 = .ok (.aload_n 2, 1) := by decide +kernel
theorem dX8_differences_29 : decode cX8_differences 29 = .ok (.aload_n 0, 1) := by decide +kernel
theorem dX8_differences_30 : decode cX8_differences 30 = .ok (.getfield 47, 3) := by decide +kernel
theorem dX8_differences_33 : decode cX8_differences 33 = .ok (.invokestatic 115, 3) := by decide +kernel
theorem dX8_differences_36 : decode cX8_differences 36 = .ok (.ifCond .ne 6, 3) := by decide +kernel
theorem dX8_differences_39 : decode cX8_differences 39 = .ok (.bipush (-4), 2) := by decide +kernel
theorem dX8_differences_41 : decode cX8_differences 41 = .ok (.ireturn, 1) := by decide +kernel
theorem dX8_differences_42 : decode cX8_differences 42 = .ok (.aload_n 0, 1) := by decide +kernel
theorem dX8_differences_43 : decode cX8_differences 43 = .ok (.iload_n 1, 1) := by decide +kernel
theorem dX8_differences_44 : decode cX8_differences 44 = .ok (.invokevirtual 98, 3) := by decide +kernel
theorem dX8_differences_47 : decode cX8_differences 47 = .ok (.ireturn, 1) := by decide +kernel
set_option maxRecDepth 20000 in
theorem ggX8_take_X8_isTable : GoodIn wsX8_take wsX8_isTable := goodIn_r _ [8, 9, 10, 7, 11] (by decide +kernel) (by decide +kernel)
set_option maxRecDepth 20000 in
theorem gX8_take_X8_isTable : GoodIn wsX8_take (va_wsS RX8 118 yX8_isTable wsX8_isTable) := goodIn_app (goodIn_of _ (by decide +kernel)) ggX8_take_X8_isTable
set_option maxRecDepth 20000 in
theorem ggX8_take_X1_build : GoodIn wsX8_take wsX1_build := goodIn_r _ [16, 17, 18, 19, 20, 21, 22, 23, 24, 25, 26, 27, 28, 29, 30, 31, 32, 33, 34, 35, 15, 36, 37, 38, 39, 40, 41, 42, 43, 44, 45, 46, 47, 48, 49, 50, 51, 52, 53, 54, 55, 56, 57, 58, 59, 60, 61, 62, 63, 64, 65, 66, 67, 68, 69, 70, 71, 72, 73, 74, 75, 76, 77, 78, 79, 80, 81, 82, 83, 151, 152, 153, 154, 155, 156, 157, 158, 159, 160, 161, 162, 163, 164, 149, 150] (by decide +kernel) (by decide +kernel)
set_option maxRecDepth 20000 in
theorem gX8_take_X1_build : GoodIn wsX8_take (wsV RX8 122 RX1 yX1_build wsX1_build) := goodIn_app (goodIn_of _ (by decide +kernel)) ggX8_take_X1_build
set_option maxRecDepth 20000 in
theorem ggX8_take_X1_copyColumn : GoodIn wsX8_take wsX1_copyColumn := goodIn_r _ [87, 23, 24, 39, 40, 41, 15, 42, 17, 88, 89, 90, 91, 92, 93, 94, 95, 38, 96, 97, 98, 99, 37, 100, 101, 57, 102, 103, 104, 105, 106, 107, 108, 109, 110, 111, 149, 150, 151, 152, 153, 154, 155, 156, 157, 158, 159, 160] (by decide +kernel) (by decide +kernel)
set_option maxRecDepth 20000 in
theorem gX8_take_X1_copyColumn : GoodIn wsX8_take (wsV RX8 126 RX1 yX1_copyColumn wsX1_copyColumn) := goodIn_app (goodIn_of _ (by decide +kernel)) ggX8_take_X1_copyColumn
set_option maxRecDepth 20000 in
theorem ggX8_take_X8_putDraft : GoodIn wsX8_take wsX8_putDraft := goodIn_r _ [115, 116, 2, 3, 4, 117, 118, 119, 120, 121, 122, 123, 124, 125, 126, 127, 29, 128, 31, 32, 129, 130, 131, 132, 133, 134, 135, 136, 137, 108, 138, 111, 139, 110, 140, 27, 28, 30, 141, 142, 143, 144, 145, 146, 147, 148, 149, 150, 165, 166, 167, 161, 162, 163, 164] (by decide +kernel) (by decide +kernel)
set_option maxRecDepth 20000 in
theorem gX8_take_X8_putDraft : GoodIn wsX8_take (wsV RX8 98 RX8 yX8_putDraft wsX8_putDraft) := goodIn_app (goodIn_of _ (by decide +kernel)) ggX8_take_X8_putDraft
theorem dX8_take_0 : decode cX8_take 0 = .ok (.iload_n 1, 1) := by decide +kernel
theorem dX8_take_1 : decode cX8_take 1 = .ok (.iload_n 2, 1) := by decide +kernel
theorem dX8_take_2 : decode cX8_take 2 = .ok (.invokestatic 118, 3) := by decide +kernel
theorem dX8_take_5 : decode cX8_take 5 = .ok (.ifCond .ne 5, 3) := by decide +kernel
theorem dX8_take_8 : decode cX8_take 8 = .ok (.iconst (-1), 1) := by decide +kernel
theorem dX8_take_9 : decode cX8_take 9 = .ok (.ireturn, 1) := by decide +kernel
theorem dX8_take_10 : decode cX8_take 10 = .ok (.iload_n 3, 1) := by decide +kernel
theorem dX8_take_11 : decode cX8_take 11 = .ok (.ifCond .lt 9, 3) := by decide +kernel
theorem dX8_take_14 : decode cX8_take 14 = .ok (.iload_n 3, 1) := by decide +kernel
theorem dX8_take_15 : decode cX8_take 15 = .ok (.bipush 16, 2) := by decide +kernel
theorem dX8_take_17 : decode cX8_take 17 = .ok (.if_icmp .lt 6, 3) := by decide +kernel
theorem dX8_take_20 : decode cX8_take 20 = .ok (.bipush (-2), 2) := by decide +kernel
theorem dX8_take_22 : decode cX8_take 22 = .ok (.ireturn, 1) := by decide +kernel
theorem dX8_take_23 : decode cX8_take 23 = .ok (.aload_n 0, 1) := by decide +kernel
theorem dX8_take_24 : decode cX8_take 24 = .ok (.getfield 40, 3) := by decide +kernel
theorem dX8_take_27 : decode cX8_take 27 = .ok (.aload_n 0, 1) := by decide +kernel
theorem dX8_take_28 : decode cX8_take 28 = .ok (.getfield 10, 3) := by decide +kernel
theorem dX8_take_31 : decode cX8_take 31 = .ok (.iconst 1, 1) := by decide +kernel
theorem dX8_take_32 : decode cX8_take 32 = .ok (.iload_n 1, 1) := by decide +kernel
theorem dX8_take_33 : decode cX8_take 33 = .ok (.isub, 1) := by decide +kernel
theorem dX8_take_34 : decode cX8_take 34 = .ok (.iload_n 2, 1) := by decide +kernel
theorem dX8_take_35 : decode cX8_take 35 = .ok (.invokevirtual 122, 3) := by decide +kernel
theorem dX8_take_38 : decode cX8_take 38 = .ok (.aload_n 0, 1) := by decide +kernel
theorem dX8_take_39 : decode cX8_take 39 = .ok (.getfield 40, 3) := by decide +kernel
theorem dX8_take_42 : decode cX8_take 42 = .ok (.iload_n 3, 1) := by decide +kernel
theorem dX8_take_43 : decode cX8_take 43 = .ok (.aload_n 0, 1) := by decide +kernel
theorem dX8_take_44 : decode cX8_take 44 = .ok (.getfield 47, 3) := by decide +kernel
theorem dX8_take_47 : decode cX8_take 47 = .ok (.invokevirtual 126, 3) := by decide +kernel
theorem dX8_take_50 : decode cX8_take 50 = .ok (.aload_n 0, 1) := by decide +kernel
theorem dX8_take_51 : decode cX8_take 51 = .ok (.getfield 47, 3) := by decide +kernel
theorem dX8_take_54 : decode cX8_take 54 = .ok (.getfield 65, 3) := by decide +kernel
theorem dX8_take_57 : decode cX8_take 57 = .ok (.ifCond .ne 6, 3) := by decide +kernel
theorem dX8_take_60 : decode cX8_take 60 = .ok (.bipush (-4), 2) := by decide +kernel
theorem dX8_take_62 : decode cX8_take 62 = .ok (.ireturn, 1) := by decide +kernel
theorem dX8_take_63 : decode cX8_take 63 = .ok (.aload_n 0, 1) := by decide +kernel
theorem dX8_take_64 : decode cX8_take 64 = .ok (.iload_n 1, 1) := by decide +kernel
theorem dX8_take_65 : decode cX8_take 65 = .ok (.invokevirtual 98, 3) := by decide +kernel
theorem dX8_take_68 : decode cX8_take 68 = .ok (.ireturn, 1) := by decide +kernel
set_option maxRecDepth 20000 in
theorem ggX8_setting_X5_isSetting : GoodIn wsX8_setting wsX5_isSetting := goodIn_r _ [7] (by decide +kernel) (by decide +kernel)
set_option maxRecDepth 20000 in
theorem gX8_setting_X5_isSetting : GoodIn wsX8_setting (va_wsS RX8 130 yX5_isSetting wsX5_isSetting) := goodIn_app (goodIn_of _ (by decide +kernel)) ggX8_setting_X5_isSetting
set_option maxRecDepth 20000 in
theorem ggX8_setting_X0_isNan : GoodIn wsX8_setting wsX0_isNan := goodIn_r _ [11, 12, 13, 14, 10, 15, 16] (by decide +kernel) (by decide +kernel)
set_option maxRecDepth 20000 in
theorem gX8_setting_X0_isNan : GoodIn wsX8_setting (va_wsS RX8 133 yX0_isNan wsX0_isNan) := goodIn_app (goodIn_of _ (by decide +kernel)) ggX8_setting_X0_isNan
set_option maxRecDepth 20000 in
theorem ggX8_setting_X0_isMinusZero : GoodIn wsX8_setting wsX0_isMinusZero := goodIn_r _ [19, 20] (by decide +kernel) (by decide +kernel)
set_option maxRecDepth 20000 in
theorem gX8_setting_X0_isMinusZero : GoodIn wsX8_setting (va_wsS RX8 136 yX0_isMinusZero wsX0_isMinusZero) := goodIn_app (goodIn_of _ (by decide +kernel)) ggX8_setting_X0_isMinusZero
set_option maxRecDepth 20000 in
theorem ggX8_setting_X0_decoded : GoodIn wsX8_setting wsX0_decoded := goodIn_r _ [23, 12, 24, 13, 14, 10, 15, 16, 25, 26, 27, 28, 29] (by decide +kernel) (by decide +kernel)
set_option maxRecDepth 20000 in
theorem gX8_setting_X0_decoded : GoodIn wsX8_setting (va_wsS RX8 73 yX0_decoded wsX0_decoded) := goodIn_app (goodIn_of _ (by decide +kernel)) ggX8_setting_X0_decoded
set_option maxRecDepth 20000 in
theorem ggX8_setting_X5_inRange : GoodIn wsX8_setting wsX5_inRange := goodIn_r _ [32, 33, 34, 35, 36] (by decide +kernel) (by decide +kernel)
set_option maxRecDepth 20000 in
theorem gX8_setting_X5_inRange : GoodIn wsX8_setting (va_wsS RX8 139 yX5_inRange wsX5_inRange) := goodIn_app (goodIn_of _ (by decide +kernel)) ggX8_setting_X5_inRange
set_option maxRecDepth 20000 in
theorem ggX8_setting_X2_remember : GoodIn wsX8_setting wsX2_remember := goodIn_r _ [41, 42, 43, 44, 45, 46, 47, 6, 48, 49, 50, 51, 52, 53, 54, 55, 56, 57, 58, 59, 60, 61, 62, 63, 64, 76, 77, 78, 72, 73, 74, 75, 79, 80] (by decide +kernel) (by decide +kernel)
set_option maxRecDepth 20000 in
theorem gX8_setting_X2_remember : GoodIn wsX8_setting (wsV RX8 69 RX2 yX2_remember wsX2_remember) := goodIn_app (goodIn_of _ (by decide +kernel)) ggX8_setting_X2_remember
theorem dX8_setting_0 : decode cX8_setting 0 = .ok (.iload_n 1, 1) := by decide +kernel
theorem dX8_setting_1 : decode cX8_setting 1 = .ok (.invokestatic 130, 3) := by decide +kernel
theorem dX8_setting_4 : decode cX8_setting 4 = .ok (.ifCond .eq 17, 3) := by decide +kernel
theorem dX8_setting_7 : decode cX8_setting 7 = .ok (.lload_n 2, 1) := by decide +kernel
theorem dX8_setting_8 : decode cX8_setting 8 = .ok (.invokestatic 133, 3) := by decide +kernel
theorem dX8_setting_11 : decode cX8_setting 11 = .ok (.ifCond .ne 10, 3) := by decide +kernel
theorem dX8_setting_14 : decode cX8_setting 14 = .ok (.lload_n 2, 1) := by decide +kernel
theorem dX8_setting_15 : decode cX8_setting 15 = .ok (.invokestatic 136, 3) := by decide +kernel
theorem dX8_setting_18 : decode cX8_setting 18 = .ok (.ifCond .eq 6, 3) := by decide +kernel
theorem dX8_setting_21 : decode cX8_setting 21 = .ok (.bipush (-2), 2) := by decide +kernel
theorem dX8_setting_23 : decode cX8_setting 23 = .ok (.ireturn, 1) := by decide +kernel
theorem dX8_setting_24 : decode cX8_setting 24 = .ok (.lload_n 2, 1) := by decide +kernel
theorem dX8_setting_25 : decode cX8_setting 25 = .ok (.invokestatic 73, 3) := by decide +kernel
theorem dX8_setting_28 : decode cX8_setting 28 = .ok (.dstore 4, 2) := by decide +kernel
theorem dX8_setting_30 : decode cX8_setting 30 = .ok (.iload_n 1, 1) := by decide +kernel
theorem dX8_setting_31 : decode cX8_setting 31 = .ok (.dload 4, 2) := by decide +kernel
theorem dX8_setting_33 : decode cX8_setting 33 = .ok (.invokestatic 139, 3) := by decide +kernel
theorem dX8_setting_36 : decode cX8_setting 36 = .ok (.ifCond .ne 6, 3) := by decide +kernel
theorem dX8_setting_39 : decode cX8_setting 39 = .ok (.bipush (-2), 2) := by decide +kernel
theorem dX8_setting_41 : decode cX8_setting 41 = .ok (.ireturn, 1) := by decide +kernel
theorem dX8_setting_42 : decode cX8_setting 42 = .ok (.aload_n 0, 1) := by decide +kernel
theorem dX8_setting_43 : decode cX8_setting 43 = .ok (.getfield 10, 3) := by decide +kernel
theorem dX8_setting_46 : decode cX8_setting 46 = .ok (.getfield 102, 3) := by decide +kernel
theorem dX8_setting_49 : decode cX8_setting 49 = .ok (.iload_n 1, 1) := by decide +kernel
theorem dX8_setting_50 : decode cX8_setting 50 = .ok (.daload, 1) := by decide +kernel
theorem dX8_setting_51 : decode cX8_setting 51 = .ok (.dload 4, 2) := by decide +kernel
theorem dX8_setting_53 : decode cX8_setting 53 = .ok (.dcmp .l, 1) := by decide +kernel
theorem dX8_setting_54 : decode cX8_setting 54 = .ok (.ifCond .ne 6, 3) := by decide +kernel
theorem dX8_setting_57 : decode cX8_setting 57 = .ok (.bipush (-5), 2) := by decide +kernel
theorem dX8_setting_59 : decode cX8_setting 59 = .ok (.ireturn, 1) := by decide +kernel
theorem dX8_setting_60 : decode cX8_setting 60 = .ok (.aload_n 0, 1) := by decide +kernel
theorem dX8_setting_61 : decode cX8_setting 61 = .ok (.getfield 26, 3) := by decide +kernel
theorem dX8_setting_64 : decode cX8_setting 64 = .ok (.aload_n 0, 1) := by decide +kernel
theorem dX8_setting_65 : decode cX8_setting 65 = .ok (.getfield 10, 3) := by decide +kernel
theorem dX8_setting_68 : decode cX8_setting 68 = .ok (.invokevirtual 69, 3) := by decide +kernel
theorem dX8_setting_71 : decode cX8_setting 71 = .ok (.aload_n 0, 1) := by decide +kernel
theorem dX8_setting_72 : decode cX8_setting 72 = .ok (.getfield 10, 3) := by decide +kernel
theorem dX8_setting_75 : decode cX8_setting 75 = .ok (.getfield 102, 3) := by decide +kernel
theorem dX8_setting_78 : decode cX8_setting 78 = .ok (.iload_n 1, 1) := by decide +kernel
theorem dX8_setting_79 : decode cX8_setting 79 = .ok (.dload 4, 2) := by decide +kernel
theorem dX8_setting_81 : decode cX8_setting 81 = .ok (.dastore, 1) := by decide +kernel
theorem dX8_setting_82 : decode cX8_setting 82 = .ok (.iload_n 1, 1) := by decide +kernel
theorem dX8_setting_83 : decode cX8_setting 83 = .ok (.ireturn, 1) := by decide +kernel
set_option maxRecDepth 20000 in
theorem ggX8_bridge_X2_remember : GoodIn wsX8_bridge wsX2_remember := goodIn_r _ [8, 9, 10, 11, 12, 13, 14, 15, 16, 17, 18, 19, 20, 21, 22, 23, 24, 25, 26, 27, 28, 29, 30, 31, 32, 135, 136, 137, 131, 132, 133, 134, 138, 139] (by decide +kernel) (by decide +kernel)
set_option maxRecDepth 20000 in
theorem gX8_bridge_X2_remember : GoodIn wsX8_bridge (wsV RX8 69 RX2 yX2_remember wsX2_remember) := goodIn_app (goodIn_of _ (by decide +kernel)) ggX8_bridge_X2_remember
set_option maxRecDepth 20000 in
theorem ggX8_bridge_X8_brokenInAll : GoodIn wsX8_bridge wsX8_brokenInAll := goodIn_r _ [37, 38, 1, 39, 40, 41, 42, 43, 44, 45, 46, 47, 48, 49, 50, 51, 52, 53, 54, 55, 15, 56, 17, 18, 57, 58, 59, 60, 61, 62, 63, 64, 65, 66, 67, 68, 69, 70, 71, 72, 73, 74, 75, 76, 77, 78, 79, 80, 81, 82, 83, 84, 85, 86, 87, 88, 89, 90, 91, 92, 93, 94, 95, 96, 97, 98, 99, 100, 101, 102, 103, 104, 105, 106, 107, 108, 109, 110, 111, 112, 113, 114, 115, 116, 117, 118, 119, 120, 121, 122, 123, 124, 125, 126, 127, 128, 129, 130, 140, 141, 142, 143, 144, 145, 146, 147, 148, 149, 131, 132, 133, 134, 138, 139] (by decide +kernel) (by decide +kernel)
set_option maxRecDepth 20000 in
theorem gX8_bridge_X8_brokenInAll : GoodIn wsX8_bridge (wsV RX8 146 RX8 yX8_brokenInAll wsX8_brokenInAll) := goodIn_app (goodIn_of _ (by decide +kernel)) ggX8_bridge_X8_brokenInAll
theorem dX8_bridge_0 : decode cX8_bridge 0 = .ok (.aload_n 0, 1) := by decide +kernel
theorem dX8_bridge_1 : decode cX8_bridge 1 = .ok (.getfield 10, 3) := by decide +kernel
theorem dX8_bridge_4 : decode cX8_bridge 4 = .ok (.getfield 143, 3) := by decide +kernel
theorem dX8_bridge_7 : decode cX8_bridge 7 = .ok (.iload_n 1, 1) := by decide +kernel
theorem dX8_bridge_8 : decode cX8_bridge 8 = .ok (.if_icmp .ne 6, 3) := by decide +kernel
theorem dX8_bridge_11 : decode cX8_bridge 11 = .ok (.bipush (-5), 2) := by decide +kernel
theorem dX8_bridge_13 : decode cX8_bridge 13 = .ok (.ireturn, 1) := by decide +kernel
theorem dX8_bridge_14 : decode cX8_bridge 14 = .ok (.aload_n 0, 1) := by decide +kernel
theorem dX8_bridge_15 : decode cX8_bridge 15 = .ok (.getfield 26, 3) := by decide +kernel
theorem dX8_bridge_18 : decode cX8_bridge 18 = .ok (.aload_n 0, 1) := by decide +kernel
theorem dX8_bridge_19 : decode cX8_bridge 19 = .ok (.getfield 10, 3) := by decide +kernel
theorem dX8_bridge_22 : decode cX8_bridge 22 = .ok (.invokevirtual 69, 3) := by decide +kernel
theorem dX8_bridge_25 : decode cX8_bridge 25 = .ok (.aload_n 0, 1) := by decide +kernel
theorem dX8_bridge_26 : decode cX8_bridge 26 = .ok (.getfield 10, 3) := by decide +kernel
theorem dX8_bridge_29 : decode cX8_bridge 29 = .ok (.iload_n 1, 1) := by decide +kernel
theorem dX8_bridge_30 : decode cX8_bridge 30 = .ok (.putfield 143, 3) := by decide +kernel
theorem dX8_bridge_33 : decode cX8_bridge 33 = .ok (.aload_n 0, 1) := by decide +kernel
theorem dX8_bridge_34 : decode cX8_bridge 34 = .ok (.invokevirtual 146, 3) := by decide +kernel
theorem dX8_bridge_37 : decode cX8_bridge 37 = .ok (.ireturn, 1) := by decide +kernel
set_option maxRecDepth 20000 in
theorem ggX8_type_X7_append : GoodIn wsX8_type wsX7_append := goodIn_r _ [7, 8, 9, 17, 18, 19, 20] (by decide +kernel) (by decide +kernel)
set_option maxRecDepth 20000 in
theorem gX8_type_X7_append : GoodIn wsX8_type (wsV RX8 151 RX7 yX7_append wsX7_append) := goodIn_app (goodIn_of _ (by decide +kernel)) ggX8_type_X7_append
theorem dX8_type_0 : decode cX8_type 0 = .ok (.aload_n 0, 1) := by decide +kernel
theorem dX8_type_1 : decode cX8_type 1 = .ok (.getfield 33, 3) := by decide +kernel
theorem dX8_type_4 : decode cX8_type 4 = .ok (.getfield 150, 3) := by decide +kernel
theorem dX8_type_7 : decode cX8_type 7 = .ok (.bipush 60, 2) := by decide +kernel
theorem dX8_type_9 : decode cX8_type 9 = .ok (.if_icmp .ne 6, 3) := by decide +kernel
theorem dX8_type_12 : decode cX8_type 12 = .ok (.bipush (-3), 2) := by decide +kernel
theorem dX8_type_14 : decode cX8_type 14 = .ok (.ireturn, 1) := by decide +kernel
theorem dX8_type_15 : decode cX8_type 15 = .ok (.aload_n 0, 1) := by decide +kernel
theorem dX8_type_16 : decode cX8_type 16 = .ok (.getfield 33, 3) := by decide +kernel
theorem dX8_type_19 : decode cX8_type 19 = .ok (.iload_n 1, 1) := by decide +kernel
theorem dX8_type_20 : decode cX8_type 20 = .ok (.invokevirtual 151, 3) := by decide +kernel
theorem dX8_type_23 : decode cX8_type 23 = .ok (.aload_n 0, 1) := by decide +kernel
theorem dX8_type_24 : decode cX8_type 24 = .ok (.getfield 33, 3) := by decide +kernel
theorem dX8_type_27 : decode cX8_type 27 = .ok (.getfield 150, 3) := by decide +kernel
theorem dX8_type_30 : decode cX8_type 30 = .ok (.ireturn, 1) := by decide +kernel
theorem dX8_clearText_0 : decode cX8_clearText 0 = .ok (.aload_n 0, 1) := by decide +kernel
theorem dX8_clearText_1 : decode cX8_clearText 1 = .ok (.getfield 33, 3) := by decide +kernel
theorem dX8_clearText_4 : decode cX8_clearText 4 = .ok (.getfield 150, 3) := by decide +kernel
theorem dX8_clearText_7 : decode cX8_clearText 7 = .ok (.istore_n 1, 1) := by decide +kernel
theorem dX8_clearText_8 : decode cX8_clearText 8 = .ok (.aload_n 0, 1) := by decide +kernel
theorem dX8_clearText_9 : decode cX8_clearText 9 = .ok (.getfield 33, 3) := by decide +kernel
theorem dX8_clearText_12 : decode cX8_clearText 12 = .ok (.iconst 0, 1) := by decide +kernel
theorem dX8_clearText_13 : decode cX8_clearText 13 = .ok (.putfield 150, 3) := by decide +kernel
theorem dX8_clearText_16 : decode cX8_clearText 16 = .ok (.iload_n 1, 1) := by decide +kernel
theorem dX8_clearText_17 : decode cX8_clearText 17 = .ok (.ireturn, 1) := by decide +kernel
set_option maxRecDepth 20000 in
theorem ggX8_undo_X2_bringBack : GoodIn wsX8_undo wsX2_bringBack := goodIn_r _ [8, 9, 10, 11, 12, 13, 14, 15, 16, 17, 18, 19, 20, 21, 22, 23, 24, 25, 26, 27, 28, 29, 30, 31, 32, 40, 41, 42, 43, 44, 45, 46, 47, 48] (by decide +kernel) (by decide +kernel)
set_option maxRecDepth 20000 in
theorem gX8_undo_X2_bringBack : GoodIn wsX8_undo (wsV RX8 157 RX2 yX2_bringBack wsX2_bringBack) := goodIn_app (goodIn_of _ (by decide +kernel)) ggX8_undo_X2_bringBack
theorem dX8_undo_0 : decode cX8_undo 0 = .ok (.aload_n 0, 1) := by decide +kernel
theorem dX8_undo_1 : decode cX8_undo 1 = .ok (.getfield 26, 3) := by decide +kernel
theorem dX8_undo_4 : decode cX8_undo 4 = .ok (.getfield 154, 3) := by decide +kernel
theorem dX8_undo_7 : decode cX8_undo 7 = .ok (.ifCond .ne 6, 3) := by decide +kernel
theorem dX8_undo_10 : decode cX8_undo 10 = .ok (.bipush (-5), 2) := by decide +kernel
theorem dX8_undo_12 : decode cX8_undo 12 = .ok (.ireturn, 1) := by decide +kernel
theorem dX8_undo_13 : decode cX8_undo 13 = .ok (.aload_n 0, 1) := by decide +kernel
theorem dX8_undo_14 : decode cX8_undo 14 = .ok (.getfield 26, 3) := by decide +kernel
theorem dX8_undo_17 : decode cX8_undo 17 = .ok (.aload_n 0, 1) := by decide +kernel
theorem dX8_undo_18 : decode cX8_undo 18 = .ok (.getfield 10, 3) := by decide +kernel
theorem dX8_undo_21 : decode cX8_undo 21 = .ok (.invokevirtual 157, 3) := by decide +kernel
theorem dX8_undo_24 : decode cX8_undo 24 = .ok (.aload_n 0, 1) := by decide +kernel
theorem dX8_undo_25 : decode cX8_undo 25 = .ok (.getfield 26, 3) := by decide +kernel
theorem dX8_undo_28 : decode cX8_undo 28 = .ok (.getfield 154, 3) := by decide +kernel
theorem dX8_undo_31 : decode cX8_undo 31 = .ok (.ireturn, 1) := by decide +kernel
set_option maxRecDepth 20000 in
theorem ggX8_keep_X5_copyFrom : GoodIn wsX8_keep wsX5_copyFrom := goodIn_r _ [8, 9, 10, 11, 12, 13, 14, 15, 16, 17, 18, 19, 20, 21, 22, 23, 24, 37, 38, 39, 40, 41, 42] (by decide +kernel) (by decide +kernel)
set_option maxRecDepth 20000 in
theorem gX8_keep_X5_copyFrom : GoodIn wsX8_keep (wsV RX8 160 RX5 yX5_copyFrom wsX5_copyFrom) := goodIn_app (goodIn_of _ (by decide +kernel)) ggX8_keep_X5_copyFrom
set_option maxRecDepth 20000 in
theorem ggX8_keep_X5_manyNumbers : GoodIn wsX8_keep wsX5_manyNumbers := goodIn_r _ [28, 9, 29, 10, 37, 38, 39, 40, 41, 42] (by decide +kernel) (by decide +kernel)
set_option maxRecDepth 20000 in
theorem gX8_keep_X5_manyNumbers : GoodIn wsX8_keep (wsV RX8 163 RX5 yX5_manyNumbers wsX5_manyNumbers) := goodIn_app (goodIn_of _ (by decide +kernel)) ggX8_keep_X5_manyNumbers
theorem dX8_keep_0 : decode cX8_keep 0 = .ok (.aload_n 0, 1) := by decide +kernel
theorem dX8_keep_1 : decode cX8_keep 1 = .ok (.getfield 16, 3) := by decide +kernel
theorem dX8_keep_4 : decode cX8_keep 4 = .ok (.aload_n 0, 1) := by decide +kernel
theorem dX8_keep_5 : decode cX8_keep 5 = .ok (.getfield 10, 3) := by decide +kernel
theorem dX8_keep_8 : decode cX8_keep 8 = .ok (.invokevirtual 160, 3) := by decide +kernel
theorem dX8_keep_11 : decode cX8_keep 11 = .ok (.aload_n 0, 1) := by decide +kernel
theorem dX8_keep_12 : decode cX8_keep 12 = .ok (.iconst 1, 1) := by decide +kernel
theorem dX8_keep_13 : decode cX8_keep 13 = .ok (.putfield 19, 3) := by decide +kernel
theorem dX8_keep_16 : decode cX8_keep 16 = .ok (.aload_n 0, 1) := by decide +kernel
theorem dX8_keep_17 : decode cX8_keep 17 = .ok (.getfield 10, 3) := by decide +kernel
theorem dX8_keep_20 : decode cX8_keep 20 = .ok (.invokevirtual 163, 3) := by decide +kernel
theorem dX8_keep_23 : decode cX8_keep 23 = .ok (.ireturn, 1) := by decide +kernel
set_option maxRecDepth 20000 in
theorem ggX8_restore_X2_remember : GoodIn wsX8_restore wsX2_remember := goodIn_r _ [9, 10, 11, 12, 13, 14, 15, 16, 17, 18, 19, 20, 21, 22, 23, 24, 25, 26, 27, 28, 29, 30, 31, 32, 33, 47, 48, 49, 50, 51, 52, 53, 54, 55] (by decide +kernel) (by decide +kernel)
set_option maxRecDepth 20000 in
theorem gX8_restore_X2_remember : GoodIn wsX8_restore (wsV RX8 69 RX2 yX2_remember wsX2_remember) := goodIn_app (goodIn_of _ (by decide +kernel)) ggX8_restore_X2_remember
set_option maxRecDepth 20000 in
theorem ggX8_restore_X5_copyFrom : GoodIn wsX8_restore wsX5_copyFrom := goodIn_r _ [17, 18, 19, 20, 21, 22, 23, 24, 25, 26, 27, 28, 29, 30, 31, 32, 33, 50, 51, 52, 53, 54, 55] (by decide +kernel) (by decide +kernel)
set_option maxRecDepth 20000 in
theorem gX8_restore_X5_copyFrom : GoodIn wsX8_restore (wsV RX8 160 RX5 yX5_copyFrom wsX5_copyFrom) := goodIn_app (goodIn_of _ (by decide +kernel)) ggX8_restore_X5_copyFrom
set_option maxRecDepth 20000 in
theorem ggX8_restore_X5_manyNumbers : GoodIn wsX8_restore wsX5_manyNumbers := goodIn_r _ [38, 18, 39, 19, 50, 51, 52, 53, 54, 55] (by decide +kernel) (by decide +kernel)
set_option maxRecDepth 20000 in
theorem gX8_restore_X5_manyNumbers : GoodIn wsX8_restore (wsV RX8 163 RX5 yX5_manyNumbers wsX5_manyNumbers) := goodIn_app (goodIn_of _ (by decide +kernel)) ggX8_restore_X5_manyNumbers
theorem dX8_restore_0 : decode cX8_restore 0 = .ok (.aload_n 0, 1) := by decide +kernel
theorem dX8_restore_1 : decode cX8_restore 1 = .ok (.getfield 19, 3) := by decide +kernel
theorem dX8_restore_4 : decode cX8_restore 4 = .ok (.ifCond .ne 6, 3) := by decide +kernel
theorem dX8_restore_7 : decode cX8_restore 7 = .ok (.bipush (-5), 2) := by decide +kernel
theorem dX8_restore_9 : decode cX8_restore 9 = .ok (.ireturn, 1) := by decide +kernel
theorem dX8_restore_10 : decode cX8_restore 10 = .ok (.aload_n 0, 1) := by decide +kernel
theorem dX8_restore_11 : decode cX8_restore 11 = .ok (.getfield 26, 3) := by decide +kernel
theorem dX8_restore_14 : decode cX8_restore 14 = .ok (.aload_n 0, 1) := by decide +kernel
theorem dX8_restore_15 : decode cX8_restore 15 = .ok (.getfield 10, 3) := by decide +kernel
theorem dX8_restore_18 : decode cX8_restore 18 = .ok (.invokevirtual 69, 3) := by decide +kernel
theorem dX8_restore_21 : decode cX8_restore 21 = .ok (.aload_n 0, 1) := by decide +kernel
theorem dX8_restore_22 : decode cX8_restore 22 = .ok (.getfield 10, 3) := by decide +kernel
theorem dX8_restore_25 : decode cX8_restore 25 = .ok (.aload_n 0, 1) := by decide +kernel
theorem dX8_restore_26 : decode cX8_restore 26 = .ok (.getfield 16, 3) := by decide +kernel
theorem dX8_restore_29 : decode cX8_restore 29 = .ok (.invokevirtual 160, 3) := by decide +kernel
theorem dX8_restore_32 : decode cX8_restore 32 = .ok (.aload_n 0, 1) := by decide +kernel
theorem dX8_restore_33 : decode cX8_restore 33 = .ok (.getfield 10, 3) := by decide +kernel
theorem dX8_restore_36 : decode cX8_restore 36 = .ok (.invokevirtual 163, 3) := by decide +kernel
theorem dX8_restore_39 : decode cX8_restore 39 = .ok (.ireturn, 1) := by decide +kernel
set_option maxRecDepth 20000 in
theorem ggX8_number_X8_isRow : GoodIn wsX8_number wsX8_isRow := goodIn_r _ [6] (by decide +kernel) (by decide +kernel)
set_option maxRecDepth 20000 in
theorem gX8_number_X8_isRow : GoodIn wsX8_number (va_wsS RX8 51 yX8_isRow wsX8_isRow) := goodIn_app (goodIn_of _ (by decide +kernel)) ggX8_number_X8_isRow
set_option maxRecDepth 20000 in
theorem ggX8_number_X5_rowAt : GoodIn wsX8_number wsX5_rowAt := goodIn_r _ [11, 12, 13, 33, 34, 35, 36] (by decide +kernel) (by decide +kernel)
set_option maxRecDepth 20000 in
theorem gX8_number_X5_rowAt : GoodIn wsX8_number (wsV RX8 61 RX5 yX5_rowAt wsX5_rowAt) := goodIn_app (goodIn_of _ (by decide +kernel)) ggX8_number_X5_rowAt
set_option maxRecDepth 20000 in
theorem ggX8_number_X4_hasPlace : GoodIn wsX8_number wsX4_hasPlace := goodIn_r _ [18, 19, 31, 32] (by decide +kernel) (by decide +kernel)
set_option maxRecDepth 20000 in
theorem gX8_number_X4_hasPlace : GoodIn wsX8_number (wsV RX8 81 RX4 yX4_hasPlace wsX4_hasPlace) := goodIn_app (goodIn_of _ (by decide +kernel)) ggX8_number_X4_hasPlace
set_option maxRecDepth 20000 in
theorem ggX8_number_X8_noNumber : GoodIn wsX8_number wsX8_noNumber := goodIn_r _ [22, 23] (by decide +kernel) (by decide +kernel)
set_option maxRecDepth 20000 in
theorem gX8_number_X8_noNumber : GoodIn wsX8_number (va_wsS RX8 166 yX8_noNumber wsX8_noNumber) := goodIn_app (goodIn_of _ (by decide +kernel)) ggX8_number_X8_noNumber
theorem dX8_number_0 : decode cX8_number 0 = .ok (.iload_n 1, 1) := by decide +kernel
theorem dX8_number_1 : decode cX8_number 1 = .ok (.invokestatic 51, 3) := by decide +kernel
theorem dX8_number_4 : decode cX8_number 4 = .ok (.ifCond .eq 18, 3) := by decide +kernel
theorem dX8_number_7 : decode cX8_number 7 = .ok (.aload_n 0, 1) := by decide +kernel
theorem dX8_number_8 : decode cX8_number 8 = .ok (.getfield 10, 3) := by decide +kernel
theorem dX8_number_11 : decode cX8_number 11 = .ok (.iload_n 1, 1) := by decide +kernel
theorem dX8_number_12 : decode cX8_number 12 = .ok (.invokevirtual 61, 3) := by decide +kernel
theorem dX8_number_15 : decode cX8_number 15 = .ok (.iload_n 2, 1) := by decide +kernel
theorem dX8_number_16 : decode cX8_number 16 = .ok (.invokevirtual 81, 3) := by decide +kernel
theorem dX8_number_19 : decode cX8_number 19 = .ok (.ifCond .ne 7, 3) := by decide +kernel
theorem dX8_number_22 : decode cX8_number 22 = .ok (.invokestatic 166, 3) := by decide +kernel
theorem dX8_number_25 : decode cX8_number 25 = .ok (.dreturn, 1) := by decide +kernel
theorem dX8_number_26 : decode cX8_number 26 = .ok (.aload_n 0, 1) := by decide +kernel
theorem dX8_number_27 : decode cX8_number 27 = .ok (.getfield 10, 3) := by decide +kernel
theorem dX8_number_30 : decode cX8_number 30 = .ok (.iload_n 1, 1) := by decide +kernel
theorem dX8_number_31 : decode cX8_number 31 = .ok (.invokevirtual 61, 3) := by decide +kernel
theorem dX8_number_34 : decode cX8_number 34 = .ok (.getfield 84, 3) := by decide +kernel
theorem dX8_number_37 : decode cX8_number 37 = .ok (.iload_n 2, 1) := by decide +kernel
theorem dX8_number_38 : decode cX8_number 38 = .ok (.daload, 1) := by decide +kernel
theorem dX8_number_39 : decode cX8_number 39 = .ok (.dreturn, 1) := by decide +kernel
set_option maxRecDepth 20000 in
theorem ggX8_entry_X8_isTable : GoodIn wsX8_entry wsX8_isTable := goodIn_r _ [6, 7, 8, 5, 9] (by decide +kernel) (by decide +kernel)
set_option maxRecDepth 20000 in
theorem gX8_entry_X8_isTable : GoodIn wsX8_entry (va_wsS RX8 118 yX8_isTable wsX8_isTable) := goodIn_app (goodIn_of _ (by decide +kernel)) ggX8_entry_X8_isTable
set_option maxRecDepth 20000 in
theorem ggX8_entry_X8_noNumber : GoodIn wsX8_entry wsX8_noNumber := goodIn_r _ [12, 13] (by decide +kernel) (by decide +kernel)
set_option maxRecDepth 20000 in
theorem gX8_entry_X8_noNumber : GoodIn wsX8_entry (va_wsS RX8 166 yX8_noNumber wsX8_noNumber) := goodIn_app (goodIn_of _ (by decide +kernel)) ggX8_entry_X8_noNumber
set_option maxRecDepth 20000 in
theorem ggX8_entry_X1_build : GoodIn wsX8_entry wsX1_build := goodIn_r _ [18, 19, 20, 21, 22, 23, 24, 25, 26, 27, 28, 29, 30, 31, 32, 33, 34, 35, 36, 37, 17, 38, 39, 40, 41, 42, 43, 44, 45, 46, 47, 48, 49, 50, 51, 52, 53, 54, 55, 56, 57, 58, 59, 60, 61, 62, 63, 64, 65, 66, 67, 68, 69, 70, 71, 72, 73, 74, 75, 76, 77, 78, 79, 80, 81, 82, 83, 84, 85, 109, 110, 111, 112, 113, 114, 115, 116, 117, 118, 119, 120, 121, 122, 123, 124] (by decide +kernel) (by decide +kernel)
set_option maxRecDepth 20000 in
theorem gX8_entry_X1_build : GoodIn wsX8_entry (wsV RX8 122 RX1 yX1_build wsX1_build) := goodIn_app (goodIn_of _ (by decide +kernel)) ggX8_entry_X1_build
set_option maxRecDepth 20000 in
theorem ggX8_entry_X1_hasEntry : GoodIn wsX8_entry wsX1_hasEntry := goodIn_r _ [89, 26, 41, 42, 43, 17, 44, 19, 109, 110, 111, 112, 113, 114, 115, 116, 117, 118] (by decide +kernel) (by decide +kernel)
set_option maxRecDepth 20000 in
theorem gX8_entry_X1_hasEntry : GoodIn wsX8_entry (wsV RX8 170 RX1 yX1_hasEntry wsX1_hasEntry) := goodIn_app (goodIn_of _ (by decide +kernel)) ggX8_entry_X1_hasEntry
set_option maxRecDepth 20000 in
theorem ggX8_entry_X1_isBroken : GoodIn wsX8_entry wsX1_isBroken := goodIn_r _ [93, 94, 95, 96, 17, 97, 40, 109, 110, 111, 112, 113, 114, 115, 116, 117, 118] (by decide +kernel) (by decide +kernel)
set_option maxRecDepth 20000 in
theorem gX8_entry_X1_isBroken : GoodIn wsX8_entry (wsV RX8 173 RX1 yX1_isBroken wsX1_isBroken) := goodIn_app (goodIn_of _ (by decide +kernel)) ggX8_entry_X1_isBroken
set_option maxRecDepth 20000 in
theorem ggX8_entry_X1_valueAt : GoodIn wsX8_entry wsX1_valueAt := goodIn_r _ [101, 39, 109, 110, 111, 112, 113, 114, 115, 116, 117, 118] (by decide +kernel) (by decide +kernel)
set_option maxRecDepth 20000 in
theorem gX8_entry_X1_valueAt : GoodIn wsX8_entry (wsV RX8 176 RX1 yX1_valueAt wsX1_valueAt) := goodIn_app (goodIn_of _ (by decide +kernel)) ggX8_entry_X1_valueAt
theorem dX8_entry_0 : decode cX8_entry 0 = .ok (.iload_n 1, 1) := by decide +kernel
theorem dX8_entry_1 : decode cX8_entry 1 = .ok (.iload_n 2, 1) := by decide +kernel
theorem dX8_entry_2 : decode cX8_entry 2 = .ok (.invokestatic 118, 3) := by decide +kernel
theorem dX8_entry_5 : decode cX8_entry 5 = .ok (.ifCond .ne 7, 3) := by decide +kernel
theorem dX8_entry_8 : decode cX8_entry 8 = .ok (.invokestatic 166, 3) := by decide +kernel
theorem dX8_entry_11 : decode cX8_entry 11 = .ok (.dreturn, 1) := by decide +kernel
theorem dX8_entry_12 : decode cX8_entry 12 = .ok (.aload_n 0, 1) := by decide +kernel
theorem dX8_entry_13 : decode cX8_entry 13 = .ok (.getfield 40, 3) := by decide +kernel
theorem dX8_entry_16 : decode cX8_entry 16 = .ok (.aload_n 0, 1) := by decide +kernel
theorem dX8_entry_17 : decode cX8_entry 17 = .ok (.getfield 10, 3) := by decide +kernel
theorem dX8_entry_20 : decode cX8_entry 20 = .ok (.iload_n 1, 1) := by decide +kernel
theorem dX8_entry_21 : decode cX8_entry 21 = .ok (.iload_n 2, 1) := by decide +kernel
theorem dX8_entry_22 : decode cX8_entry 22 = .ok (.invokevirtual 122, 3) := by decide +kernel
theorem dX8_entry_25 : decode cX8_entry 25 = .ok (.aload_n 0, 1) := by decide +kernel
theorem dX8_entry_26 : decode cX8_entry 26 = .ok (.getfield 40, 3) := by decide +kernel
theorem dX8_entry_29 : decode cX8_entry 29 = .ok (.iload_n 3, 1) := by decide +kernel
theorem dX8_entry_30 : decode cX8_entry 30 = .ok (.iload 4, 2) := by decide +kernel
theorem dX8_entry_32 : decode cX8_entry 32 = .ok (.invokevirtual 170, 3) := by decide +kernel
theorem dX8_entry_35 : decode cX8_entry 35 = .ok (.ifCond .eq 16, 3) := by decide +kernel
theorem dX8_entry_38 : decode cX8_entry 38 = .ok (.aload_n 0, 1) := by decide +kernel
theorem dX8_entry_39 : decode cX8_entry 39 = .ok (.getfield 40, 3) := by decide +kernel
theorem dX8_entry_42 : decode cX8_entry 42 = .ok (.iload_n 3, 1) := by decide +kernel
theorem dX8_entry_43 : decode cX8_entry 43 = .ok (.iload 4, 2) := by decide +kernel
theorem dX8_entry_45 : decode cX8_entry 45 = .ok (.invokevirtual 173, 3) := by decide +kernel
theorem dX8_entry_48 : decode cX8_entry 48 = .ok (.ifCond .eq 7, 3) := by decide +kernel
theorem dX8_entry_51 : decode cX8_entry 51 = .ok (.invokestatic 166, 3) := by decide +kernel
theorem dX8_entry_54 : decode cX8_entry 54 = .ok (.dreturn, 1) := by decide +kernel
theorem dX8_entry_55 : decode cX8_entry 55 = .ok (.aload_n 0, 1) := by decide +kernel
theorem dX8_entry_56 : decode cX8_entry 56 = .ok (.getfield 40, 3) := by decide +kernel
theorem dX8_entry_59 : decode cX8_entry 59 = .ok (.iload_n 3, 1) := by decide +kernel
theorem dX8_entry_60 : decode cX8_entry 60 = .ok (.iload 4, 2) := by decide +kernel
theorem dX8_entry_62 : decode cX8_entry 62 = .ok (.invokevirtual 176, 3) := by decide +kernel
theorem dX8_entry_65 : decode cX8_entry 65 = .ok (.dreturn, 1) := by decide +kernel
set_option maxRecDepth 20000 in
theorem ggX8_kind_X8_isTable : GoodIn wsX8_kind wsX8_isTable := goodIn_r _ [6, 7, 8, 5, 9] (by decide +kernel) (by decide +kernel)
set_option maxRecDepth 20000 in
theorem gX8_kind_X8_isTable : GoodIn wsX8_kind (va_wsS RX8 118 yX8_isTable wsX8_isTable) := goodIn_app (goodIn_of _ (by decide +kernel)) ggX8_kind_X8_isTable
set_option maxRecDepth 20000 in
theorem ggX8_kind_X1_build : GoodIn wsX8_kind wsX1_build := goodIn_r _ [14, 15, 16, 17, 18, 19, 20, 21, 22, 23, 24, 25, 26, 27, 28, 29, 30, 31, 32, 33, 13, 34, 35, 36, 37, 38, 39, 40, 41, 42, 43, 44, 45, 46, 47, 48, 49, 50, 51, 52, 53, 54, 55, 56, 57, 58, 59, 60, 61, 62, 63, 64, 65, 66, 67, 68, 69, 70, 71, 72, 73, 74, 75, 76, 77, 78, 79, 80, 81, 97, 98, 99, 100, 101, 102, 103, 104, 105, 106, 107, 108, 109, 110, 111, 112] (by decide +kernel) (by decide +kernel)
set_option maxRecDepth 20000 in
theorem gX8_kind_X1_build : GoodIn wsX8_kind (wsV RX8 122 RX1 yX1_build wsX1_build) := goodIn_app (goodIn_of _ (by decide +kernel)) ggX8_kind_X1_build
set_option maxRecDepth 20000 in
theorem ggX8_kind_X1_hasEntry : GoodIn wsX8_kind wsX1_hasEntry := goodIn_r _ [85, 22, 37, 38, 39, 13, 40, 15, 97, 98, 99, 100, 101, 102, 103, 104, 105, 106] (by decide +kernel) (by decide +kernel)
set_option maxRecDepth 20000 in
theorem gX8_kind_X1_hasEntry : GoodIn wsX8_kind (wsV RX8 170 RX1 yX1_hasEntry wsX1_hasEntry) := goodIn_app (goodIn_of _ (by decide +kernel)) ggX8_kind_X1_hasEntry
set_option maxRecDepth 20000 in
theorem ggX8_kind_X1_kindAt : GoodIn wsX8_kind wsX1_kindAt := goodIn_r _ [89, 36, 97, 98, 99, 100, 101, 102, 103, 104, 105, 106] (by decide +kernel) (by decide +kernel)
set_option maxRecDepth 20000 in
theorem gX8_kind_X1_kindAt : GoodIn wsX8_kind (wsV RX8 180 RX1 yX1_kindAt wsX1_kindAt) := goodIn_app (goodIn_of _ (by decide +kernel)) ggX8_kind_X1_kindAt
theorem dX8_kind_0 : decode cX8_kind 0 = .ok (.iload_n 1, 1) := by decide +kernel
theorem dX8_kind_1 : decode cX8_kind 1 = .ok (.iload_n 2, 1) := by decide +kernel
theorem dX8_kind_2 : decode cX8_kind 2 = .ok (.invokestatic 118, 3) := by decide +kernel
theorem dX8_kind_5 : decode cX8_kind 5 = .ok (.ifCond .ne 5, 3) := by decide +kernel
theorem dX8_kind_8 : decode cX8_kind 8 = .ok (.iconst (-1), 1) := by decide +kernel
theorem dX8_kind_9 : decode cX8_kind 9 = .ok (.ireturn, 1) := by decide +kernel
theorem dX8_kind_10 : decode cX8_kind 10 = .ok (.aload_n 0, 1) := by decide +kernel
theorem dX8_kind_11 : decode cX8_kind 11 = .ok (.getfield 40, 3) := by decide +kernel
theorem dX8_kind_14 : decode cX8_kind 14 = .ok (.aload_n 0, 1) := by decide +kernel
theorem dX8_kind_15 : decode cX8_kind 15 = .ok (.getfield 10, 3) := by decide +kernel
theorem dX8_kind_18 : decode cX8_kind 18 = .ok (.iload_n 1, 1) := by decide +kernel
theorem dX8_kind_19 : decode cX8_kind 19 = .ok (.iload_n 2, 1) := by decide +kernel
theorem dX8_kind_20 : decode cX8_kind 20 = .ok (.invokevirtual 122, 3) := by decide +kernel
theorem dX8_kind_23 : decode cX8_kind 23 = .ok (.aload_n 0, 1) := by decide +kernel
theorem dX8_kind_24 : decode cX8_kind 24 = .ok (.getfield 40, 3) := by decide +kernel
theorem dX8_kind_27 : decode cX8_kind 27 = .ok (.iload_n 3, 1) := by decide +kernel
theorem dX8_kind_28 : decode cX8_kind 28 = .ok (.iload 4, 2) := by decide +kernel
theorem dX8_kind_30 : decode cX8_kind 30 = .ok (.invokevirtual 170, 3) := by decide +kernel
theorem dX8_kind_33 : decode cX8_kind 33 = .ok (.ifCond .ne 6, 3) := by decide +kernel
theorem dX8_kind_36 : decode cX8_kind 36 = .ok (.bipush (-5), 2) := by decide +kernel
theorem dX8_kind_38 : decode cX8_kind 38 = .ok (.ireturn, 1) := by decide +kernel
theorem dX8_kind_39 : decode cX8_kind 39 = .ok (.aload_n 0, 1) := by decide +kernel
theorem dX8_kind_40 : decode cX8_kind 40 = .ok (.getfield 40, 3) := by decide +kernel
theorem dX8_kind_43 : decode cX8_kind 43 = .ok (.iload_n 3, 1) := by decide +kernel
theorem dX8_kind_44 : decode cX8_kind 44 = .ok (.iload 4, 2) := by decide +kernel
theorem dX8_kind_46 : decode cX8_kind 46 = .ok (.invokevirtual 180, 3) := by decide +kernel
theorem dX8_kind_49 : decode cX8_kind 49 = .ok (.ireturn, 1) := by decide +kernel
set_option maxRecDepth 20000 in
theorem ggX8_table_X8_isTable : GoodIn wsX8_table wsX8_isTable := goodIn_r _ [8, 9, 10, 7, 11] (by decide +kernel) (by decide +kernel)
set_option maxRecDepth 20000 in
theorem gX8_table_X8_isTable : GoodIn wsX8_table (va_wsS RX8 118 yX8_isTable wsX8_isTable) := goodIn_app (goodIn_of _ (by decide +kernel)) ggX8_table_X8_isTable
set_option maxRecDepth 20000 in
theorem ggX8_table_X1_build : GoodIn wsX8_table wsX1_build := goodIn_r _ [16, 17, 18, 19, 20, 21, 22, 23, 24, 25, 26, 27, 28, 29, 30, 31, 32, 33, 34, 35, 15, 36, 37, 38, 39, 40, 41, 42, 43, 44, 45, 46, 47, 48, 49, 50, 51, 52, 53, 54, 55, 56, 57, 58, 59, 60, 61, 62, 63, 64, 65, 66, 67, 68, 69, 70, 71, 72, 73, 74, 75, 76, 77, 78, 79, 80, 81, 82, 83, 138, 139, 140, 141, 142, 143, 144, 145, 146, 147, 148, 149, 150, 151, 152, 153] (by decide +kernel) (by decide +kernel)
set_option maxRecDepth 20000 in
theorem gX8_table_X1_build : GoodIn wsX8_table (wsV RX8 122 RX1 yX1_build wsX1_build) := goodIn_app (goodIn_of _ (by decide +kernel)) ggX8_table_X1_build
set_option maxRecDepth 20000 in
theorem ggX8_table_X1_manyColumns : GoodIn wsX8_table wsX1_manyColumns := goodIn_r _ [87, 24, 39, 40, 41, 15, 42, 17, 138, 139, 140, 141, 142, 143, 144, 145, 146, 147] (by decide +kernel) (by decide +kernel)
set_option maxRecDepth 20000 in
theorem gX8_table_X1_manyColumns : GoodIn wsX8_table (wsV RX8 184 RX1 yX1_manyColumns wsX1_manyColumns) := goodIn_app (goodIn_of _ (by decide +kernel)) ggX8_table_X1_manyColumns
set_option maxRecDepth 20000 in
theorem ggX8_table_X1_manyBroken : GoodIn wsX8_table wsX1_manyBroken := goodIn_r _ [91, 92, 93, 94, 15, 95, 96, 97, 98, 99, 24, 39, 40, 41, 42, 17, 100, 101, 102, 103, 38, 138, 139, 140, 141, 142, 143, 144, 145, 146, 147] (by decide +kernel) (by decide +kernel)
set_option maxRecDepth 20000 in
theorem gX8_table_X1_manyBroken : GoodIn wsX8_table (wsV RX8 187 RX1 yX1_manyBroken wsX1_manyBroken) := goodIn_app (goodIn_of _ (by decide +kernel)) ggX8_table_X1_manyBroken
set_option maxRecDepth 20000 in
theorem ggX8_table_X1_manyBridged : GoodIn wsX8_table wsX1_manyBridged := goodIn_r _ [107, 92, 93, 94, 15, 95, 96, 97, 98, 99, 24, 39, 40, 41, 42, 17, 100, 101, 102, 103, 38, 138, 139, 140, 141, 142, 143, 144, 145, 146, 147] (by decide +kernel) (by decide +kernel)
set_option maxRecDepth 20000 in
theorem gX8_table_X1_manyBridged : GoodIn wsX8_table (wsV RX8 190 RX1 yX1_manyBridged wsX1_manyBridged) := goodIn_app (goodIn_of _ (by decide +kernel)) ggX8_table_X1_manyBridged
set_option maxRecDepth 20000 in
theorem ggX8_table_X1_lowestBroken : GoodIn wsX8_table wsX1_lowestBroken := goodIn_r _ [111, 96, 97, 98, 15, 99, 24, 39, 40, 41, 42, 17, 100, 101, 102, 103, 38, 138, 139, 140, 141, 142, 143, 144, 145, 146, 147] (by decide +kernel) (by decide +kernel)
set_option maxRecDepth 20000 in
theorem gX8_table_X1_lowestBroken : GoodIn wsX8_table (wsV RX8 193 RX1 yX1_lowestBroken wsX1_lowestBroken) := goodIn_app (goodIn_of _ (by decide +kernel)) ggX8_table_X1_lowestBroken
set_option maxRecDepth 20000 in
theorem ggX8_table_X1_seekGuess : GoodIn wsX8_table wsX1_seekGuess := goodIn_r _ [115, 17, 116, 117, 37, 118, 119, 120, 121, 15, 122, 39, 40, 41, 42, 123, 124, 125, 126, 100, 101, 102, 103, 38, 127, 128, 129, 130, 65, 66, 57, 67, 138, 139, 140, 141, 142, 143, 144, 145, 146, 147] (by decide +kernel) (by decide +kernel)
set_option maxRecDepth 20000 in
theorem gX8_table_X1_seekGuess : GoodIn wsX8_table (wsV RX8 197 RX1 yX1_seekGuess wsX1_seekGuess) := goodIn_app (goodIn_of _ (by decide +kernel)) ggX8_table_X1_seekGuess
theorem dX8_table_0 : decode cX8_table 0 = .ok (.iload_n 1, 1) := by decide +kernel
theorem dX8_table_1 : decode cX8_table 1 = .ok (.iload_n 2, 1) := by decide +kernel
theorem dX8_table_2 : decode cX8_table 2 = .ok (.invokestatic 118, 3) := by decide +kernel
theorem dX8_table_5 : decode cX8_table 5 = .ok (.ifCond .ne 5, 3) := by decide +kernel
theorem dX8_table_8 : decode cX8_table 8 = .ok (.iconst (-1), 1) := by decide +kernel
theorem dX8_table_9 : decode cX8_table 9 = .ok (.ireturn, 1) := by decide +kernel
theorem dX8_table_10 : decode cX8_table 10 = .ok (.iload_n 3, 1) := by decide +kernel
theorem dX8_table_11 : decode cX8_table 11 = .ok (.ifCond .lt 8, 3) := by decide +kernel
theorem dX8_table_14 : decode cX8_table 14 = .ok (.iload_n 3, 1) := by decide +kernel
theorem dX8_table_15 : decode cX8_table 15 = .ok (.iconst 4, 1) := by decide +kernel
theorem dX8_table_16 : decode cX8_table 16 = .ok (.if_icmp .le 6, 3) := by decide +kernel
theorem dX8_table_19 : decode cX8_table 19 = .ok (.bipush (-2), 2) := by decide +kernel
theorem dX8_table_21 : decode cX8_table 21 = .ok (.ireturn, 1) := by decide +kernel
theorem dX8_table_22 : decode cX8_table 22 = .ok (.aload_n 0, 1) := by decide +kernel
theorem dX8_table_23 : decode cX8_table 23 = .ok (.getfield 40, 3) := by decide +kernel
theorem dX8_table_26 : decode cX8_table 26 = .ok (.aload_n 0, 1) := by decide +kernel
theorem dX8_table_27 : decode cX8_table 27 = .ok (.getfield 10, 3) := by decide +kernel
theorem dX8_table_30 : decode cX8_table 30 = .ok (.iload_n 1, 1) := by decide +kernel
theorem dX8_table_31 : decode cX8_table 31 = .ok (.iload_n 2, 1) := by decide +kernel
theorem dX8_table_32 : decode cX8_table 32 = .ok (.invokevirtual 122, 3) := by decide +kernel
theorem dX8_table_35 : decode cX8_table 35 = .ok (.iload_n 3, 1) := by decide +kernel
theorem dX8_table_36 : decode cX8_table 36 = .ok (.tableswitch 64 0 3 #[32, 40, 48, 56], 32) := by decide +kernel
theorem dX8_table_68 : decode cX8_table 68 = .ok (.aload_n 0, 1) := by decide +kernel
theorem dX8_table_69 : decode cX8_table 69 = .ok (.getfield 40, 3) := by decide +kernel
theorem dX8_table_72 : decode cX8_table 72 = .ok (.invokevirtual 184, 3) := by decide +kernel
theorem dX8_table_75 : decode cX8_table 75 = .ok (.ireturn, 1) := by decide +kernel
theorem dX8_table_76 : decode cX8_table 76 = .ok (.aload_n 0, 1) := by decide +kernel
theorem dX8_table_77 : decode cX8_table 77 = .ok (.getfield 40, 3) := by decide +kernel
theorem dX8_table_80 : decode cX8_table 80 = .ok (.invokevirtual 187, 3) := by decide +kernel
theorem dX8_table_83 : decode cX8_table 83 = .ok (.ireturn, 1) := by decide +kernel
theorem dX8_table_84 : decode cX8_table 84 = .ok (.aload_n 0, 1) := by decide +kernel
theorem dX8_table_85 : decode cX8_table 85 = .ok (.getfield 40, 3) := by decide +kernel
theorem dX8_table_88 : decode cX8_table 88 = .ok (.invokevirtual 190, 3) := by decide +kernel
theorem dX8_table_91 : decode cX8_table 91 = .ok (.ireturn, 1) := by decide +kernel
theorem dX8_table_92 : decode cX8_table 92 = .ok (.aload_n 0, 1) := by decide +kernel
theorem dX8_table_93 : decode cX8_table 93 = .ok (.getfield 40, 3) := by decide +kernel
theorem dX8_table_96 : decode cX8_table 96 = .ok (.invokevirtual 193, 3) := by decide +kernel
theorem dX8_table_99 : decode cX8_table 99 = .ok (.ireturn, 1) := by decide +kernel
theorem dX8_table_100 : decode cX8_table 100 = .ok (.aload_n 0, 1) := by decide +kernel
theorem dX8_table_101 : decode cX8_table 101 = .ok (.getfield 40, 3) := by decide +kernel
theorem dX8_table_104 : decode cX8_table 104 = .ok (.aload_n 0, 1) := by decide +kernel
theorem dX8_table_105 : decode cX8_table 105 = .ok (.getfield 40, 3) := by decide +kernel
theorem dX8_table_108 : decode cX8_table 108 = .ok (.getfield 196, 3) := by decide +kernel
theorem dX8_table_111 : decode cX8_table 111 = .ok (.invokevirtual 197, 3) := by decide +kernel
theorem dX8_table_114 : decode cX8_table 114 = .ok (.ifCond .eq 13, 3) := by decide +kernel
theorem dX8_table_117 : decode cX8_table 117 = .ok (.aload_n 0, 1) := by decide +kernel
theorem dX8_table_118 : decode cX8_table 118 = .ok (.getfield 40, 3) := by decide +kernel
theorem dX8_table_121 : decode cX8_table 121 = .ok (.getfield 200, 3) := by decide +kernel
theorem dX8_table_124 : decode cX8_table 124 = .ok (.goto 5, 3) := by decide +kernel
theorem dX8_table_127 : decode cX8_table 127 = .ok (.bipush (-5), 2) := by decide +kernel
theorem dX8_table_129 : decode cX8_table 129 = .ok (.ireturn, 1) := by decide +kernel
set_option maxRecDepth 20000 in
theorem ggX8_guess_X8_isTable : GoodIn wsX8_guess wsX8_isTable := goodIn_r _ [6, 7, 8, 5, 9] (by decide +kernel) (by decide +kernel)
set_option maxRecDepth 20000 in
theorem gX8_guess_X8_isTable : GoodIn wsX8_guess (va_wsS RX8 118 yX8_isTable wsX8_isTable) := goodIn_app (goodIn_of _ (by decide +kernel)) ggX8_guess_X8_isTable
set_option maxRecDepth 20000 in
theorem ggX8_guess_X5_rowAt : GoodIn wsX8_guess wsX5_rowAt := goodIn_r _ [14, 15, 16, 126, 127, 128, 129] (by decide +kernel) (by decide +kernel)
set_option maxRecDepth 20000 in
theorem gX8_guess_X5_rowAt : GoodIn wsX8_guess (wsV RX8 61 RX5 yX5_rowAt wsX5_rowAt) := goodIn_app (goodIn_of _ (by decide +kernel)) ggX8_guess_X5_rowAt
set_option maxRecDepth 20000 in
theorem ggX8_guess_X8_noNumber : GoodIn wsX8_guess wsX8_noNumber := goodIn_r _ [19, 20] (by decide +kernel) (by decide +kernel)
set_option maxRecDepth 20000 in
theorem gX8_guess_X8_noNumber : GoodIn wsX8_guess (va_wsS RX8 166 yX8_noNumber wsX8_noNumber) := goodIn_app (goodIn_of _ (by decide +kernel)) ggX8_guess_X8_noNumber
set_option maxRecDepth 20000 in
theorem ggX8_guess_X8_guessOf : GoodIn wsX8_guess wsX8_guessOf := goodIn_r _ [24, 25, 1, 26, 27, 28, 29, 30, 31, 32, 33, 34, 35, 36, 37, 38, 39, 40, 41, 42, 11, 12, 13, 14, 15, 16, 43, 44, 45, 46, 47, 48, 49, 50, 51, 52, 53, 54, 55, 56, 57, 58, 59, 60, 61, 62, 63, 64, 65, 66, 67, 68, 69, 70, 71, 72, 73, 74, 75, 76, 77, 78, 79, 80, 81, 82, 83, 84, 85, 86, 87, 88, 89, 90, 91, 92, 93, 94, 95, 96, 97, 98, 99, 100, 101, 102, 103, 104, 105, 106, 107, 108, 109, 110, 111, 112, 113, 114, 115, 116, 117, 118, 119, 120, 121, 122, 123, 130, 131, 132, 133, 134, 135, 136, 137, 138, 139, 126, 127, 128, 129, 124, 125] (by decide +kernel) (by decide +kernel)
set_option maxRecDepth 20000 in
theorem gX8_guess_X8_guessOf : GoodIn wsX8_guess (wsV RX8 203 RX8 yX8_guessOf wsX8_guessOf) := goodIn_app (goodIn_of _ (by decide +kernel)) ggX8_guess_X8_guessOf
theorem dX8_guess_0 : decode cX8_guess 0 = .ok (.iload_n 1, 1) := by decide +kernel
theorem dX8_guess_1 : decode cX8_guess 1 = .ok (.iload_n 2, 1) := by decide +kernel
theorem dX8_guess_2 : decode cX8_guess 2 = .ok (.invokestatic 118, 3) := by decide +kernel
theorem dX8_guess_5 : decode cX8_guess 5 = .ok (.ifCond .eq 17, 3) := by decide +kernel
theorem dX8_guess_8 : decode cX8_guess 8 = .ok (.aload_n 0, 1) := by decide +kernel
theorem dX8_guess_9 : decode cX8_guess 9 = .ok (.getfield 10, 3) := by decide +kernel
theorem dX8_guess_12 : decode cX8_guess 12 = .ok (.iload_n 1, 1) := by decide +kernel
theorem dX8_guess_13 : decode cX8_guess 13 = .ok (.invokevirtual 61, 3) := by decide +kernel
theorem dX8_guess_16 : decode cX8_guess 16 = .ok (.getfield 65, 3) := by decide +kernel
theorem dX8_guess_19 : decode cX8_guess 19 = .ok (.ifCond .ne 7, 3) := by decide +kernel
theorem dX8_guess_22 : decode cX8_guess 22 = .ok (.invokestatic 166, 3) := by decide +kernel
theorem dX8_guess_25 : decode cX8_guess 25 = .ok (.dreturn, 1) := by decide +kernel
theorem dX8_guess_26 : decode cX8_guess 26 = .ok (.aload_n 0, 1) := by decide +kernel
theorem dX8_guess_27 : decode cX8_guess 27 = .ok (.iload_n 1, 1) := by decide +kernel
theorem dX8_guess_28 : decode cX8_guess 28 = .ok (.iload_n 2, 1) := by decide +kernel
theorem dX8_guess_29 : decode cX8_guess 29 = .ok (.invokevirtual 203, 3) := by decide +kernel
theorem dX8_guess_32 : decode cX8_guess 32 = .ok (.dreturn, 1) := by decide +kernel
set_option maxRecDepth 20000 in
theorem ggX8_error_X8_isTable : GoodIn wsX8_error wsX8_isTable := goodIn_r _ [8, 9, 10, 7, 11] (by decide +kernel) (by decide +kernel)
set_option maxRecDepth 20000 in
theorem gX8_error_X8_isTable : GoodIn wsX8_error (va_wsS RX8 118 yX8_isTable wsX8_isTable) := goodIn_app (goodIn_of _ (by decide +kernel)) ggX8_error_X8_isTable
set_option maxRecDepth 20000 in
theorem ggX8_error_X8_noNumber : GoodIn wsX8_error wsX8_noNumber := goodIn_r _ [14, 15] (by decide +kernel) (by decide +kernel)
set_option maxRecDepth 20000 in
theorem gX8_error_X8_noNumber : GoodIn wsX8_error (va_wsS RX8 166 yX8_noNumber wsX8_noNumber) := goodIn_app (goodIn_of _ (by decide +kernel)) ggX8_error_X8_noNumber
set_option maxRecDepth 20000 in
theorem ggX8_error_X1_build : GoodIn wsX8_error wsX1_build := goodIn_r _ [20, 21, 22, 23, 24, 25, 26, 27, 28, 29, 30, 31, 32, 33, 34, 35, 36, 37, 38, 39, 19, 40, 41, 42, 43, 44, 45, 46, 47, 48, 49, 50, 51, 52, 53, 54, 55, 56, 57, 58, 59, 60, 61, 62, 63, 64, 65, 66, 67, 68, 69, 70, 71, 72, 73, 74, 75, 76, 77, 78, 79, 80, 81, 82, 83, 84, 85, 86, 87, 118, 119, 120, 121, 122, 123, 124, 125, 126, 127, 128, 129, 130, 131, 132, 133] (by decide +kernel) (by decide +kernel)
set_option maxRecDepth 20000 in
theorem gX8_error_X1_build : GoodIn wsX8_error (wsV RX8 122 RX1 yX1_build wsX1_build) := goodIn_app (goodIn_of _ (by decide +kernel)) ggX8_error_X1_build
set_option maxRecDepth 20000 in
theorem ggX8_error_X1_seekGuess : GoodIn wsX8_error wsX1_seekGuess := goodIn_r _ [91, 21, 92, 93, 41, 94, 95, 96, 97, 19, 98, 43, 44, 45, 46, 99, 100, 101, 102, 103, 104, 105, 106, 42, 107, 108, 109, 110, 69, 70, 61, 71, 118, 119, 120, 121, 122, 123, 124, 125, 126, 127] (by decide +kernel) (by decide +kernel)
set_option maxRecDepth 20000 in
theorem gX8_error_X1_seekGuess : GoodIn wsX8_error (wsV RX8 197 RX1 yX1_seekGuess wsX1_seekGuess) := goodIn_app (goodIn_of _ (by decide +kernel)) ggX8_error_X1_seekGuess
theorem dX8_error_0 : decode cX8_error 0 = .ok (.iload_n 1, 1) := by decide +kernel
theorem dX8_error_1 : decode cX8_error 1 = .ok (.iload_n 2, 1) := by decide +kernel
theorem dX8_error_2 : decode cX8_error 2 = .ok (.invokestatic 118, 3) := by decide +kernel
theorem dX8_error_5 : decode cX8_error 5 = .ok (.ifCond .ne 7, 3) := by decide +kernel
theorem dX8_error_8 : decode cX8_error 8 = .ok (.invokestatic 166, 3) := by decide +kernel
theorem dX8_error_11 : decode cX8_error 11 = .ok (.dreturn, 1) := by decide +kernel
theorem dX8_error_12 : decode cX8_error 12 = .ok (.aload_n 0, 1) := by decide +kernel
theorem dX8_error_13 : decode cX8_error 13 = .ok (.getfield 40, 3) := by decide +kernel
theorem dX8_error_16 : decode cX8_error 16 = .ok (.aload_n 0, 1) := by decide +kernel
theorem dX8_error_17 : decode cX8_error 17 = .ok (.getfield 10, 3) := by decide +kernel
theorem dX8_error_20 : decode cX8_error 20 = .ok (.iload_n 1, 1) := by decide +kernel
theorem dX8_error_21 : decode cX8_error 21 = .ok (.iload_n 2, 1) := by decide +kernel
theorem dX8_error_22 : decode cX8_error 22 = .ok (.invokevirtual 122, 3) := by decide +kernel
theorem dX8_error_25 : decode cX8_error 25 = .ok (.aload_n 0, 1) := by decide +kernel
theorem dX8_error_26 : decode cX8_error 26 = .ok (.getfield 40, 3) := by decide +kernel
theorem dX8_error_29 : decode cX8_error 29 = .ok (.aload_n 0, 1) := by decide +kernel
theorem dX8_error_30 : decode cX8_error 30 = .ok (.getfield 40, 3) := by decide +kernel
theorem dX8_error_33 : decode cX8_error 33 = .ok (.getfield 196, 3) := by decide +kernel
theorem dX8_error_36 : decode cX8_error 36 = .ok (.invokevirtual 197, 3) := by decide +kernel
theorem dX8_error_39 : decode cX8_error 39 = .ok (.ifCond .eq 13, 3) := by decide +kernel
theorem dX8_error_42 : decode cX8_error 42 = .ok (.aload_n 0, 1) := by decide +kernel
theorem dX8_error_43 : decode cX8_error 43 = .ok (.getfield 40, 3) := by decide +kernel
theorem dX8_error_46 : decode cX8_error 46 = .ok (.getfield 206, 3) := by decide +kernel
theorem dX8_error_49 : decode cX8_error 49 = .ok (.goto 6, 3) := by decide +kernel
theorem dX8_error_52 : decode cX8_error 52 = .ok (.invokestatic 166, 3) := by decide +kernel
theorem dX8_error_55 : decode cX8_error 55 = .ok (.dreturn, 1) := by decide +kernel
set_option maxRecDepth 20000 in
theorem ggX8_spread_X8_isRow : GoodIn wsX8_spread wsX8_isRow := goodIn_r _ [6] (by decide +kernel) (by decide +kernel)
set_option maxRecDepth 20000 in
theorem gX8_spread_X8_isRow : GoodIn wsX8_spread (va_wsS RX8 51 yX8_isRow wsX8_isRow) := goodIn_app (goodIn_of _ (by decide +kernel)) ggX8_spread_X8_isRow
set_option maxRecDepth 20000 in
theorem ggX8_spread_X5_rowAt : GoodIn wsX8_spread wsX5_rowAt := goodIn_r _ [11, 12, 13, 123, 124, 125, 126] (by decide +kernel) (by decide +kernel)
set_option maxRecDepth 20000 in
theorem gX8_spread_X5_rowAt : GoodIn wsX8_spread (wsV RX8 61 RX5 yX5_rowAt wsX5_rowAt) := goodIn_app (goodIn_of _ (by decide +kernel)) ggX8_spread_X5_rowAt
set_option maxRecDepth 20000 in
theorem ggX8_spread_X8_noNumber : GoodIn wsX8_spread wsX8_noNumber := goodIn_r _ [16, 17] (by decide +kernel) (by decide +kernel)
set_option maxRecDepth 20000 in
theorem gX8_spread_X8_noNumber : GoodIn wsX8_spread (va_wsS RX8 166 yX8_noNumber wsX8_noNumber) := goodIn_app (goodIn_of _ (by decide +kernel)) ggX8_spread_X8_noNumber
set_option maxRecDepth 20000 in
theorem ggX8_spread_X8_guessOf : GoodIn wsX8_spread wsX8_guessOf := goodIn_r _ [21, 22, 1, 23, 24, 25, 26, 27, 28, 29, 30, 31, 32, 33, 34, 35, 36, 37, 38, 39, 8, 9, 10, 11, 12, 13, 40, 41, 42, 43, 44, 45, 46, 47, 48, 49, 50, 51, 52, 53, 54, 55, 56, 57, 58, 59, 60, 61, 62, 63, 64, 65, 66, 67, 68, 69, 70, 71, 72, 73, 74, 75, 76, 77, 78, 79, 80, 81, 82, 83, 84, 85, 86, 87, 88, 89, 90, 91, 92, 93, 94, 95, 96, 97, 98, 99, 100, 101, 102, 103, 104, 105, 106, 107, 108, 109, 110, 111, 112, 113, 114, 115, 116, 117, 118, 119, 120, 127, 128, 129, 130, 131, 132, 133, 134, 135, 136, 123, 124, 125, 126, 121, 122] (by decide +kernel) (by decide +kernel)
set_option maxRecDepth 20000 in
theorem gX8_spread_X8_guessOf : GoodIn wsX8_spread (wsV RX8 203 RX8 yX8_guessOf wsX8_guessOf) := goodIn_app (goodIn_of _ (by decide +kernel)) ggX8_spread_X8_guessOf
theorem dX8_spread_0 : decode cX8_spread 0 = .ok (.iload_n 1, 1) := by decide +kernel
theorem dX8_spread_1 : decode cX8_spread 1 = .ok (.invokestatic 51, 3) := by decide +kernel
theorem dX8_spread_4 : decode cX8_spread 4 = .ok (.ifCond .eq 17, 3) := by decide +kernel
theorem dX8_spread_7 : decode cX8_spread 7 = .ok (.aload_n 0, 1) := by decide +kernel
theorem dX8_spread_8 : decode cX8_spread 8 = .ok (.getfield 10, 3) := by decide +kernel
theorem dX8_spread_11 : decode cX8_spread 11 = .ok (.iload_n 1, 1) := by decide +kernel
theorem dX8_spread_12 : decode cX8_spread 12 = .ok (.invokevirtual 61, 3) := by decide +kernel
theorem dX8_spread_15 : decode cX8_spread 15 = .ok (.getfield 65, 3) := by decide +kernel
theorem dX8_spread_18 : decode cX8_spread 18 = .ok (.ifCond .ne 7, 3) := by decide +kernel
theorem dX8_spread_21 : decode cX8_spread 21 = .ok (.invokestatic 166, 3) := by decide +kernel
theorem dX8_spread_24 : decode cX8_spread 24 = .ok (.dreturn, 1) := by decide +kernel
theorem dX8_spread_25 : decode cX8_spread 25 = .ok (.aload_n 0, 1) := by decide +kernel
theorem dX8_spread_26 : decode cX8_spread 26 = .ok (.iload_n 1, 1) := by decide +kernel
theorem dX8_spread_27 : decode cX8_spread 27 = .ok (.iconst 0, 1) := by decide +kernel
theorem dX8_spread_28 : decode cX8_spread 28 = .ok (.invokevirtual 203, 3) := by decide +kernel
theorem dX8_spread_31 : decode cX8_spread 31 = .ok (.dstore_n 2, 1) := by decide +kernel
theorem dX8_spread_32 : decode cX8_spread 32 = .ok (.dload_n 2, 1) := by decide +kernel
theorem dX8_spread_33 : decode cX8_spread 33 = .ok (.dstore 4, 2) := by decide +kernel
theorem dX8_spread_35 : decode cX8_spread 35 = .ok (.iconst 1, 1) := by decide +kernel
theorem dX8_spread_36 : decode cX8_spread 36 = .ok (.istore 6, 2) := by decide +kernel
theorem dX8_spread_38 : decode cX8_spread 38 = .ok (.iload 6, 2) := by decide +kernel
theorem dX8_spread_40 : decode cX8_spread 40 = .ok (.iconst 4, 1) := by decide +kernel
theorem dX8_spread_41 : decode cX8_spread 41 = .ok (.if_icmp .ge 49, 3) := by decide +kernel
theorem dX8_spread_44 : decode cX8_spread 44 = .ok (.aload_n 0, 1) := by decide +kernel
theorem dX8_spread_45 : decode cX8_spread 45 = .ok (.iload_n 1, 1) := by decide +kernel
theorem dX8_spread_46 : decode cX8_spread 46 = .ok (.iload 6, 2) := by decide +kernel
theorem dX8_spread_48 : decode cX8_spread 48 = .ok (.invokevirtual 203, 3) := by decide +kernel
theorem dX8_spread_51 : decode cX8_spread 51 = .ok (.dstore 7, 2) := by decide +kernel
theorem dX8_spread_53 : decode cX8_spread 53 = .ok (.dload 7, 2) := by decide +kernel
theorem dX8_spread_55 : decode cX8_spread 55 = .ok (.dload_n 2, 1) := by decide +kernel
theorem dX8_spread_56 : decode cX8_spread 56 = .ok (.dcmp .g, 1) := by decide +kernel
theorem dX8_spread_57 : decode cX8_spread 57 = .ok (.ifCond .ge 8, 3) := by decide +kernel
theorem dX8_spread_60 : decode cX8_spread 60 = .ok (.dload 7, 2) := by decide +kernel
theorem dX8_spread_62 : decode cX8_spread 62 = .ok (.goto 4, 3) := by decide +kernel
theorem dX8_spread_65 : decode cX8_spread 65 = .ok (.dload_n 2, 1) := by decide +kernel
theorem dX8_spread_66 : decode cX8_spread 66 = .ok (.dstore_n 2, 1) := by decide +kernel
theorem dX8_spread_67 : decode cX8_spread 67 = .ok (.dload 7, 2) := by decide +kernel
theorem dX8_spread_69 : decode cX8_spread 69 = .ok (.dload 4, 2) := by decide +kernel
theorem dX8_spread_71 : decode cX8_spread 71 = .ok (.dcmp .l, 1) := by decide +kernel
theorem dX8_spread_72 : decode cX8_spread 72 = .ok (.ifCond .le 8, 3) := by decide +kernel
theorem dX8_spread_75 : decode cX8_spread 75 = .ok (.dload 7, 2) := by decide +kernel
theorem dX8_spread_77 : decode cX8_spread 77 = .ok (.goto 5, 3) := by decide +kernel
theorem dX8_spread_80 : decode cX8_spread 80 = .ok (.dload 4, 2) := by decide +kernel
theorem dX8_spread_82 : decode cX8_spread 82 = .ok (.dstore 4, 2) := by decide +kernel
theorem dX8_spread_84 : decode cX8_spread 84 = .ok (.iinc 6 1, 3) := by decide +kernel
theorem dX8_spread_87 : decode cX8_spread 87 = .ok (.goto (-49), 3) := by decide +kernel
theorem dX8_spread_90 : decode cX8_spread 90 = .ok (.dload 4, 2) := by decide +kernel
theorem dX8_spread_92 : decode cX8_spread 92 = .ok (.dload_n 2, 1) := by decide +kernel
theorem dX8_spread_93 : decode cX8_spread 93 = .ok (.dsub, 1) := by decide +kernel
theorem dX8_spread_94 : decode cX8_spread 94 = .ok (.dreturn, 1) := by decide +kernel
set_option maxRecDepth 20000 in
theorem ggX8_best_X8_isRow : GoodIn wsX8_best wsX8_isRow := goodIn_r _ [8] (by decide +kernel) (by decide +kernel)
set_option maxRecDepth 20000 in
theorem gX8_best_X8_isRow : GoodIn wsX8_best (va_wsS RX8 51 yX8_isRow wsX8_isRow) := goodIn_app (goodIn_of _ (by decide +kernel)) ggX8_best_X8_isRow
set_option maxRecDepth 20000 in
theorem ggX8_best_X1_build : GoodIn wsX8_best wsX1_build := goodIn_r _ [13, 14, 15, 16, 17, 18, 19, 20, 21, 22, 23, 24, 25, 26, 27, 28, 29, 30, 31, 32, 12, 33, 34, 35, 36, 37, 38, 39, 40, 41, 42, 43, 44, 45, 46, 47, 48, 49, 50, 51, 52, 53, 54, 55, 56, 57, 58, 59, 60, 61, 62, 63, 64, 65, 66, 67, 68, 69, 70, 71, 72, 73, 74, 75, 76, 77, 78, 79, 80, 111, 112, 113, 114, 115, 116, 117, 118, 119, 120, 121, 122, 123, 124, 125, 126] (by decide +kernel) (by decide +kernel)
set_option maxRecDepth 20000 in
theorem gX8_best_X1_build : GoodIn wsX8_best (wsV RX8 122 RX1 yX1_build wsX1_build) := goodIn_app (goodIn_of _ (by decide +kernel)) ggX8_best_X1_build
set_option maxRecDepth 20000 in
theorem ggX8_best_X1_seekGuess : GoodIn wsX8_best wsX1_seekGuess := goodIn_r _ [84, 14, 85, 86, 34, 87, 88, 89, 90, 12, 91, 36, 37, 38, 39, 92, 93, 94, 95, 96, 97, 98, 99, 35, 100, 101, 102, 103, 62, 63, 54, 64, 111, 112, 113, 114, 115, 116, 117, 118, 119, 120] (by decide +kernel) (by decide +kernel)
set_option maxRecDepth 20000 in
theorem gX8_best_X1_seekGuess : GoodIn wsX8_best (wsV RX8 197 RX1 yX1_seekGuess wsX1_seekGuess) := goodIn_app (goodIn_of _ (by decide +kernel)) ggX8_best_X1_seekGuess
theorem dX8_best_0 : decode cX8_best 0 = .ok (.iload_n 1, 1) := by decide +kernel
theorem dX8_best_1 : decode cX8_best 1 = .ok (.invokestatic 51, 3) := by decide +kernel
theorem dX8_best_4 : decode cX8_best 4 = .ok (.ifCond .ne 5, 3) := by decide +kernel
theorem dX8_best_7 : decode cX8_best 7 = .ok (.iconst (-1), 1) := by decide +kernel
theorem dX8_best_8 : decode cX8_best 8 = .ok (.ireturn, 1) := by decide +kernel
theorem dX8_best_9 : decode cX8_best 9 = .ok (.bipush (-5), 2) := by decide +kernel
theorem dX8_best_11 : decode cX8_best 11 = .ok (.istore_n 2, 1) := by decide +kernel
theorem dX8_best_12 : decode cX8_best 12 = .ok (.dconst 0, 1) := by decide +kernel
theorem dX8_best_13 : decode cX8_best 13 = .ok (.dstore_n 3, 1) := by decide +kernel
theorem dX8_best_14 : decode cX8_best 14 = .ok (.iconst 0, 1) := by decide +kernel
theorem dX8_best_15 : decode cX8_best 15 = .ok (.istore 5, 2) := by decide +kernel
theorem dX8_best_17 : decode cX8_best 17 = .ok (.iload 5, 2) := by decide +kernel
theorem dX8_best_19 : decode cX8_best 19 = .ok (.iconst 4, 1) := by decide +kernel
theorem dX8_best_20 : decode cX8_best 20 = .ok (.if_icmp .ge 69, 3) := by decide +kernel
theorem dX8_best_23 : decode cX8_best 23 = .ok (.aload_n 0, 1) := by decide +kernel
theorem dX8_best_24 : decode cX8_best 24 = .ok (.getfield 40, 3) := by decide +kernel
theorem dX8_best_27 : decode cX8_best 27 = .ok (.aload_n 0, 1) := by decide +kernel
theorem dX8_best_28 : decode cX8_best 28 = .ok (.getfield 10, 3) := by decide +kernel
theorem dX8_best_31 : decode cX8_best 31 = .ok (.iload_n 1, 1) := by decide +kernel
theorem dX8_best_32 : decode cX8_best 32 = .ok (.iload 5, 2) := by decide +kernel
theorem dX8_best_34 : decode cX8_best 34 = .ok (.invokevirtual 122, 3) := by decide +kernel
theorem dX8_best_37 : decode cX8_best 37 = .ok (.aload_n 0, 1) := by decide +kernel
theorem dX8_best_38 : decode cX8_best 38 = .ok (.getfield 40, 3) := by decide +kernel
theorem dX8_best_41 : decode cX8_best 41 = .ok (.aload_n 0, 1) := by decide +kernel
theorem dX8_best_42 : decode cX8_best 42 = .ok (.getfield 40, 3) := by decide +kernel
theorem dX8_best_45 : decode cX8_best 45 = .ok (.getfield 196, 3) := by decide +kernel
theorem dX8_best_48 : decode cX8_best 48 = .ok (.invokevirtual 197, 3) := by decide +kernel
theorem dX8_best_51 : decode cX8_best 51 = .ok (.ifCond .eq 32, 3) := by decide +kernel
theorem dX8_best_54 : decode cX8_best 54 = .ok (.iload_n 2, 1) := by decide +kernel
theorem dX8_best_55 : decode cX8_best 55 = .ok (.bipush (-5), 2) := by decide +kernel
theorem dX8_best_57 : decode cX8_best 57 = .ok (.if_icmp .eq 15, 3) := by decide +kernel
theorem dX8_best_60 : decode cX8_best 60 = .ok (.aload_n 0, 1) := by decide +kernel
theorem dX8_best_61 : decode cX8_best 61 = .ok (.getfield 40, 3) := by decide +kernel
theorem dX8_best_64 : decode cX8_best 64 = .ok (.getfield 206, 3) := by decide +kernel
theorem dX8_best_67 : decode cX8_best 67 = .ok (.dload_n 3, 1) := by decide +kernel
theorem dX8_best_68 : decode cX8_best 68 = .ok (.dcmp .g, 1) := by decide +kernel
theorem dX8_best_69 : decode cX8_best 69 = .ok (.ifCond .ge 14, 3) := by decide +kernel
theorem dX8_best_72 : decode cX8_best 72 = .ok (.iload 5, 2) := by decide +kernel
theorem dX8_best_74 : decode cX8_best 74 = .ok (.istore_n 2, 1) := by decide +kernel
theorem dX8_best_75 : decode cX8_best 75 = .ok (.aload_n 0, 1) := by decide +kernel
theorem dX8_best_76 : decode cX8_best 76 = .ok (.getfield 40, 3) := by decide +kernel
theorem dX8_best_79 : decode cX8_best 79 = .ok (.getfield 206, 3) := by decide +kernel
theorem dX8_best_82 : decode cX8_best 82 = .ok (.dstore_n 3, 1) := by decide +kernel
theorem dX8_best_83 : decode cX8_best 83 = .ok (.iinc 5 1, 3) := by decide +kernel
theorem dX8_best_86 : decode cX8_best 86 = .ok (.goto (-69), 3) := by decide +kernel
theorem dX8_best_89 : decode cX8_best 89 = .ok (.iload_n 2, 1) := by decide +kernel
theorem dX8_best_90 : decode cX8_best 90 = .ok (.ireturn, 1) := by decide +kernel
set_option maxRecDepth 20000 in
theorem ggX8_needed_X8_isTable : GoodIn wsX8_needed wsX8_isTable := goodIn_r _ [8, 9, 10, 7, 11] (by decide +kernel) (by decide +kernel)
set_option maxRecDepth 20000 in
theorem gX8_needed_X8_isTable : GoodIn wsX8_needed (va_wsS RX8 118 yX8_isTable wsX8_isTable) := goodIn_app (goodIn_of _ (by decide +kernel)) ggX8_needed_X8_isTable
set_option maxRecDepth 20000 in
theorem ggX8_needed_X0_isNan : GoodIn wsX8_needed wsX0_isNan := goodIn_r _ [15, 16, 17, 18, 14, 19, 20] (by decide +kernel) (by decide +kernel)
set_option maxRecDepth 20000 in
theorem gX8_needed_X0_isNan : GoodIn wsX8_needed (va_wsS RX8 133 yX0_isNan wsX0_isNan) := goodIn_app (goodIn_of _ (by decide +kernel)) ggX8_needed_X0_isNan
set_option maxRecDepth 20000 in
theorem ggX8_needed_X0_decoded : GoodIn wsX8_needed wsX0_decoded := goodIn_r _ [23, 16, 24, 17, 18, 14, 19, 20, 25, 26, 27, 28, 29] (by decide +kernel) (by decide +kernel)
set_option maxRecDepth 20000 in
theorem gX8_needed_X0_decoded : GoodIn wsX8_needed (va_wsS RX8 73 yX0_decoded wsX0_decoded) := goodIn_app (goodIn_of _ (by decide +kernel)) ggX8_needed_X0_decoded
set_option maxRecDepth 20000 in
theorem ggX8_needed_X1_build : GoodIn wsX8_needed wsX1_build := goodIn_r _ [34, 35, 36, 37, 38, 39, 40, 41, 42, 43, 44, 45, 46, 47, 48, 49, 50, 51, 52, 53, 33, 54, 55, 56, 57, 58, 59, 60, 61, 62, 63, 64, 65, 66, 67, 68, 69, 70, 71, 72, 73, 74, 75, 76, 77, 78, 79, 80, 81, 82, 83, 84, 85, 86, 87, 88, 89, 90, 91, 92, 93, 94, 95, 96, 97, 98, 99, 100, 101, 132, 133, 134, 135, 136, 137, 138, 139, 140, 141, 142, 143, 144, 145, 146, 147] (by decide +kernel) (by decide +kernel)
set_option maxRecDepth 20000 in
theorem gX8_needed_X1_build : GoodIn wsX8_needed (wsV RX8 122 RX1 yX1_build wsX1_build) := goodIn_app (goodIn_of _ (by decide +kernel)) ggX8_needed_X1_build
set_option maxRecDepth 20000 in
theorem ggX8_needed_X1_seekGuess : GoodIn wsX8_needed wsX1_seekGuess := goodIn_r _ [105, 35, 106, 107, 55, 108, 109, 110, 111, 33, 112, 57, 58, 59, 60, 113, 114, 115, 116, 117, 118, 119, 120, 56, 121, 122, 123, 124, 83, 84, 75, 85, 132, 133, 134, 135, 136, 137, 138, 139, 140, 141] (by decide +kernel) (by decide +kernel)
set_option maxRecDepth 20000 in
theorem gX8_needed_X1_seekGuess : GoodIn wsX8_needed (wsV RX8 197 RX1 yX1_seekGuess wsX1_seekGuess) := goodIn_app (goodIn_of _ (by decide +kernel)) ggX8_needed_X1_seekGuess
theorem dX8_needed_0 : decode cX8_needed 0 = .ok (.iload_n 1, 1) := by decide +kernel
theorem dX8_needed_1 : decode cX8_needed 1 = .ok (.iload_n 2, 1) := by decide +kernel
theorem dX8_needed_2 : decode cX8_needed 2 = .ok (.invokestatic 118, 3) := by decide +kernel
theorem dX8_needed_5 : decode cX8_needed 5 = .ok (.ifCond .ne 5, 3) := by decide +kernel
theorem dX8_needed_8 : decode cX8_needed 8 = .ok (.iconst (-1), 1) := by decide +kernel
theorem dX8_needed_9 : decode cX8_needed 9 = .ok (.ireturn, 1) := by decide +kernel
theorem dX8_needed_10 : decode cX8_needed 10 = .ok (.lload_n 3, 1) := by decide +kernel
theorem dX8_needed_11 : decode cX8_needed 11 = .ok (.invokestatic 133, 3) := by decide +kernel
theorem dX8_needed_14 : decode cX8_needed 14 = .ok (.ifCond .eq 6, 3) := by decide +kernel
theorem dX8_needed_17 : decode cX8_needed 17 = .ok (.bipush (-2), 2) := by decide +kernel
theorem dX8_needed_19 : decode cX8_needed 19 = .ok (.ireturn, 1) := by decide +kernel
theorem dX8_needed_20 : decode cX8_needed 20 = .ok (.lload_n 3, 1) := by decide +kernel
theorem dX8_needed_21 : decode cX8_needed 21 = .ok (.invokestatic 73, 3) := by decide +kernel
theorem dX8_needed_24 : decode cX8_needed 24 = .ok (.dstore 5, 2) := by decide +kernel
theorem dX8_needed_26 : decode cX8_needed 26 = .ok (.dload 5, 2) := by decide +kernel
theorem dX8_needed_28 : decode cX8_needed 28 = .ok (.dconst 0, 1) := by decide +kernel
theorem dX8_needed_29 : decode cX8_needed 29 = .ok (.dcmp .g, 1) := by decide +kernel
theorem dX8_needed_30 : decode cX8_needed 30 = .ok (.ifCond .ge 6, 3) := by decide +kernel
theorem dX8_needed_33 : decode cX8_needed 33 = .ok (.bipush (-2), 2) := by decide +kernel
theorem dX8_needed_35 : decode cX8_needed 35 = .ok (.ireturn, 1) := by decide +kernel
theorem dX8_needed_36 : decode cX8_needed 36 = .ok (.aload_n 0, 1) := by decide +kernel
theorem dX8_needed_37 : decode cX8_needed 37 = .ok (.getfield 40, 3) := by decide +kernel
theorem dX8_needed_40 : decode cX8_needed 40 = .ok (.aload_n 0, 1) := by decide +kernel
theorem dX8_needed_41 : decode cX8_needed 41 = .ok (.getfield 10, 3) := by decide +kernel
theorem dX8_needed_44 : decode cX8_needed 44 = .ok (.iload_n 1, 1) := by decide +kernel
theorem dX8_needed_45 : decode cX8_needed 45 = .ok (.iload_n 2, 1) := by decide +kernel
theorem dX8_needed_46 : decode cX8_needed 46 = .ok (.invokevirtual 122, 3) := by decide +kernel
theorem dX8_needed_49 : decode cX8_needed 49 = .ok (.iconst 1, 1) := by decide +kernel
theorem dX8_needed_50 : decode cX8_needed 50 = .ok (.istore 7, 2) := by decide +kernel
theorem dX8_needed_52 : decode cX8_needed 52 = .ok (.iload 7, 2) := by decide +kernel
theorem dX8_needed_54 : decode cX8_needed 54 = .ok (.aload_n 0, 1) := by decide +kernel
theorem dX8_needed_55 : decode cX8_needed 55 = .ok (.getfield 40, 3) := by decide +kernel
theorem dX8_needed_58 : decode cX8_needed 58 = .ok (.getfield 196, 3) := by decide +kernel
theorem dX8_needed_61 : decode cX8_needed 61 = .ok (.if_icmp .gt 37, 3) := by decide +kernel
theorem dX8_needed_64 : decode cX8_needed 64 = .ok (.aload_n 0, 1) := by decide +kernel
theorem dX8_needed_65 : decode cX8_needed 65 = .ok (.getfield 40, 3) := by decide +kernel
theorem dX8_needed_68 : decode cX8_needed 68 = .ok (.iload 7, 2) := by decide +kernel
theorem dX8_needed_70 : decode cX8_needed 70 = .ok (.invokevirtual 197, 3) := by decide +kernel
theorem dX8_needed_73 : decode cX8_needed 73 = .ok (.ifCond .eq 19, 3) := by decide +kernel
theorem dX8_needed_76 : decode cX8_needed 76 = .ok (.aload_n 0, 1) := by decide +kernel
theorem dX8_needed_77 : decode cX8_needed 77 = .ok (.getfield 40, 3) := by decide +kernel
theorem dX8_needed_80 : decode cX8_needed 80 = .ok (.getfield 206, 3) := by decide +kernel
theorem dX8_needed_83 : decode cX8_needed 83 = .ok (.dload 5, 2) := by decide +kernel
theorem dX8_needed_85 : decode cX8_needed 85 = .ok (.dcmp .g, 1) := by decide +kernel
theorem dX8_needed_86 : decode cX8_needed 86 = .ok (.ifCond .gt 6, 3) := by decide +kernel
theorem dX8_needed_89 : decode cX8_needed 89 = .ok (.iload 7, 2) := by decide +kernel
theorem dX8_needed_91 : decode cX8_needed 91 = .ok (.ireturn, 1) := by decide +kernel
theorem dX8_needed_92 : decode cX8_needed 92 = .ok (.iinc 7 1, 3) := by decide +kernel
theorem dX8_needed_95 : decode cX8_needed 95 = .ok (.goto (-43), 3) := by decide +kernel
theorem dX8_needed_98 : decode cX8_needed 98 = .ok (.bipush (-5), 2) := by decide +kernel
theorem dX8_needed_100 : decode cX8_needed 100 = .ok (.ireturn, 1) := by decide +kernel
set_option maxRecDepth 20000 in
theorem ggX8_told_X5_isSetting : GoodIn wsX8_told wsX5_isSetting := goodIn_r _ [6] (by decide +kernel) (by decide +kernel)
set_option maxRecDepth 20000 in
theorem gX8_told_X5_isSetting : GoodIn wsX8_told (va_wsS RX8 130 yX5_isSetting wsX5_isSetting) := goodIn_app (goodIn_of _ (by decide +kernel)) ggX8_told_X5_isSetting
set_option maxRecDepth 20000 in
theorem ggX8_told_X8_noNumber : GoodIn wsX8_told wsX8_noNumber := goodIn_r _ [10, 11] (by decide +kernel) (by decide +kernel)
set_option maxRecDepth 20000 in
theorem gX8_told_X8_noNumber : GoodIn wsX8_told (va_wsS RX8 166 yX8_noNumber wsX8_noNumber) := goodIn_app (goodIn_of _ (by decide +kernel)) ggX8_told_X8_noNumber
theorem dX8_told_0 : decode cX8_told 0 = .ok (.iload_n 1, 1) := by decide +kernel
theorem dX8_told_1 : decode cX8_told 1 = .ok (.invokestatic 130, 3) := by decide +kernel
theorem dX8_told_4 : decode cX8_told 4 = .ok (.ifCond .eq 15, 3) := by decide +kernel
theorem dX8_told_7 : decode cX8_told 7 = .ok (.aload_n 0, 1) := by decide +kernel
theorem dX8_told_8 : decode cX8_told 8 = .ok (.getfield 10, 3) := by decide +kernel
theorem dX8_told_11 : decode cX8_told 11 = .ok (.getfield 102, 3) := by decide +kernel
theorem dX8_told_14 : decode cX8_told 14 = .ok (.iload_n 1, 1) := by decide +kernel
theorem dX8_told_15 : decode cX8_told 15 = .ok (.daload, 1) := by decide +kernel
theorem dX8_told_16 : decode cX8_told 16 = .ok (.goto 6, 3) := by decide +kernel
theorem dX8_told_19 : decode cX8_told 19 = .ok (.invokestatic 166, 3) := by decide +kernel
theorem dX8_told_22 : decode cX8_told 22 = .ok (.dreturn, 1) := by decide +kernel
set_option maxRecDepth 20000 in
theorem ggX8_count_X5_rowAt : GoodIn wsX8_count wsX5_rowAt := goodIn_r _ [12, 13, 14, 112, 113, 114, 115] (by decide +kernel) (by decide +kernel)
set_option maxRecDepth 20000 in
theorem gX8_count_X5_rowAt : GoodIn wsX8_count (wsV RX8 61 RX5 yX5_rowAt wsX5_rowAt) := goodIn_app (goodIn_of _ (by decide +kernel)) ggX8_count_X5_rowAt
set_option maxRecDepth 20000 in
theorem ggX8_count_X8_brokenInAll : GoodIn wsX8_count wsX8_brokenInAll := goodIn_r _ [19, 20, 1, 21, 22, 23, 24, 25, 26, 27, 28, 29, 30, 31, 32, 33, 34, 35, 9, 10, 11, 12, 13, 14, 36, 37, 38, 39, 40, 41, 42, 43, 44, 45, 46, 47, 48, 49, 50, 51, 52, 53, 54, 55, 56, 57, 58, 59, 60, 61, 62, 63, 64, 65, 66, 67, 68, 69, 70, 71, 72, 73, 74, 75, 76, 77, 78, 79, 80, 81, 82, 83, 84, 85, 86, 87, 88, 89, 90, 91, 92, 93, 94, 95, 96, 97, 98, 99, 100, 101, 102, 103, 104, 105, 106, 107, 108, 109, 123, 124, 125, 126, 127, 128, 129, 130, 131, 132, 112, 113, 114, 115, 110, 111] (by decide +kernel) (by decide +kernel)
set_option maxRecDepth 20000 in
theorem gX8_count_X8_brokenInAll : GoodIn wsX8_count (wsV RX8 146 RX8 yX8_brokenInAll wsX8_brokenInAll) := goodIn_app (goodIn_of _ (by decide +kernel)) ggX8_count_X8_brokenInAll
theorem dX8_count_0 : decode cX8_count 0 = .ok (.iload_n 1, 1) := by decide +kernel
theorem dX8_count_1 : decode cX8_count 1 = .ok (.tableswitch 100 0 5 #[39, 51, 63, 79, 84, 92], 39) := by decide +kernel
theorem dX8_count_40 : decode cX8_count 40 = .ok (.aload_n 0, 1) := by decide +kernel
theorem dX8_count_41 : decode cX8_count 41 = .ok (.getfield 10, 3) := by decide +kernel
theorem dX8_count_44 : decode cX8_count 44 = .ok (.iconst 0, 1) := by decide +kernel
theorem dX8_count_45 : decode cX8_count 45 = .ok (.invokevirtual 61, 3) := by decide +kernel
theorem dX8_count_48 : decode cX8_count 48 = .ok (.getfield 65, 3) := by decide +kernel
theorem dX8_count_51 : decode cX8_count 51 = .ok (.ireturn, 1) := by decide +kernel
theorem dX8_count_52 : decode cX8_count 52 = .ok (.aload_n 0, 1) := by decide +kernel
theorem dX8_count_53 : decode cX8_count 53 = .ok (.getfield 10, 3) := by decide +kernel
theorem dX8_count_56 : decode cX8_count 56 = .ok (.iconst 1, 1) := by decide +kernel
theorem dX8_count_57 : decode cX8_count 57 = .ok (.invokevirtual 61, 3) := by decide +kernel
theorem dX8_count_60 : decode cX8_count 60 = .ok (.getfield 65, 3) := by decide +kernel
theorem dX8_count_63 : decode cX8_count 63 = .ok (.ireturn, 1) := by decide +kernel
theorem dX8_count_64 : decode cX8_count 64 = .ok (.aload_n 0, 1) := by decide +kernel
theorem dX8_count_65 : decode cX8_count 65 = .ok (.getfield 10, 3) := by decide +kernel
theorem dX8_count_68 : decode cX8_count 68 = .ok (.getfield 143, 3) := by decide +kernel
theorem dX8_count_71 : decode cX8_count 71 = .ok (.ifCond .eq 7, 3) := by decide +kernel
theorem dX8_count_74 : decode cX8_count 74 = .ok (.iconst 1, 1) := by decide +kernel
theorem dX8_count_75 : decode cX8_count 75 = .ok (.goto 4, 3) := by decide +kernel
theorem dX8_count_78 : decode cX8_count 78 = .ok (.iconst 0, 1) := by decide +kernel
theorem dX8_count_79 : decode cX8_count 79 = .ok (.ireturn, 1) := by decide +kernel
theorem dX8_count_80 : decode cX8_count 80 = .ok (.aload_n 0, 1) := by decide +kernel
theorem dX8_count_81 : decode cX8_count 81 = .ok (.invokevirtual 146, 3) := by decide +kernel
theorem dX8_count_84 : decode cX8_count 84 = .ok (.ireturn, 1) := by decide +kernel
theorem dX8_count_85 : decode cX8_count 85 = .ok (.aload_n 0, 1) := by decide +kernel
theorem dX8_count_86 : decode cX8_count 86 = .ok (.getfield 26, 3) := by decide +kernel
theorem dX8_count_89 : decode cX8_count 89 = .ok (.getfield 154, 3) := by decide +kernel
theorem dX8_count_92 : decode cX8_count 92 = .ok (.ireturn, 1) := by decide +kernel
theorem dX8_count_93 : decode cX8_count 93 = .ok (.aload_n 0, 1) := by decide +kernel
theorem dX8_count_94 : decode cX8_count 94 = .ok (.getfield 33, 3) := by decide +kernel
theorem dX8_count_97 : decode cX8_count 97 = .ok (.getfield 150, 3) := by decide +kernel
theorem dX8_count_100 : decode cX8_count 100 = .ok (.ireturn, 1) := by decide +kernel
theorem dX8_count_101 : decode cX8_count 101 = .ok (.bipush (-2), 2) := by decide +kernel
theorem dX8_count_103 : decode cX8_count 103 = .ok (.ireturn, 1) := by decide +kernel
theorem dX8_isRow_0 : decode cX8_isRow 0 = .ok (.iload_n 0, 1) := by decide +kernel
theorem dX8_isRow_1 : decode cX8_isRow 1 = .ok (.ifCond .lt 12, 3) := by decide +kernel
theorem dX8_isRow_4 : decode cX8_isRow 4 = .ok (.iload_n 0, 1) := by decide +kernel
theorem dX8_isRow_5 : decode cX8_isRow 5 = .ok (.iconst 2, 1) := by decide +kernel
theorem dX8_isRow_6 : decode cX8_isRow 6 = .ok (.if_icmp .ge 7, 3) := by decide +kernel
theorem dX8_isRow_9 : decode cX8_isRow 9 = .ok (.iconst 1, 1) := by decide +kernel
theorem dX8_isRow_10 : decode cX8_isRow 10 = .ok (.goto 4, 3) := by decide +kernel
theorem dX8_isRow_13 : decode cX8_isRow 13 = .ok (.iconst 0, 1) := by decide +kernel
theorem dX8_isRow_14 : decode cX8_isRow 14 = .ok (.ireturn, 1) := by decide +kernel
set_option maxRecDepth 20000 in
theorem ggX8_isTable_X8_isRow : GoodIn wsX8_isTable wsX8_isRow := goodIn_r _ [4] (by decide +kernel) (by decide +kernel)
set_option maxRecDepth 20000 in
theorem gX8_isTable_X8_isRow : GoodIn wsX8_isTable (va_wsS RX8 51 yX8_isRow wsX8_isRow) := goodIn_app (goodIn_of _ (by decide +kernel)) ggX8_isTable_X8_isRow
theorem dX8_isTable_0 : decode cX8_isTable 0 = .ok (.iload_n 0, 1) := by decide +kernel
theorem dX8_isTable_1 : decode cX8_isTable 1 = .ok (.invokestatic 51, 3) := by decide +kernel
theorem dX8_isTable_4 : decode cX8_isTable 4 = .ok (.ifCond .eq 16, 3) := by decide +kernel
theorem dX8_isTable_7 : decode cX8_isTable 7 = .ok (.iload_n 1, 1) := by decide +kernel
theorem dX8_isTable_8 : decode cX8_isTable 8 = .ok (.ifCond .lt 12, 3) := by decide +kernel
theorem dX8_isTable_11 : decode cX8_isTable 11 = .ok (.iload_n 1, 1) := by decide +kernel
theorem dX8_isTable_12 : decode cX8_isTable 12 = .ok (.iconst 4, 1) := by decide +kernel
theorem dX8_isTable_13 : decode cX8_isTable 13 = .ok (.if_icmp .ge 7, 3) := by decide +kernel
theorem dX8_isTable_16 : decode cX8_isTable 16 = .ok (.iconst 1, 1) := by decide +kernel
theorem dX8_isTable_17 : decode cX8_isTable 17 = .ok (.goto 4, 3) := by decide +kernel
theorem dX8_isTable_20 : decode cX8_isTable 20 = .ok (.iconst 0, 1) := by decide +kernel
theorem dX8_isTable_21 : decode cX8_isTable 21 = .ok (.ireturn, 1) := by decide +kernel
theorem dX8_noNumber_0 : decode cX8_noNumber 0 = .ok (.ldc2_w 212, 3) := by decide +kernel
theorem dX8_noNumber_3 : decode cX8_noNumber 3 = .ok (.dreturn, 1) := by decide +kernel
set_option maxRecDepth 20000 in
theorem ggX8_putDraft_X2_remember : GoodIn wsX8_putDraft wsX2_remember := goodIn_r _ [9, 10, 11, 12, 13, 14, 15, 16, 17, 18, 19, 20, 21, 22, 23, 24, 25, 26, 27, 28, 29, 30, 31, 32, 33, 48, 49, 50, 51, 52, 53, 54, 46, 47] (by decide +kernel) (by decide +kernel)
set_option maxRecDepth 20000 in
theorem gX8_putDraft_X2_remember : GoodIn wsX8_putDraft (wsV RX8 69 RX2 yX2_remember wsX2_remember) := goodIn_app (goodIn_of _ (by decide +kernel)) ggX8_putDraft_X2_remember
set_option maxRecDepth 20000 in
theorem ggX8_putDraft_X5_rowAt : GoodIn wsX8_putDraft wsX5_rowAt := goodIn_r _ [37, 18, 19, 51, 52, 53, 54] (by decide +kernel) (by decide +kernel)
set_option maxRecDepth 20000 in
theorem gX8_putDraft_X5_rowAt : GoodIn wsX8_putDraft (wsV RX8 61 RX5 yX5_rowAt wsX5_rowAt) := goodIn_app (goodIn_of _ (by decide +kernel)) ggX8_putDraft_X5_rowAt
set_option maxRecDepth 20000 in
theorem ggX8_putDraft_X4_copyFrom : GoodIn wsX8_putDraft wsX4_copyFrom := goodIn_r _ [30, 31, 32, 22, 23, 24, 33, 46, 47] (by decide +kernel) (by decide +kernel)
set_option maxRecDepth 20000 in
theorem gX8_putDraft_X4_copyFrom : GoodIn wsX8_putDraft (wsV RX8 214 RX4 yX4_copyFrom wsX4_copyFrom) := goodIn_app (goodIn_of _ (by decide +kernel)) ggX8_putDraft_X4_copyFrom
theorem dX8_putDraft_0 : decode cX8_putDraft 0 = .ok (.aload_n 0, 1) := by decide +kernel
theorem dX8_putDraft_1 : decode cX8_putDraft 1 = .ok (.getfield 26, 3) := by decide +kernel
theorem dX8_putDraft_4 : decode cX8_putDraft 4 = .ok (.aload_n 0, 1) := by decide +kernel
theorem dX8_putDraft_5 : decode cX8_putDraft 5 = .ok (.getfield 10, 3) := by decide +kernel
theorem dX8_putDraft_8 : decode cX8_putDraft 8 = .ok (.invokevirtual 69, 3) := by decide +kernel
theorem dX8_putDraft_11 : decode cX8_putDraft 11 = .ok (.aload_n 0, 1) := by decide +kernel
theorem dX8_putDraft_12 : decode cX8_putDraft 12 = .ok (.getfield 10, 3) := by decide +kernel
theorem dX8_putDraft_15 : decode cX8_putDraft 15 = .ok (.iload_n 1, 1) := by decide +kernel
theorem dX8_putDraft_16 : decode cX8_putDraft 16 = .ok (.invokevirtual 61, 3) := by decide +kernel
theorem dX8_putDraft_19 : decode cX8_putDraft 19 = .ok (.astore_n 2, 1) := by decide +kernel
theorem dX8_putDraft_20 : decode cX8_putDraft 20 = .ok (.aload_n 2, 1) := by decide +kernel
theorem dX8_putDraft_21 : decode cX8_putDraft 21 = .ok (.aload_n 0, 1) := by decide +kernel
theorem dX8_putDraft_22 : decode cX8_putDraft 22 = .ok (.getfield 47, 3) := by decide +kernel
theorem dX8_putDraft_25 : decode cX8_putDraft 25 = .ok (.invokevirtual 214, 3) := by decide +kernel
theorem dX8_putDraft_28 : decode cX8_putDraft 28 = .ok (.aload_n 2, 1) := by decide +kernel
theorem dX8_putDraft_29 : decode cX8_putDraft 29 = .ok (.getfield 65, 3) := by decide +kernel
theorem dX8_putDraft_32 : decode cX8_putDraft 32 = .ok (.ireturn, 1) := by decide +kernel
set_option maxRecDepth 20000 in
theorem ggX8_guessOf_X1_build : GoodIn wsX8_guessOf wsX1_build := goodIn_r _ [9, 10, 11, 12, 13, 14, 15, 16, 17, 18, 19, 20, 21, 22, 23, 24, 25, 26, 27, 28, 8, 29, 30, 31, 32, 33, 34, 35, 36, 37, 38, 39, 40, 41, 42, 43, 44, 45, 46, 47, 48, 49, 50, 51, 52, 53, 54, 55, 56, 57, 58, 59, 60, 61, 62, 63, 64, 65, 66, 67, 68, 69, 70, 71, 72, 73, 74, 75, 76, 107, 108, 109, 110, 111, 112, 113, 114, 115, 116, 117, 118, 119, 120, 121, 122] (by decide +kernel) (by decide +kernel)
set_option maxRecDepth 20000 in
theorem gX8_guessOf_X1_build : GoodIn wsX8_guessOf (wsV RX8 122 RX1 yX1_build wsX1_build) := goodIn_app (goodIn_of _ (by decide +kernel)) ggX8_guessOf_X1_build
set_option maxRecDepth 20000 in
theorem ggX8_guessOf_X1_seekGuess : GoodIn wsX8_guessOf wsX1_seekGuess := goodIn_r _ [80, 10, 81, 82, 30, 83, 84, 85, 86, 8, 87, 32, 33, 34, 35, 88, 89, 90, 91, 92, 93, 94, 95, 31, 96, 97, 98, 99, 58, 59, 50, 60, 107, 108, 109, 110, 111, 112, 113, 114, 115, 116] (by decide +kernel) (by decide +kernel)
set_option maxRecDepth 20000 in
theorem gX8_guessOf_X1_seekGuess : GoodIn wsX8_guessOf (wsV RX8 197 RX1 yX1_seekGuess wsX1_seekGuess) := goodIn_app (goodIn_of _ (by decide +kernel)) ggX8_guessOf_X1_seekGuess
theorem dX8_guessOf_0 : decode cX8_guessOf 0 = .ok (.aload_n 0, 1) := by decide +kernel
theorem dX8_guessOf_1 : decode cX8_guessOf 1 = .ok (.getfield 40, 3) := by decide +kernel
theorem dX8_guessOf_4 : decode cX8_guessOf 4 = .ok (.aload_n 0, 1) := by decide +kernel
theorem dX8_guessOf_5 : decode cX8_guessOf 5 = .ok (.getfield 10, 3) := by decide +kernel
theorem dX8_guessOf_8 : decode cX8_guessOf 8 = .ok (.iload_n 1, 1) := by decide +kernel
theorem dX8_guessOf_9 : decode cX8_guessOf 9 = .ok (.iload_n 2, 1) := by decide +kernel
theorem dX8_guessOf_10 : decode cX8_guessOf 10 = .ok (.invokevirtual 122, 3) := by decide +kernel
theorem dX8_guessOf_13 : decode cX8_guessOf 13 = .ok (.aload_n 0, 1) := by decide +kernel
theorem dX8_guessOf_14 : decode cX8_guessOf 14 = .ok (.getfield 40, 3) := by decide +kernel
theorem dX8_guessOf_17 : decode cX8_guessOf 17 = .ok (.aload_n 0, 1) := by decide +kernel
theorem dX8_guessOf_18 : decode cX8_guessOf 18 = .ok (.getfield 40, 3) := by decide +kernel
theorem dX8_guessOf_21 : decode cX8_guessOf 21 = .ok (.getfield 196, 3) := by decide +kernel
theorem dX8_guessOf_24 : decode cX8_guessOf 24 = .ok (.invokevirtual 197, 3) := by decide +kernel
theorem dX8_guessOf_27 : decode cX8_guessOf 27 = .ok (.pop, 1) := by decide +kernel
theorem dX8_guessOf_28 : decode cX8_guessOf 28 = .ok (.aload_n 0, 1) := by decide +kernel
theorem dX8_guessOf_29 : decode cX8_guessOf 29 = .ok (.getfield 40, 3) := by decide +kernel
theorem dX8_guessOf_32 : decode cX8_guessOf 32 = .ok (.getfield 217, 3) := by decide +kernel
theorem dX8_guessOf_35 : decode cX8_guessOf 35 = .ok (.dreturn, 1) := by decide +kernel
set_option maxRecDepth 20000 in
theorem ggX8_brokenInAll_X1_build : GoodIn wsX8_brokenInAll wsX1_build := goodIn_r _ [7, 8, 9, 10, 11, 12, 13, 14, 15, 16, 17, 18, 19, 20, 21, 22, 23, 24, 25, 26, 6, 27, 28, 29, 30, 31, 32, 33, 34, 35, 36, 37, 38, 39, 40, 41, 42, 43, 44, 45, 46, 47, 48, 49, 50, 51, 52, 53, 54, 55, 56, 57, 58, 59, 60, 61, 62, 63, 64, 65, 66, 67, 68, 69, 70, 71, 72, 73, 74, 98, 99, 100, 101, 102, 103, 104, 105, 106, 107, 108, 109, 110, 111, 112, 113] (by decide +kernel) (by decide +kernel)
set_option maxRecDepth 20000 in
theorem gX8_brokenInAll_X1_build : GoodIn wsX8_brokenInAll (wsV RX8 122 RX1 yX1_build wsX1_build) := goodIn_app (goodIn_of _ (by decide +kernel)) ggX8_brokenInAll_X1_build
set_option maxRecDepth 20000 in
theorem ggX8_brokenInAll_X1_manyBroken : GoodIn wsX8_brokenInAll wsX1_manyBroken := goodIn_r _ [78, 79, 80, 81, 6, 82, 83, 84, 85, 86, 15, 30, 31, 32, 33, 8, 87, 88, 89, 90, 29, 98, 99, 100, 101, 102, 103, 104, 105, 106, 107] (by decide +kernel) (by decide +kernel)
set_option maxRecDepth 20000 in
theorem gX8_brokenInAll_X1_manyBroken : GoodIn wsX8_brokenInAll (wsV RX8 187 RX1 yX1_manyBroken wsX1_manyBroken) := goodIn_app (goodIn_of _ (by decide +kernel)) ggX8_brokenInAll_X1_manyBroken
theorem dX8_brokenInAll_0 : decode cX8_brokenInAll 0 = .ok (.iconst 0, 1) := by decide +kernel
theorem dX8_brokenInAll_1 : decode cX8_brokenInAll 1 = .ok (.istore_n 1, 1) := by decide +kernel
theorem dX8_brokenInAll_2 : decode cX8_brokenInAll 2 = .ok (.iconst 0, 1) := by decide +kernel
theorem dX8_brokenInAll_3 : decode cX8_brokenInAll 3 = .ok (.istore_n 2, 1) := by decide +kernel
theorem dX8_brokenInAll_4 : decode cX8_brokenInAll 4 = .ok (.iload_n 2, 1) := by decide +kernel
theorem dX8_brokenInAll_5 : decode cX8_brokenInAll 5 = .ok (.iconst 2, 1) := by decide +kernel
theorem dX8_brokenInAll_6 : decode cX8_brokenInAll 6 = .ok (.if_icmp .ge 45, 3) := by decide +kernel
theorem dX8_brokenInAll_9 : decode cX8_brokenInAll 9 = .ok (.iconst 0, 1) := by decide +kernel
theorem dX8_brokenInAll_10 : decode cX8_brokenInAll 10 = .ok (.istore_n 3, 1) := by decide +kernel
theorem dX8_brokenInAll_11 : decode cX8_brokenInAll 11 = .ok (.iload_n 3, 1) := by decide +kernel
theorem dX8_brokenInAll_12 : decode cX8_brokenInAll 12 = .ok (.iconst 4, 1) := by decide +kernel
theorem dX8_brokenInAll_13 : decode cX8_brokenInAll 13 = .ok (.if_icmp .ge 32, 3) := by decide +kernel
theorem dX8_brokenInAll_16 : decode cX8_brokenInAll 16 = .ok (.aload_n 0, 1) := by decide +kernel
theorem dX8_brokenInAll_17 : decode cX8_brokenInAll 17 = .ok (.getfield 40, 3) := by decide +kernel
theorem dX8_brokenInAll_20 : decode cX8_brokenInAll 20 = .ok (.aload_n 0, 1) := by decide +kernel
theorem dX8_brokenInAll_21 : decode cX8_brokenInAll 21 = .ok (.getfield 10, 3) := by decide +kernel
theorem dX8_brokenInAll_24 : decode cX8_brokenInAll 24 = .ok (.iload_n 2, 1) := by decide +kernel
theorem dX8_brokenInAll_25 : decode cX8_brokenInAll 25 = .ok (.iload_n 3, 1) := by decide +kernel
theorem dX8_brokenInAll_26 : decode cX8_brokenInAll 26 = .ok (.invokevirtual 122, 3) := by decide +kernel
theorem dX8_brokenInAll_29 : decode cX8_brokenInAll 29 = .ok (.iload_n 1, 1) := by decide +kernel
theorem dX8_brokenInAll_30 : decode cX8_brokenInAll 30 = .ok (.aload_n 0, 1) := by decide +kernel
theorem dX8_brokenInAll_31 : decode cX8_brokenInAll 31 = .ok (.getfield 40, 3) := by decide +kernel
theorem dX8_brokenInAll_34 : decode cX8_brokenInAll 34 = .ok (.invokevirtual 187, 3) := by decide +kernel
theorem dX8_brokenInAll_37 : decode cX8_brokenInAll 37 = .ok (.iadd, 1) := by decide +kernel
theorem dX8_brokenInAll_38 : decode cX8_brokenInAll 38 = .ok (.istore_n 1, 1) := by decide +kernel
theorem dX8_brokenInAll_39 : decode cX8_brokenInAll 39 = .ok (.iinc 3 1, 3) := by decide +kernel
theorem dX8_brokenInAll_42 : decode cX8_brokenInAll 42 = .ok (.goto (-31), 3) := by decide +kernel
theorem dX8_brokenInAll_45 : decode cX8_brokenInAll 45 = .ok (.iinc 2 1, 3) := by decide +kernel
theorem dX8_brokenInAll_48 : decode cX8_brokenInAll 48 = .ok (.goto (-44), 3) := by decide +kernel
theorem dX8_brokenInAll_51 : decode cX8_brokenInAll 51 = .ok (.iload_n 1, 1) := by decide +kernel
theorem dX8_brokenInAll_52 : decode cX8_brokenInAll 52 = .ok (.ireturn, 1) := by decide +kernel
theorem dX9_init_0 : decode cX9_init 0 = .ok (.aload_n 0, 1) := by decide +kernel
theorem dX9_init_1 : decode cX9_init 1 = .ok (.invokespecial 1, 3) := by decide +kernel
theorem dX9_init_4 : decode cX9_init 4 = .ok (.aload_n 0, 1) := by decide +kernel
theorem dX9_init_5 : decode cX9_init 5 = .ok (.bipush 38, 2) := by decide +kernel
theorem dX9_init_7 : decode cX9_init 7 = .ok (.newarray .double, 2) := by decide +kernel
theorem dX9_init_9 : decode cX9_init 9 = .ok (.putfield 7, 3) := by decide +kernel
theorem dX9_init_12 : decode cX9_init 12 = .ok (.aload_n 0, 1) := by decide +kernel
theorem dX9_init_13 : decode cX9_init 13 = .ok (.sipush 152, 3) := by decide +kernel
theorem dX9_init_16 : decode cX9_init 16 = .ok (.newarray .double, 2) := by decide +kernel
theorem dX9_init_18 : decode cX9_init 18 = .ok (.putfield 13, 3) := by decide +kernel
theorem dX9_init_21 : decode cX9_init 21 = .ok (.aload_n 0, 1) := by decide +kernel
theorem dX9_init_22 : decode cX9_init 22 = .ok (.bipush 38, 2) := by decide +kernel
theorem dX9_init_24 : decode cX9_init 24 = .ok (.newarray .double, 2) := by decide +kernel
theorem dX9_init_26 : decode cX9_init 26 = .ok (.putfield 16, 3) := by decide +kernel
theorem dX9_init_29 : decode cX9_init 29 = .ok (.aload_n 0, 1) := by decide +kernel
theorem dX9_init_30 : decode cX9_init 30 = .ok (.bipush 60, 2) := by decide +kernel
theorem dX9_init_32 : decode cX9_init 32 = .ok (.newarray .char, 2) := by decide +kernel
theorem dX9_init_34 : decode cX9_init 34 = .ok (.putfield 19, 3) := by decide +kernel
theorem dX9_init_37 : decode cX9_init 37 = .ok (.aload_n 0, 1) := by decide +kernel
theorem dX9_init_38 : decode cX9_init 38 = .ok (.bipush 32, 2) := by decide +kernel
theorem dX9_init_40 : decode cX9_init 40 = .ok (.newarray .double, 2) := by decide +kernel
theorem dX9_init_42 : decode cX9_init 42 = .ok (.putfield 23, 3) := by decide +kernel
theorem dX9_init_45 : decode cX9_init 45 = .ok (.aload_n 0, 1) := by decide +kernel
theorem dX9_init_46 : decode cX9_init 46 = .ok (.sipush 256, 3) := by decide +kernel
theorem dX9_init_49 : decode cX9_init 49 = .ok (.newarray .double, 2) := by decide +kernel
theorem dX9_init_51 : decode cX9_init 51 = .ok (.putfield 26, 3) := by decide +kernel
theorem dX9_init_54 : decode cX9_init 54 = .ok (.aload_n 0, 1) := by decide +kernel
theorem dX9_init_55 : decode cX9_init 55 = .ok (.sipush 256, 3) := by decide +kernel
theorem dX9_init_58 : decode cX9_init 58 = .ok (.newarray .int, 2) := by decide +kernel
theorem dX9_init_60 : decode cX9_init 60 = .ok (.putfield 29, 3) := by decide +kernel
theorem dX9_init_63 : decode cX9_init 63 = .ok (.aload_n 0, 1) := by decide +kernel
theorem dX9_init_64 : decode cX9_init 64 = .ok (.getfield 7, 3) := by decide +kernel
theorem dX9_init_67 : decode cX9_init 67 = .ok (.bipush 34, 2) := by decide +kernel
theorem dX9_init_69 : decode cX9_init 69 = .ok (.ldc2_w 33, 3) := by decide +kernel
theorem dX9_init_72 : decode cX9_init 72 = .ok (.dastore, 1) := by decide +kernel
theorem dX9_init_73 : decode cX9_init 73 = .ok (.aload_n 0, 1) := by decide +kernel
theorem dX9_init_74 : decode cX9_init 74 = .ok (.getfield 7, 3) := by decide +kernel
theorem dX9_init_77 : decode cX9_init 77 = .ok (.bipush 35, 2) := by decide +kernel
theorem dX9_init_79 : decode cX9_init 79 = .ok (.ldc2_w 35, 3) := by decide +kernel
theorem dX9_init_82 : decode cX9_init 82 = .ok (.dastore, 1) := by decide +kernel
theorem dX9_init_83 : decode cX9_init 83 = .ok (.aload_n 0, 1) := by decide +kernel
theorem dX9_init_84 : decode cX9_init 84 = .ok (.getfield 7, 3) := by decide +kernel
theorem dX9_init_87 : decode cX9_init 87 = .ok (.bipush 36, 2) := by decide +kernel
theorem dX9_init_89 : decode cX9_init 89 = .ok (.ldc2_w 37, 3) := by decide +kernel
theorem dX9_init_92 : decode cX9_init 92 = .ok (.dastore, 1) := by decide +kernel
theorem dX9_init_93 : decode cX9_init 93 = .ok (.return_, 1) := by decide +kernel
theorem dX9_in_0 : decode cX9_in 0 = .ok (.iload_n 0, 1) := by decide +kernel
theorem dX9_in_1 : decode cX9_in 1 = .ok (.iload_n 1, 1) := by decide +kernel
theorem dX9_in_2 : decode cX9_in 2 = .ok (.if_icmp .lt 12, 3) := by decide +kernel
theorem dX9_in_5 : decode cX9_in 5 = .ok (.iload_n 0, 1) := by decide +kernel
theorem dX9_in_6 : decode cX9_in 6 = .ok (.iload_n 2, 1) := by decide +kernel
theorem dX9_in_7 : decode cX9_in 7 = .ok (.if_icmp .gt 7, 3) := by decide +kernel
theorem dX9_in_10 : decode cX9_in 10 = .ok (.iconst 1, 1) := by decide +kernel
theorem dX9_in_11 : decode cX9_in 11 = .ok (.goto 4, 3) := by decide +kernel
theorem dX9_in_14 : decode cX9_in 14 = .ok (.iconst 0, 1) := by decide +kernel
theorem dX9_in_15 : decode cX9_in 15 = .ok (.ireturn, 1) := by decide +kernel
set_option maxRecDepth 20000 in
theorem ggX9_isRow_X9_in : GoodIn wsX9_isRow wsX9_in := goodIn_r _ [4] (by decide +kernel) (by decide +kernel)
set_option maxRecDepth 20000 in
theorem gX9_isRow_X9_in : GoodIn wsX9_isRow (va_wsS RX9 39 yX9_in wsX9_in) := goodIn_app (goodIn_of _ (by decide +kernel)) ggX9_isRow_X9_in
theorem dX9_isRow_0 : decode cX9_isRow 0 = .ok (.iload_n 0, 1) := by decide +kernel
theorem dX9_isRow_1 : decode cX9_isRow 1 = .ok (.iconst 0, 1) := by decide +kernel
theorem dX9_isRow_2 : decode cX9_isRow 2 = .ok (.iconst 1, 1) := by decide +kernel
theorem dX9_isRow_3 : decode cX9_isRow 3 = .ok (.invokestatic 39, 3) := by decide +kernel
theorem dX9_isRow_6 : decode cX9_isRow 6 = .ok (.ireturn, 1) := by decide +kernel
set_option maxRecDepth 20000 in
theorem ggX9_isTable_X9_isRow : GoodIn wsX9_isTable wsX9_isRow := goodIn_r _ [4, 5, 6, 3, 7] (by decide +kernel) (by decide +kernel)
set_option maxRecDepth 20000 in
theorem gX9_isTable_X9_isRow : GoodIn wsX9_isTable (va_wsS RX9 43 yX9_isRow wsX9_isRow) := goodIn_app (goodIn_of _ (by decide +kernel)) ggX9_isTable_X9_isRow
set_option maxRecDepth 20000 in
theorem ggX9_isTable_X9_in : GoodIn wsX9_isTable wsX9_in := goodIn_r _ [7] (by decide +kernel) (by decide +kernel)
set_option maxRecDepth 20000 in
theorem gX9_isTable_X9_in : GoodIn wsX9_isTable (va_wsS RX9 39 yX9_in wsX9_in) := goodIn_app (goodIn_of _ (by decide +kernel)) ggX9_isTable_X9_in
theorem dX9_isTable_0 : decode cX9_isTable 0 = .ok (.iload_n 0, 1) := by decide +kernel
theorem dX9_isTable_1 : decode cX9_isTable 1 = .ok (.invokestatic 43, 3) := by decide +kernel
theorem dX9_isTable_4 : decode cX9_isTable 4 = .ok (.ifCond .eq 16, 3) := by decide +kernel
theorem dX9_isTable_7 : decode cX9_isTable 7 = .ok (.iload_n 1, 1) := by decide +kernel
theorem dX9_isTable_8 : decode cX9_isTable 8 = .ok (.iconst 0, 1) := by decide +kernel
theorem dX9_isTable_9 : decode cX9_isTable 9 = .ok (.iconst 3, 1) := by decide +kernel
theorem dX9_isTable_10 : decode cX9_isTable 10 = .ok (.invokestatic 39, 3) := by decide +kernel
theorem dX9_isTable_13 : decode cX9_isTable 13 = .ok (.ifCond .eq 7, 3) := by decide +kernel
theorem dX9_isTable_16 : decode cX9_isTable 16 = .ok (.iconst 1, 1) := by decide +kernel
theorem dX9_isTable_17 : decode cX9_isTable 17 = .ok (.goto 4, 3) := by decide +kernel
theorem dX9_isTable_20 : decode cX9_isTable 20 = .ok (.iconst 0, 1) := by decide +kernel
theorem dX9_isTable_21 : decode cX9_isTable 21 = .ok (.ireturn, 1) := by decide +kernel
theorem dX9_many_0 : decode cX9_many 0 = .ok (.aload_n 0, 1) := by decide +kernel
theorem dX9_many_1 : decode cX9_many 1 = .ok (.getfield 7, 3) := by decide +kernel
theorem dX9_many_4 : decode cX9_many 4 = .ok (.bipush 32, 2) := by decide +kernel
theorem dX9_many_6 : decode cX9_many 6 = .ok (.iload_n 1, 1) := by decide +kernel
theorem dX9_many_7 : decode cX9_many 7 = .ok (.iadd, 1) := by decide +kernel
theorem dX9_many_8 : decode cX9_many 8 = .ok (.daload, 1) := by decide +kernel
theorem dX9_many_9 : decode cX9_many 9 = .ok (.d2i, 1) := by decide +kernel
theorem dX9_many_10 : decode cX9_many 10 = .ok (.ireturn, 1) := by decide +kernel
set_option maxRecDepth 20000 in
theorem ggX9_isPlace_X9_isRow : GoodIn wsX9_isPlace wsX9_isRow := goodIn_r _ [4, 5, 6, 3, 7] (by decide +kernel) (by decide +kernel)
set_option maxRecDepth 20000 in
theorem gX9_isPlace_X9_isRow : GoodIn wsX9_isPlace (va_wsS RX9 43 yX9_isRow wsX9_isRow) := goodIn_app (goodIn_of _ (by decide +kernel)) ggX9_isPlace_X9_isRow
set_option maxRecDepth 20000 in
theorem ggX9_isPlace_X9_many : GoodIn wsX9_isPlace wsX9_many := goodIn_r _ [11, 12, 13, 14, 15, 16, 17, 18, 19, 20, 21, 22, 23, 24, 25, 26, 27, 28, 29, 30, 31] (by decide +kernel) (by decide +kernel)
set_option maxRecDepth 20000 in
theorem gX9_isPlace_X9_many : GoodIn wsX9_isPlace (wsV RX9 47 RX9 yX9_many wsX9_many) := goodIn_app (goodIn_of _ (by decide +kernel)) ggX9_isPlace_X9_many
set_option maxRecDepth 20000 in
theorem ggX9_isPlace_X9_in : GoodIn wsX9_isPlace wsX9_in := goodIn_r _ [7] (by decide +kernel) (by decide +kernel)
set_option maxRecDepth 20000 in
theorem gX9_isPlace_X9_in : GoodIn wsX9_isPlace (va_wsS RX9 39 yX9_in wsX9_in) := goodIn_app (goodIn_of _ (by decide +kernel)) ggX9_isPlace_X9_in
theorem dX9_isPlace_0 : decode cX9_isPlace 0 = .ok (.iload_n 1, 1) := by decide +kernel
theorem dX9_isPlace_1 : decode cX9_isPlace 1 = .ok (.invokestatic 43, 3) := by decide +kernel
theorem dX9_isPlace_4 : decode cX9_isPlace 4 = .ok (.ifCond .eq 22, 3) := by decide +kernel
theorem dX9_isPlace_7 : decode cX9_isPlace 7 = .ok (.iload_n 2, 1) := by decide +kernel
theorem dX9_isPlace_8 : decode cX9_isPlace 8 = .ok (.iconst 0, 1) := by decide +kernel
theorem dX9_isPlace_9 : decode cX9_isPlace 9 = .ok (.aload_n 0, 1) := by decide +kernel
theorem dX9_isPlace_10 : decode cX9_isPlace 10 = .ok (.iload_n 1, 1) := by decide +kernel
theorem dX9_isPlace_11 : decode cX9_isPlace 11 = .ok (.invokevirtual 47, 3) := by decide +kernel
theorem dX9_isPlace_14 : decode cX9_isPlace 14 = .ok (.iconst 1, 1) := by decide +kernel
theorem dX9_isPlace_15 : decode cX9_isPlace 15 = .ok (.isub, 1) := by decide +kernel
theorem dX9_isPlace_16 : decode cX9_isPlace 16 = .ok (.invokestatic 39, 3) := by decide +kernel
theorem dX9_isPlace_19 : decode cX9_isPlace 19 = .ok (.ifCond .eq 7, 3) := by decide +kernel
theorem dX9_isPlace_22 : decode cX9_isPlace 22 = .ok (.iconst 1, 1) := by decide +kernel
theorem dX9_isPlace_23 : decode cX9_isPlace 23 = .ok (.goto 4, 3) := by decide +kernel
theorem dX9_isPlace_26 : decode cX9_isPlace 26 = .ok (.iconst 0, 1) := by decide +kernel
theorem dX9_isPlace_27 : decode cX9_isPlace 27 = .ok (.ireturn, 1) := by decide +kernel
theorem dX9_size_0 : decode cX9_size 0 = .ok (.dload_n 0, 1) := by decide +kernel
theorem dX9_size_1 : decode cX9_size 1 = .ok (.dconst 0, 1) := by decide +kernel
theorem dX9_size_2 : decode cX9_size 2 = .ok (.dcmp .g, 1) := by decide +kernel
theorem dX9_size_3 : decode cX9_size 3 = .ok (.ifCond .gt 9, 3) := by decide +kernel
theorem dX9_size_6 : decode cX9_size 6 = .ok (.dconst 0, 1) := by decide +kernel
theorem dX9_size_7 : decode cX9_size 7 = .ok (.dload_n 0, 1) := by decide +kernel
theorem dX9_size_8 : decode cX9_size 8 = .ok (.dsub, 1) := by decide +kernel
theorem dX9_size_9 : decode cX9_size 9 = .ok (.goto 4, 3) := by decide +kernel
theorem dX9_size_12 : decode cX9_size 12 = .ok (.dload_n 0, 1) := by decide +kernel
theorem dX9_size_13 : decode cX9_size 13 = .ok (.dreturn, 1) := by decide +kernel
theorem dX9_isFinite_0 : decode cX9_isFinite 0 = .ok (.dload_n 0, 1) := by decide +kernel
theorem dX9_isFinite_1 : decode cX9_isFinite 1 = .ok (.ldc2_w 51, 3) := by decide +kernel
theorem dX9_isFinite_4 : decode cX9_isFinite 4 = .ok (.dcmp .l, 1) := by decide +kernel
theorem dX9_isFinite_5 : decode cX9_isFinite 5 = .ok (.ifCond .lt 15, 3) := by decide +kernel
theorem dX9_isFinite_8 : decode cX9_isFinite 8 = .ok (.dload_n 0, 1) := by decide +kernel
theorem dX9_isFinite_9 : decode cX9_isFinite 9 = .ok (.ldc2_w 53, 3) := by decide +kernel
theorem dX9_isFinite_12 : decode cX9_isFinite 12 = .ok (.dcmp .g, 1) := by decide +kernel
theorem dX9_isFinite_13 : decode cX9_isFinite 13 = .ok (.ifCond .gt 7, 3) := by decide +kernel
theorem dX9_isFinite_16 : decode cX9_isFinite 16 = .ok (.iconst 1, 1) := by decide +kernel
theorem dX9_isFinite_17 : decode cX9_isFinite 17 = .ok (.goto 4, 3) := by decide +kernel
theorem dX9_isFinite_20 : decode cX9_isFinite 20 = .ok (.iconst 0, 1) := by decide +kernel
theorem dX9_isFinite_21 : decode cX9_isFinite 21 = .ok (.ireturn, 1) := by decide +kernel
theorem dX9_areOfNone_0 : decode cX9_areOfNone 0 = .ok (.lload_n 0, 1) := by decide +kernel
theorem dX9_areOfNone_1 : decode cX9_areOfNone 1 = .ok (.ldc2_w 55, 3) := by decide +kernel
theorem dX9_areOfNone_4 : decode cX9_areOfNone 4 = .ok (.land, 1) := by decide +kernel
theorem dX9_areOfNone_5 : decode cX9_areOfNone 5 = .ok (.ldc2_w 57, 3) := by decide +kernel
theorem dX9_areOfNone_8 : decode cX9_areOfNone 8 = .ok (.lcmp, 1) := by decide +kernel
theorem dX9_areOfNone_9 : decode cX9_areOfNone 9 = .ok (.ifCond .le 7, 3) := by decide +kernel
theorem dX9_areOfNone_12 : decode cX9_areOfNone 12 = .ok (.iconst 1, 1) := by decide +kernel
theorem dX9_areOfNone_13 : decode cX9_areOfNone 13 = .ok (.goto 4, 3) := by decide +kernel
theorem dX9_areOfNone_16 : decode cX9_areOfNone 16 = .ok (.iconst 0, 1) := by decide +kernel
theorem dX9_areOfNone_17 : decode cX9_areOfNone 17 = .ok (.ireturn, 1) := by decide +kernel
set_option maxRecDepth 20000 in
theorem ggX9_isGood_X9_isFinite : GoodIn wsX9_isGood wsX9_isFinite := goodIn_r _ [5, 6, 7] (by decide +kernel) (by decide +kernel)
set_option maxRecDepth 20000 in
theorem gX9_isGood_X9_isFinite : GoodIn wsX9_isGood (va_wsS RX9 59 yX9_isFinite wsX9_isFinite) := goodIn_app (goodIn_of _ (by decide +kernel)) ggX9_isGood_X9_isFinite
set_option maxRecDepth 20000 in
theorem ggX9_isGood_X9_size : GoodIn wsX9_isGood wsX9_size := goodIn_r _ [10] (by decide +kernel) (by decide +kernel)
set_option maxRecDepth 20000 in
theorem gX9_isGood_X9_size : GoodIn wsX9_isGood (va_wsS RX9 63 yX9_size wsX9_size) := goodIn_app (goodIn_of _ (by decide +kernel)) ggX9_isGood_X9_size
theorem dX9_isGood_0 : decode cX9_isGood 0 = .ok (.dload_n 0, 1) := by decide +kernel
theorem dX9_isGood_1 : decode cX9_isGood 1 = .ok (.invokestatic 59, 3) := by decide +kernel
theorem dX9_isGood_4 : decode cX9_isGood 4 = .ok (.ifCond .eq 18, 3) := by decide +kernel
theorem dX9_isGood_7 : decode cX9_isGood 7 = .ok (.dload_n 0, 1) := by decide +kernel
theorem dX9_isGood_8 : decode cX9_isGood 8 = .ok (.invokestatic 63, 3) := by decide +kernel
theorem dX9_isGood_11 : decode cX9_isGood 11 = .ok (.ldc2_w 67, 3) := by decide +kernel
theorem dX9_isGood_14 : decode cX9_isGood 14 = .ok (.dcmp .g, 1) := by decide +kernel
theorem dX9_isGood_15 : decode cX9_isGood 15 = .ok (.ifCond .gt 7, 3) := by decide +kernel
theorem dX9_isGood_18 : decode cX9_isGood 18 = .ok (.iconst 1, 1) := by decide +kernel
theorem dX9_isGood_19 : decode cX9_isGood 19 = .ok (.goto 4, 3) := by decide +kernel
theorem dX9_isGood_22 : decode cX9_isGood 22 = .ok (.iconst 0, 1) := by decide +kernel
theorem dX9_isGood_23 : decode cX9_isGood 23 = .ok (.ireturn, 1) := by decide +kernel
set_option maxRecDepth 20000 in
theorem ggX9_areSame_Jxe99ae_doubleToLongBits_ccdee : GoodIn wsX9_areSame wsJxe99ae_doubleToLongBits_ccdee := goodIn_r _ [4, 5, 6, 7, 8, 9, 10, 11, 3, 12] (by decide +kernel) (by decide +kernel)
set_option maxRecDepth 20000 in
theorem gX9_areSame_Jxe99ae_doubleToLongBits_ccdee : GoodIn wsX9_areSame (va_wsS RX9 69 yJxe99ae_doubleToLongBits_ccdee wsJxe99ae_doubleToLongBits_ccdee) := goodIn_app (goodIn_of _ (by decide +kernel)) ggX9_areSame_Jxe99ae_doubleToLongBits_ccdee
theorem dX9_areSame_0 : decode cX9_areSame 0 = .ok (.dload_n 0, 1) := by decide +kernel
theorem dX9_areSame_1 : decode cX9_areSame 1 = .ok (.invokestatic 69, 3) := by decide +kernel
theorem dX9_areSame_4 : decode cX9_areSame 4 = .ok (.dload_n 2, 1) := by decide +kernel
theorem dX9_areSame_5 : decode cX9_areSame 5 = .ok (.invokestatic 69, 3) := by decide +kernel
theorem dX9_areSame_8 : decode cX9_areSame 8 = .ok (.lcmp, 1) := by decide +kernel
theorem dX9_areSame_9 : decode cX9_areSame 9 = .ok (.ifCond .ne 7, 3) := by decide +kernel
theorem dX9_areSame_12 : decode cX9_areSame 12 = .ok (.iconst 1, 1) := by decide +kernel
theorem dX9_areSame_13 : decode cX9_areSame 13 = .ok (.goto 4, 3) := by decide +kernel
theorem dX9_areSame_16 : decode cX9_areSame 16 = .ok (.iconst 0, 1) := by decide +kernel
theorem dX9_areSame_17 : decode cX9_areSame 17 = .ok (.ireturn, 1) := by decide +kernel
theorem dX9_records_0 : decode cX9_records 0 = .ok (.aload_n 0, 1) := by decide +kernel
theorem dX9_records_1 : decode cX9_records 1 = .ok (.getfield 75, 3) := by decide +kernel
theorem dX9_records_4 : decode cX9_records 4 = .ok (.iconst 4, 1) := by decide +kernel
theorem dX9_records_5 : decode cX9_records 5 = .ok (.if_icmp .ne 42, 3) := by decide +kernel
theorem dX9_records_8 : decode cX9_records 8 = .ok (.iconst 0, 1) := by decide +kernel
theorem dX9_records_9 : decode cX9_records 9 = .ok (.istore_n 1, 1) := by decide +kernel
theorem dX9_records_10 : decode cX9_records 10 = .ok (.iload_n 1, 1) := by decide +kernel
theorem dX9_records_11 : decode cX9_records 11 = .ok (.bipush 114, 2) := by decide +kernel
theorem dX9_records_13 : decode cX9_records 13 = .ok (.if_icmp .ge 24, 3) := by decide +kernel
theorem dX9_records_16 : decode cX9_records 16 = .ok (.aload_n 0, 1) := by decide +kernel
theorem dX9_records_17 : decode cX9_records 17 = .ok (.getfield 13, 3) := by decide +kernel
theorem dX9_records_20 : decode cX9_records 20 = .ok (.iload_n 1, 1) := by decide +kernel
theorem dX9_records_21 : decode cX9_records 21 = .ok (.aload_n 0, 1) := by decide +kernel
theorem dX9_records_22 : decode cX9_records 22 = .ok (.getfield 13, 3) := by decide +kernel
theorem dX9_records_25 : decode cX9_records 25 = .ok (.iload_n 1, 1) := by decide +kernel
theorem dX9_records_26 : decode cX9_records 26 = .ok (.bipush 38, 2) := by decide +kernel
theorem dX9_records_28 : decode cX9_records 28 = .ok (.iadd, 1) := by decide +kernel
theorem dX9_records_29 : decode cX9_records 29 = .ok (.daload, 1) := by decide +kernel
theorem dX9_records_30 : decode cX9_records 30 = .ok (.dastore, 1) := by decide +kernel
theorem dX9_records_31 : decode cX9_records 31 = .ok (.iinc 1 1, 3) := by decide +kernel
theorem dX9_records_34 : decode cX9_records 34 = .ok (.goto (-24), 3) := by decide +kernel
theorem dX9_records_37 : decode cX9_records 37 = .ok (.aload_n 0, 1) := by decide +kernel
theorem dX9_records_38 : decode cX9_records 38 = .ok (.dup, 1) := by decide +kernel
theorem dX9_records_39 : decode cX9_records 39 = .ok (.getfield 75, 3) := by decide +kernel
theorem dX9_records_42 : decode cX9_records 42 = .ok (.iconst 1, 1) := by decide +kernel
theorem dX9_records_43 : decode cX9_records 43 = .ok (.isub, 1) := by decide +kernel
theorem dX9_records_44 : decode cX9_records 44 = .ok (.putfield 75, 3) := by decide +kernel
theorem dX9_records_47 : decode cX9_records 47 = .ok (.iconst 0, 1) := by decide +kernel
theorem dX9_records_48 : decode cX9_records 48 = .ok (.istore_n 1, 1) := by decide +kernel
theorem dX9_records_49 : decode cX9_records 49 = .ok (.iload_n 1, 1) := by decide +kernel
theorem dX9_records_50 : decode cX9_records 50 = .ok (.bipush 38, 2) := by decide +kernel
theorem dX9_records_52 : decode cX9_records 52 = .ok (.if_icmp .ge 29, 3) := by decide +kernel
theorem dX9_records_55 : decode cX9_records 55 = .ok (.aload_n 0, 1) := by decide +kernel
theorem dX9_records_56 : decode cX9_records 56 = .ok (.getfield 13, 3) := by decide +kernel
theorem dX9_records_59 : decode cX9_records 59 = .ok (.bipush 38, 2) := by decide +kernel
theorem dX9_records_61 : decode cX9_records 61 = .ok (.aload_n 0, 1) := by decide +kernel
theorem dX9_records_62 : decode cX9_records 62 = .ok (.getfield 75, 3) := by decide +kernel
theorem dX9_records_65 : decode cX9_records 65 = .ok (.imul, 1) := by decide +kernel
theorem dX9_records_66 : decode cX9_records 66 = .ok (.iload_n 1, 1) := by decide +kernel
theorem dX9_records_67 : decode cX9_records 67 = .ok (.iadd, 1) := by decide +kernel
theorem dX9_records_68 : decode cX9_records 68 = .ok (.aload_n 0, 1) := by decide +kernel
theorem dX9_records_69 : decode cX9_records 69 = .ok (.getfield 7, 3) := by decide +kernel
theorem dX9_records_72 : decode cX9_records 72 = .ok (.iload_n 1, 1) := by decide +kernel
theorem dX9_records_73 : decode cX9_records 73 = .ok (.daload, 1) := by decide +kernel
theorem dX9_records_74 : decode cX9_records 74 = .ok (.dastore, 1) := by decide +kernel
theorem dX9_records_75 : decode cX9_records 75 = .ok (.iinc 1 1, 3) := by decide +kernel
theorem dX9_records_78 : decode cX9_records 78 = .ok (.goto (-29), 3) := by decide +kernel
theorem dX9_records_81 : decode cX9_records 81 = .ok (.aload_n 0, 1) := by decide +kernel
theorem dX9_records_82 : decode cX9_records 82 = .ok (.dup, 1) := by decide +kernel
theorem dX9_records_83 : decode cX9_records 83 = .ok (.getfield 75, 3) := by decide +kernel
theorem dX9_records_86 : decode cX9_records 86 = .ok (.iconst 1, 1) := by decide +kernel
theorem dX9_records_87 : decode cX9_records 87 = .ok (.iadd, 1) := by decide +kernel
theorem dX9_records_88 : decode cX9_records 88 = .ok (.putfield 75, 3) := by decide +kernel
theorem dX9_records_91 : decode cX9_records 91 = .ok (.return_, 1) := by decide +kernel
theorem dX9_undo_0 : decode cX9_undo 0 = .ok (.aload_n 0, 1) := by decide +kernel
theorem dX9_undo_1 : decode cX9_undo 1 = .ok (.getfield 75, 3) := by decide +kernel
theorem dX9_undo_4 : decode cX9_undo 4 = .ok (.ifCond .ne 6, 3) := by decide +kernel
theorem dX9_undo_7 : decode cX9_undo 7 = .ok (.bipush (-5), 2) := by decide +kernel
theorem dX9_undo_9 : decode cX9_undo 9 = .ok (.ireturn, 1) := by decide +kernel
theorem dX9_undo_10 : decode cX9_undo 10 = .ok (.aload_n 0, 1) := by decide +kernel
theorem dX9_undo_11 : decode cX9_undo 11 = .ok (.dup, 1) := by decide +kernel
theorem dX9_undo_12 : decode cX9_undo 12 = .ok (.getfield 75, 3) := by decide +kernel
theorem dX9_undo_15 : decode cX9_undo 15 = .ok (.iconst 1, 1) := by decide +kernel
theorem dX9_undo_16 : decode cX9_undo 16 = .ok (.isub, 1) := by decide +kernel
theorem dX9_undo_17 : decode cX9_undo 17 = .ok (.putfield 75, 3) := by decide +kernel
theorem dX9_undo_20 : decode cX9_undo 20 = .ok (.iconst 0, 1) := by decide +kernel
theorem dX9_undo_21 : decode cX9_undo 21 = .ok (.istore_n 1, 1) := by decide +kernel
theorem dX9_undo_22 : decode cX9_undo 22 = .ok (.iload_n 1, 1) := by decide +kernel
theorem dX9_undo_23 : decode cX9_undo 23 = .ok (.bipush 38, 2) := by decide +kernel
theorem dX9_undo_25 : decode cX9_undo 25 = .ok (.if_icmp .ge 29, 3) := by decide +kernel
theorem dX9_undo_28 : decode cX9_undo 28 = .ok (.aload_n 0, 1) := by decide +kernel
theorem dX9_undo_29 : decode cX9_undo 29 = .ok (.getfield 7, 3) := by decide +kernel
theorem dX9_undo_32 : decode cX9_undo 32 = .ok (.iload_n 1, 1) := by decide +kernel
theorem dX9_undo_33 : decode cX9_undo 33 = .ok (.aload_n 0, 1) := by decide +kernel
theorem dX9_undo_34 : decode cX9_undo 34 = .ok (.getfield 13, 3) := by decide +kernel
theorem dX9_undo_37 : decode cX9_undo 37 = .ok (.bipush 38, 2) := by decide +kernel
theorem dX9_undo_39 : decode cX9_undo 39 = .ok (.aload_n 0, 1) := by decide +kernel
theorem dX9_undo_40 : decode cX9_undo 40 = .ok (.getfield 75, 3) := by decide +kernel
theorem dX9_undo_43 : decode cX9_undo 43 = .ok (.imul, 1) := by decide +kernel
theorem dX9_undo_44 : decode cX9_undo 44 = .ok (.iload_n 1, 1) := by decide +kernel
theorem dX9_undo_45 : decode cX9_undo 45 = .ok (.iadd, 1) := by decide +kernel
theorem dX9_undo_46 : decode cX9_undo 46 = .ok (.daload, 1) := by decide +kernel
theorem dX9_undo_47 : decode cX9_undo 47 = .ok (.dastore, 1) := by decide +kernel
theorem dX9_undo_48 : decode cX9_undo 48 = .ok (.iinc 1 1, 3) := by decide +kernel
theorem dX9_undo_51 : decode cX9_undo 51 = .ok (.goto (-29), 3) := by decide +kernel
theorem dX9_undo_54 : decode cX9_undo 54 = .ok (.aload_n 0, 1) := by decide +kernel
theorem dX9_undo_55 : decode cX9_undo 55 = .ok (.getfield 75, 3) := by decide +kernel
