theorem dX0_exponentOf_0 : decode cX0_exponentOf 0 = .ok (.lload_n 0, 1) := by decide +kernel
theorem dX0_exponentOf_1 : decode cX0_exponentOf 1 = .ok (.bipush 52, 2) := by decide +kernel
theorem dX0_exponentOf_3 : decode cX0_exponentOf 3 = .ok (.lushr, 1) := by decide +kernel
theorem dX0_exponentOf_4 : decode cX0_exponentOf 4 = .ok (.ldc2_w 7, 3) := by decide +kernel
theorem dX0_exponentOf_7 : decode cX0_exponentOf 7 = .ok (.land, 1) := by decide +kernel
theorem dX0_exponentOf_8 : decode cX0_exponentOf 8 = .ok (.l2i, 1) := by decide +kernel
theorem dX0_exponentOf_9 : decode cX0_exponentOf 9 = .ok (.ireturn, 1) := by decide +kernel
set_option maxRecDepth 20000 in
theorem ggX0_isNan_X0_exponentOf : GoodIn wsX0_isNan wsX0_exponentOf := goodIn_r _ [5, 6] (by decide +kernel) (by decide +kernel)
set_option maxRecDepth 20000 in
theorem gX0_isNan_X0_exponentOf : GoodIn wsX0_isNan (va_wsS RX0 9 yX0_exponentOf wsX0_exponentOf) := goodIn_app (goodIn_of _ (by decide +kernel)) ggX0_isNan_X0_exponentOf
theorem dX0_isNan_0 : decode cX0_isNan 0 = .ok (.lload_n 0, 1) := by decide +kernel
theorem dX0_isNan_1 : decode cX0_isNan 1 = .ok (.invokestatic 9, 3) := by decide +kernel
theorem dX0_isNan_4 : decode cX0_isNan 4 = .ok (.sipush 2047, 3) := by decide +kernel
theorem dX0_isNan_7 : decode cX0_isNan 7 = .ok (.if_icmp .ne 17, 3) := by decide +kernel
theorem dX0_isNan_10 : decode cX0_isNan 10 = .ok (.lload_n 0, 1) := by decide +kernel
theorem dX0_isNan_11 : decode cX0_isNan 11 = .ok (.ldc2_w 15, 3) := by decide +kernel
theorem dX0_isNan_14 : decode cX0_isNan 14 = .ok (.land, 1) := by decide +kernel
theorem dX0_isNan_15 : decode cX0_isNan 15 = .ok (.lconst 0, 1) := by decide +kernel
theorem dX0_isNan_16 : decode cX0_isNan 16 = .ok (.lcmp, 1) := by decide +kernel
theorem dX0_isNan_17 : decode cX0_isNan 17 = .ok (.ifCond .eq 7, 3) := by decide +kernel
theorem dX0_isNan_20 : decode cX0_isNan 20 = .ok (.iconst 1, 1) := by decide +kernel
theorem dX0_isNan_21 : decode cX0_isNan 21 = .ok (.goto 4, 3) := by decide +kernel
theorem dX0_isNan_24 : decode cX0_isNan 24 = .ok (.iconst 0, 1) := by decide +kernel
theorem dX0_isNan_25 : decode cX0_isNan 25 = .ok (.ireturn, 1) := by decide +kernel
theorem dX0_isMinusZero_0 : decode cX0_isMinusZero 0 = .ok (.lload_n 0, 1) := by decide +kernel
theorem dX0_isMinusZero_1 : decode cX0_isMinusZero 1 = .ok (.ldc2_w 17, 3) := by decide +kernel
theorem dX0_isMinusZero_4 : decode cX0_isMinusZero 4 = .ok (.lcmp, 1) := by decide +kernel
theorem dX0_isMinusZero_5 : decode cX0_isMinusZero 5 = .ok (.ifCond .ne 7, 3) := by decide +kernel
theorem dX0_isMinusZero_8 : decode cX0_isMinusZero 8 = .ok (.iconst 1, 1) := by decide +kernel
theorem dX0_isMinusZero_9 : decode cX0_isMinusZero 9 = .ok (.goto 4, 3) := by decide +kernel
theorem dX0_isMinusZero_12 : decode cX0_isMinusZero 12 = .ok (.iconst 0, 1) := by decide +kernel
theorem dX0_isMinusZero_13 : decode cX0_isMinusZero 13 = .ok (.ireturn, 1) := by decide +kernel
set_option maxRecDepth 20000 in
theorem ggX0_fitRow_X0_isNan : GoodIn wsX0_fitRow wsX0_isNan := goodIn_r _ [4, 5, 6, 7, 3, 8, 9] (by decide +kernel) (by decide +kernel)
set_option maxRecDepth 20000 in
theorem gX0_fitRow_X0_isNan : GoodIn wsX0_fitRow (va_wsS RX0 19 yX0_isNan wsX0_isNan) := goodIn_app (goodIn_of _ (by decide +kernel)) ggX0_fitRow_X0_isNan
set_option maxRecDepth 20000 in
theorem ggX0_fitRow_X0_decoded : GoodIn wsX0_fitRow wsX0_decoded := goodIn_r _ [12, 5, 13, 6, 7, 3, 8, 9, 14, 15, 16, 17, 18] (by decide +kernel) (by decide +kernel)
set_option maxRecDepth 20000 in
theorem gX0_fitRow_X0_decoded : GoodIn wsX0_fitRow (va_wsS RX0 23 yX0_decoded wsX0_decoded) := goodIn_app (goodIn_of _ (by decide +kernel)) ggX0_fitRow_X0_decoded
set_option maxRecDepth 20000 in
theorem ggX0_fitRow_X3_fitsRow : GoodIn wsX0_fitRow wsX3_fitsRow := goodIn_r _ [22, 23, 24] (by decide +kernel) (by decide +kernel)
set_option maxRecDepth 20000 in
theorem gX0_fitRow_X3_fitsRow : GoodIn wsX0_fitRow (va_wsS RX0 27 yX3_fitsRow wsX3_fitsRow) := goodIn_app (goodIn_of _ (by decide +kernel)) ggX0_fitRow_X3_fitsRow
theorem dX0_fitRow_0 : decode cX0_fitRow 0 = .ok (.lload_n 0, 1) := by decide +kernel
theorem dX0_fitRow_1 : decode cX0_fitRow 1 = .ok (.invokestatic 19, 3) := by decide +kernel
theorem dX0_fitRow_4 : decode cX0_fitRow 4 = .ok (.ifCond .ne 17, 3) := by decide +kernel
theorem dX0_fitRow_7 : decode cX0_fitRow 7 = .ok (.lload_n 0, 1) := by decide +kernel
theorem dX0_fitRow_8 : decode cX0_fitRow 8 = .ok (.invokestatic 23, 3) := by decide +kernel
theorem dX0_fitRow_11 : decode cX0_fitRow 11 = .ok (.invokestatic 27, 3) := by decide +kernel
theorem dX0_fitRow_14 : decode cX0_fitRow 14 = .ok (.ifCond .eq 7, 3) := by decide +kernel
theorem dX0_fitRow_17 : decode cX0_fitRow 17 = .ok (.iconst 1, 1) := by decide +kernel
theorem dX0_fitRow_18 : decode cX0_fitRow 18 = .ok (.goto 4, 3) := by decide +kernel
theorem dX0_fitRow_21 : decode cX0_fitRow 21 = .ok (.iconst 0, 1) := by decide +kernel
theorem dX0_fitRow_22 : decode cX0_fitRow 22 = .ok (.ireturn, 1) := by decide +kernel
set_option maxRecDepth 20000 in
theorem ggX0_decoded_X0_exponentOf : GoodIn wsX0_decoded wsX0_exponentOf := goodIn_r _ [6, 7] (by decide +kernel) (by decide +kernel)
set_option maxRecDepth 20000 in
theorem gX0_decoded_X0_exponentOf : GoodIn wsX0_decoded (va_wsS RX0 9 yX0_exponentOf wsX0_exponentOf) := goodIn_app (goodIn_of _ (by decide +kernel)) ggX0_decoded_X0_exponentOf
set_option maxRecDepth 20000 in
theorem ggX0_decoded_X0_scaled : GoodIn wsX0_decoded wsX0_scaled := goodIn_r _ [10, 11, 12] (by decide +kernel) (by decide +kernel)
set_option maxRecDepth 20000 in
theorem gX0_decoded_X0_scaled : GoodIn wsX0_decoded (va_wsS RX0 33 yX0_scaled wsX0_scaled) := goodIn_app (goodIn_of _ (by decide +kernel)) ggX0_decoded_X0_scaled
theorem dX0_decoded_0 : decode cX0_decoded 0 = .ok (.lload_n 0, 1) := by decide +kernel
theorem dX0_decoded_1 : decode cX0_decoded 1 = .ok (.invokestatic 9, 3) := by decide +kernel
theorem dX0_decoded_4 : decode cX0_decoded 4 = .ok (.istore_n 2, 1) := by decide +kernel
theorem dX0_decoded_5 : decode cX0_decoded 5 = .ok (.lload_n 0, 1) := by decide +kernel
theorem dX0_decoded_6 : decode cX0_decoded 6 = .ok (.ldc2_w 15, 3) := by decide +kernel
theorem dX0_decoded_9 : decode cX0_decoded 9 = .ok (.land, 1) := by decide +kernel
theorem dX0_decoded_10 : decode cX0_decoded 10 = .ok (.lstore_n 3, 1) := by decide +kernel
theorem dX0_decoded_11 : decode cX0_decoded 11 = .ok (.iload_n 2, 1) := by decide +kernel
theorem dX0_decoded_12 : decode cX0_decoded 12 = .ok (.ifCond .ne 14, 3) := by decide +kernel
theorem dX0_decoded_15 : decode cX0_decoded 15 = .ok (.lload_n 3, 1) := by decide +kernel
theorem dX0_decoded_16 : decode cX0_decoded 16 = .ok (.l2d, 1) := by decide +kernel
theorem dX0_decoded_17 : decode cX0_decoded 17 = .ok (.sipush (-1074), 3) := by decide +kernel
theorem dX0_decoded_20 : decode cX0_decoded 20 = .ok (.invokestatic 33, 3) := by decide +kernel
theorem dX0_decoded_23 : decode cX0_decoded 23 = .ok (.goto 17, 3) := by decide +kernel
theorem dX0_decoded_26 : decode cX0_decoded 26 = .ok (.lload_n 3, 1) := by decide +kernel
theorem dX0_decoded_27 : decode cX0_decoded 27 = .ok (.ldc2_w 37, 3) := by decide +kernel
theorem dX0_decoded_30 : decode cX0_decoded 30 = .ok (.lor, 1) := by decide +kernel
theorem dX0_decoded_31 : decode cX0_decoded 31 = .ok (.l2d, 1) := by decide +kernel
theorem dX0_decoded_32 : decode cX0_decoded 32 = .ok (.iload_n 2, 1) := by decide +kernel
theorem dX0_decoded_33 : decode cX0_decoded 33 = .ok (.sipush 1075, 3) := by decide +kernel
theorem dX0_decoded_36 : decode cX0_decoded 36 = .ok (.isub, 1) := by decide +kernel
theorem dX0_decoded_37 : decode cX0_decoded 37 = .ok (.invokestatic 33, 3) := by decide +kernel
theorem dX0_decoded_40 : decode cX0_decoded 40 = .ok (.dstore 5, 2) := by decide +kernel
theorem dX0_decoded_42 : decode cX0_decoded 42 = .ok (.lload_n 0, 1) := by decide +kernel
theorem dX0_decoded_43 : decode cX0_decoded 43 = .ok (.lconst 0, 1) := by decide +kernel
theorem dX0_decoded_44 : decode cX0_decoded 44 = .ok (.lcmp, 1) := by decide +kernel
theorem dX0_decoded_45 : decode cX0_decoded 45 = .ok (.ifCond .ge 9, 3) := by decide +kernel
theorem dX0_decoded_48 : decode cX0_decoded 48 = .ok (.dload 5, 2) := by decide +kernel
theorem dX0_decoded_50 : decode cX0_decoded 50 = .ok (.dneg, 1) := by decide +kernel
theorem dX0_decoded_51 : decode cX0_decoded 51 = .ok (.goto 5, 3) := by decide +kernel
theorem dX0_decoded_54 : decode cX0_decoded 54 = .ok (.dload 5, 2) := by decide +kernel
theorem dX0_decoded_56 : decode cX0_decoded 56 = .ok (.dreturn, 1) := by decide +kernel
theorem dX0_scaled_0 : decode cX0_scaled 0 = .ok (.iload_n 2, 1) := by decide +kernel
theorem dX0_scaled_1 : decode cX0_scaled 1 = .ok (.ifCond .ge 8, 3) := by decide +kernel
theorem dX0_scaled_4 : decode cX0_scaled 4 = .ok (.iload_n 2, 1) := by decide +kernel
theorem dX0_scaled_5 : decode cX0_scaled 5 = .ok (.ineg, 1) := by decide +kernel
theorem dX0_scaled_6 : decode cX0_scaled 6 = .ok (.goto 4, 3) := by decide +kernel
theorem dX0_scaled_9 : decode cX0_scaled 9 = .ok (.iload_n 2, 1) := by decide +kernel
theorem dX0_scaled_10 : decode cX0_scaled 10 = .ok (.istore_n 3, 1) := by decide +kernel
theorem dX0_scaled_11 : decode cX0_scaled 11 = .ok (.iload_n 2, 1) := by decide +kernel
theorem dX0_scaled_12 : decode cX0_scaled 12 = .ok (.ifCond .ge 9, 3) := by decide +kernel
theorem dX0_scaled_15 : decode cX0_scaled 15 = .ok (.ldc2_w 39, 3) := by decide +kernel
theorem dX0_scaled_18 : decode cX0_scaled 18 = .ok (.goto 6, 3) := by decide +kernel
theorem dX0_scaled_21 : decode cX0_scaled 21 = .ok (.ldc2_w 41, 3) := by decide +kernel
theorem dX0_scaled_24 : decode cX0_scaled 24 = .ok (.dstore 4, 2) := by decide +kernel
theorem dX0_scaled_26 : decode cX0_scaled 26 = .ok (.dload_n 0, 1) := by decide +kernel
theorem dX0_scaled_27 : decode cX0_scaled 27 = .ok (.dstore 6, 2) := by decide +kernel
theorem dX0_scaled_29 : decode cX0_scaled 29 = .ok (.iconst 0, 1) := by decide +kernel
theorem dX0_scaled_30 : decode cX0_scaled 30 = .ok (.istore 8, 2) := by decide +kernel
theorem dX0_scaled_32 : decode cX0_scaled 32 = .ok (.iload 8, 2) := by decide +kernel
theorem dX0_scaled_34 : decode cX0_scaled 34 = .ok (.bipush 11, 2) := by decide +kernel
theorem dX0_scaled_36 : decode cX0_scaled 36 = .ok (.if_icmp .ge 33, 3) := by decide +kernel
theorem dX0_scaled_39 : decode cX0_scaled 39 = .ok (.iload_n 3, 1) := by decide +kernel
theorem dX0_scaled_40 : decode cX0_scaled 40 = .ok (.iload 8, 2) := by decide +kernel
theorem dX0_scaled_42 : decode cX0_scaled 42 = .ok (.ishr, 1) := by decide +kernel
theorem dX0_scaled_43 : decode cX0_scaled 43 = .ok (.iconst 1, 1) := by decide +kernel
theorem dX0_scaled_44 : decode cX0_scaled 44 = .ok (.iand, 1) := by decide +kernel
theorem dX0_scaled_45 : decode cX0_scaled 45 = .ok (.iconst 1, 1) := by decide +kernel
theorem dX0_scaled_46 : decode cX0_scaled 46 = .ok (.if_icmp .ne 10, 3) := by decide +kernel
theorem dX0_scaled_49 : decode cX0_scaled 49 = .ok (.dload 6, 2) := by decide +kernel
theorem dX0_scaled_51 : decode cX0_scaled 51 = .ok (.dload 4, 2) := by decide +kernel
theorem dX0_scaled_53 : decode cX0_scaled 53 = .ok (.dmul, 1) := by decide +kernel
theorem dX0_scaled_54 : decode cX0_scaled 54 = .ok (.dstore 6, 2) := by decide +kernel
theorem dX0_scaled_56 : decode cX0_scaled 56 = .ok (.dload 4, 2) := by decide +kernel
theorem dX0_scaled_58 : decode cX0_scaled 58 = .ok (.dload 4, 2) := by decide +kernel
theorem dX0_scaled_60 : decode cX0_scaled 60 = .ok (.dmul, 1) := by decide +kernel
theorem dX0_scaled_61 : decode cX0_scaled 61 = .ok (.dstore 4, 2) := by decide +kernel
theorem dX0_scaled_63 : decode cX0_scaled 63 = .ok (.iinc 8 1, 3) := by decide +kernel
theorem dX0_scaled_66 : decode cX0_scaled 66 = .ok (.goto (-34), 3) := by decide +kernel
theorem dX0_scaled_69 : decode cX0_scaled 69 = .ok (.dload 6, 2) := by decide +kernel
theorem dX0_scaled_71 : decode cX0_scaled 71 = .ok (.dreturn, 1) := by decide +kernel
theorem dX1_init_0 : decode cX1_init 0 = .ok (.aload_n 0, 1) := by decide +kernel
theorem dX1_init_1 : decode cX1_init 1 = .ok (.invokespecial 3, 3) := by decide +kernel
theorem dX1_init_4 : decode cX1_init 4 = .ok (.aload_n 0, 1) := by decide +kernel
theorem dX1_init_5 : decode cX1_init 5 = .ok (.sipush 256, 3) := by decide +kernel
theorem dX1_init_8 : decode cX1_init 8 = .ok (.newarray .double, 2) := by decide +kernel
theorem dX1_init_10 : decode cX1_init 10 = .ok (.putfield 9, 3) := by decide +kernel
theorem dX1_init_13 : decode cX1_init 13 = .ok (.aload_n 0, 1) := by decide +kernel
theorem dX1_init_14 : decode cX1_init 14 = .ok (.sipush 256, 3) := by decide +kernel
theorem dX1_init_17 : decode cX1_init 17 = .ok (.newarray .int, 2) := by decide +kernel
theorem dX1_init_19 : decode cX1_init 19 = .ok (.putfield 15, 3) := by decide +kernel
theorem dX1_init_22 : decode cX1_init 22 = .ok (.aload_n 0, 1) := by decide +kernel
theorem dX1_init_23 : decode cX1_init 23 = .ok (.iconst 0, 1) := by decide +kernel
theorem dX1_init_24 : decode cX1_init 24 = .ok (.putfield 19, 3) := by decide +kernel
theorem dX1_init_27 : decode cX1_init 27 = .ok (.aload_n 0, 1) := by decide +kernel
theorem dX1_init_28 : decode cX1_init 28 = .ok (.dconst 0, 1) := by decide +kernel
theorem dX1_init_29 : decode cX1_init 29 = .ok (.putfield 23, 3) := by decide +kernel
theorem dX1_init_32 : decode cX1_init 32 = .ok (.aload_n 0, 1) := by decide +kernel
theorem dX1_init_33 : decode cX1_init 33 = .ok (.dconst 0, 1) := by decide +kernel
theorem dX1_init_34 : decode cX1_init 34 = .ok (.putfield 27, 3) := by decide +kernel
theorem dX1_init_37 : decode cX1_init 37 = .ok (.aload_n 0, 1) := by decide +kernel
theorem dX1_init_38 : decode cX1_init 38 = .ok (.iconst 0, 1) := by decide +kernel
theorem dX1_init_39 : decode cX1_init 39 = .ok (.putfield 30, 3) := by decide +kernel
theorem dX1_init_42 : decode cX1_init 42 = .ok (.aload_n 0, 1) := by decide +kernel
theorem dX1_init_43 : decode cX1_init 43 = .ok (.iconst 0, 1) := by decide +kernel
theorem dX1_init_44 : decode cX1_init 44 = .ok (.putfield 34, 3) := by decide +kernel
theorem dX1_init_47 : decode cX1_init 47 = .ok (.aload_n 0, 1) := by decide +kernel
theorem dX1_init_48 : decode cX1_init 48 = .ok (.iconst 0, 1) := by decide +kernel
theorem dX1_init_49 : decode cX1_init 49 = .ok (.putfield 37, 3) := by decide +kernel
theorem dX1_init_52 : decode cX1_init 52 = .ok (.aload_n 0, 1) := by decide +kernel
theorem dX1_init_53 : decode cX1_init 53 = .ok (.dconst 0, 1) := by decide +kernel
theorem dX1_init_54 : decode cX1_init 54 = .ok (.putfield 40, 3) := by decide +kernel
theorem dX1_init_57 : decode cX1_init 57 = .ok (.aload_n 0, 1) := by decide +kernel
theorem dX1_init_58 : decode cX1_init 58 = .ok (.dconst 0, 1) := by decide +kernel
theorem dX1_init_59 : decode cX1_init 59 = .ok (.putfield 43, 3) := by decide +kernel
theorem dX1_init_62 : decode cX1_init 62 = .ok (.return_, 1) := by decide +kernel
set_option maxRecDepth 20000 in
theorem ggX1_build_X5_rowAt : GoodIn wsX1_build wsX5_rowAt := goodIn_r _ [14, 15, 16, 79, 80, 81, 82] (by decide +kernel) (by decide +kernel)
set_option maxRecDepth 20000 in
theorem gX1_build_X5_rowAt : GoodIn wsX1_build (wsV RX1 46 RX5 yX5_rowAt wsX5_rowAt) := goodIn_app (goodIn_of _ (by decide +kernel)) ggX1_build_X5_rowAt
set_option maxRecDepth 20000 in
theorem ggX1_build_X1_put : GoodIn wsX1_build wsX1_put := goodIn_r _ [21, 22, 23, 69, 70, 71, 72, 73, 74, 75, 76, 77, 78] (by decide +kernel) (by decide +kernel)
set_option maxRecDepth 20000 in
theorem gX1_build_X1_put : GoodIn wsX1_build (wsV RX1 62 RX1 yX1_put wsX1_put) := goodIn_app (goodIn_of _ (by decide +kernel)) ggX1_build_X1_put
set_option maxRecDepth 20000 in
theorem ggX1_build_X1_manyIn : GoodIn wsX1_build wsX1_manyIn := goodIn_r _ [27, 1, 69, 70, 71, 72, 73, 74, 75, 76, 77, 78] (by decide +kernel) (by decide +kernel)
set_option maxRecDepth 20000 in
theorem gX1_build_X1_manyIn : GoodIn wsX1_build (wsV RX1 66 RX1 yX1_manyIn wsX1_manyIn) := goodIn_app (goodIn_of _ (by decide +kernel)) ggX1_build_X1_manyIn
set_option maxRecDepth 20000 in
theorem ggX1_build_X1_makeEntry : GoodIn wsX1_build wsX1_makeEntry := goodIn_r _ [31, 1, 32, 33, 34, 20, 35, 23, 17, 18, 19, 21, 22, 36, 37, 38, 39, 40, 41, 42, 43, 44, 45, 46, 47, 48, 49, 3, 50, 51, 52, 53, 54, 55, 56, 6, 57, 58, 59, 60, 61, 62, 63, 64, 4, 65, 66, 67, 68, 69, 70, 71, 72, 73, 74, 75, 76, 77, 78] (by decide +kernel) (by decide +kernel)
set_option maxRecDepth 20000 in
theorem gX1_build_X1_makeEntry : GoodIn wsX1_build (wsV RX1 70 RX1 yX1_makeEntry wsX1_makeEntry) := goodIn_app (goodIn_of _ (by decide +kernel)) ggX1_build_X1_makeEntry
theorem dX1_build_0 : decode cX1_build 0 = .ok (.aload_n 1, 1) := by decide +kernel
theorem dX1_build_1 : decode cX1_build 1 = .ok (.iload_n 2, 1) := by decide +kernel
theorem dX1_build_2 : decode cX1_build 2 = .ok (.invokevirtual 46, 3) := by decide +kernel
theorem dX1_build_5 : decode cX1_build 5 = .ok (.astore 4, 2) := by decide +kernel
theorem dX1_build_7 : decode cX1_build 7 = .ok (.aload_n 0, 1) := by decide +kernel
theorem dX1_build_8 : decode cX1_build 8 = .ok (.iload_n 3, 1) := by decide +kernel
theorem dX1_build_9 : decode cX1_build 9 = .ok (.putfield 19, 3) := by decide +kernel
theorem dX1_build_12 : decode cX1_build 12 = .ok (.aload_n 0, 1) := by decide +kernel
theorem dX1_build_13 : decode cX1_build 13 = .ok (.aload_n 1, 1) := by decide +kernel
theorem dX1_build_14 : decode cX1_build 14 = .ok (.getfield 52, 3) := by decide +kernel
theorem dX1_build_17 : decode cX1_build 17 = .ok (.iconst 0, 1) := by decide +kernel
theorem dX1_build_18 : decode cX1_build 18 = .ok (.daload, 1) := by decide +kernel
theorem dX1_build_19 : decode cX1_build 19 = .ok (.putfield 23, 3) := by decide +kernel
theorem dX1_build_22 : decode cX1_build 22 = .ok (.aload_n 0, 1) := by decide +kernel
theorem dX1_build_23 : decode cX1_build 23 = .ok (.aload_n 1, 1) := by decide +kernel
theorem dX1_build_24 : decode cX1_build 24 = .ok (.getfield 52, 3) := by decide +kernel
theorem dX1_build_27 : decode cX1_build 27 = .ok (.iconst 1, 1) := by decide +kernel
theorem dX1_build_28 : decode cX1_build 28 = .ok (.daload, 1) := by decide +kernel
theorem dX1_build_29 : decode cX1_build 29 = .ok (.putfield 27, 3) := by decide +kernel
theorem dX1_build_32 : decode cX1_build 32 = .ok (.aload_n 0, 1) := by decide +kernel
theorem dX1_build_33 : decode cX1_build 33 = .ok (.aload_n 1, 1) := by decide +kernel
theorem dX1_build_34 : decode cX1_build 34 = .ok (.getfield 55, 3) := by decide +kernel
theorem dX1_build_37 : decode cX1_build 37 = .ok (.putfield 30, 3) := by decide +kernel
theorem dX1_build_40 : decode cX1_build 40 = .ok (.aload_n 0, 1) := by decide +kernel
theorem dX1_build_41 : decode cX1_build 41 = .ok (.aload 4, 2) := by decide +kernel
theorem dX1_build_43 : decode cX1_build 43 = .ok (.getfield 56, 3) := by decide +kernel
theorem dX1_build_46 : decode cX1_build 46 = .ok (.putfield 34, 3) := by decide +kernel
theorem dX1_build_49 : decode cX1_build 49 = .ok (.iconst 0, 1) := by decide +kernel
theorem dX1_build_50 : decode cX1_build 50 = .ok (.istore 5, 2) := by decide +kernel
theorem dX1_build_52 : decode cX1_build 52 = .ok (.iload 5, 2) := by decide +kernel
theorem dX1_build_54 : decode cX1_build 54 = .ok (.aload_n 0, 1) := by decide +kernel
theorem dX1_build_55 : decode cX1_build 55 = .ok (.getfield 34, 3) := by decide +kernel
theorem dX1_build_58 : decode cX1_build 58 = .ok (.if_icmp .ge 24, 3) := by decide +kernel
theorem dX1_build_61 : decode cX1_build 61 = .ok (.aload_n 0, 1) := by decide +kernel
theorem dX1_build_62 : decode cX1_build 62 = .ok (.iload 5, 2) := by decide +kernel
theorem dX1_build_64 : decode cX1_build 64 = .ok (.aload 4, 2) := by decide +kernel
theorem dX1_build_66 : decode cX1_build 66 = .ok (.getfield 59, 3) := by decide +kernel
theorem dX1_build_69 : decode cX1_build 69 = .ok (.iload 5, 2) := by decide +kernel
theorem dX1_build_71 : decode cX1_build 71 = .ok (.daload, 1) := by decide +kernel
theorem dX1_build_72 : decode cX1_build 72 = .ok (.iconst 0, 1) := by decide +kernel
theorem dX1_build_73 : decode cX1_build 73 = .ok (.invokevirtual 62, 3) := by decide +kernel
theorem dX1_build_76 : decode cX1_build 76 = .ok (.iinc 5 1, 3) := by decide +kernel
theorem dX1_build_79 : decode cX1_build 79 = .ok (.goto (-27), 3) := by decide +kernel
theorem dX1_build_82 : decode cX1_build 82 = .ok (.iconst 1, 1) := by decide +kernel
theorem dX1_build_83 : decode cX1_build 83 = .ok (.istore 5, 2) := by decide +kernel
theorem dX1_build_85 : decode cX1_build 85 = .ok (.iload 5, 2) := by decide +kernel
theorem dX1_build_87 : decode cX1_build 87 = .ok (.bipush 16, 2) := by decide +kernel
theorem dX1_build_89 : decode cX1_build 89 = .ok (.if_icmp .ge 45, 3) := by decide +kernel
theorem dX1_build_92 : decode cX1_build 92 = .ok (.aload_n 0, 1) := by decide +kernel
theorem dX1_build_93 : decode cX1_build 93 = .ok (.iload 5, 2) := by decide +kernel
theorem dX1_build_95 : decode cX1_build 95 = .ok (.aload_n 0, 1) := by decide +kernel
theorem dX1_build_96 : decode cX1_build 96 = .ok (.getfield 34, 3) := by decide +kernel
theorem dX1_build_99 : decode cX1_build 99 = .ok (.invokevirtual 66, 3) := by decide +kernel
theorem dX1_build_102 : decode cX1_build 102 = .ok (.istore 6, 2) := by decide +kernel
theorem dX1_build_104 : decode cX1_build 104 = .ok (.iconst 0, 1) := by decide +kernel
theorem dX1_build_105 : decode cX1_build 105 = .ok (.istore 7, 2) := by decide +kernel
theorem dX1_build_107 : decode cX1_build 107 = .ok (.iload 7, 2) := by decide +kernel
theorem dX1_build_109 : decode cX1_build 109 = .ok (.iload 6, 2) := by decide +kernel
theorem dX1_build_111 : decode cX1_build 111 = .ok (.if_icmp .ge 17, 3) := by decide +kernel
theorem dX1_build_114 : decode cX1_build 114 = .ok (.aload_n 0, 1) := by decide +kernel
theorem dX1_build_115 : decode cX1_build 115 = .ok (.iload 5, 2) := by decide +kernel
theorem dX1_build_117 : decode cX1_build 117 = .ok (.iload 7, 2) := by decide +kernel
theorem dX1_build_119 : decode cX1_build 119 = .ok (.invokevirtual 70, 3) := by decide +kernel
theorem dX1_build_122 : decode cX1_build 122 = .ok (.iinc 7 1, 3) := by decide +kernel
theorem dX1_build_125 : decode cX1_build 125 = .ok (.goto (-18), 3) := by decide +kernel
theorem dX1_build_128 : decode cX1_build 128 = .ok (.iinc 5 1, 3) := by decide +kernel
theorem dX1_build_131 : decode cX1_build 131 = .ok (.goto (-46), 3) := by decide +kernel
theorem dX1_build_134 : decode cX1_build 134 = .ok (.return_, 1) := by decide +kernel
theorem dX1_manyIn_0 : decode cX1_manyIn 0 = .ok (.aload_n 0, 1) := by decide +kernel
theorem dX1_manyIn_1 : decode cX1_manyIn 1 = .ok (.getfield 19, 3) := by decide +kernel
theorem dX1_manyIn_4 : decode cX1_manyIn 4 = .ok (.iconst 2, 1) := by decide +kernel
theorem dX1_manyIn_5 : decode cX1_manyIn 5 = .ok (.if_icmp .ne 11, 3) := by decide +kernel
theorem dX1_manyIn_8 : decode cX1_manyIn 8 = .ok (.iload_n 2, 1) := by decide +kernel
theorem dX1_manyIn_9 : decode cX1_manyIn 9 = .ok (.iconst 2, 1) := by decide +kernel
theorem dX1_manyIn_10 : decode cX1_manyIn 10 = .ok (.iload_n 1, 1) := by decide +kernel
theorem dX1_manyIn_11 : decode cX1_manyIn 11 = .ok (.imul, 1) := by decide +kernel
theorem dX1_manyIn_12 : decode cX1_manyIn 12 = .ok (.isub, 1) := by decide +kernel
theorem dX1_manyIn_13 : decode cX1_manyIn 13 = .ok (.goto 6, 3) := by decide +kernel
theorem dX1_manyIn_16 : decode cX1_manyIn 16 = .ok (.iload_n 2, 1) := by decide +kernel
theorem dX1_manyIn_17 : decode cX1_manyIn 17 = .ok (.iload_n 1, 1) := by decide +kernel
theorem dX1_manyIn_18 : decode cX1_manyIn 18 = .ok (.isub, 1) := by decide +kernel
theorem dX1_manyIn_19 : decode cX1_manyIn 19 = .ok (.istore_n 3, 1) := by decide +kernel
theorem dX1_manyIn_20 : decode cX1_manyIn 20 = .ok (.iload_n 3, 1) := by decide +kernel
theorem dX1_manyIn_21 : decode cX1_manyIn 21 = .ok (.ifCond .ge 7, 3) := by decide +kernel
theorem dX1_manyIn_24 : decode cX1_manyIn 24 = .ok (.iconst 0, 1) := by decide +kernel
theorem dX1_manyIn_25 : decode cX1_manyIn 25 = .ok (.goto 4, 3) := by decide +kernel
theorem dX1_manyIn_28 : decode cX1_manyIn 28 = .ok (.iload_n 3, 1) := by decide +kernel
theorem dX1_manyIn_29 : decode cX1_manyIn 29 = .ok (.ireturn, 1) := by decide +kernel
theorem dX1_put_0 : decode cX1_put 0 = .ok (.aload_n 0, 1) := by decide +kernel
theorem dX1_put_1 : decode cX1_put 1 = .ok (.getfield 9, 3) := by decide +kernel
theorem dX1_put_4 : decode cX1_put 4 = .ok (.iload_n 1, 1) := by decide +kernel
theorem dX1_put_5 : decode cX1_put 5 = .ok (.dload_n 2, 1) := by decide +kernel
theorem dX1_put_6 : decode cX1_put 6 = .ok (.dastore, 1) := by decide +kernel
theorem dX1_put_7 : decode cX1_put 7 = .ok (.aload_n 0, 1) := by decide +kernel
theorem dX1_put_8 : decode cX1_put 8 = .ok (.getfield 15, 3) := by decide +kernel
theorem dX1_put_11 : decode cX1_put 11 = .ok (.iload_n 1, 1) := by decide +kernel
theorem dX1_put_12 : decode cX1_put 12 = .ok (.iload 4, 2) := by decide +kernel
theorem dX1_put_14 : decode cX1_put 14 = .ok (.iastore, 1) := by decide +kernel
theorem dX1_put_15 : decode cX1_put 15 = .ok (.return_, 1) := by decide +kernel
set_option maxRecDepth 20000 in
theorem ggX1_makeEntry_X1_restsOnBroken : GoodIn wsX1_makeEntry wsX1_restsOnBroken := goodIn_r _ [6, 7, 1, 49, 50, 51, 52, 53, 54, 55, 56, 57, 58] (by decide +kernel) (by decide +kernel)
set_option maxRecDepth 20000 in
theorem gX1_makeEntry_X1_restsOnBroken : GoodIn wsX1_makeEntry (wsV RX1 74 RX1 yX1_restsOnBroken wsX1_restsOnBroken) := goodIn_app (goodIn_of _ (by decide +kernel)) ggX1_makeEntry_X1_restsOnBroken
set_option maxRecDepth 20000 in
theorem ggX1_makeEntry_X1_put : GoodIn wsX1_makeEntry wsX1_put := goodIn_r _ [11, 12, 7, 49, 50, 51, 52, 53, 54, 55, 56, 57, 58] (by decide +kernel) (by decide +kernel)
set_option maxRecDepth 20000 in
theorem gX1_makeEntry_X1_put : GoodIn wsX1_makeEntry (wsV RX1 62 RX1 yX1_put wsX1_put) := goodIn_app (goodIn_of _ (by decide +kernel)) ggX1_makeEntry_X1_put
set_option maxRecDepth 20000 in
theorem ggX1_makeEntry_X1_makeOfThree : GoodIn wsX1_makeEntry wsX1_makeOfThree := goodIn_r _ [16, 12, 17, 18, 19, 20, 21, 22, 23, 24, 25, 5, 26, 27, 28, 29, 30, 31, 32, 33, 34, 35, 8, 9, 10, 11, 7, 36, 37, 38, 39, 49, 50, 51, 52, 53, 54, 55, 56, 57, 58] (by decide +kernel) (by decide +kernel)
set_option maxRecDepth 20000 in
theorem gX1_makeEntry_X1_makeOfThree : GoodIn wsX1_makeEntry (wsV RX1 78 RX1 yX1_makeOfThree wsX1_makeOfThree) := goodIn_app (goodIn_of _ (by decide +kernel)) ggX1_makeEntry_X1_makeOfThree
set_option maxRecDepth 20000 in
theorem ggX1_makeEntry_X1_makeByRatio : GoodIn wsX1_makeEntry wsX1_makeByRatio := goodIn_r _ [43, 12, 44, 23, 24, 25, 5, 26, 27, 28, 29, 19, 30, 31, 32, 33, 34, 35, 8, 9, 10, 11, 7, 36, 37, 38, 39, 17, 18, 20, 21, 22, 49, 50, 51, 52, 53, 54, 55, 56, 57, 58] (by decide +kernel) (by decide +kernel)
set_option maxRecDepth 20000 in
theorem gX1_makeEntry_X1_makeByRatio : GoodIn wsX1_makeEntry (wsV RX1 82 RX1 yX1_makeByRatio wsX1_makeByRatio) := goodIn_app (goodIn_of _ (by decide +kernel)) ggX1_makeEntry_X1_makeByRatio
set_option maxRecDepth 20000 in
theorem ggX1_makeEntry_X1_makeByInverse : GoodIn wsX1_makeEntry wsX1_makeByInverse := goodIn_r _ [48, 12, 1, 23, 24, 25, 5, 26, 27, 28, 29, 19, 30, 31, 32, 33, 34, 35, 8, 9, 10, 11, 7, 36, 37, 38, 39, 17, 18, 20, 21, 22, 49, 50, 51, 52, 53, 54, 55, 56, 57, 58] (by decide +kernel) (by decide +kernel)
set_option maxRecDepth 20000 in
theorem gX1_makeEntry_X1_makeByInverse : GoodIn wsX1_makeEntry (wsV RX1 85 RX1 yX1_makeByInverse wsX1_makeByInverse) := goodIn_app (goodIn_of _ (by decide +kernel)) ggX1_makeEntry_X1_makeByInverse
theorem dX1_makeEntry_0 : decode cX1_makeEntry 0 = .ok (.iload_n 1, 1) := by decide +kernel
theorem dX1_makeEntry_1 : decode cX1_makeEntry 1 = .ok (.bipush 16, 2) := by decide +kernel
theorem dX1_makeEntry_3 : decode cX1_makeEntry 3 = .ok (.imul, 1) := by decide +kernel
theorem dX1_makeEntry_4 : decode cX1_makeEntry 4 = .ok (.iload_n 2, 1) := by decide +kernel
theorem dX1_makeEntry_5 : decode cX1_makeEntry 5 = .ok (.iadd, 1) := by decide +kernel
theorem dX1_makeEntry_6 : decode cX1_makeEntry 6 = .ok (.istore_n 3, 1) := by decide +kernel
theorem dX1_makeEntry_7 : decode cX1_makeEntry 7 = .ok (.aload_n 0, 1) := by decide +kernel
theorem dX1_makeEntry_8 : decode cX1_makeEntry 8 = .ok (.iload_n 1, 1) := by decide +kernel
theorem dX1_makeEntry_9 : decode cX1_makeEntry 9 = .ok (.iload_n 3, 1) := by decide +kernel
theorem dX1_makeEntry_10 : decode cX1_makeEntry 10 = .ok (.bipush 16, 2) := by decide +kernel
theorem dX1_makeEntry_12 : decode cX1_makeEntry 12 = .ok (.isub, 1) := by decide +kernel
theorem dX1_makeEntry_13 : decode cX1_makeEntry 13 = .ok (.invokevirtual 74, 3) := by decide +kernel
theorem dX1_makeEntry_16 : decode cX1_makeEntry 16 = .ok (.ifCond .eq 13, 3) := by decide +kernel
theorem dX1_makeEntry_19 : decode cX1_makeEntry 19 = .ok (.aload_n 0, 1) := by decide +kernel
theorem dX1_makeEntry_20 : decode cX1_makeEntry 20 = .ok (.iload_n 3, 1) := by decide +kernel
theorem dX1_makeEntry_21 : decode cX1_makeEntry 21 = .ok (.dconst 0, 1) := by decide +kernel
theorem dX1_makeEntry_22 : decode cX1_makeEntry 22 = .ok (.iconst 3, 1) := by decide +kernel
theorem dX1_makeEntry_23 : decode cX1_makeEntry 23 = .ok (.invokevirtual 62, 3) := by decide +kernel
theorem dX1_makeEntry_26 : decode cX1_makeEntry 26 = .ok (.goto 42, 3) := by decide +kernel
theorem dX1_makeEntry_29 : decode cX1_makeEntry 29 = .ok (.aload_n 0, 1) := by decide +kernel
theorem dX1_makeEntry_30 : decode cX1_makeEntry 30 = .ok (.getfield 19, 3) := by decide +kernel
theorem dX1_makeEntry_33 : decode cX1_makeEntry 33 = .ok (.iconst 2, 1) := by decide +kernel
theorem dX1_makeEntry_34 : decode cX1_makeEntry 34 = .ok (.if_icmp .ne 11, 3) := by decide +kernel
theorem dX1_makeEntry_37 : decode cX1_makeEntry 37 = .ok (.aload_n 0, 1) := by decide +kernel
theorem dX1_makeEntry_38 : decode cX1_makeEntry 38 = .ok (.iload_n 3, 1) := by decide +kernel
theorem dX1_makeEntry_39 : decode cX1_makeEntry 39 = .ok (.invokevirtual 78, 3) := by decide +kernel
theorem dX1_makeEntry_42 : decode cX1_makeEntry 42 = .ok (.goto 26, 3) := by decide +kernel
theorem dX1_makeEntry_45 : decode cX1_makeEntry 45 = .ok (.aload_n 0, 1) := by decide +kernel
theorem dX1_makeEntry_46 : decode cX1_makeEntry 46 = .ok (.getfield 19, 3) := by decide +kernel
theorem dX1_makeEntry_49 : decode cX1_makeEntry 49 = .ok (.iconst 3, 1) := by decide +kernel
theorem dX1_makeEntry_50 : decode cX1_makeEntry 50 = .ok (.if_icmp .ne 12, 3) := by decide +kernel
theorem dX1_makeEntry_53 : decode cX1_makeEntry 53 = .ok (.aload_n 0, 1) := by decide +kernel
theorem dX1_makeEntry_54 : decode cX1_makeEntry 54 = .ok (.iload_n 1, 1) := by decide +kernel
theorem dX1_makeEntry_55 : decode cX1_makeEntry 55 = .ok (.iload_n 3, 1) := by decide +kernel
theorem dX1_makeEntry_56 : decode cX1_makeEntry 56 = .ok (.invokevirtual 82, 3) := by decide +kernel
theorem dX1_makeEntry_59 : decode cX1_makeEntry 59 = .ok (.goto 9, 3) := by decide +kernel
theorem dX1_makeEntry_62 : decode cX1_makeEntry 62 = .ok (.aload_n 0, 1) := by decide +kernel
theorem dX1_makeEntry_63 : decode cX1_makeEntry 63 = .ok (.iload_n 1, 1) := by decide +kernel
theorem dX1_makeEntry_64 : decode cX1_makeEntry 64 = .ok (.iload_n 3, 1) := by decide +kernel
theorem dX1_makeEntry_65 : decode cX1_makeEntry 65 = .ok (.invokevirtual 85, 3) := by decide +kernel
theorem dX1_makeEntry_68 : decode cX1_makeEntry 68 = .ok (.return_, 1) := by decide +kernel
theorem dX1_restsOnBroken_0 : decode cX1_restsOnBroken 0 = .ok (.aload_n 0, 1) := by decide +kernel
theorem dX1_restsOnBroken_1 : decode cX1_restsOnBroken 1 = .ok (.getfield 15, 3) := by decide +kernel
theorem dX1_restsOnBroken_4 : decode cX1_restsOnBroken 4 = .ok (.iload_n 2, 1) := by decide +kernel
theorem dX1_restsOnBroken_5 : decode cX1_restsOnBroken 5 = .ok (.iaload, 1) := by decide +kernel
theorem dX1_restsOnBroken_6 : decode cX1_restsOnBroken 6 = .ok (.iconst 2, 1) := by decide +kernel
theorem dX1_restsOnBroken_7 : decode cX1_restsOnBroken 7 = .ok (.if_icmp .ge 15, 3) := by decide +kernel
theorem dX1_restsOnBroken_10 : decode cX1_restsOnBroken 10 = .ok (.aload_n 0, 1) := by decide +kernel
theorem dX1_restsOnBroken_11 : decode cX1_restsOnBroken 11 = .ok (.getfield 15, 3) := by decide +kernel
theorem dX1_restsOnBroken_14 : decode cX1_restsOnBroken 14 = .ok (.iload_n 2, 1) := by decide +kernel
theorem dX1_restsOnBroken_15 : decode cX1_restsOnBroken 15 = .ok (.iconst 1, 1) := by decide +kernel
theorem dX1_restsOnBroken_16 : decode cX1_restsOnBroken 16 = .ok (.iadd, 1) := by decide +kernel
theorem dX1_restsOnBroken_17 : decode cX1_restsOnBroken 17 = .ok (.iaload, 1) := by decide +kernel
theorem dX1_restsOnBroken_18 : decode cX1_restsOnBroken 18 = .ok (.iconst 2, 1) := by decide +kernel
theorem dX1_restsOnBroken_19 : decode cX1_restsOnBroken 19 = .ok (.if_icmp .lt 5, 3) := by decide +kernel
theorem dX1_restsOnBroken_22 : decode cX1_restsOnBroken 22 = .ok (.iconst 1, 1) := by decide +kernel
theorem dX1_restsOnBroken_23 : decode cX1_restsOnBroken 23 = .ok (.ireturn, 1) := by decide +kernel
theorem dX1_restsOnBroken_24 : decode cX1_restsOnBroken 24 = .ok (.aload_n 0, 1) := by decide +kernel
theorem dX1_restsOnBroken_25 : decode cX1_restsOnBroken 25 = .ok (.getfield 19, 3) := by decide +kernel
theorem dX1_restsOnBroken_28 : decode cX1_restsOnBroken 28 = .ok (.iconst 2, 1) := by decide +kernel
theorem dX1_restsOnBroken_29 : decode cX1_restsOnBroken 29 = .ok (.if_icmp .ne 21, 3) := by decide +kernel
theorem dX1_restsOnBroken_32 : decode cX1_restsOnBroken 32 = .ok (.aload_n 0, 1) := by decide +kernel
theorem dX1_restsOnBroken_33 : decode cX1_restsOnBroken 33 = .ok (.getfield 15, 3) := by decide +kernel
theorem dX1_restsOnBroken_36 : decode cX1_restsOnBroken 36 = .ok (.iload_n 2, 1) := by decide +kernel
theorem dX1_restsOnBroken_37 : decode cX1_restsOnBroken 37 = .ok (.iconst 2, 1) := by decide +kernel
theorem dX1_restsOnBroken_38 : decode cX1_restsOnBroken 38 = .ok (.iadd, 1) := by decide +kernel
theorem dX1_restsOnBroken_39 : decode cX1_restsOnBroken 39 = .ok (.iaload, 1) := by decide +kernel
theorem dX1_restsOnBroken_40 : decode cX1_restsOnBroken 40 = .ok (.iconst 2, 1) := by decide +kernel
theorem dX1_restsOnBroken_41 : decode cX1_restsOnBroken 41 = .ok (.if_icmp .lt 7, 3) := by decide +kernel
theorem dX1_restsOnBroken_44 : decode cX1_restsOnBroken 44 = .ok (.iconst 1, 1) := by decide +kernel
theorem dX1_restsOnBroken_45 : decode cX1_restsOnBroken 45 = .ok (.goto 4, 3) := by decide +kernel
theorem dX1_restsOnBroken_48 : decode cX1_restsOnBroken 48 = .ok (.iconst 0, 1) := by decide +kernel
theorem dX1_restsOnBroken_49 : decode cX1_restsOnBroken 49 = .ok (.ireturn, 1) := by decide +kernel
theorem dX1_restsOnBroken_50 : decode cX1_restsOnBroken 50 = .ok (.aload_n 0, 1) := by decide +kernel
theorem dX1_restsOnBroken_51 : decode cX1_restsOnBroken 51 = .ok (.getfield 19, 3) := by decide +kernel
theorem dX1_restsOnBroken_54 : decode cX1_restsOnBroken 54 = .ok (.iconst 2, 1) := by decide +kernel
theorem dX1_restsOnBroken_55 : decode cX1_restsOnBroken 55 = .ok (.if_icmp .ge 27, 3) := by decide +kernel
theorem dX1_restsOnBroken_58 : decode cX1_restsOnBroken 58 = .ok (.iload_n 1, 1) := by decide +kernel
theorem dX1_restsOnBroken_59 : decode cX1_restsOnBroken 59 = .ok (.iconst 2, 1) := by decide +kernel
theorem dX1_restsOnBroken_60 : decode cX1_restsOnBroken 60 = .ok (.if_icmp .lt 22, 3) := by decide +kernel
theorem dX1_restsOnBroken_63 : decode cX1_restsOnBroken 63 = .ok (.aload_n 0, 1) := by decide +kernel
theorem dX1_restsOnBroken_64 : decode cX1_restsOnBroken 64 = .ok (.getfield 15, 3) := by decide +kernel
theorem dX1_restsOnBroken_67 : decode cX1_restsOnBroken 67 = .ok (.iload_n 2, 1) := by decide +kernel
theorem dX1_restsOnBroken_68 : decode cX1_restsOnBroken 68 = .ok (.bipush 16, 2) := by decide +kernel
theorem dX1_restsOnBroken_70 : decode cX1_restsOnBroken 70 = .ok (.isub, 1) := by decide +kernel
theorem dX1_restsOnBroken_71 : decode cX1_restsOnBroken 71 = .ok (.iconst 1, 1) := by decide +kernel
theorem dX1_restsOnBroken_72 : decode cX1_restsOnBroken 72 = .ok (.iadd, 1) := by decide +kernel
theorem dX1_restsOnBroken_73 : decode cX1_restsOnBroken 73 = .ok (.iaload, 1) := by decide +kernel
theorem dX1_restsOnBroken_74 : decode cX1_restsOnBroken 74 = .ok (.iconst 2, 1) := by decide +kernel
theorem dX1_restsOnBroken_75 : decode cX1_restsOnBroken 75 = .ok (.if_icmp .lt 7, 3) := by decide +kernel
theorem dX1_restsOnBroken_78 : decode cX1_restsOnBroken 78 = .ok (.iconst 1, 1) := by decide +kernel
theorem dX1_restsOnBroken_79 : decode cX1_restsOnBroken 79 = .ok (.goto 4, 3) := by decide +kernel
theorem dX1_restsOnBroken_82 : decode cX1_restsOnBroken 82 = .ok (.iconst 0, 1) := by decide +kernel
theorem dX1_restsOnBroken_83 : decode cX1_restsOnBroken 83 = .ok (.ireturn, 1) := by decide +kernel
set_option maxRecDepth 20000 in
theorem ggX1_makeByInverse_X1_isTooSmall : GoodIn wsX1_makeByInverse wsX1_isTooSmall := goodIn_r _ [7, 8, 9, 10, 11, 12, 32, 33, 34, 35, 36, 37, 38, 39, 40, 41] (by decide +kernel) (by decide +kernel)
set_option maxRecDepth 20000 in
theorem gX1_makeByInverse_X1_isTooSmall : GoodIn wsX1_makeByInverse (wsV RX1 88 RX1 yX1_isTooSmall wsX1_isTooSmall) := goodIn_app (goodIn_of _ (by decide +kernel)) ggX1_makeByInverse_X1_isTooSmall
set_option maxRecDepth 20000 in
theorem ggX1_makeByInverse_X1_putUndivided : GoodIn wsX1_makeByInverse wsX1_putUndivided := goodIn_r _ [16, 17, 18, 19, 20, 6, 21, 1, 22, 32, 33, 34, 35, 36, 37, 38, 39, 40, 41] (by decide +kernel) (by decide +kernel)
set_option maxRecDepth 20000 in
theorem gX1_makeByInverse_X1_putUndivided : GoodIn wsX1_makeByInverse (wsV RX1 92 RX1 yX1_putUndivided wsX1_putUndivided) := goodIn_app (goodIn_of _ (by decide +kernel)) ggX1_makeByInverse_X1_putUndivided
set_option maxRecDepth 20000 in
theorem ggX1_makeByInverse_X1_putIfFinite : GoodIn wsX1_makeByInverse wsX1_putIfFinite := goodIn_r _ [26, 27, 28, 11, 29, 30, 31, 18, 19, 20, 6, 21, 1, 22, 32, 33, 34, 35, 36, 37, 38, 39, 40, 41] (by decide +kernel) (by decide +kernel)
set_option maxRecDepth 20000 in
theorem gX1_makeByInverse_X1_putIfFinite : GoodIn wsX1_makeByInverse (wsV RX1 96 RX1 yX1_putIfFinite wsX1_putIfFinite) := goodIn_app (goodIn_of _ (by decide +kernel)) ggX1_makeByInverse_X1_putIfFinite
theorem dX1_makeByInverse_0 : decode cX1_makeByInverse 0 = .ok (.iload_n 2, 1) := by decide +kernel
theorem dX1_makeByInverse_1 : decode cX1_makeByInverse 1 = .ok (.bipush 16, 2) := by decide +kernel
theorem dX1_makeByInverse_3 : decode cX1_makeByInverse 3 = .ok (.isub, 1) := by decide +kernel
theorem dX1_makeByInverse_4 : decode cX1_makeByInverse 4 = .ok (.istore_n 3, 1) := by decide +kernel
theorem dX1_makeByInverse_5 : decode cX1_makeByInverse 5 = .ok (.iload_n 1, 1) := by decide +kernel
theorem dX1_makeByInverse_6 : decode cX1_makeByInverse 6 = .ok (.iconst 2, 1) := by decide +kernel
theorem dX1_makeByInverse_7 : decode cX1_makeByInverse 7 = .ok (.if_icmp .lt 17, 3) := by decide +kernel
theorem dX1_makeByInverse_10 : decode cX1_makeByInverse 10 = .ok (.aload_n 0, 1) := by decide +kernel
theorem dX1_makeByInverse_11 : decode cX1_makeByInverse 11 = .ok (.getfield 9, 3) := by decide +kernel
theorem dX1_makeByInverse_14 : decode cX1_makeByInverse 14 = .ok (.iload_n 3, 1) := by decide +kernel
theorem dX1_makeByInverse_15 : decode cX1_makeByInverse 15 = .ok (.bipush 16, 2) := by decide +kernel
theorem dX1_makeByInverse_17 : decode cX1_makeByInverse 17 = .ok (.isub, 1) := by decide +kernel
theorem dX1_makeByInverse_18 : decode cX1_makeByInverse 18 = .ok (.iconst 1, 1) := by decide +kernel
theorem dX1_makeByInverse_19 : decode cX1_makeByInverse 19 = .ok (.iadd, 1) := by decide +kernel
theorem dX1_makeByInverse_20 : decode cX1_makeByInverse 20 = .ok (.daload, 1) := by decide +kernel
theorem dX1_makeByInverse_21 : decode cX1_makeByInverse 21 = .ok (.goto 4, 3) := by decide +kernel
theorem dX1_makeByInverse_24 : decode cX1_makeByInverse 24 = .ok (.dconst 0, 1) := by decide +kernel
theorem dX1_makeByInverse_25 : decode cX1_makeByInverse 25 = .ok (.dstore 4, 2) := by decide +kernel
theorem dX1_makeByInverse_27 : decode cX1_makeByInverse 27 = .ok (.aload_n 0, 1) := by decide +kernel
theorem dX1_makeByInverse_28 : decode cX1_makeByInverse 28 = .ok (.getfield 9, 3) := by decide +kernel
theorem dX1_makeByInverse_31 : decode cX1_makeByInverse 31 = .ok (.iload_n 3, 1) := by decide +kernel
theorem dX1_makeByInverse_32 : decode cX1_makeByInverse 32 = .ok (.iconst 1, 1) := by decide +kernel
theorem dX1_makeByInverse_33 : decode cX1_makeByInverse 33 = .ok (.iadd, 1) := by decide +kernel
theorem dX1_makeByInverse_34 : decode cX1_makeByInverse 34 = .ok (.daload, 1) := by decide +kernel
theorem dX1_makeByInverse_35 : decode cX1_makeByInverse 35 = .ok (.aload_n 0, 1) := by decide +kernel
theorem dX1_makeByInverse_36 : decode cX1_makeByInverse 36 = .ok (.getfield 9, 3) := by decide +kernel
theorem dX1_makeByInverse_39 : decode cX1_makeByInverse 39 = .ok (.iload_n 3, 1) := by decide +kernel
theorem dX1_makeByInverse_40 : decode cX1_makeByInverse 40 = .ok (.daload, 1) := by decide +kernel
theorem dX1_makeByInverse_41 : decode cX1_makeByInverse 41 = .ok (.dsub, 1) := by decide +kernel
theorem dX1_makeByInverse_42 : decode cX1_makeByInverse 42 = .ok (.dstore 6, 2) := by decide +kernel
theorem dX1_makeByInverse_44 : decode cX1_makeByInverse 44 = .ok (.aload_n 0, 1) := by decide +kernel
theorem dX1_makeByInverse_45 : decode cX1_makeByInverse 45 = .ok (.dload 6, 2) := by decide +kernel
theorem dX1_makeByInverse_47 : decode cX1_makeByInverse 47 = .ok (.invokevirtual 88, 3) := by decide +kernel
theorem dX1_makeByInverse_50 : decode cX1_makeByInverse 50 = .ok (.ifCond .eq 13, 3) := by decide +kernel
theorem dX1_makeByInverse_53 : decode cX1_makeByInverse 53 = .ok (.aload_n 0, 1) := by decide +kernel
theorem dX1_makeByInverse_54 : decode cX1_makeByInverse 54 = .ok (.iload_n 2, 1) := by decide +kernel
theorem dX1_makeByInverse_55 : decode cX1_makeByInverse 55 = .ok (.dload 4, 2) := by decide +kernel
theorem dX1_makeByInverse_57 : decode cX1_makeByInverse 57 = .ok (.dconst 0, 1) := by decide +kernel
theorem dX1_makeByInverse_58 : decode cX1_makeByInverse 58 = .ok (.dadd, 1) := by decide +kernel
theorem dX1_makeByInverse_59 : decode cX1_makeByInverse 59 = .ok (.invokevirtual 92, 3) := by decide +kernel
theorem dX1_makeByInverse_62 : decode cX1_makeByInverse 62 = .ok (.return_, 1) := by decide +kernel
theorem dX1_makeByInverse_63 : decode cX1_makeByInverse 63 = .ok (.aload_n 0, 1) := by decide +kernel
theorem dX1_makeByInverse_64 : decode cX1_makeByInverse 64 = .ok (.getfield 19, 3) := by decide +kernel
theorem dX1_makeByInverse_67 : decode cX1_makeByInverse 67 = .ok (.ifCond .ne 7, 3) := by decide +kernel
theorem dX1_makeByInverse_70 : decode cX1_makeByInverse 70 = .ok (.dconst 1, 1) := by decide +kernel
theorem dX1_makeByInverse_71 : decode cX1_makeByInverse 71 = .ok (.goto 5, 3) := by decide +kernel
theorem dX1_makeByInverse_74 : decode cX1_makeByInverse 74 = .ok (.iload_n 1, 1) := by decide +kernel
theorem dX1_makeByInverse_75 : decode cX1_makeByInverse 75 = .ok (.i2d, 1) := by decide +kernel
theorem dX1_makeByInverse_76 : decode cX1_makeByInverse 76 = .ok (.dstore 8, 2) := by decide +kernel
theorem dX1_makeByInverse_78 : decode cX1_makeByInverse 78 = .ok (.aload_n 0, 1) := by decide +kernel
theorem dX1_makeByInverse_79 : decode cX1_makeByInverse 79 = .ok (.iload_n 2, 1) := by decide +kernel
theorem dX1_makeByInverse_80 : decode cX1_makeByInverse 80 = .ok (.dload 4, 2) := by decide +kernel
theorem dX1_makeByInverse_82 : decode cX1_makeByInverse 82 = .ok (.dload 8, 2) := by decide +kernel
theorem dX1_makeByInverse_84 : decode cX1_makeByInverse 84 = .ok (.dload 6, 2) := by decide +kernel
theorem dX1_makeByInverse_86 : decode cX1_makeByInverse 86 = .ok (.ddiv, 1) := by decide +kernel
theorem dX1_makeByInverse_87 : decode cX1_makeByInverse 87 = .ok (.dadd, 1) := by decide +kernel
theorem dX1_makeByInverse_88 : decode cX1_makeByInverse 88 = .ok (.invokevirtual 96, 3) := by decide +kernel
theorem dX1_makeByInverse_91 : decode cX1_makeByInverse 91 = .ok (.return_, 1) := by decide +kernel
set_option maxRecDepth 20000 in
theorem ggX1_makeOfThree_X3_isFinite : GoodIn wsX1_makeOfThree wsX3_isFinite := goodIn_r _ [5, 6, 7] (by decide +kernel) (by decide +kernel)
set_option maxRecDepth 20000 in
theorem gX1_makeOfThree_X3_isFinite : GoodIn wsX1_makeOfThree (va_wsS RX1 99 yX3_isFinite wsX3_isFinite) := goodIn_app (goodIn_of _ (by decide +kernel)) ggX1_makeOfThree_X3_isFinite
set_option maxRecDepth 20000 in
theorem ggX1_makeOfThree_X1_isTooSmall : GoodIn wsX1_makeOfThree wsX1_isTooSmall := goodIn_r _ [12, 13, 14, 15, 4, 16, 31, 32, 33, 34, 35, 36, 37, 38, 39, 40] (by decide +kernel) (by decide +kernel)
set_option maxRecDepth 20000 in
theorem gX1_makeOfThree_X1_isTooSmall : GoodIn wsX1_makeOfThree (wsV RX1 88 RX1 yX1_isTooSmall wsX1_isTooSmall) := goodIn_app (goodIn_of _ (by decide +kernel)) ggX1_makeOfThree_X1_isTooSmall
set_option maxRecDepth 20000 in
theorem ggX1_makeOfThree_X1_putUndivided : GoodIn wsX1_makeOfThree wsX1_putUndivided := goodIn_r _ [20, 21, 22, 23, 24, 11, 25, 1, 26, 31, 32, 33, 34, 35, 36, 37, 38, 39, 40] (by decide +kernel) (by decide +kernel)
set_option maxRecDepth 20000 in
theorem gX1_makeOfThree_X1_putUndivided : GoodIn wsX1_makeOfThree (wsV RX1 92 RX1 yX1_putUndivided wsX1_putUndivided) := goodIn_app (goodIn_of _ (by decide +kernel)) ggX1_makeOfThree_X1_putUndivided
set_option maxRecDepth 20000 in
theorem ggX1_makeOfThree_X1_put : GoodIn wsX1_makeOfThree wsX1_put := goodIn_r _ [25, 1, 26, 31, 32, 33, 34, 35, 36, 37, 38, 39, 40] (by decide +kernel) (by decide +kernel)
set_option maxRecDepth 20000 in
theorem gX1_makeOfThree_X1_put : GoodIn wsX1_makeOfThree (wsV RX1 62 RX1 yX1_put wsX1_put) := goodIn_app (goodIn_of _ (by decide +kernel)) ggX1_makeOfThree_X1_put
set_option maxRecDepth 20000 in
theorem ggX1_makeOfThree_X1_putIfFinite : GoodIn wsX1_makeOfThree wsX1_putIfFinite := goodIn_r _ [30, 2, 3, 4, 5, 6, 7, 22, 23, 24, 11, 25, 1, 26, 31, 32, 33, 34, 35, 36, 37, 38, 39, 40] (by decide +kernel) (by decide +kernel)
set_option maxRecDepth 20000 in
theorem gX1_makeOfThree_X1_putIfFinite : GoodIn wsX1_makeOfThree (wsV RX1 96 RX1 yX1_putIfFinite wsX1_putIfFinite) := goodIn_app (goodIn_of _ (by decide +kernel)) ggX1_makeOfThree_X1_putIfFinite
theorem dX1_makeOfThree_0 : decode cX1_makeOfThree 0 = .ok (.iload_n 1, 1) := by decide +kernel
theorem dX1_makeOfThree_1 : decode cX1_makeOfThree 1 = .ok (.bipush 16, 2) := by decide +kernel
theorem dX1_makeOfThree_3 : decode cX1_makeOfThree 3 = .ok (.isub, 1) := by decide +kernel
theorem dX1_makeOfThree_4 : decode cX1_makeOfThree 4 = .ok (.istore_n 2, 1) := by decide +kernel
theorem dX1_makeOfThree_5 : decode cX1_makeOfThree 5 = .ok (.aload_n 0, 1) := by decide +kernel
theorem dX1_makeOfThree_6 : decode cX1_makeOfThree 6 = .ok (.getfield 9, 3) := by decide +kernel
theorem dX1_makeOfThree_9 : decode cX1_makeOfThree 9 = .ok (.iload_n 2, 1) := by decide +kernel
theorem dX1_makeOfThree_10 : decode cX1_makeOfThree 10 = .ok (.daload, 1) := by decide +kernel
theorem dX1_makeOfThree_11 : decode cX1_makeOfThree 11 = .ok (.dstore_n 3, 1) := by decide +kernel
theorem dX1_makeOfThree_12 : decode cX1_makeOfThree 12 = .ok (.aload_n 0, 1) := by decide +kernel
theorem dX1_makeOfThree_13 : decode cX1_makeOfThree 13 = .ok (.getfield 9, 3) := by decide +kernel
theorem dX1_makeOfThree_16 : decode cX1_makeOfThree 16 = .ok (.iload_n 2, 1) := by decide +kernel
theorem dX1_makeOfThree_17 : decode cX1_makeOfThree 17 = .ok (.iconst 1, 1) := by decide +kernel
theorem dX1_makeOfThree_18 : decode cX1_makeOfThree 18 = .ok (.iadd, 1) := by decide +kernel
theorem dX1_makeOfThree_19 : decode cX1_makeOfThree 19 = .ok (.daload, 1) := by decide +kernel
theorem dX1_makeOfThree_20 : decode cX1_makeOfThree 20 = .ok (.aload_n 0, 1) := by decide +kernel
theorem dX1_makeOfThree_21 : decode cX1_makeOfThree 21 = .ok (.getfield 9, 3) := by decide +kernel
theorem dX1_makeOfThree_24 : decode cX1_makeOfThree 24 = .ok (.iload_n 2, 1) := by decide +kernel
theorem dX1_makeOfThree_25 : decode cX1_makeOfThree 25 = .ok (.daload, 1) := by decide +kernel
theorem dX1_makeOfThree_26 : decode cX1_makeOfThree 26 = .ok (.dsub, 1) := by decide +kernel
theorem dX1_makeOfThree_27 : decode cX1_makeOfThree 27 = .ok (.dstore 5, 2) := by decide +kernel
theorem dX1_makeOfThree_29 : decode cX1_makeOfThree 29 = .ok (.aload_n 0, 1) := by decide +kernel
theorem dX1_makeOfThree_30 : decode cX1_makeOfThree 30 = .ok (.getfield 9, 3) := by decide +kernel
theorem dX1_makeOfThree_33 : decode cX1_makeOfThree 33 = .ok (.iload_n 2, 1) := by decide +kernel
theorem dX1_makeOfThree_34 : decode cX1_makeOfThree 34 = .ok (.iconst 2, 1) := by decide +kernel
theorem dX1_makeOfThree_35 : decode cX1_makeOfThree 35 = .ok (.iadd, 1) := by decide +kernel
theorem dX1_makeOfThree_36 : decode cX1_makeOfThree 36 = .ok (.daload, 1) := by decide +kernel
theorem dX1_makeOfThree_37 : decode cX1_makeOfThree 37 = .ok (.aload_n 0, 1) := by decide +kernel
theorem dX1_makeOfThree_38 : decode cX1_makeOfThree 38 = .ok (.getfield 9, 3) := by decide +kernel
theorem dX1_makeOfThree_41 : decode cX1_makeOfThree 41 = .ok (.iload_n 2, 1) := by decide +kernel
theorem dX1_makeOfThree_42 : decode cX1_makeOfThree 42 = .ok (.iconst 1, 1) := by decide +kernel
theorem dX1_makeOfThree_43 : decode cX1_makeOfThree 43 = .ok (.iadd, 1) := by decide +kernel
theorem dX1_makeOfThree_44 : decode cX1_makeOfThree 44 = .ok (.daload, 1) := by decide +kernel
theorem dX1_makeOfThree_45 : decode cX1_makeOfThree 45 = .ok (.dsub, 1) := by decide +kernel
theorem dX1_makeOfThree_46 : decode cX1_makeOfThree 46 = .ok (.dstore 7, 2) := by decide +kernel
theorem dX1_makeOfThree_48 : decode cX1_makeOfThree 48 = .ok (.dload 5, 2) := by decide +kernel
theorem dX1_makeOfThree_50 : decode cX1_makeOfThree 50 = .ok (.invokestatic 99, 3) := by decide +kernel
theorem dX1_makeOfThree_53 : decode cX1_makeOfThree 53 = .ok (.ifCond .ne 11, 3) := by decide +kernel
theorem dX1_makeOfThree_56 : decode cX1_makeOfThree 56 = .ok (.dload 5, 2) := by decide +kernel
theorem dX1_makeOfThree_58 : decode cX1_makeOfThree 58 = .ok (.dload 7, 2) := by decide +kernel
theorem dX1_makeOfThree_60 : decode cX1_makeOfThree 60 = .ok (.dcmp .l, 1) := by decide +kernel
theorem dX1_makeOfThree_61 : decode cX1_makeOfThree 61 = .ok (.ifCond .eq 15, 3) := by decide +kernel
theorem dX1_makeOfThree_64 : decode cX1_makeOfThree 64 = .ok (.aload_n 0, 1) := by decide +kernel
theorem dX1_makeOfThree_65 : decode cX1_makeOfThree 65 = .ok (.dload 7, 2) := by decide +kernel
theorem dX1_makeOfThree_67 : decode cX1_makeOfThree 67 = .ok (.dload 5, 2) := by decide +kernel
theorem dX1_makeOfThree_69 : decode cX1_makeOfThree 69 = .ok (.dsub, 1) := by decide +kernel
theorem dX1_makeOfThree_70 : decode cX1_makeOfThree 70 = .ok (.invokevirtual 88, 3) := by decide +kernel
theorem dX1_makeOfThree_73 : decode cX1_makeOfThree 73 = .ok (.ifCond .eq 12, 3) := by decide +kernel
theorem dX1_makeOfThree_76 : decode cX1_makeOfThree 76 = .ok (.aload_n 0, 1) := by decide +kernel
theorem dX1_makeOfThree_77 : decode cX1_makeOfThree 77 = .ok (.iload_n 1, 1) := by decide +kernel
theorem dX1_makeOfThree_78 : decode cX1_makeOfThree 78 = .ok (.dload_n 3, 1) := by decide +kernel
theorem dX1_makeOfThree_79 : decode cX1_makeOfThree 79 = .ok (.dconst 0, 1) := by decide +kernel
theorem dX1_makeOfThree_80 : decode cX1_makeOfThree 80 = .ok (.dsub, 1) := by decide +kernel
theorem dX1_makeOfThree_81 : decode cX1_makeOfThree 81 = .ok (.invokevirtual 92, 3) := by decide +kernel
theorem dX1_makeOfThree_84 : decode cX1_makeOfThree 84 = .ok (.return_, 1) := by decide +kernel
theorem dX1_makeOfThree_85 : decode cX1_makeOfThree 85 = .ok (.dload 5, 2) := by decide +kernel
theorem dX1_makeOfThree_87 : decode cX1_makeOfThree 87 = .ok (.dload 5, 2) := by decide +kernel
theorem dX1_makeOfThree_89 : decode cX1_makeOfThree 89 = .ok (.dmul, 1) := by decide +kernel
theorem dX1_makeOfThree_90 : decode cX1_makeOfThree 90 = .ok (.dstore 9, 2) := by decide +kernel
theorem dX1_makeOfThree_92 : decode cX1_makeOfThree 92 = .ok (.dload 7, 2) := by decide +kernel
theorem dX1_makeOfThree_94 : decode cX1_makeOfThree 94 = .ok (.dload 5, 2) := by decide +kernel
theorem dX1_makeOfThree_96 : decode cX1_makeOfThree 96 = .ok (.dsub, 1) := by decide +kernel
theorem dX1_makeOfThree_97 : decode cX1_makeOfThree 97 = .ok (.dstore 11, 2) := by decide +kernel
theorem dX1_makeOfThree_99 : decode cX1_makeOfThree 99 = .ok (.dload 9, 2) := by decide +kernel
theorem dX1_makeOfThree_101 : decode cX1_makeOfThree 101 = .ok (.invokestatic 99, 3) := by decide +kernel
theorem dX1_makeOfThree_104 : decode cX1_makeOfThree 104 = .ok (.ifCond .ne 19, 3) := by decide +kernel
theorem dX1_makeOfThree_107 : decode cX1_makeOfThree 107 = .ok (.dload 11, 2) := by decide +kernel
theorem dX1_makeOfThree_109 : decode cX1_makeOfThree 109 = .ok (.invokestatic 99, 3) := by decide +kernel
theorem dX1_makeOfThree_112 : decode cX1_makeOfThree 112 = .ok (.ifCond .ne 11, 3) := by decide +kernel
theorem dX1_makeOfThree_115 : decode cX1_makeOfThree 115 = .ok (.aload_n 0, 1) := by decide +kernel
theorem dX1_makeOfThree_116 : decode cX1_makeOfThree 116 = .ok (.iload_n 1, 1) := by decide +kernel
theorem dX1_makeOfThree_117 : decode cX1_makeOfThree 117 = .ok (.dconst 0, 1) := by decide +kernel
theorem dX1_makeOfThree_118 : decode cX1_makeOfThree 118 = .ok (.iconst 2, 1) := by decide +kernel
theorem dX1_makeOfThree_119 : decode cX1_makeOfThree 119 = .ok (.invokevirtual 62, 3) := by decide +kernel
theorem dX1_makeOfThree_122 : decode cX1_makeOfThree 122 = .ok (.return_, 1) := by decide +kernel
theorem dX1_makeOfThree_123 : decode cX1_makeOfThree 123 = .ok (.aload_n 0, 1) := by decide +kernel
theorem dX1_makeOfThree_124 : decode cX1_makeOfThree 124 = .ok (.iload_n 1, 1) := by decide +kernel
theorem dX1_makeOfThree_125 : decode cX1_makeOfThree 125 = .ok (.dload_n 3, 1) := by decide +kernel
theorem dX1_makeOfThree_126 : decode cX1_makeOfThree 126 = .ok (.dload 9, 2) := by decide +kernel
theorem dX1_makeOfThree_128 : decode cX1_makeOfThree 128 = .ok (.dload 11, 2) := by decide +kernel
theorem dX1_makeOfThree_130 : decode cX1_makeOfThree 130 = .ok (.ddiv, 1) := by decide +kernel
theorem dX1_makeOfThree_131 : decode cX1_makeOfThree 131 = .ok (.dsub, 1) := by decide +kernel
theorem dX1_makeOfThree_132 : decode cX1_makeOfThree 132 = .ok (.invokevirtual 96, 3) := by decide +kernel
theorem dX1_makeOfThree_135 : decode cX1_makeOfThree 135 = .ok (.return_, 1) := by decide +kernel
set_option maxRecDepth 20000 in
theorem ggX1_makeByRatio_X1_isTooSmall : GoodIn wsX1_makeByRatio wsX1_isTooSmall := goodIn_r _ [7, 8, 9, 10, 11, 12, 32, 33, 34, 35, 36, 37, 38, 39, 40, 41] (by decide +kernel) (by decide +kernel)
set_option maxRecDepth 20000 in
theorem gX1_makeByRatio_X1_isTooSmall : GoodIn wsX1_makeByRatio (wsV RX1 88 RX1 yX1_isTooSmall wsX1_isTooSmall) := goodIn_app (goodIn_of _ (by decide +kernel)) ggX1_makeByRatio_X1_isTooSmall
set_option maxRecDepth 20000 in
theorem ggX1_makeByRatio_X1_putUndivided : GoodIn wsX1_makeByRatio wsX1_putUndivided := goodIn_r _ [16, 17, 18, 19, 20, 6, 21, 1, 22, 32, 33, 34, 35, 36, 37, 38, 39, 40, 41] (by decide +kernel) (by decide +kernel)
set_option maxRecDepth 20000 in
theorem gX1_makeByRatio_X1_putUndivided : GoodIn wsX1_makeByRatio (wsV RX1 92 RX1 yX1_putUndivided wsX1_putUndivided) := goodIn_app (goodIn_of _ (by decide +kernel)) ggX1_makeByRatio_X1_putUndivided
set_option maxRecDepth 20000 in
theorem ggX1_makeByRatio_X1_putIfFinite : GoodIn wsX1_makeByRatio wsX1_putIfFinite := goodIn_r _ [26, 27, 28, 11, 29, 30, 31, 18, 19, 20, 6, 21, 1, 22, 32, 33, 34, 35, 36, 37, 38, 39, 40, 41] (by decide +kernel) (by decide +kernel)
set_option maxRecDepth 20000 in
theorem gX1_makeByRatio_X1_putIfFinite : GoodIn wsX1_makeByRatio (wsV RX1 96 RX1 yX1_putIfFinite wsX1_putIfFinite) := goodIn_app (goodIn_of _ (by decide +kernel)) ggX1_makeByRatio_X1_putIfFinite
theorem dX1_makeByRatio_0 : decode cX1_makeByRatio 0 = .ok (.iload_n 2, 1) := by decide +kernel
theorem dX1_makeByRatio_1 : decode cX1_makeByRatio 1 = .ok (.bipush 16, 2) := by decide +kernel
theorem dX1_makeByRatio_3 : decode cX1_makeByRatio 3 = .ok (.isub, 1) := by decide +kernel
theorem dX1_makeByRatio_4 : decode cX1_makeByRatio 4 = .ok (.istore_n 3, 1) := by decide +kernel
theorem dX1_makeByRatio_5 : decode cX1_makeByRatio 5 = .ok (.aload_n 0, 1) := by decide +kernel
theorem dX1_makeByRatio_6 : decode cX1_makeByRatio 6 = .ok (.getfield 9, 3) := by decide +kernel
theorem dX1_makeByRatio_9 : decode cX1_makeByRatio 9 = .ok (.iload_n 3, 1) := by decide +kernel
theorem dX1_makeByRatio_10 : decode cX1_makeByRatio 10 = .ok (.iconst 1, 1) := by decide +kernel
theorem dX1_makeByRatio_11 : decode cX1_makeByRatio 11 = .ok (.iadd, 1) := by decide +kernel
theorem dX1_makeByRatio_12 : decode cX1_makeByRatio 12 = .ok (.daload, 1) := by decide +kernel
theorem dX1_makeByRatio_13 : decode cX1_makeByRatio 13 = .ok (.dstore 4, 2) := by decide +kernel
theorem dX1_makeByRatio_15 : decode cX1_makeByRatio 15 = .ok (.aload_n 0, 1) := by decide +kernel
theorem dX1_makeByRatio_16 : decode cX1_makeByRatio 16 = .ok (.getfield 27, 3) := by decide +kernel
theorem dX1_makeByRatio_19 : decode cX1_makeByRatio 19 = .ok (.dstore 6, 2) := by decide +kernel
theorem dX1_makeByRatio_21 : decode cX1_makeByRatio 21 = .ok (.iconst 1, 1) := by decide +kernel
theorem dX1_makeByRatio_22 : decode cX1_makeByRatio 22 = .ok (.istore 8, 2) := by decide +kernel
theorem dX1_makeByRatio_24 : decode cX1_makeByRatio 24 = .ok (.iload 8, 2) := by decide +kernel
theorem dX1_makeByRatio_26 : decode cX1_makeByRatio 26 = .ok (.iload_n 1, 1) := by decide +kernel
theorem dX1_makeByRatio_27 : decode cX1_makeByRatio 27 = .ok (.if_icmp .ge 18, 3) := by decide +kernel
theorem dX1_makeByRatio_30 : decode cX1_makeByRatio 30 = .ok (.dload 6, 2) := by decide +kernel
theorem dX1_makeByRatio_32 : decode cX1_makeByRatio 32 = .ok (.aload_n 0, 1) := by decide +kernel
theorem dX1_makeByRatio_33 : decode cX1_makeByRatio 33 = .ok (.getfield 27, 3) := by decide +kernel
theorem dX1_makeByRatio_36 : decode cX1_makeByRatio 36 = .ok (.dmul, 1) := by decide +kernel
theorem dX1_makeByRatio_37 : decode cX1_makeByRatio 37 = .ok (.dstore 6, 2) := by decide +kernel
theorem dX1_makeByRatio_39 : decode cX1_makeByRatio 39 = .ok (.iinc 8 1, 3) := by decide +kernel
theorem dX1_makeByRatio_42 : decode cX1_makeByRatio 42 = .ok (.goto (-18), 3) := by decide +kernel
theorem dX1_makeByRatio_45 : decode cX1_makeByRatio 45 = .ok (.dload 6, 2) := by decide +kernel
theorem dX1_makeByRatio_47 : decode cX1_makeByRatio 47 = .ok (.dconst 1, 1) := by decide +kernel
theorem dX1_makeByRatio_48 : decode cX1_makeByRatio 48 = .ok (.dsub, 1) := by decide +kernel
theorem dX1_makeByRatio_49 : decode cX1_makeByRatio 49 = .ok (.dstore 8, 2) := by decide +kernel
theorem dX1_makeByRatio_51 : decode cX1_makeByRatio 51 = .ok (.aload_n 0, 1) := by decide +kernel
theorem dX1_makeByRatio_52 : decode cX1_makeByRatio 52 = .ok (.dload 8, 2) := by decide +kernel
theorem dX1_makeByRatio_54 : decode cX1_makeByRatio 54 = .ok (.invokevirtual 88, 3) := by decide +kernel
theorem dX1_makeByRatio_57 : decode cX1_makeByRatio 57 = .ok (.ifCond .eq 13, 3) := by decide +kernel
theorem dX1_makeByRatio_60 : decode cX1_makeByRatio 60 = .ok (.aload_n 0, 1) := by decide +kernel
theorem dX1_makeByRatio_61 : decode cX1_makeByRatio 61 = .ok (.iload_n 2, 1) := by decide +kernel
theorem dX1_makeByRatio_62 : decode cX1_makeByRatio 62 = .ok (.dload 4, 2) := by decide +kernel
theorem dX1_makeByRatio_64 : decode cX1_makeByRatio 64 = .ok (.dconst 0, 1) := by decide +kernel
theorem dX1_makeByRatio_65 : decode cX1_makeByRatio 65 = .ok (.dadd, 1) := by decide +kernel
theorem dX1_makeByRatio_66 : decode cX1_makeByRatio 66 = .ok (.invokevirtual 92, 3) := by decide +kernel
theorem dX1_makeByRatio_69 : decode cX1_makeByRatio 69 = .ok (.return_, 1) := by decide +kernel
theorem dX1_makeByRatio_70 : decode cX1_makeByRatio 70 = .ok (.aload_n 0, 1) := by decide +kernel
theorem dX1_makeByRatio_71 : decode cX1_makeByRatio 71 = .ok (.iload_n 2, 1) := by decide +kernel
theorem dX1_makeByRatio_72 : decode cX1_makeByRatio 72 = .ok (.dload 4, 2) := by decide +kernel
theorem dX1_makeByRatio_74 : decode cX1_makeByRatio 74 = .ok (.dload 4, 2) := by decide +kernel
theorem dX1_makeByRatio_76 : decode cX1_makeByRatio 76 = .ok (.aload_n 0, 1) := by decide +kernel
theorem dX1_makeByRatio_77 : decode cX1_makeByRatio 77 = .ok (.getfield 9, 3) := by decide +kernel
theorem dX1_makeByRatio_80 : decode cX1_makeByRatio 80 = .ok (.iload_n 3, 1) := by decide +kernel
theorem dX1_makeByRatio_81 : decode cX1_makeByRatio 81 = .ok (.daload, 1) := by decide +kernel
theorem dX1_makeByRatio_82 : decode cX1_makeByRatio 82 = .ok (.dsub, 1) := by decide +kernel
theorem dX1_makeByRatio_83 : decode cX1_makeByRatio 83 = .ok (.dload 8, 2) := by decide +kernel
theorem dX1_makeByRatio_85 : decode cX1_makeByRatio 85 = .ok (.ddiv, 1) := by decide +kernel
theorem dX1_makeByRatio_86 : decode cX1_makeByRatio 86 = .ok (.dadd, 1) := by decide +kernel
theorem dX1_makeByRatio_87 : decode cX1_makeByRatio 87 = .ok (.invokevirtual 96, 3) := by decide +kernel
theorem dX1_makeByRatio_90 : decode cX1_makeByRatio 90 = .ok (.return_, 1) := by decide +kernel
set_option maxRecDepth 20000 in
theorem ggX1_isTooSmall_X3_sizeOf : GoodIn wsX1_isTooSmall wsX3_sizeOf := goodIn_r _ [5] (by decide +kernel) (by decide +kernel)
set_option maxRecDepth 20000 in
theorem gX1_isTooSmall_X3_sizeOf : GoodIn wsX1_isTooSmall (va_wsS RX1 104 yX3_sizeOf wsX3_sizeOf) := goodIn_app (goodIn_of _ (by decide +kernel)) ggX1_isTooSmall_X3_sizeOf
theorem dX1_isTooSmall_0 : decode cX1_isTooSmall 0 = .ok (.dload_n 1, 1) := by decide +kernel
theorem dX1_isTooSmall_1 : decode cX1_isTooSmall 1 = .ok (.invokestatic 104, 3) := by decide +kernel
theorem dX1_isTooSmall_4 : decode cX1_isTooSmall 4 = .ok (.aload_n 0, 1) := by decide +kernel
theorem dX1_isTooSmall_5 : decode cX1_isTooSmall 5 = .ok (.getfield 23, 3) := by decide +kernel
theorem dX1_isTooSmall_8 : decode cX1_isTooSmall 8 = .ok (.dcmp .l, 1) := by decide +kernel
theorem dX1_isTooSmall_9 : decode cX1_isTooSmall 9 = .ok (.ifCond .gt 7, 3) := by decide +kernel
theorem dX1_isTooSmall_12 : decode cX1_isTooSmall 12 = .ok (.iconst 1, 1) := by decide +kernel
theorem dX1_isTooSmall_13 : decode cX1_isTooSmall 13 = .ok (.goto 4, 3) := by decide +kernel
theorem dX1_isTooSmall_16 : decode cX1_isTooSmall 16 = .ok (.iconst 0, 1) := by decide +kernel
theorem dX1_isTooSmall_17 : decode cX1_isTooSmall 17 = .ok (.ireturn, 1) := by decide +kernel
set_option maxRecDepth 20000 in
theorem ggX1_putUndivided_X1_put : GoodIn wsX1_putUndivided wsX1_put := goodIn_r _ [6, 7, 8, 9, 10, 11, 12, 13, 14, 15, 16, 17, 18] (by decide +kernel) (by decide +kernel)
set_option maxRecDepth 20000 in
theorem gX1_putUndivided_X1_put : GoodIn wsX1_putUndivided (wsV RX1 62 RX1 yX1_put wsX1_put) := goodIn_app (goodIn_of _ (by decide +kernel)) ggX1_putUndivided_X1_put
theorem dX1_putUndivided_0 : decode cX1_putUndivided 0 = .ok (.aload_n 0, 1) := by decide +kernel
theorem dX1_putUndivided_1 : decode cX1_putUndivided 1 = .ok (.iload_n 1, 1) := by decide +kernel
theorem dX1_putUndivided_2 : decode cX1_putUndivided 2 = .ok (.aload_n 0, 1) := by decide +kernel
theorem dX1_putUndivided_3 : decode cX1_putUndivided 3 = .ok (.getfield 30, 3) := by decide +kernel
theorem dX1_putUndivided_6 : decode cX1_putUndivided 6 = .ok (.ifCond .eq 7, 3) := by decide +kernel
theorem dX1_putUndivided_9 : decode cX1_putUndivided 9 = .ok (.dload_n 2, 1) := by decide +kernel
theorem dX1_putUndivided_10 : decode cX1_putUndivided 10 = .ok (.goto 4, 3) := by decide +kernel
theorem dX1_putUndivided_13 : decode cX1_putUndivided 13 = .ok (.dconst 0, 1) := by decide +kernel
theorem dX1_putUndivided_14 : decode cX1_putUndivided 14 = .ok (.aload_n 0, 1) := by decide +kernel
theorem dX1_putUndivided_15 : decode cX1_putUndivided 15 = .ok (.getfield 30, 3) := by decide +kernel
theorem dX1_putUndivided_18 : decode cX1_putUndivided 18 = .ok (.ifCond .eq 7, 3) := by decide +kernel
theorem dX1_putUndivided_21 : decode cX1_putUndivided 21 = .ok (.iconst 1, 1) := by decide +kernel
theorem dX1_putUndivided_22 : decode cX1_putUndivided 22 = .ok (.goto 4, 3) := by decide +kernel
theorem dX1_putUndivided_25 : decode cX1_putUndivided 25 = .ok (.iconst 2, 1) := by decide +kernel
theorem dX1_putUndivided_26 : decode cX1_putUndivided 26 = .ok (.invokevirtual 62, 3) := by decide +kernel
theorem dX1_putUndivided_29 : decode cX1_putUndivided 29 = .ok (.return_, 1) := by decide +kernel
set_option maxRecDepth 20000 in
theorem ggX1_putIfFinite_X3_isFinite : GoodIn wsX1_putIfFinite wsX3_isFinite := goodIn_r _ [4, 5, 6] (by decide +kernel) (by decide +kernel)
set_option maxRecDepth 20000 in
theorem gX1_putIfFinite_X3_isFinite : GoodIn wsX1_putIfFinite (va_wsS RX1 99 yX3_isFinite wsX3_isFinite) := goodIn_app (goodIn_of _ (by decide +kernel)) ggX1_putIfFinite_X3_isFinite
set_option maxRecDepth 20000 in
theorem ggX1_putIfFinite_X1_put : GoodIn wsX1_putIfFinite wsX1_put := goodIn_r _ [11, 12, 13, 14, 15, 16, 17, 18, 19, 20, 21, 22, 23] (by decide +kernel) (by decide +kernel)
set_option maxRecDepth 20000 in
theorem gX1_putIfFinite_X1_put : GoodIn wsX1_putIfFinite (wsV RX1 62 RX1 yX1_put wsX1_put) := goodIn_app (goodIn_of _ (by decide +kernel)) ggX1_putIfFinite_X1_put
theorem dX1_putIfFinite_0 : decode cX1_putIfFinite 0 = .ok (.dload_n 2, 1) := by decide +kernel
theorem dX1_putIfFinite_1 : decode cX1_putIfFinite 1 = .ok (.invokestatic 99, 3) := by decide +kernel
theorem dX1_putIfFinite_4 : decode cX1_putIfFinite 4 = .ok (.istore 4, 2) := by decide +kernel
theorem dX1_putIfFinite_6 : decode cX1_putIfFinite 6 = .ok (.aload_n 0, 1) := by decide +kernel
theorem dX1_putIfFinite_7 : decode cX1_putIfFinite 7 = .ok (.iload_n 1, 1) := by decide +kernel
theorem dX1_putIfFinite_8 : decode cX1_putIfFinite 8 = .ok (.iload 4, 2) := by decide +kernel
theorem dX1_putIfFinite_10 : decode cX1_putIfFinite 10 = .ok (.ifCond .eq 7, 3) := by decide +kernel
theorem dX1_putIfFinite_13 : decode cX1_putIfFinite 13 = .ok (.dload_n 2, 1) := by decide +kernel
theorem dX1_putIfFinite_14 : decode cX1_putIfFinite 14 = .ok (.goto 4, 3) := by decide +kernel
theorem dX1_putIfFinite_17 : decode cX1_putIfFinite 17 = .ok (.dconst 0, 1) := by decide +kernel
theorem dX1_putIfFinite_18 : decode cX1_putIfFinite 18 = .ok (.iload 4, 2) := by decide +kernel
theorem dX1_putIfFinite_20 : decode cX1_putIfFinite 20 = .ok (.ifCond .eq 7, 3) := by decide +kernel
theorem dX1_putIfFinite_23 : decode cX1_putIfFinite 23 = .ok (.iconst 0, 1) := by decide +kernel
theorem dX1_putIfFinite_24 : decode cX1_putIfFinite 24 = .ok (.goto 4, 3) := by decide +kernel
theorem dX1_putIfFinite_27 : decode cX1_putIfFinite 27 = .ok (.iconst 2, 1) := by decide +kernel
theorem dX1_putIfFinite_28 : decode cX1_putIfFinite 28 = .ok (.invokevirtual 62, 3) := by decide +kernel
theorem dX1_putIfFinite_31 : decode cX1_putIfFinite 31 = .ok (.return_, 1) := by decide +kernel
set_option maxRecDepth 20000 in
theorem ggX1_hasEntry_X1_manyIn : GoodIn wsX1_hasEntry wsX1_manyIn := goodIn_r _ [6, 7, 8, 9, 10, 11, 12, 13, 14, 15, 16, 17] (by decide +kernel) (by decide +kernel)
set_option maxRecDepth 20000 in
theorem gX1_hasEntry_X1_manyIn : GoodIn wsX1_hasEntry (wsV RX1 66 RX1 yX1_manyIn wsX1_manyIn) := goodIn_app (goodIn_of _ (by decide +kernel)) ggX1_hasEntry_X1_manyIn
theorem dX1_hasEntry_0 : decode cX1_hasEntry 0 = .ok (.iload_n 1, 1) := by decide +kernel
theorem dX1_hasEntry_1 : decode cX1_hasEntry 1 = .ok (.ifCond .lt 30, 3) := by decide +kernel
theorem dX1_hasEntry_4 : decode cX1_hasEntry 4 = .ok (.iload_n 1, 1) := by decide +kernel
theorem dX1_hasEntry_5 : decode cX1_hasEntry 5 = .ok (.bipush 16, 2) := by decide +kernel
theorem dX1_hasEntry_7 : decode cX1_hasEntry 7 = .ok (.if_icmp .ge 24, 3) := by decide +kernel
theorem dX1_hasEntry_10 : decode cX1_hasEntry 10 = .ok (.iload_n 2, 1) := by decide +kernel
theorem dX1_hasEntry_11 : decode cX1_hasEntry 11 = .ok (.ifCond .lt 20, 3) := by decide +kernel
theorem dX1_hasEntry_14 : decode cX1_hasEntry 14 = .ok (.iload_n 2, 1) := by decide +kernel
theorem dX1_hasEntry_15 : decode cX1_hasEntry 15 = .ok (.aload_n 0, 1) := by decide +kernel
theorem dX1_hasEntry_16 : decode cX1_hasEntry 16 = .ok (.iload_n 1, 1) := by decide +kernel
theorem dX1_hasEntry_17 : decode cX1_hasEntry 17 = .ok (.aload_n 0, 1) := by decide +kernel
theorem dX1_hasEntry_18 : decode cX1_hasEntry 18 = .ok (.getfield 34, 3) := by decide +kernel
theorem dX1_hasEntry_21 : decode cX1_hasEntry 21 = .ok (.invokevirtual 66, 3) := by decide +kernel
theorem dX1_hasEntry_24 : decode cX1_hasEntry 24 = .ok (.if_icmp .ge 7, 3) := by decide +kernel
theorem dX1_hasEntry_27 : decode cX1_hasEntry 27 = .ok (.iconst 1, 1) := by decide +kernel
theorem dX1_hasEntry_28 : decode cX1_hasEntry 28 = .ok (.goto 4, 3) := by decide +kernel
theorem dX1_hasEntry_31 : decode cX1_hasEntry 31 = .ok (.iconst 0, 1) := by decide +kernel
theorem dX1_hasEntry_32 : decode cX1_hasEntry 32 = .ok (.ireturn, 1) := by decide +kernel
set_option maxRecDepth 20000 in
theorem ggX1_isBroken_X1_kindAt : GoodIn wsX1_isBroken wsX1_kindAt := goodIn_r _ [5, 6, 7, 8, 9, 10, 11, 12, 13, 14, 15, 16] (by decide +kernel) (by decide +kernel)
set_option maxRecDepth 20000 in
theorem gX1_isBroken_X1_kindAt : GoodIn wsX1_isBroken (wsV RX1 108 RX1 yX1_kindAt wsX1_kindAt) := goodIn_app (goodIn_of _ (by decide +kernel)) ggX1_isBroken_X1_kindAt
theorem dX1_isBroken_0 : decode cX1_isBroken 0 = .ok (.aload_n 0, 1) := by decide +kernel
theorem dX1_isBroken_1 : decode cX1_isBroken 1 = .ok (.iload_n 1, 1) := by decide +kernel
theorem dX1_isBroken_2 : decode cX1_isBroken 2 = .ok (.iload_n 2, 1) := by decide +kernel
theorem dX1_isBroken_3 : decode cX1_isBroken 3 = .ok (.invokevirtual 108, 3) := by decide +kernel
theorem dX1_isBroken_6 : decode cX1_isBroken 6 = .ok (.iconst 2, 1) := by decide +kernel
theorem dX1_isBroken_7 : decode cX1_isBroken 7 = .ok (.if_icmp .lt 7, 3) := by decide +kernel
theorem dX1_isBroken_10 : decode cX1_isBroken 10 = .ok (.iconst 1, 1) := by decide +kernel
theorem dX1_isBroken_11 : decode cX1_isBroken 11 = .ok (.goto 4, 3) := by decide +kernel
theorem dX1_isBroken_14 : decode cX1_isBroken 14 = .ok (.iconst 0, 1) := by decide +kernel
theorem dX1_isBroken_15 : decode cX1_isBroken 15 = .ok (.ireturn, 1) := by decide +kernel
theorem dX1_kindAt_0 : decode cX1_kindAt 0 = .ok (.aload_n 0, 1) := by decide +kernel
theorem dX1_kindAt_1 : decode cX1_kindAt 1 = .ok (.getfield 15, 3) := by decide +kernel
theorem dX1_kindAt_4 : decode cX1_kindAt 4 = .ok (.iload_n 1, 1) := by decide +kernel
theorem dX1_kindAt_5 : decode cX1_kindAt 5 = .ok (.bipush 16, 2) := by decide +kernel
theorem dX1_kindAt_7 : decode cX1_kindAt 7 = .ok (.imul, 1) := by decide +kernel
theorem dX1_kindAt_8 : decode cX1_kindAt 8 = .ok (.iload_n 2, 1) := by decide +kernel
theorem dX1_kindAt_9 : decode cX1_kindAt 9 = .ok (.iadd, 1) := by decide +kernel
theorem dX1_kindAt_10 : decode cX1_kindAt 10 = .ok (.iaload, 1) := by decide +kernel
theorem dX1_kindAt_11 : decode cX1_kindAt 11 = .ok (.ireturn, 1) := by decide +kernel
theorem dX1_valueAt_0 : decode cX1_valueAt 0 = .ok (.aload_n 0, 1) := by decide +kernel
theorem dX1_valueAt_1 : decode cX1_valueAt 1 = .ok (.getfield 9, 3) := by decide +kernel
theorem dX1_valueAt_4 : decode cX1_valueAt 4 = .ok (.iload_n 1, 1) := by decide +kernel
theorem dX1_valueAt_5 : decode cX1_valueAt 5 = .ok (.bipush 16, 2) := by decide +kernel
theorem dX1_valueAt_7 : decode cX1_valueAt 7 = .ok (.imul, 1) := by decide +kernel
theorem dX1_valueAt_8 : decode cX1_valueAt 8 = .ok (.iload_n 2, 1) := by decide +kernel
theorem dX1_valueAt_9 : decode cX1_valueAt 9 = .ok (.iadd, 1) := by decide +kernel
theorem dX1_valueAt_10 : decode cX1_valueAt 10 = .ok (.daload, 1) := by decide +kernel
theorem dX1_valueAt_11 : decode cX1_valueAt 11 = .ok (.dreturn, 1) := by decide +kernel
set_option maxRecDepth 20000 in
theorem ggX1_copyColumn_X1_manyIn : GoodIn wsX1_copyColumn wsX1_manyIn := goodIn_r _ [7, 8, 38, 39, 40, 41, 42, 43, 44, 45, 46, 47] (by decide +kernel) (by decide +kernel)
set_option maxRecDepth 20000 in
theorem gX1_copyColumn_X1_manyIn : GoodIn wsX1_copyColumn (wsV RX1 66 RX1 yX1_manyIn wsX1_manyIn) := goodIn_app (goodIn_of _ (by decide +kernel)) ggX1_copyColumn_X1_manyIn
set_option maxRecDepth 20000 in
theorem ggX1_copyColumn_X1_isBroken : GoodIn wsX1_copyColumn wsX1_isBroken := goodIn_r _ [12, 13, 14, 15, 6, 16, 17, 38, 39, 40, 41, 42, 43, 44, 45, 46, 47] (by decide +kernel) (by decide +kernel)
set_option maxRecDepth 20000 in
theorem gX1_copyColumn_X1_isBroken : GoodIn wsX1_copyColumn (wsV RX1 111 RX1 yX1_isBroken wsX1_isBroken) := goodIn_app (goodIn_of _ (by decide +kernel)) ggX1_copyColumn_X1_isBroken
set_option maxRecDepth 20000 in
theorem ggX1_copyColumn_X1_valueAt : GoodIn wsX1_copyColumn wsX1_valueAt := goodIn_r _ [21, 22, 38, 39, 40, 41, 42, 43, 44, 45, 46, 47] (by decide +kernel) (by decide +kernel)
set_option maxRecDepth 20000 in
theorem gX1_copyColumn_X1_valueAt : GoodIn wsX1_copyColumn (wsV RX1 114 RX1 yX1_valueAt wsX1_valueAt) := goodIn_app (goodIn_of _ (by decide +kernel)) ggX1_copyColumn_X1_valueAt
set_option maxRecDepth 20000 in
theorem ggX1_copyColumn_X3_fitsRow : GoodIn wsX1_copyColumn wsX3_fitsRow := goodIn_r _ [26, 27, 28] (by decide +kernel) (by decide +kernel)
set_option maxRecDepth 20000 in
theorem gX1_copyColumn_X3_fitsRow : GoodIn wsX1_copyColumn (va_wsS RX1 118 yX3_fitsRow wsX3_fitsRow) := goodIn_app (goodIn_of _ (by decide +kernel)) ggX1_copyColumn_X3_fitsRow
set_option maxRecDepth 20000 in
theorem ggX1_copyColumn_X4_append : GoodIn wsX1_copyColumn wsX4_append := goodIn_r _ [33, 34, 35, 36, 37] (by decide +kernel) (by decide +kernel)
set_option maxRecDepth 20000 in
theorem gX1_copyColumn_X4_append : GoodIn wsX1_copyColumn (wsV RX1 121 RX4 yX4_append wsX4_append) := goodIn_app (goodIn_of _ (by decide +kernel)) ggX1_copyColumn_X4_append
theorem dX1_copyColumn_0 : decode cX1_copyColumn 0 = .ok (.aload_n 2, 1) := by decide +kernel
theorem dX1_copyColumn_1 : decode cX1_copyColumn 1 = .ok (.iconst 0, 1) := by decide +kernel
theorem dX1_copyColumn_2 : decode cX1_copyColumn 2 = .ok (.putfield 56, 3) := by decide +kernel
theorem dX1_copyColumn_5 : decode cX1_copyColumn 5 = .ok (.aload_n 0, 1) := by decide +kernel
theorem dX1_copyColumn_6 : decode cX1_copyColumn 6 = .ok (.iload_n 1, 1) := by decide +kernel
theorem dX1_copyColumn_7 : decode cX1_copyColumn 7 = .ok (.aload_n 0, 1) := by decide +kernel
theorem dX1_copyColumn_8 : decode cX1_copyColumn 8 = .ok (.getfield 34, 3) := by decide +kernel
theorem dX1_copyColumn_11 : decode cX1_copyColumn 11 = .ok (.invokevirtual 66, 3) := by decide +kernel
theorem dX1_copyColumn_14 : decode cX1_copyColumn 14 = .ok (.istore_n 3, 1) := by decide +kernel
theorem dX1_copyColumn_15 : decode cX1_copyColumn 15 = .ok (.iconst 0, 1) := by decide +kernel
theorem dX1_copyColumn_16 : decode cX1_copyColumn 16 = .ok (.istore 4, 2) := by decide +kernel
theorem dX1_copyColumn_18 : decode cX1_copyColumn 18 = .ok (.iload 4, 2) := by decide +kernel
theorem dX1_copyColumn_20 : decode cX1_copyColumn 20 = .ok (.iload_n 3, 1) := by decide +kernel
theorem dX1_copyColumn_21 : decode cX1_copyColumn 21 = .ok (.if_icmp .ge 43, 3) := by decide +kernel
theorem dX1_copyColumn_24 : decode cX1_copyColumn 24 = .ok (.aload_n 0, 1) := by decide +kernel
theorem dX1_copyColumn_25 : decode cX1_copyColumn 25 = .ok (.iload_n 1, 1) := by decide +kernel
theorem dX1_copyColumn_26 : decode cX1_copyColumn 26 = .ok (.iload 4, 2) := by decide +kernel
theorem dX1_copyColumn_28 : decode cX1_copyColumn 28 = .ok (.invokevirtual 111, 3) := by decide +kernel
theorem dX1_copyColumn_31 : decode cX1_copyColumn 31 = .ok (.ifCond .ne 27, 3) := by decide +kernel
theorem dX1_copyColumn_34 : decode cX1_copyColumn 34 = .ok (.aload_n 0, 1) := by decide +kernel
theorem dX1_copyColumn_35 : decode cX1_copyColumn 35 = .ok (.iload_n 1, 1) := by decide +kernel
theorem dX1_copyColumn_36 : decode cX1_copyColumn 36 = .ok (.iload 4, 2) := by decide +kernel
theorem dX1_copyColumn_38 : decode cX1_copyColumn 38 = .ok (.invokevirtual 114, 3) := by decide +kernel
theorem dX1_copyColumn_41 : decode cX1_copyColumn 41 = .ok (.invokestatic 118, 3) := by decide +kernel
theorem dX1_copyColumn_44 : decode cX1_copyColumn 44 = .ok (.ifCond .eq 14, 3) := by decide +kernel
theorem dX1_copyColumn_47 : decode cX1_copyColumn 47 = .ok (.aload_n 2, 1) := by decide +kernel
theorem dX1_copyColumn_48 : decode cX1_copyColumn 48 = .ok (.aload_n 0, 1) := by decide +kernel
theorem dX1_copyColumn_49 : decode cX1_copyColumn 49 = .ok (.iload_n 1, 1) := by decide +kernel
theorem dX1_copyColumn_50 : decode cX1_copyColumn 50 = .ok (.iload 4, 2) := by decide +kernel
theorem dX1_copyColumn_52 : decode cX1_copyColumn 52 = .ok (.invokevirtual 114, 3) := by decide +kernel
theorem dX1_copyColumn_55 : decode cX1_copyColumn 55 = .ok (.invokevirtual 121, 3) := by decide +kernel
theorem dX1_copyColumn_58 : decode cX1_copyColumn 58 = .ok (.iinc 4 1, 3) := by decide +kernel
theorem dX1_copyColumn_61 : decode cX1_copyColumn 61 = .ok (.goto (-43), 3) := by decide +kernel
theorem dX1_copyColumn_64 : decode cX1_copyColumn 64 = .ok (.return_, 1) := by decide +kernel
set_option maxRecDepth 20000 in
theorem ggX1_manyColumns_X1_manyIn : GoodIn wsX1_manyColumns wsX1_manyIn := goodIn_r _ [6, 7, 8, 9, 10, 11, 12, 13, 14, 15, 16, 17] (by decide +kernel) (by decide +kernel)
set_option maxRecDepth 20000 in
theorem gX1_manyColumns_X1_manyIn : GoodIn wsX1_manyColumns (wsV RX1 66 RX1 yX1_manyIn wsX1_manyIn) := goodIn_app (goodIn_of _ (by decide +kernel)) ggX1_manyColumns_X1_manyIn
theorem dX1_manyColumns_0 : decode cX1_manyColumns 0 = .ok (.iconst 0, 1) := by decide +kernel
theorem dX1_manyColumns_1 : decode cX1_manyColumns 1 = .ok (.istore_n 1, 1) := by decide +kernel
theorem dX1_manyColumns_2 : decode cX1_manyColumns 2 = .ok (.iconst 0, 1) := by decide +kernel
theorem dX1_manyColumns_3 : decode cX1_manyColumns 3 = .ok (.istore_n 2, 1) := by decide +kernel
theorem dX1_manyColumns_4 : decode cX1_manyColumns 4 = .ok (.iload_n 2, 1) := by decide +kernel
theorem dX1_manyColumns_5 : decode cX1_manyColumns 5 = .ok (.bipush 16, 2) := by decide +kernel
theorem dX1_manyColumns_7 : decode cX1_manyColumns 7 = .ok (.if_icmp .ge 29, 3) := by decide +kernel
theorem dX1_manyColumns_10 : decode cX1_manyColumns 10 = .ok (.iload_n 1, 1) := by decide +kernel
theorem dX1_manyColumns_11 : decode cX1_manyColumns 11 = .ok (.aload_n 0, 1) := by decide +kernel
theorem dX1_manyColumns_12 : decode cX1_manyColumns 12 = .ok (.iload_n 2, 1) := by decide +kernel
theorem dX1_manyColumns_13 : decode cX1_manyColumns 13 = .ok (.aload_n 0, 1) := by decide +kernel
theorem dX1_manyColumns_14 : decode cX1_manyColumns 14 = .ok (.getfield 34, 3) := by decide +kernel
theorem dX1_manyColumns_17 : decode cX1_manyColumns 17 = .ok (.invokevirtual 66, 3) := by decide +kernel
theorem dX1_manyColumns_20 : decode cX1_manyColumns 20 = .ok (.ifCond .le 7, 3) := by decide +kernel
theorem dX1_manyColumns_23 : decode cX1_manyColumns 23 = .ok (.iconst 1, 1) := by decide +kernel
theorem dX1_manyColumns_24 : decode cX1_manyColumns 24 = .ok (.goto 4, 3) := by decide +kernel
theorem dX1_manyColumns_27 : decode cX1_manyColumns 27 = .ok (.iconst 0, 1) := by decide +kernel
theorem dX1_manyColumns_28 : decode cX1_manyColumns 28 = .ok (.iadd, 1) := by decide +kernel
theorem dX1_manyColumns_29 : decode cX1_manyColumns 29 = .ok (.istore_n 1, 1) := by decide +kernel
theorem dX1_manyColumns_30 : decode cX1_manyColumns 30 = .ok (.iinc 2 1, 3) := by decide +kernel
theorem dX1_manyColumns_33 : decode cX1_manyColumns 33 = .ok (.goto (-29), 3) := by decide +kernel
theorem dX1_manyColumns_36 : decode cX1_manyColumns 36 = .ok (.iload_n 1, 1) := by decide +kernel
theorem dX1_manyColumns_37 : decode cX1_manyColumns 37 = .ok (.ireturn, 1) := by decide +kernel
set_option maxRecDepth 20000 in
theorem ggX1_manyBroken_X1_manyOfKinds : GoodIn wsX1_manyBroken wsX1_manyOfKinds := goodIn_r _ [5, 6, 7, 8, 4, 9, 10, 11, 12, 13, 14, 15, 16, 17, 18, 19, 20, 21, 22, 23, 24, 25, 26, 27, 28, 29, 30] (by decide +kernel) (by decide +kernel)
set_option maxRecDepth 20000 in
theorem gX1_manyBroken_X1_manyOfKinds : GoodIn wsX1_manyBroken (wsV RX1 125 RX1 yX1_manyOfKinds wsX1_manyOfKinds) := goodIn_app (goodIn_of _ (by decide +kernel)) ggX1_manyBroken_X1_manyOfKinds
theorem dX1_manyBroken_0 : decode cX1_manyBroken 0 = .ok (.aload_n 0, 1) := by decide +kernel
theorem dX1_manyBroken_1 : decode cX1_manyBroken 1 = .ok (.iconst 2, 1) := by decide +kernel
theorem dX1_manyBroken_2 : decode cX1_manyBroken 2 = .ok (.iconst 3, 1) := by decide +kernel
theorem dX1_manyBroken_3 : decode cX1_manyBroken 3 = .ok (.invokevirtual 125, 3) := by decide +kernel
theorem dX1_manyBroken_6 : decode cX1_manyBroken 6 = .ok (.ireturn, 1) := by decide +kernel
set_option maxRecDepth 20000 in
theorem ggX1_manyBridged_X1_manyOfKinds : GoodIn wsX1_manyBridged wsX1_manyOfKinds := goodIn_r _ [5, 6, 7, 8, 4, 9, 10, 11, 12, 13, 14, 15, 16, 17, 18, 19, 20, 21, 22, 23, 24, 25, 26, 27, 28, 29, 30] (by decide +kernel) (by decide +kernel)
set_option maxRecDepth 20000 in
theorem gX1_manyBridged_X1_manyOfKinds : GoodIn wsX1_manyBridged (wsV RX1 125 RX1 yX1_manyOfKinds wsX1_manyOfKinds) := goodIn_app (goodIn_of _ (by decide +kernel)) ggX1_manyBridged_X1_manyOfKinds
theorem dX1_manyBridged_0 : decode cX1_manyBridged 0 = .ok (.aload_n 0, 1) := by decide +kernel
theorem dX1_manyBridged_1 : decode cX1_manyBridged 1 = .ok (.iconst 1, 1) := by decide +kernel
theorem dX1_manyBridged_2 : decode cX1_manyBridged 2 = .ok (.iconst 1, 1) := by decide +kernel
theorem dX1_manyBridged_3 : decode cX1_manyBridged 3 = .ok (.invokevirtual 125, 3) := by decide +kernel
theorem dX1_manyBridged_6 : decode cX1_manyBridged 6 = .ok (.ireturn, 1) := by decide +kernel
set_option maxRecDepth 20000 in
theorem ggX1_manyOfKinds_X1_manyInColumn : GoodIn wsX1_manyOfKinds wsX1_manyInColumn := goodIn_r _ [5, 6, 7, 8, 9, 4, 10, 11, 12, 13, 14, 15, 16, 17, 18, 19, 20, 21, 22, 23, 24, 25, 26] (by decide +kernel) (by decide +kernel)
set_option maxRecDepth 20000 in
theorem gX1_manyOfKinds_X1_manyInColumn : GoodIn wsX1_manyOfKinds (wsV RX1 128 RX1 yX1_manyInColumn wsX1_manyInColumn) := goodIn_app (goodIn_of _ (by decide +kernel)) ggX1_manyOfKinds_X1_manyInColumn
theorem dX1_manyOfKinds_0 : decode cX1_manyOfKinds 0 = .ok (.iconst 0, 1) := by decide +kernel
theorem dX1_manyOfKinds_1 : decode cX1_manyOfKinds 1 = .ok (.istore_n 3, 1) := by decide +kernel
theorem dX1_manyOfKinds_2 : decode cX1_manyOfKinds 2 = .ok (.iconst 0, 1) := by decide +kernel
theorem dX1_manyOfKinds_3 : decode cX1_manyOfKinds 3 = .ok (.istore 4, 2) := by decide +kernel
theorem dX1_manyOfKinds_5 : decode cX1_manyOfKinds 5 = .ok (.iload 4, 2) := by decide +kernel
theorem dX1_manyOfKinds_7 : decode cX1_manyOfKinds 7 = .ok (.bipush 16, 2) := by decide +kernel
theorem dX1_manyOfKinds_9 : decode cX1_manyOfKinds 9 = .ok (.if_icmp .ge 20, 3) := by decide +kernel
theorem dX1_manyOfKinds_12 : decode cX1_manyOfKinds 12 = .ok (.iload_n 3, 1) := by decide +kernel
theorem dX1_manyOfKinds_13 : decode cX1_manyOfKinds 13 = .ok (.aload_n 0, 1) := by decide +kernel
theorem dX1_manyOfKinds_14 : decode cX1_manyOfKinds 14 = .ok (.iload 4, 2) := by decide +kernel
theorem dX1_manyOfKinds_16 : decode cX1_manyOfKinds 16 = .ok (.iload_n 1, 1) := by decide +kernel
theorem dX1_manyOfKinds_17 : decode cX1_manyOfKinds 17 = .ok (.iload_n 2, 1) := by decide +kernel
theorem dX1_manyOfKinds_18 : decode cX1_manyOfKinds 18 = .ok (.invokevirtual 128, 3) := by decide +kernel
theorem dX1_manyOfKinds_21 : decode cX1_manyOfKinds 21 = .ok (.iadd, 1) := by decide +kernel
theorem dX1_manyOfKinds_22 : decode cX1_manyOfKinds 22 = .ok (.istore_n 3, 1) := by decide +kernel
theorem dX1_manyOfKinds_23 : decode cX1_manyOfKinds 23 = .ok (.iinc 4 1, 3) := by decide +kernel
theorem dX1_manyOfKinds_26 : decode cX1_manyOfKinds 26 = .ok (.goto (-21), 3) := by decide +kernel
theorem dX1_manyOfKinds_29 : decode cX1_manyOfKinds 29 = .ok (.iload_n 3, 1) := by decide +kernel
theorem dX1_manyOfKinds_30 : decode cX1_manyOfKinds 30 = .ok (.ireturn, 1) := by decide +kernel
set_option maxRecDepth 20000 in
theorem ggX1_manyInColumn_X1_manyIn : GoodIn wsX1_manyInColumn wsX1_manyIn := goodIn_r _ [6, 7, 13, 14, 15, 16, 17, 18, 19, 20, 21, 22] (by decide +kernel) (by decide +kernel)
set_option maxRecDepth 20000 in
theorem gX1_manyInColumn_X1_manyIn : GoodIn wsX1_manyInColumn (wsV RX1 66 RX1 yX1_manyIn wsX1_manyIn) := goodIn_app (goodIn_of _ (by decide +kernel)) ggX1_manyInColumn_X1_manyIn
set_option maxRecDepth 20000 in
theorem ggX1_manyInColumn_X1_kindAt : GoodIn wsX1_manyInColumn wsX1_kindAt := goodIn_r _ [11, 12, 13, 14, 15, 16, 17, 18, 19, 20, 21, 22] (by decide +kernel) (by decide +kernel)
set_option maxRecDepth 20000 in
theorem gX1_manyInColumn_X1_kindAt : GoodIn wsX1_manyInColumn (wsV RX1 108 RX1 yX1_kindAt wsX1_kindAt) := goodIn_app (goodIn_of _ (by decide +kernel)) ggX1_manyInColumn_X1_kindAt
theorem dX1_manyInColumn_0 : decode cX1_manyInColumn 0 = .ok (.iconst 0, 1) := by decide +kernel
theorem dX1_manyInColumn_1 : decode cX1_manyInColumn 1 = .ok (.istore 4, 2) := by decide +kernel
theorem dX1_manyInColumn_3 : decode cX1_manyInColumn 3 = .ok (.aload_n 0, 1) := by decide +kernel
theorem dX1_manyInColumn_4 : decode cX1_manyInColumn 4 = .ok (.iload_n 1, 1) := by decide +kernel
theorem dX1_manyInColumn_5 : decode cX1_manyInColumn 5 = .ok (.aload_n 0, 1) := by decide +kernel
theorem dX1_manyInColumn_6 : decode cX1_manyInColumn 6 = .ok (.getfield 34, 3) := by decide +kernel
theorem dX1_manyInColumn_9 : decode cX1_manyInColumn 9 = .ok (.invokevirtual 66, 3) := by decide +kernel
theorem dX1_manyInColumn_12 : decode cX1_manyInColumn 12 = .ok (.istore 5, 2) := by decide +kernel
theorem dX1_manyInColumn_14 : decode cX1_manyInColumn 14 = .ok (.iconst 0, 1) := by decide +kernel
theorem dX1_manyInColumn_15 : decode cX1_manyInColumn 15 = .ok (.istore 6, 2) := by decide +kernel
theorem dX1_manyInColumn_17 : decode cX1_manyInColumn 17 = .ok (.iload 6, 2) := by decide +kernel
theorem dX1_manyInColumn_19 : decode cX1_manyInColumn 19 = .ok (.iload 5, 2) := by decide +kernel
theorem dX1_manyInColumn_21 : decode cX1_manyInColumn 21 = .ok (.if_icmp .ge 40, 3) := by decide +kernel
theorem dX1_manyInColumn_24 : decode cX1_manyInColumn 24 = .ok (.aload_n 0, 1) := by decide +kernel
theorem dX1_manyInColumn_25 : decode cX1_manyInColumn 25 = .ok (.iload_n 1, 1) := by decide +kernel
theorem dX1_manyInColumn_26 : decode cX1_manyInColumn 26 = .ok (.iload 6, 2) := by decide +kernel
theorem dX1_manyInColumn_28 : decode cX1_manyInColumn 28 = .ok (.invokevirtual 108, 3) := by decide +kernel
theorem dX1_manyInColumn_31 : decode cX1_manyInColumn 31 = .ok (.istore 7, 2) := by decide +kernel
theorem dX1_manyInColumn_33 : decode cX1_manyInColumn 33 = .ok (.iload 4, 2) := by decide +kernel
theorem dX1_manyInColumn_35 : decode cX1_manyInColumn 35 = .ok (.iload 7, 2) := by decide +kernel
theorem dX1_manyInColumn_37 : decode cX1_manyInColumn 37 = .ok (.iload_n 2, 1) := by decide +kernel
theorem dX1_manyInColumn_38 : decode cX1_manyInColumn 38 = .ok (.if_icmp .lt 13, 3) := by decide +kernel
theorem dX1_manyInColumn_41 : decode cX1_manyInColumn 41 = .ok (.iload 7, 2) := by decide +kernel
theorem dX1_manyInColumn_43 : decode cX1_manyInColumn 43 = .ok (.iload_n 3, 1) := by decide +kernel
theorem dX1_manyInColumn_44 : decode cX1_manyInColumn 44 = .ok (.if_icmp .gt 7, 3) := by decide +kernel
theorem dX1_manyInColumn_47 : decode cX1_manyInColumn 47 = .ok (.iconst 1, 1) := by decide +kernel
theorem dX1_manyInColumn_48 : decode cX1_manyInColumn 48 = .ok (.goto 4, 3) := by decide +kernel
theorem dX1_manyInColumn_51 : decode cX1_manyInColumn 51 = .ok (.iconst 0, 1) := by decide +kernel
theorem dX1_manyInColumn_52 : decode cX1_manyInColumn 52 = .ok (.iadd, 1) := by decide +kernel
theorem dX1_manyInColumn_53 : decode cX1_manyInColumn 53 = .ok (.istore 4, 2) := by decide +kernel
theorem dX1_manyInColumn_55 : decode cX1_manyInColumn 55 = .ok (.iinc 6 1, 3) := by decide +kernel
theorem dX1_manyInColumn_58 : decode cX1_manyInColumn 58 = .ok (.goto (-41), 3) := by decide +kernel
theorem dX1_manyInColumn_61 : decode cX1_manyInColumn 61 = .ok (.iload 4, 2) := by decide +kernel
theorem dX1_manyInColumn_63 : decode cX1_manyInColumn 63 = .ok (.ireturn, 1) := by decide +kernel
set_option maxRecDepth 20000 in
theorem ggX1_lowestBroken_X1_manyInColumn : GoodIn wsX1_lowestBroken wsX1_manyInColumn := goodIn_r _ [5, 6, 7, 8, 9, 4, 10, 11, 12, 13, 14, 15, 16, 17, 18, 19, 20, 21, 22, 23, 24, 25, 26] (by decide +kernel) (by decide +kernel)
set_option maxRecDepth 20000 in
theorem gX1_lowestBroken_X1_manyInColumn : GoodIn wsX1_lowestBroken (wsV RX1 128 RX1 yX1_manyInColumn wsX1_manyInColumn) := goodIn_app (goodIn_of _ (by decide +kernel)) ggX1_lowestBroken_X1_manyInColumn
theorem dX1_lowestBroken_0 : decode cX1_lowestBroken 0 = .ok (.iconst 0, 1) := by decide +kernel
theorem dX1_lowestBroken_1 : decode cX1_lowestBroken 1 = .ok (.istore_n 1, 1) := by decide +kernel
theorem dX1_lowestBroken_2 : decode cX1_lowestBroken 2 = .ok (.iload_n 1, 1) := by decide +kernel
theorem dX1_lowestBroken_3 : decode cX1_lowestBroken 3 = .ok (.bipush 16, 2) := by decide +kernel
theorem dX1_lowestBroken_5 : decode cX1_lowestBroken 5 = .ok (.if_icmp .ge 21, 3) := by decide +kernel
theorem dX1_lowestBroken_8 : decode cX1_lowestBroken 8 = .ok (.aload_n 0, 1) := by decide +kernel
theorem dX1_lowestBroken_9 : decode cX1_lowestBroken 9 = .ok (.iload_n 1, 1) := by decide +kernel
theorem dX1_lowestBroken_10 : decode cX1_lowestBroken 10 = .ok (.iconst 2, 1) := by decide +kernel
theorem dX1_lowestBroken_11 : decode cX1_lowestBroken 11 = .ok (.iconst 3, 1) := by decide +kernel
theorem dX1_lowestBroken_12 : decode cX1_lowestBroken 12 = .ok (.invokevirtual 128, 3) := by decide +kernel
theorem dX1_lowestBroken_15 : decode cX1_lowestBroken 15 = .ok (.ifCond .le 5, 3) := by decide +kernel
theorem dX1_lowestBroken_18 : decode cX1_lowestBroken 18 = .ok (.iload_n 1, 1) := by decide +kernel
theorem dX1_lowestBroken_19 : decode cX1_lowestBroken 19 = .ok (.ireturn, 1) := by decide +kernel
theorem dX1_lowestBroken_20 : decode cX1_lowestBroken 20 = .ok (.iinc 1 1, 3) := by decide +kernel
theorem dX1_lowestBroken_23 : decode cX1_lowestBroken 23 = .ok (.goto (-21), 3) := by decide +kernel
theorem dX1_lowestBroken_26 : decode cX1_lowestBroken 26 = .ok (.bipush (-5), 2) := by decide +kernel
theorem dX1_lowestBroken_28 : decode cX1_lowestBroken 28 = .ok (.ireturn, 1) := by decide +kernel
set_option maxRecDepth 20000 in
theorem ggX1_endOf_X1_manyIn : GoodIn wsX1_endOf wsX1_manyIn := goodIn_r _ [5, 6, 16, 17, 18, 19, 20, 21, 22, 23, 24, 25] (by decide +kernel) (by decide +kernel)
set_option maxRecDepth 20000 in
theorem gX1_endOf_X1_manyIn : GoodIn wsX1_endOf (wsV RX1 66 RX1 yX1_manyIn wsX1_manyIn) := goodIn_app (goodIn_of _ (by decide +kernel)) ggX1_endOf_X1_manyIn
set_option maxRecDepth 20000 in
theorem ggX1_endOf_X1_isBroken : GoodIn wsX1_endOf wsX1_isBroken := goodIn_r _ [10, 11, 12, 13, 4, 14, 15, 16, 17, 18, 19, 20, 21, 22, 23, 24, 25] (by decide +kernel) (by decide +kernel)
set_option maxRecDepth 20000 in
theorem gX1_endOf_X1_isBroken : GoodIn wsX1_endOf (wsV RX1 111 RX1 yX1_isBroken wsX1_isBroken) := goodIn_app (goodIn_of _ (by decide +kernel)) ggX1_endOf_X1_isBroken
theorem dX1_endOf_0 : decode cX1_endOf 0 = .ok (.aload_n 0, 1) := by decide +kernel
theorem dX1_endOf_1 : decode cX1_endOf 1 = .ok (.iload_n 1, 1) := by decide +kernel
theorem dX1_endOf_2 : decode cX1_endOf 2 = .ok (.iload_n 2, 1) := by decide +kernel
theorem dX1_endOf_3 : decode cX1_endOf 3 = .ok (.invokevirtual 66, 3) := by decide +kernel
theorem dX1_endOf_6 : decode cX1_endOf 6 = .ok (.iconst 1, 1) := by decide +kernel
theorem dX1_endOf_7 : decode cX1_endOf 7 = .ok (.isub, 1) := by decide +kernel
theorem dX1_endOf_8 : decode cX1_endOf 8 = .ok (.istore_n 3, 1) := by decide +kernel
theorem dX1_endOf_9 : decode cX1_endOf 9 = .ok (.iload_n 3, 1) := by decide +kernel
theorem dX1_endOf_10 : decode cX1_endOf 10 = .ok (.ifCond .lt 20, 3) := by decide +kernel
theorem dX1_endOf_13 : decode cX1_endOf 13 = .ok (.aload_n 0, 1) := by decide +kernel
theorem dX1_endOf_14 : decode cX1_endOf 14 = .ok (.iload_n 1, 1) := by decide +kernel
theorem dX1_endOf_15 : decode cX1_endOf 15 = .ok (.iload_n 3, 1) := by decide +kernel
theorem dX1_endOf_16 : decode cX1_endOf 16 = .ok (.invokevirtual 111, 3) := by decide +kernel
theorem dX1_endOf_19 : decode cX1_endOf 19 = .ok (.ifCond .ne 5, 3) := by decide +kernel
theorem dX1_endOf_22 : decode cX1_endOf 22 = .ok (.iload_n 3, 1) := by decide +kernel
theorem dX1_endOf_23 : decode cX1_endOf 23 = .ok (.ireturn, 1) := by decide +kernel
theorem dX1_endOf_24 : decode cX1_endOf 24 = .ok (.iinc 3 (-1), 3) := by decide +kernel
theorem dX1_endOf_27 : decode cX1_endOf 27 = .ok (.goto (-18), 3) := by decide +kernel
theorem dX1_endOf_30 : decode cX1_endOf 30 = .ok (.iconst (-1), 1) := by decide +kernel
theorem dX1_endOf_31 : decode cX1_endOf 31 = .ok (.ireturn, 1) := by decide +kernel
set_option maxRecDepth 20000 in
theorem ggX1_seekGuess_X1_endOf : GoodIn wsX1_seekGuess wsX1_endOf := goodIn_r _ [10, 11, 12, 13, 9, 14, 1, 15, 16, 17, 18, 19, 20, 21, 22, 23, 32, 33, 34, 35, 36, 37, 38, 39, 40, 41] (by decide +kernel) (by decide +kernel)
set_option maxRecDepth 20000 in
theorem gX1_seekGuess_X1_endOf : GoodIn wsX1_seekGuess (wsV RX1 132 RX1 yX1_endOf wsX1_endOf) := goodIn_app (goodIn_of _ (by decide +kernel)) ggX1_seekGuess_X1_endOf
set_option maxRecDepth 20000 in
theorem ggX1_seekGuess_X1_valueAt : GoodIn wsX1_seekGuess wsX1_valueAt := goodIn_r _ [27, 4, 32, 33, 34, 35, 36, 37, 38, 39, 40, 41] (by decide +kernel) (by decide +kernel)
set_option maxRecDepth 20000 in
theorem gX1_seekGuess_X1_valueAt : GoodIn wsX1_seekGuess (wsV RX1 114 RX1 yX1_valueAt wsX1_valueAt) := goodIn_app (goodIn_of _ (by decide +kernel)) ggX1_seekGuess_X1_valueAt
set_option maxRecDepth 20000 in
theorem ggX1_seekGuess_X3_sizeOf : GoodIn wsX1_seekGuess wsX3_sizeOf := goodIn_r _ [31] (by decide +kernel) (by decide +kernel)
set_option maxRecDepth 20000 in
theorem gX1_seekGuess_X3_sizeOf : GoodIn wsX1_seekGuess (va_wsS RX1 104 yX3_sizeOf wsX3_sizeOf) := goodIn_app (goodIn_of _ (by decide +kernel)) ggX1_seekGuess_X3_sizeOf
theorem dX1_seekGuess_0 : decode cX1_seekGuess 0 = .ok (.aload_n 0, 1) := by decide +kernel
theorem dX1_seekGuess_1 : decode cX1_seekGuess 1 = .ok (.getfield 19, 3) := by decide +kernel
theorem dX1_seekGuess_4 : decode cX1_seekGuess 4 = .ok (.iconst 2, 1) := by decide +kernel
theorem dX1_seekGuess_5 : decode cX1_seekGuess 5 = .ok (.if_icmp .ge 7, 3) := by decide +kernel
theorem dX1_seekGuess_8 : decode cX1_seekGuess 8 = .ok (.iconst 2, 1) := by decide +kernel
theorem dX1_seekGuess_9 : decode cX1_seekGuess 9 = .ok (.goto 4, 3) := by decide +kernel
theorem dX1_seekGuess_12 : decode cX1_seekGuess 12 = .ok (.iconst 1, 1) := by decide +kernel
theorem dX1_seekGuess_13 : decode cX1_seekGuess 13 = .ok (.istore_n 2, 1) := by decide +kernel
theorem dX1_seekGuess_14 : decode cX1_seekGuess 14 = .ok (.iconst 0, 1) := by decide +kernel
theorem dX1_seekGuess_15 : decode cX1_seekGuess 15 = .ok (.istore_n 3, 1) := by decide +kernel
theorem dX1_seekGuess_16 : decode cX1_seekGuess 16 = .ok (.aload_n 0, 1) := by decide +kernel
theorem dX1_seekGuess_17 : decode cX1_seekGuess 17 = .ok (.iconst 0, 1) := by decide +kernel
theorem dX1_seekGuess_18 : decode cX1_seekGuess 18 = .ok (.putfield 37, 3) := by decide +kernel
theorem dX1_seekGuess_21 : decode cX1_seekGuess 21 = .ok (.aload_n 0, 1) := by decide +kernel
theorem dX1_seekGuess_22 : decode cX1_seekGuess 22 = .ok (.dconst 0, 1) := by decide +kernel
theorem dX1_seekGuess_23 : decode cX1_seekGuess 23 = .ok (.putfield 40, 3) := by decide +kernel
theorem dX1_seekGuess_26 : decode cX1_seekGuess 26 = .ok (.aload_n 0, 1) := by decide +kernel
theorem dX1_seekGuess_27 : decode cX1_seekGuess 27 = .ok (.iload_n 1, 1) := by decide +kernel
theorem dX1_seekGuess_28 : decode cX1_seekGuess 28 = .ok (.ifCond .le 14, 3) := by decide +kernel
theorem dX1_seekGuess_31 : decode cX1_seekGuess 31 = .ok (.aload_n 0, 1) := by decide +kernel
theorem dX1_seekGuess_32 : decode cX1_seekGuess 32 = .ok (.getfield 9, 3) := by decide +kernel
theorem dX1_seekGuess_35 : decode cX1_seekGuess 35 = .ok (.iload_n 1, 1) := by decide +kernel
theorem dX1_seekGuess_36 : decode cX1_seekGuess 36 = .ok (.iconst 1, 1) := by decide +kernel
theorem dX1_seekGuess_37 : decode cX1_seekGuess 37 = .ok (.isub, 1) := by decide +kernel
theorem dX1_seekGuess_38 : decode cX1_seekGuess 38 = .ok (.daload, 1) := by decide +kernel
theorem dX1_seekGuess_39 : decode cX1_seekGuess 39 = .ok (.goto 4, 3) := by decide +kernel
theorem dX1_seekGuess_42 : decode cX1_seekGuess 42 = .ok (.dconst 0, 1) := by decide +kernel
theorem dX1_seekGuess_43 : decode cX1_seekGuess 43 = .ok (.putfield 43, 3) := by decide +kernel
theorem dX1_seekGuess_46 : decode cX1_seekGuess 46 = .ok (.iload_n 2, 1) := by decide +kernel
theorem dX1_seekGuess_47 : decode cX1_seekGuess 47 = .ok (.istore 4, 2) := by decide +kernel
theorem dX1_seekGuess_49 : decode cX1_seekGuess 49 = .ok (.iload 4, 2) := by decide +kernel
theorem dX1_seekGuess_51 : decode cX1_seekGuess 51 = .ok (.bipush 16, 2) := by decide +kernel
theorem dX1_seekGuess_53 : decode cX1_seekGuess 53 = .ok (.if_icmp .ge 107, 3) := by decide +kernel
theorem dX1_seekGuess_56 : decode cX1_seekGuess 56 = .ok (.aload_n 0, 1) := by decide +kernel
theorem dX1_seekGuess_57 : decode cX1_seekGuess 57 = .ok (.iload 4, 2) := by decide +kernel
theorem dX1_seekGuess_59 : decode cX1_seekGuess 59 = .ok (.iload_n 1, 1) := by decide +kernel
theorem dX1_seekGuess_60 : decode cX1_seekGuess 60 = .ok (.invokevirtual 132, 3) := by decide +kernel
theorem dX1_seekGuess_63 : decode cX1_seekGuess 63 = .ok (.istore 5, 2) := by decide +kernel
theorem dX1_seekGuess_65 : decode cX1_seekGuess 65 = .ok (.aload_n 0, 1) := by decide +kernel
theorem dX1_seekGuess_66 : decode cX1_seekGuess 66 = .ok (.iload 4, 2) := by decide +kernel
theorem dX1_seekGuess_68 : decode cX1_seekGuess 68 = .ok (.iload_n 2, 1) := by decide +kernel
theorem dX1_seekGuess_69 : decode cX1_seekGuess 69 = .ok (.isub, 1) := by decide +kernel
theorem dX1_seekGuess_70 : decode cX1_seekGuess 70 = .ok (.iload_n 1, 1) := by decide +kernel
theorem dX1_seekGuess_71 : decode cX1_seekGuess 71 = .ok (.invokevirtual 132, 3) := by decide +kernel
theorem dX1_seekGuess_74 : decode cX1_seekGuess 74 = .ok (.istore 6, 2) := by decide +kernel
theorem dX1_seekGuess_76 : decode cX1_seekGuess 76 = .ok (.iload 5, 2) := by decide +kernel
theorem dX1_seekGuess_78 : decode cX1_seekGuess 78 = .ok (.ifCond .lt 73, 3) := by decide +kernel
theorem dX1_seekGuess_81 : decode cX1_seekGuess 81 = .ok (.iload 6, 2) := by decide +kernel
theorem dX1_seekGuess_83 : decode cX1_seekGuess 83 = .ok (.ifCond .ge 6, 3) := by decide +kernel
theorem dX1_seekGuess_86 : decode cX1_seekGuess 86 = .ok (.goto 65, 3) := by decide +kernel
theorem dX1_seekGuess_89 : decode cX1_seekGuess 89 = .ok (.aload_n 0, 1) := by decide +kernel
theorem dX1_seekGuess_90 : decode cX1_seekGuess 90 = .ok (.iload 4, 2) := by decide +kernel
theorem dX1_seekGuess_92 : decode cX1_seekGuess 92 = .ok (.iload 5, 2) := by decide +kernel
theorem dX1_seekGuess_94 : decode cX1_seekGuess 94 = .ok (.invokevirtual 114, 3) := by decide +kernel
theorem dX1_seekGuess_97 : decode cX1_seekGuess 97 = .ok (.dstore 7, 2) := by decide +kernel
theorem dX1_seekGuess_99 : decode cX1_seekGuess 99 = .ok (.dload 7, 2) := by decide +kernel
theorem dX1_seekGuess_101 : decode cX1_seekGuess 101 = .ok (.aload_n 0, 1) := by decide +kernel
theorem dX1_seekGuess_102 : decode cX1_seekGuess 102 = .ok (.iload 4, 2) := by decide +kernel
theorem dX1_seekGuess_104 : decode cX1_seekGuess 104 = .ok (.iload_n 2, 1) := by decide +kernel
theorem dX1_seekGuess_105 : decode cX1_seekGuess 105 = .ok (.isub, 1) := by decide +kernel
theorem dX1_seekGuess_106 : decode cX1_seekGuess 106 = .ok (.iload 6, 2) := by decide +kernel
theorem dX1_seekGuess_108 : decode cX1_seekGuess 108 = .ok (.invokevirtual 114, 3) := by decide +kernel
theorem dX1_seekGuess_111 : decode cX1_seekGuess 111 = .ok (.dsub, 1) := by decide +kernel
theorem dX1_seekGuess_112 : decode cX1_seekGuess 112 = .ok (.invokestatic 104, 3) := by decide +kernel
theorem dX1_seekGuess_115 : decode cX1_seekGuess 115 = .ok (.dstore 9, 2) := by decide +kernel
theorem dX1_seekGuess_117 : decode cX1_seekGuess 117 = .ok (.iload_n 3, 1) := by decide +kernel
theorem dX1_seekGuess_118 : decode cX1_seekGuess 118 = .ok (.ifCond .eq 13, 3) := by decide +kernel
theorem dX1_seekGuess_121 : decode cX1_seekGuess 121 = .ok (.dload 9, 2) := by decide +kernel
theorem dX1_seekGuess_123 : decode cX1_seekGuess 123 = .ok (.aload_n 0, 1) := by decide +kernel
theorem dX1_seekGuess_124 : decode cX1_seekGuess 124 = .ok (.getfield 40, 3) := by decide +kernel
theorem dX1_seekGuess_127 : decode cX1_seekGuess 127 = .ok (.dcmp .g, 1) := by decide +kernel
theorem dX1_seekGuess_128 : decode cX1_seekGuess 128 = .ok (.ifCond .ge 23, 3) := by decide +kernel
theorem dX1_seekGuess_131 : decode cX1_seekGuess 131 = .ok (.iconst 1, 1) := by decide +kernel
theorem dX1_seekGuess_132 : decode cX1_seekGuess 132 = .ok (.istore_n 3, 1) := by decide +kernel
theorem dX1_seekGuess_133 : decode cX1_seekGuess 133 = .ok (.aload_n 0, 1) := by decide +kernel
theorem dX1_seekGuess_134 : decode cX1_seekGuess 134 = .ok (.iload 4, 2) := by decide +kernel
theorem dX1_seekGuess_136 : decode cX1_seekGuess 136 = .ok (.putfield 37, 3) := by decide +kernel
theorem dX1_seekGuess_139 : decode cX1_seekGuess 139 = .ok (.aload_n 0, 1) := by decide +kernel
theorem dX1_seekGuess_140 : decode cX1_seekGuess 140 = .ok (.dload 9, 2) := by decide +kernel
theorem dX1_seekGuess_142 : decode cX1_seekGuess 142 = .ok (.putfield 40, 3) := by decide +kernel
theorem dX1_seekGuess_145 : decode cX1_seekGuess 145 = .ok (.aload_n 0, 1) := by decide +kernel
theorem dX1_seekGuess_146 : decode cX1_seekGuess 146 = .ok (.dload 7, 2) := by decide +kernel
theorem dX1_seekGuess_148 : decode cX1_seekGuess 148 = .ok (.putfield 43, 3) := by decide +kernel
theorem dX1_seekGuess_151 : decode cX1_seekGuess 151 = .ok (.iload 4, 2) := by decide +kernel
theorem dX1_seekGuess_153 : decode cX1_seekGuess 153 = .ok (.iload_n 2, 1) := by decide +kernel
theorem dX1_seekGuess_154 : decode cX1_seekGuess 154 = .ok (.iadd, 1) := by decide +kernel
theorem dX1_seekGuess_155 : decode cX1_seekGuess 155 = .ok (.istore 4, 2) := by decide +kernel
theorem dX1_seekGuess_157 : decode cX1_seekGuess 157 = .ok (.goto (-108), 3) := by decide +kernel
theorem dX1_seekGuess_160 : decode cX1_seekGuess 160 = .ok (.iload_n 3, 1) := by decide +kernel
theorem dX1_seekGuess_161 : decode cX1_seekGuess 161 = .ok (.ireturn, 1) := by decide +kernel
set_option maxRecDepth 20000 in
theorem ggX2_init_X5_init : GoodIn wsX2_init wsX5_init := goodIn_r _ [12, 13, 2, 3, 14, 15, 16, 17, 18, 19, 20, 21, 22, 23, 24, 25, 26, 27, 28, 29, 37, 38, 33, 34, 35, 36] (by decide +kernel) (by decide +kernel)
set_option maxRecDepth 20000 in
theorem gX2_init_X5_init : GoodIn wsX2_init (wsX5_init) := ggX2_init_X5_init
theorem dX2_init_0 : decode cX2_init 0 = .ok (.aload_n 0, 1) := by decide +kernel
theorem dX2_init_1 : decode cX2_init 1 = .ok (.invokespecial 1, 3) := by decide +kernel
theorem dX2_init_4 : decode cX2_init 4 = .ok (.aload_n 0, 1) := by decide +kernel
theorem dX2_init_5 : decode cX2_init 5 = .ok (.iconst 4, 1) := by decide +kernel
theorem dX2_init_6 : decode cX2_init 6 = .ok (.anewarray 9, 3) := by decide +kernel
theorem dX2_init_9 : decode cX2_init 9 = .ok (.putfield 11, 3) := by decide +kernel
theorem dX2_init_12 : decode cX2_init 12 = .ok (.aload_n 0, 1) := by decide +kernel
theorem dX2_init_13 : decode cX2_init 13 = .ok (.iconst 0, 1) := by decide +kernel
theorem dX2_init_14 : decode cX2_init 14 = .ok (.putfield 15, 3) := by decide +kernel
theorem dX2_init_17 : decode cX2_init 17 = .ok (.aload_n 0, 1) := by decide +kernel
theorem dX2_init_18 : decode cX2_init 18 = .ok (.iconst 0, 1) := by decide +kernel
theorem dX2_init_19 : decode cX2_init 19 = .ok (.putfield 19, 3) := by decide +kernel
theorem dX2_init_22 : decode cX2_init 22 = .ok (.iconst 0, 1) := by decide +kernel
theorem dX2_init_23 : decode cX2_init 23 = .ok (.istore_n 1, 1) := by decide +kernel
theorem dX2_init_24 : decode cX2_init 24 = .ok (.iload_n 1, 1) := by decide +kernel
theorem dX2_init_25 : decode cX2_init 25 = .ok (.iconst 4, 1) := by decide +kernel
theorem dX2_init_26 : decode cX2_init 26 = .ok (.if_icmp .ge 22, 3) := by decide +kernel
theorem dX2_init_29 : decode cX2_init 29 = .ok (.aload_n 0, 1) := by decide +kernel
theorem dX2_init_30 : decode cX2_init 30 = .ok (.getfield 11, 3) := by decide +kernel
theorem dX2_init_33 : decode cX2_init 33 = .ok (.iload_n 1, 1) := by decide +kernel
theorem dX2_init_34 : decode cX2_init 34 = .ok (.new 9, 3) := by decide +kernel
theorem dX2_init_37 : decode cX2_init 37 = .ok (.dup, 1) := by decide +kernel
theorem dX2_init_38 : decode cX2_init 38 = .ok (.invokespecial 22, 3) := by decide +kernel
theorem dX2_init_41 : decode cX2_init 41 = .ok (.aastore, 1) := by decide +kernel
theorem dX2_init_42 : decode cX2_init 42 = .ok (.iinc 1 1, 3) := by decide +kernel
theorem dX2_init_45 : decode cX2_init 45 = .ok (.goto (-21), 3) := by decide +kernel
theorem dX2_init_48 : decode cX2_init 48 = .ok (.return_, 1) := by decide +kernel
set_option maxRecDepth 20000 in
theorem ggX2_remember_X5_copyFrom : GoodIn wsX2_remember wsX5_copyFrom := goodIn_r _ [8, 9, 10, 11, 12, 13, 14, 15, 16, 17, 18, 19, 20, 21, 22, 23, 24, 28, 29, 30, 31, 32, 33] (by decide +kernel) (by decide +kernel)
set_option maxRecDepth 20000 in
theorem gX2_remember_X5_copyFrom : GoodIn wsX2_remember (wsV RX2 23 RX5 yX5_copyFrom wsX5_copyFrom) := goodIn_app (goodIn_of _ (by decide +kernel)) ggX2_remember_X5_copyFrom
theorem dX2_remember_0 : decode cX2_remember 0 = .ok (.aload_n 0, 1) := by decide +kernel
theorem dX2_remember_1 : decode cX2_remember 1 = .ok (.getfield 19, 3) := by decide +kernel
theorem dX2_remember_4 : decode cX2_remember 4 = .ok (.iconst 4, 1) := by decide +kernel
theorem dX2_remember_5 : decode cX2_remember 5 = .ok (.if_icmp .ne 25, 3) := by decide +kernel
theorem dX2_remember_8 : decode cX2_remember 8 = .ok (.aload_n 0, 1) := by decide +kernel
theorem dX2_remember_9 : decode cX2_remember 9 = .ok (.aload_n 0, 1) := by decide +kernel
theorem dX2_remember_10 : decode cX2_remember 10 = .ok (.getfield 15, 3) := by decide +kernel
theorem dX2_remember_13 : decode cX2_remember 13 = .ok (.iconst 1, 1) := by decide +kernel
theorem dX2_remember_14 : decode cX2_remember 14 = .ok (.iadd, 1) := by decide +kernel
theorem dX2_remember_15 : decode cX2_remember 15 = .ok (.iconst 4, 1) := by decide +kernel
theorem dX2_remember_16 : decode cX2_remember 16 = .ok (.irem, 1) := by decide +kernel
