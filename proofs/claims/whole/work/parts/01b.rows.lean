theorem dX0_exponentOf_0 : decode cX0_exponentOf 0 = .ok (.lload_n 0, 1) := by decide +kernel
theorem dX0_exponentOf_1 : decode cX0_exponentOf 1 = .ok (.bipush 52, 2) := by decide +kernel
theorem dX0_exponentOf_3 : decode cX0_exponentOf 3 = .ok (.lushr, 1) := by decide +kernel
theorem dX0_exponentOf_4 : decode cX0_exponentOf 4 = .ok (.ldc2_w 7, 3) := by decide +kernel
theorem dX0_exponentOf_7 : decode cX0_exponentOf 7 = .ok (.land, 1) := by decide +kernel
theorem dX0_exponentOf_8 : decode cX0_exponentOf 8 = .ok (.l2i, 1) := by decide +kernel
theorem dX0_exponentOf_9 : decode cX0_exponentOf 9 = .ok (.ireturn, 1) := by decide +kernel
set_option maxRecDepth 20000 in
theorem ggX0_isNan_X0_exponentOf : GoodIn wsX0_isNan wsX0_exponentOf := goodIn_r _ [5, 6] (by decide +kernel) (by decide +kernel)
set_option maxRecDepth 20000 in
theorem gX0_isNan_X0_exponentOf : GoodIn wsX0_isNan (va_wsS RX0 9 yX0_exponentOf wsX0_exponentOf) := goodIn_app (goodIn_of _ (by decide +kernel)) ggX0_isNan_X0_exponentOf
theorem dX0_isNan_0 : decode cX0_isNan 0 = .ok (.lload_n 0, 1) := by decide +kernel
theorem dX0_isNan_1 : decode cX0_isNan 1 = .ok (.invokestatic 9, 3) := by decide +kernel
theorem dX0_isNan_4 : decode cX0_isNan 4 = .ok (.sipush 2047, 3) := by decide +kernel
theorem dX0_isNan_7 : decode cX0_isNan 7 = .ok (.if_icmp .ne 17, 3) := by decide +kernel
theorem dX0_isNan_10 : decode cX0_isNan 10 = .ok (.lload_n 0, 1) := by decide +kernel
theorem dX0_isNan_11 : decode cX0_isNan 11 = .ok (.ldc2_w 15, 3) := by decide +kernel
theorem dX0_isNan_14 : decode cX0_isNan 14 = .ok (.land, 1) := by decide +kernel
theorem dX0_isNan_15 : decode cX0_isNan 15 = .ok (.lconst 0, 1) := by decide +kernel
theorem dX0_isNan_16 : decode cX0_isNan 16 = .ok (.lcmp, 1) := by decide +kernel
theorem dX0_isNan_17 : decode cX0_isNan 17 = .ok (.ifCond .eq 7, 3) := by decide +kernel
theorem dX0_isNan_20 : decode cX0_isNan 20 = .ok (.iconst 1, 1) := by decide +kernel
theorem dX0_isNan_21 : decode cX0_isNan 21 = .ok (.goto 4, 3) := by decide +kernel
theorem dX0_isNan_24 : decode cX0_isNan 24 = .ok (.iconst 0, 1) := by decide +kernel
theorem dX0_isNan_25 : decode cX0_isNan 25 = .ok (.ireturn, 1) := by decide +kernel
theorem dX0_isMinusZero_0 : decode cX0_isMinusZero 0 = .ok (.lload_n 0, 1) := by decide +kernel
theorem dX0_isMinusZero_1 : decode cX0_isMinusZero 1 = .ok (.ldc2_w 17, 3) := by decide +kernel
theorem dX0_isMinusZero_4 : decode cX0_isMinusZero 4 = .ok (.lcmp, 1) := by decide +kernel
theorem dX0_isMinusZero_5 : decode cX0_isMinusZero 5 = .ok (.ifCond .ne 7, 3) := by decide +kernel
theorem dX0_isMinusZero_8 : decode cX0_isMinusZero 8 = .ok (.iconst 1, 1) := by decide +kernel
theorem dX0_isMinusZero_9 : decode cX0_isMinusZero 9 = .ok (.goto 4, 3) := by decide +kernel
theorem dX0_isMinusZero_12 : decode cX0_isMinusZero 12 = .ok (.iconst 0, 1) := by decide +kernel
theorem dX0_isMinusZero_13 : decode cX0_isMinusZero 13 = .ok (.ireturn, 1) := by decide +kernel
set_option maxRecDepth 20000 in
theorem ggX0_fitRow_X0_isNan : GoodIn wsX0_fitRow wsX0_isNan := goodIn_r _ [4, 5, 6, 7, 3, 8, 9] (by decide +kernel) (by decide +kernel)
set_option maxRecDepth 20000 in
theorem gX0_fitRow_X0_isNan : GoodIn wsX0_fitRow (va_wsS RX0 19 yX0_isNan wsX0_isNan) := goodIn_app (goodIn_of _ (by decide +kernel)) ggX0_fitRow_X0_isNan
set_option maxRecDepth 20000 in
theorem ggX0_fitRow_X0_decoded : GoodIn wsX0_fitRow wsX0_decoded := goodIn_r _ [12, 5, 13, 6, 7, 3, 8, 9, 14, 15, 16, 17, 18] (by decide +kernel) (by decide +kernel)
set_option maxRecDepth 20000 in
theorem gX0_fitRow_X0_decoded : GoodIn wsX0_fitRow (va_wsS RX0 23 yX0_decoded wsX0_decoded) := goodIn_app (goodIn_of _ (by decide +kernel)) ggX0_fitRow_X0_decoded
set_option maxRecDepth 20000 in
theorem ggX0_fitRow_X3_fitsRow : GoodIn wsX0_fitRow wsX3_fitsRow := goodIn_r _ [22, 23, 24] (by decide +kernel) (by decide +kernel)
set_option maxRecDepth 20000 in
theorem gX0_fitRow_X3_fitsRow : GoodIn wsX0_fitRow (va_wsS RX0 27 yX3_fitsRow wsX3_fitsRow) := goodIn_app (goodIn_of _ (by decide +kernel)) ggX0_fitRow_X3_fitsRow
theorem dX0_fitRow_0 : decode cX0_fitRow 0 = .ok (.lload_n 0, 1) := by decide +kernel
theorem dX0_fitRow_1 : decode cX0_fitRow 1 = .ok (.invokestatic 19, 3) := by decide +kernel
theorem dX0_fitRow_4 : decode cX0_fitRow 4 = .ok (.ifCond .ne 17, 3) := by decide +kernel
theorem dX0_fitRow_7 : decode cX0_fitRow 7 = .ok (.lload_n 0, 1) := by decide +kernel
theorem dX0_fitRow_8 : decode cX0_fitRow 8 = .ok (.invokestatic 23, 3) := by decide +kernel
theorem dX0_fitRow_11 : decode cX0_fitRow 11 = .ok (.invokestatic 27, 3) := by decide +kernel
theorem dX0_fitRow_14 : decode cX0_fitRow 14 = .ok (.ifCond .eq 7, 3) := by decide +kernel
theorem dX0_fitRow_17 : decode cX0_fitRow 17 = .ok (.iconst 1, 1) := by decide +kernel
theorem dX0_fitRow_18 : decode cX0_fitRow 18 = .ok (.goto 4, 3) := by decide +kernel
theorem dX0_fitRow_21 : decode cX0_fitRow 21 = .ok (.iconst 0, 1) := by decide +kernel
theorem dX0_fitRow_22 : decode cX0_fitRow 22 = .ok (.ireturn, 1) := by decide +kernel
set_option maxRecDepth 20000 in
theorem ggX0_decoded_X0_exponentOf : GoodIn wsX0_decoded wsX0_exponentOf := goodIn_r _ [6, 7] (by decide +kernel) (by decide +kernel)
set_option maxRecDepth 20000 in
theorem gX0_decoded_X0_exponentOf : GoodIn wsX0_decoded (va_wsS RX0 9 yX0_exponentOf wsX0_exponentOf) := goodIn_app (goodIn_of _ (by decide +kernel)) ggX0_decoded_X0_exponentOf
set_option maxRecDepth 20000 in
theorem ggX0_decoded_X0_scaled : GoodIn wsX0_decoded wsX0_scaled := goodIn_r _ [10, 11, 12] (by decide +kernel) (by decide +kernel)
set_option maxRecDepth 20000 in
theorem gX0_decoded_X0_scaled : GoodIn wsX0_decoded (va_wsS RX0 33 yX0_scaled wsX0_scaled) := goodIn_app (goodIn_of _ (by decide +kernel)) ggX0_decoded_X0_scaled
theorem dX0_decoded_0 : decode cX0_decoded 0 = .ok (.lload_n 0, 1) := by decide +kernel
theorem dX0_decoded_1 : decode cX0_decoded 1 = .ok (.invokestatic 9, 3) := by decide +kernel
theorem dX0_decoded_4 : decode cX0_decoded 4 = .ok (.istore_n 2, 1) := by decide +kernel
theorem dX0_decoded_5 : decode cX0_decoded 5 = .ok (.lload_n 0, 1) := by decide +kernel
theorem dX0_decoded_6 : decode cX0_decoded 6 = .ok (.ldc2_w 15, 3) := by decide +kernel
theorem dX0_decoded_9 : decode cX0_decoded 9 = .ok (.land, 1) := by decide +kernel
theorem dX0_decoded_10 : decode cX0_decoded 10 = .ok (.lstore_n 3, 1) := by decide +kernel
theorem dX0_decoded_11 : decode cX0_decoded 11 = .ok (.iload_n 2, 1) := by decide +kernel
theorem dX0_decoded_12 : decode cX0_decoded 12 = .ok (.ifCond .ne 14, 3) := by decide +kernel
theorem dX0_decoded_15 : decode cX0_decoded 15 = .ok (.lload_n 3, 1) := by decide +kernel
theorem dX0_decoded_16 : decode cX0_decoded 16 = .ok (.l2d, 1) := by decide +kernel
theorem dX0_decoded_17 : decode cX0_decoded 17 = .ok (.sipush (-1074), 3) := by decide +kernel
theorem dX0_decoded_20 : decode cX0_decoded 20 = .ok (.invokestatic 33, 3) := by decide +kernel
theorem dX0_decoded_23 : decode cX0_decoded 23 = .ok (.goto 17, 3) := by decide +kernel
theorem dX0_decoded_26 : decode cX0_decoded 26 = .ok (.lload_n 3, 1) := by decide +kernel
theorem dX0_decoded_27 : decode cX0_decoded 27 = .ok (.ldc2_w 37, 3) := by decide +kernel
theorem dX0_decoded_30 : decode cX0_decoded 30 = .ok (.lor, 1) := by decide +kernel
theorem dX0_decoded_31 : decode cX0_decoded 31 = .ok (.l2d, 1) := by decide +kernel
theorem dX0_decoded_32 : decode cX0_decoded 32 = .ok (.iload_n 2, 1) := by decide +kernel
theorem dX0_decoded_33 : decode cX0_decoded 33 = .ok (.sipush 1075, 3) := by decide +kernel
theorem dX0_decoded_36 : decode cX0_decoded 36 = .ok (.isub, 1) := by decide +kernel
theorem dX0_decoded_37 : decode cX0_decoded 37 = .ok (.invokestatic 33, 3) := by decide +kernel
theorem dX0_decoded_40 : decode cX0_decoded 40 = .ok (.dstore 5, 2) := by decide +kernel
theorem dX0_decoded_42 : decode cX0_decoded 42 = .ok (.lload_n 0, 1) := by decide +kernel
theorem dX0_decoded_43 : decode cX0_decoded 43 = .ok (.lconst 0, 1) := by decide +kernel
theorem dX0_decoded_44 : decode cX0_decoded 44 = .ok (.lcmp, 1) := by decide +kernel
theorem dX0_decoded_45 : decode cX0_decoded 45 = .ok (.ifCond .ge 9, 3) := by decide +kernel
theorem dX0_decoded_48 : decode cX0_decoded 48 = .ok (.dload 5, 2) := by decide +kernel
theorem dX0_decoded_50 : decode cX0_decoded 50 = .ok (.dneg, 1) := by decide +kernel
theorem dX0_decoded_51 : decode cX0_decoded 51 = .ok (.goto 5, 3) := by decide +kernel
theorem dX0_decoded_54 : decode cX0_decoded 54 = .ok (.dload 5, 2) := by decide +kernel
theorem dX0_decoded_56 : decode cX0_decoded 56 = .ok (.dreturn, 1) := by decide +kernel
theorem dX0_scaled_0 : decode cX0_scaled 0 = .ok (.iload_n 2, 1) := by decide +kernel
theorem dX0_scaled_1 : decode cX0_scaled 1 = .ok (.ifCond .ge 8, 3) := by decide +kernel
theorem dX0_scaled_4 : decode cX0_scaled 4 = .ok (.iload_n 2, 1) := by decide +kernel
theorem dX0_scaled_5 : decode cX0_scaled 5 = .ok (.ineg, 1) := by decide +kernel
theorem dX0_scaled_6 : decode cX0_scaled 6 = .ok (.goto 4, 3) := by decide +kernel
theorem dX0_scaled_9 : decode cX0_scaled 9 = .ok (.iload_n 2, 1) := by decide +kernel
theorem dX0_scaled_10 : decode cX0_scaled 10 = .ok (.istore_n 3, 1) := by decide +kernel
theorem dX0_scaled_11 : decode cX0_scaled 11 = .ok (.iload_n 2, 1) := by decide +kernel
theorem dX0_scaled_12 : decode cX0_scaled 12 = .ok (.ifCond .ge 9, 3) := by decide +kernel
theorem dX0_scaled_15 : decode cX0_scaled 15 = .ok (.ldc2_w 39, 3) := by decide +kernel
theorem dX0_scaled_18 : decode cX0_scaled 18 = .ok (.goto 6, 3) := by decide +kernel
theorem dX0_scaled_21 : decode cX0_scaled 21 = .ok (.ldc2_w 41, 3) := by decide +kernel
theorem dX0_scaled_24 : decode cX0_scaled 24 = .ok (.dstore 4, 2) := by decide +kernel
theorem dX0_scaled_26 : decode cX0_scaled 26 = .ok (.dload_n 0, 1) := by decide +kernel
theorem dX0_scaled_27 : decode cX0_scaled 27 = .ok (.dstore 6, 2) := by decide +kernel
theorem dX0_scaled_29 : decode cX0_scaled 29 = .ok (.iconst 0, 1) := by decide +kernel
theorem dX0_scaled_30 : decode cX0_scaled 30 = .ok (.istore 8, 2) := by decide +kernel
theorem dX0_scaled_32 : decode cX0_scaled 32 = .ok (.iload 8, 2) := by decide +kernel
theorem dX0_scaled_34 : decode cX0_scaled 34 = .ok (.bipush 11, 2) := by decide +kernel
theorem dX0_scaled_36 : decode cX0_scaled 36 = .ok (.if_icmp .ge 33, 3) := by decide +kernel
theorem dX0_scaled_39 : decode cX0_scaled 39 = .ok (.iload_n 3, 1) := by decide +kernel
theorem dX0_scaled_40 : decode cX0_scaled 40 = .ok (.iload 8, 2) := by decide +kernel
theorem dX0_scaled_42 : decode cX0_scaled 42 = .ok (.ishr, 1) := by decide +kernel
theorem dX0_scaled_43 : decode cX0_scaled 43 = .ok (.iconst 1, 1) := by decide +kernel
theorem dX0_scaled_44 : decode cX0_scaled 44 = .ok (.iand, 1) := by decide +kernel
theorem dX0_scaled_45 : decode cX0_scaled 45 = .ok (.iconst 1, 1) := by decide +kernel
theorem dX0_scaled_46 : decode cX0_scaled 46 = .ok (.if_icmp .ne 10, 3) := by decide +kernel
theorem dX0_scaled_49 : decode cX0_scaled 49 = .ok (.dload 6, 2) := by decide +kernel
theorem dX0_scaled_51 : decode cX0_scaled 51 = .ok (.dload 4, 2) := by decide +kernel
theorem dX0_scaled_53 : decode cX0_scaled 53 = .ok (.dmul, 1) := by decide +kernel
theorem dX0_scaled_54 : decode cX0_scaled 54 = .ok (.dstore 6, 2) := by decide +kernel
theorem dX0_scaled_56 : decode cX0_scaled 56 = .ok (.dload 4, 2) := by decide +kernel
theorem dX0_scaled_58 : decode cX0_scaled 58 = .ok (.dload 4, 2) := by decide +kernel
theorem dX0_scaled_60 : decode cX0_scaled 60 = .ok (.dmul, 1) := by decide +kernel
theorem dX0_scaled_61 : decode cX0_scaled 61 = .ok (.dstore 4, 2) := by decide +kernel
theorem dX0_scaled_63 : decode cX0_scaled 63 = .ok (.iinc 8 1, 3) := by decide +kernel
theorem dX0_scaled_66 : decode cX0_scaled 66 = .ok (.goto (-34), 3) := by decide +kernel
theorem dX0_scaled_69 : decode cX0_scaled 69 = .ok (.dload 6, 2) := by decide +kernel
theorem dX0_scaled_71 : decode cX0_scaled 71 = .ok (.dreturn, 1) := by decide +kernel
theorem dX1_init_0 : decode cX1_init 0 = .ok (.aload_n 0, 1) := by decide +kernel
theorem dX1_init_1 : decode cX1_init 1 = .ok (.invokespecial 3, 3) := by decide +kernel
theorem dX1_init_4 : decode cX1_init 4 = .ok (.aload_n 0, 1) := by decide +kernel
theorem dX1_init_5 : decode cX1_init 5 = .ok (.sipush 256, 3) := by decide +kernel
theorem dX1_init_8 : decode cX1_init 8 = .ok (.newarray .double, 2) := by decide +kernel
theorem dX1_init_10 : decode cX1_init 10 = .ok (.putfield 9, 3) := by decide +kernel
theorem dX1_init_13 : decode cX1_init 13 = .ok (.aload_n 0, 1) := by decide +kernel
theorem dX1_init_14 : decode cX1_init 14 = .ok (.sipush 256, 3) := by decide +kernel
theorem dX1_init_17 : decode cX1_init 17 = .ok (.newarray .int, 2) := by decide +kernel
theorem dX1_init_19 : decode cX1_init 19 = .ok (.putfield 15, 3) := by decide +kernel
theorem dX1_init_22 : decode cX1_init 22 = .ok (.aload_n 0, 1) := by decide +kernel
theorem dX1_init_23 : decode cX1_init 23 = .ok (.iconst 0, 1) := by decide +kernel
theorem dX1_init_24 : decode cX1_init 24 = .ok (.putfield 19, 3) := by decide +kernel
theorem dX1_init_27 : decode cX1_init 27 = .ok (.aload_n 0, 1) := by decide +kernel
theorem dX1_init_28 : decode cX1_init 28 = .ok (.dconst 0, 1) := by decide +kernel
theorem dX1_init_29 : decode cX1_init 29 = .ok (.putfield 23, 3) := by decide +kernel
theorem dX1_init_32 : decode cX1_init 32 = .ok (.aload_n 0, 1) := by decide +kernel
theorem dX1_init_33 : decode cX1_init 33 = .ok (.dconst 0, 1) := by decide +kernel
theorem dX1_init_34 : decode cX1_init 34 = .ok (.putfield 27, 3) := by decide +kernel
theorem dX1_init_37 : decode cX1_init 37 = .ok (.aload_n 0, 1) := by decide +kernel
theorem dX1_init_38 : decode cX1_init 38 = .ok (.iconst 0, 1) := by decide +kernel
theorem dX1_init_39 : decode cX1_init 39 = .ok (.putfield 30, 3) := by decide +kernel
theorem dX1_init_42 : decode cX1_init 42 = .ok (.aload_n 0, 1) := by decide +kernel
theorem dX1_init_43 : decode cX1_init 43 = .ok (.iconst 0, 1) := by decide +kernel
theorem dX1_init_44 : decode cX1_init 44 = .ok (.putfield 34, 3) := by decide +kernel
theorem dX1_init_47 : decode cX1_init 47 = .ok (.aload_n 0, 1) := by decide +kernel
theorem dX1_init_48 : decode cX1_init 48 = .ok (.iconst 0, 1) := by decide +kernel
theorem dX1_init_49 : decode cX1_init 49 = .ok (.putfield 37, 3) := by decide +kernel
theorem dX1_init_52 : decode cX1_init 52 = .ok (.aload_n 0, 1) := by decide +kernel
theorem dX1_init_53 : decode cX1_init 53 = .ok (.dconst 0, 1) := by decide +kernel
theorem dX1_init_54 : decode cX1_init 54 = .ok (.putfield 40, 3) := by decide +kernel
theorem dX1_init_57 : decode cX1_init 57 = .ok (.aload_n 0, 1) := by decide +kernel
theorem dX1_init_58 : decode cX1_init 58 = .ok (.dconst 0, 1) := by decide +kernel
theorem dX1_init_59 : decode cX1_init 59 = .ok (.putfield 43, 3) := by decide +kernel
theorem dX1_init_62 : decode cX1_init 62 = .ok (.return_, 1) := by decide +kernel
set_option maxRecDepth 20000 in
theorem ggX1_build_X5_rowAt : GoodIn wsX1_build wsX5_rowAt := goodIn_r _ [14, 15, 16, 79, 80, 81, 82] (by decide +kernel) (by decide +kernel)
set_option maxRecDepth 20000 in
theorem gX1_build_X5_rowAt : GoodIn wsX1_build (wsV RX1 46 RX5 yX5_rowAt wsX5_rowAt) := goodIn_app (goodIn_of _ (by decide +kernel)) ggX1_build_X5_rowAt
set_option maxRecDepth 20000 in
theorem ggX1_build_X1_put : GoodIn wsX1_build wsX1_put := goodIn_r _ [21, 22, 23, 69, 70, 71, 72, 73, 74, 75, 76, 77, 78] (by decide +kernel) (by decide +kernel)
set_option maxRecDepth 20000 in
theorem gX1_build_X1_put : GoodIn wsX1_build (wsV RX1 62 RX1 yX1_put wsX1_put) := goodIn_app (goodIn_of _ (by decide +kernel)) ggX1_build_X1_put
set_option maxRecDepth 20000 in
theorem ggX1_build_X1_manyIn : GoodIn wsX1_build wsX1_manyIn := goodIn_r _ [27, 1, 69, 70, 71, 72, 73, 74, 75, 76, 77, 78] (by decide +kernel) (by decide +kernel)
set_option maxRecDepth 20000 in
theorem gX1_build_X1_manyIn : GoodIn wsX1_build (wsV RX1 66 RX1 yX1_manyIn wsX1_manyIn) := goodIn_app (goodIn_of _ (by decide +kernel)) ggX1_build_X1_manyIn
set_option maxRecDepth 20000 in
theorem ggX1_build_X1_makeEntry : GoodIn wsX1_build wsX1_makeEntry := goodIn_r _ [31, 1, 32, 33, 34, 20, 35, 23, 17, 18, 19, 21, 22, 36, 37, 38, 39, 40, 41, 42, 43, 44, 45, 46, 47, 48, 49, 3, 50, 51, 52, 53, 54, 55, 56, 6, 57, 58, 59, 60, 61, 62, 63, 64, 4, 65, 66, 67, 68, 69, 70, 71, 72, 73, 74, 75, 76, 77, 78] (by decide +kernel) (by decide +kernel)
set_option maxRecDepth 20000 in
theorem gX1_build_X1_makeEntry : GoodIn wsX1_build (wsV RX1 70 RX1 yX1_makeEntry wsX1_makeEntry) := goodIn_app (goodIn_of _ (by decide +kernel)) ggX1_build_X1_makeEntry
theorem dX1_build_0 : decode cX1_build 0 = .ok (.aload_n 1, 1) := by decide +kernel
theorem dX1_build_1 : decode cX1_build 1 = .ok (.iload_n 2, 1) := by decide +kernel
theorem dX1_build_2 : decode cX1_build 2 = .ok (.invokevirtual 46, 3) := by decide +kernel
theorem dX1_build_5 : decode cX1_build 5 = .ok (.astore 4, 2) := by decide +kernel
theorem dX1_build_7 : decode cX1_build 7 = .ok (.aload_n 0, 1) := by decide +kernel
theorem dX1_build_8 : decode cX1_build 8 = .ok (.iload_n 3, 1) := by decide +kernel
theorem dX1_build_9 : decode cX1_build 9 = .ok (.putfield 19, 3) := by decide +kernel
theorem dX1_build_12 : decode cX1_build 12 = .ok (.aload_n 0, 1) := by decide +kernel
theorem dX1_build_13 : decode cX1_build 13 = .ok (.aload_n 1, 1) := by decide +kernel
theorem dX1_build_14 : decode cX1_build 14 = .ok (.getfield 52, 3) := by decide +kernel
theorem dX1_build_17 : decode cX1_build 17 = .ok (.iconst 0, 1) := by decide +kernel
theorem dX1_build_18 : decode cX1_build 18 = .ok (.daload, 1) := by decide +kernel
theorem dX1_build_19 : decode cX1_build 19 = .ok (.putfield 23, 3) := by decide +kernel
theorem dX1_build_22 : decode cX1_build 22 = .ok (.aload_n 0, 1) := by decide +kernel
theorem dX1_build_23 : decode cX1_build 23 = .ok (.aload_n 1, 1) := by decide +kernel
theorem dX1_build_24 : decode cX1_build 24 = .ok (.getfield 52, 3) := by decide +kernel
theorem dX1_build_27 : decode cX1_build 27 = .ok (.iconst 1, 1) := by decide +kernel
theorem dX1_build_28 : decode cX1_build 28 = .ok (.daload, 1) := by decide +kernel
theorem dX1_build_29 : decode cX1_build 29 = .ok (.putfield 27, 3) := by decide +kernel
theorem dX1_build_32 : decode cX1_build 32 = .ok (.aload_n 0, 1) := by decide +kernel
theorem dX1_build_33 : decode cX1_build 33 = .ok (.aload_n 1, 1) := by decide +kernel
theorem dX1_build_34 : decode cX1_build 34 = .ok (.getfield 55, 3) := by decide +kernel
theorem dX1_build_37 : decode cX1_build 37 = .ok (.putfield 30, 3) := by decide +kernel
theorem dX1_build_40 : decode cX1_build 40 = .ok (.aload_n 0, 1) := by decide +kernel
theorem dX1_build_41 : decode cX1_build 41 = .ok (.aload 4, 2) := by decide +kernel
theorem dX1_build_43 : decode cX1_build 43 = .ok (.getfield 56, 3) := by decide +kernel
theorem dX1_build_46 : decode cX1_build 46 = .ok (.putfield 34, 3) := by decide +kernel
theorem dX1_build_49 : decode cX1_build 49 = .ok (.iconst 0, 1) := by decide +kernel
theorem dX1_build_50 : decode cX1_build 50 = .ok (.istore 5, 2) := by decide +kernel
theorem dX1_build_52 : decode cX1_build 52 = .ok (.iload 5, 2) := by decide +kernel
theorem dX1_build_54 : decode cX1_build 54 = .ok (.aload_n 0, 1) := by decide +kernel
theorem dX1_build_55 : decode cX1_build 55 = .ok (.getfield 34, 3) := by decide +kernel
theorem dX1_build_58 : decode cX1_build 58 = .ok (.if_icmp .ge 24, 3) := by decide +kernel
theorem dX1_build_61 : decode cX1_build 61 = .ok (.aload_n 0, 1) := by decide +kernel
theorem dX1_build_62 : decode cX1_build 62 = .ok (.iload 5, 2) := by decide +kernel
theorem dX1_build_64 : decode cX1_build 64 = .ok (.aload 4, 2) := by decide +kernel
theorem dX1_build_66 : decode cX1_build 66 = .ok (.getfield 59, 3) := by decide +kernel
theorem dX1_build_69 : decode cX1_build 69 = .ok (.iload 5, 2) := by decide +kernel
theorem dX1_build_71 : decode cX1_build 71 = .ok (.daload, 1) := by decide +kernel
theorem dX1_build_72 : decode cX1_build 72 = .ok (.iconst 0, 1) := by decide +kernel
theorem dX1_build_73 : decode cX1_build 73 = .ok (.invokevirtual 62, 3) := by decide +kernel
theorem dX1_build_76 : decode cX1_build 76 = .ok (.iinc 5 1, 3) := by decide +kernel
theorem dX1_build_79 : decode cX1_build 79 = .ok (.goto (-27), 3) := by decide +kernel
theorem dX1_build_82 : decode cX1_build 82 = .ok (.iconst 1, 1) := by decide +kernel
theorem dX1_build_83 : decode cX1_build 83 = .ok (.istore 5, 2) := by decide +kernel
theorem dX1_build_85 : decode cX1_build 85 = .ok (.iload 5, 2) := by decide +kernel
theorem dX1_build_87 : decode cX1_build 87 = .ok (.bipush 16, 2) := by decide +kernel
theorem dX1_build_89 : decode cX1_build 89 = .ok (.if_icmp .ge 45, 3) := by decide +kernel
theorem dX1_build_92 : decode cX1_build 92 = .ok (.aload_n 0, 1) := by decide +kernel
theorem dX1_build_93 : decode cX1_build 93 = .ok (.iload 5, 2) := by decide +kernel
theorem dX1_build_95 : decode cX1_build 95 = .ok (.aload_n 0, 1) := by decide +kernel
theorem dX1_build_96 : decode cX1_build 96 = .ok (.getfield 34, 3) := by decide +kernel
theorem dX1_build_99 : decode cX1_build 99 = .ok (.invokevirtual 66, 3) := by decide +kernel
theorem dX1_build_102 : decode cX1_build 102 = .ok (.istore 6, 2) := by decide +kernel
theorem dX1_build_104 : decode cX1_build 104 = .ok (.iconst 0, 1) := by decide +kernel
theorem dX1_build_105 : decode cX1_build 105 = .ok (.istore 7, 2) := by decide +kernel
theorem dX1_build_107 : decode cX1_build 107 = .ok (.iload 7, 2) := by decide +kernel
theorem dX1_build_109 : decode cX1_build 109 = .ok (.iload 6, 2) := by decide +kernel
theorem dX1_build_111 : decode cX1_build 111 = .ok (.if_icmp .ge 17, 3) := by decide +kernel
theorem dX1_build_114 : decode cX1_build 114 = .ok (.aload_n 0, 1) := by decide +kernel
theorem dX1_build_115 : decode cX1_build 115 = .ok (.iload 5, 2) := by decide +kernel
theorem dX1_build_117 : decode cX1_build 117 = .ok (.iload 7, 2) := by decide +kernel
theorem dX1_build_119 : decode cX1_build 119 = .ok (.invokevirtual 70, 3) := by decide +kernel
theorem dX1_build_122 : decode cX1_build 122 = .ok (.iinc 7 1, 3) := by decide +kernel
theorem dX1_build_125 : decode cX1_build 125 = .ok (.goto (-18), 3) := by decide +kernel
theorem dX1_build_128 : decode cX1_build 128 = .ok (.iinc 5 1, 3) := by decide +kernel
theorem dX1_build_131 : decode cX1_build 131 = .ok (.goto (-46), 3) := by decide +kernel
theorem dX1_build_134 : decode cX1_build 134 = .ok (.return_, 1) := by decide +kernel
theorem dX1_manyIn_0 : decode cX1_manyIn 0 = .ok (.aload_n 0, 1) := by decide +kernel
theorem dX1_manyIn_1 : decode cX1_manyIn 1 = .ok (.getfield 19, 3) := by decide +kernel
theorem dX1_manyIn_4 : decode cX1_manyIn 4 = .ok (.iconst 2, 1) := by decide +kernel
theorem dX1_manyIn_5 : decode cX1_manyIn 5 = .ok (.if_icmp .ne 11, 3) := by decide +kernel
theorem dX1_manyIn_8 : decode cX1_manyIn 8 = .ok (.iload_n 2, 1) := by decide +kernel
theorem dX1_manyIn_9 : decode cX1_manyIn 9 = .ok (.iconst 2, 1) := by decide +kernel
theorem dX1_manyIn_10 : decode cX1_manyIn 10 = .ok (.iload_n 1, 1) := by decide +kernel
theorem dX1_manyIn_11 : decode cX1_manyIn 11 = .ok (.imul, 1) := by decide +kernel
theorem dX1_manyIn_12 : decode cX1_manyIn 12 = .ok (.isub, 1) := by decide +kernel
theorem dX1_manyIn_13 : decode cX1_manyIn 13 = .ok (.goto 6, 3) := by decide +kernel
theorem dX1_manyIn_16 : decode cX1_manyIn 16 = .ok (.iload_n 2, 1) := by decide +kernel
theorem dX1_manyIn_17 : decode cX1_manyIn 17 = .ok (.iload_n 1, 1) := by decide +kernel
theorem dX1_manyIn_18 : decode cX1_manyIn 18 = .ok (.isub, 1) := by decide +kernel
theorem dX1_manyIn_19 : decode cX1_manyIn 19 = .ok (.istore_n 3, 1) := by decide +kernel
theorem dX1_manyIn_20 : decode cX1_manyIn 20 = .ok (.iload_n 3, 1) := by decide +kernel
theorem dX1_manyIn_21 : decode cX1_manyIn 21 = .ok (.ifCond .ge 7, 3) := by decide +kernel
theorem dX1_manyIn_24 : decode cX1_manyIn 24 = .ok (.iconst 0, 1) := by decide +kernel
theorem dX1_manyIn_25 : decode cX1_manyIn 25 = .ok (.goto 4, 3) := by decide +kernel
theorem dX1_manyIn_28 : decode cX1_manyIn 28 = .ok (.iload_n 3, 1) := by decide +kernel
theorem dX1_manyIn_29 : decode cX1_manyIn 29 = .ok (.ireturn, 1) := by decide +kernel
theorem dX1_put_0 : decode cX1_put 0 = .ok (.aload_n 0, 1) := by decide +kernel
theorem dX1_put_1 : decode cX1_put 1 = .ok (.getfield 9, 3) := by decide +kernel
theorem dX1_put_4 : decode cX1_put 4 = .ok (.iload_n 1, 1) := by decide +kernel
theorem dX1_put_5 : decode cX1_put 5 = .ok (.dload_n 2, 1) := by decide +kernel
theorem dX1_put_6 : decode cX1_put 6 = .ok (.dastore, 1) := by decide +kernel
theorem dX1_put_7 : decode cX1_put 7 = .ok (.aload_n 0, 1) := by decide +kernel
theorem dX1_put_8 : decode cX1_put 8 = .ok (.getfield 15, 3) := by decide +kernel
theorem dX1_put_11 : decode cX1_put 11 = .ok (.iload_n 1, 1) := by decide +kernel
theorem dX1_put_12 : decode cX1_put 12 = .ok (.iload 4, 2) := by decide +kernel
theorem dX1_put_14 : decode cX1_put 14 = .ok (.iastore, 1) := by decide +kernel
theorem dX1_put_15 : decode cX1_put 15 = .ok (.return_, 1) := by decide +kernel
set_option maxRecDepth 20000 in
theorem ggX1_makeEntry_X1_restsOnBroken : GoodIn wsX1_makeEntry wsX1_restsOnBroken := goodIn_r _ [6, 7, 1, 49, 50, 51, 52, 53, 54, 55, 56, 57, 58] (by decide +kernel) (by decide +kernel)
set_option maxRecDepth 20000 in
theorem gX1_makeEntry_X1_restsOnBroken : GoodIn wsX1_makeEntry (wsV RX1 74 RX1 yX1_restsOnBroken wsX1_restsOnBroken) := goodIn_app (goodIn_of _ (by decide +kernel)) ggX1_makeEntry_X1_restsOnBroken
set_option maxRecDepth 20000 in
theorem ggX1_makeEntry_X1_put : GoodIn wsX1_makeEntry wsX1_put := goodIn_r _ [11, 12, 7, 49, 50, 51, 52, 53, 54, 55, 56, 57, 58] (by decide +kernel) (by decide +kernel)
set_option maxRecDepth 20000 in
theorem gX1_makeEntry_X1_put : GoodIn wsX1_makeEntry (wsV RX1 62 RX1 yX1_put wsX1_put) := goodIn_app (goodIn_of _ (by decide +kernel)) ggX1_makeEntry_X1_put
set_option maxRecDepth 20000 in
theorem ggX1_makeEntry_X1_makeOfThree : GoodIn wsX1_makeEntry wsX1_makeOfThree := goodIn_r _ [16, 12, 17, 18, 19, 20, 21, 22, 23, 24, 25, 5, 26, 27, 28, 29, 30, 31, 32, 33, 34, 35, 8, 9, 10, 11, 7, 36, 37, 38, 39, 49, 50, 51, 52, 53, 54, 55, 56, 57, 58] (by decide +kernel) (by decide +kernel)
set_option maxRecDepth 20000 in
theorem gX1_makeEntry_X1_makeOfThree : GoodIn wsX1_makeEntry (wsV RX1 78 RX1 yX1_makeOfThree wsX1_makeOfThree) := goodIn_app (goodIn_of _ (by decide +kernel)) ggX1_makeEntry_X1_makeOfThree
set_option maxRecDepth 20000 in
theorem ggX1_makeEntry_X1_makeByRatio : GoodIn wsX1_makeEntry wsX1_makeByRatio := goodIn_r _ [43, 12, 44, 23, 24, 25, 5, 26, 27, 28, 29, 19, 30, 31, 32, 33, 34, 35, 8, 9, 10, 11, 7, 36, 37, 38, 39, 17, 18, 20, 21, 22, 49, 50, 51, 52, 53, 54, 55, 56, 57, 58] (by decide +kernel) (by decide +kernel)
set_option maxRecDepth 20000 in
theorem gX1_makeEntry_X1_makeByRatio : GoodIn wsX1_makeEntry (wsV RX1 82 RX1 yX1_makeByRatio wsX1_makeByRatio) := goodIn_app (goodIn_of _ (by decide +kernel)) ggX1_makeEntry_X1_makeByRatio
set_option maxRecDepth 20000 in
theorem ggX1_makeEntry_X1_makeByInverse : GoodIn wsX1_makeEntry wsX1_makeByInverse := goodIn_r _ [48, 12, 1, 23, 24, 25, 5, 26, 27, 28, 29, 19, 30, 31, 32, 33, 34, 35, 8, 9, 10, 11, 7, 36, 37, 38, 39, 17, 18, 20, 21, 22, 49, 50, 51, 52, 53, 54, 55, 56, 57, 58] (by decide +kernel) (by decide +kernel)
set_option maxRecDepth 20000 in
theorem gX1_makeEntry_X1_makeByInverse : GoodIn wsX1_makeEntry (wsV RX1 85 RX1 yX1_makeByInverse wsX1_makeByInverse) := goodIn_app (goodIn_of _ (by decide +kernel)) ggX1_makeEntry_X1_makeByInverse
theorem dX1_makeEntry_0 : decode cX1_makeEntry 0 = .ok (.iload_n 1, 1) := by decide +kernel
theorem dX1_makeEntry_1 : decode cX1_makeEntry 1 = .ok (.bipush 16, 2) := by decide +kernel
theorem dX1_makeEntry_3 : decode cX1_makeEntry 3 = .ok (.imul, 1) := by decide +kernel
theorem dX1_makeEntry_4 : decode cX1_makeEntry 4 = .ok (.iload_n 2, 1) := by decide +kernel
theorem dX1_makeEntry_5 : decode cX1_makeEntry 5 = .ok (.iadd, 1) := by decide +kernel
theorem dX1_makeEntry_6 : decode cX1_makeEntry 6 = .ok (.istore_n 3, 1) := by decide +kernel
theorem dX1_makeEntry_7 : decode cX1_makeEntry 7 = .ok (.aload_n 0, 1) := by decide +kernel
theorem dX1_makeEntry_8 : decode cX1_makeEntry 8 = .ok (.iload_n 1, 1) := by decide +kernel
theorem dX1_makeEntry_9 : decode cX1_makeEntry 9 = .ok (.iload_n 3, 1) := by decide +kernel
theorem dX1_makeEntry_10 : decode cX1_makeEntry 10 = .ok (.bipush 16, 2) := by decide +kernel
theorem dX1_makeEntry_12 : decode cX1_makeEntry 12 = .ok (.isub, 1) := by decide +kernel
theorem dX1_makeEntry_13 : decode cX1_makeEntry 13 = .ok (.invokevirtual 74, 3) := by decide +kernel
theorem dX1_makeEntry_16 : decode cX1_makeEntry 16 = .ok (.ifCond .eq 13, 3) := by decide +kernel
theorem dX1_makeEntry_19 : decode cX1_makeEntry 19 = .ok (.aload_n 0, 1) := by decide +kernel
theorem dX1_makeEntry_20 : decode cX1_makeEntry 20 = .ok (.iload_n 3, 1) := by decide +kernel
theorem dX1_makeEntry_21 : decode cX1_makeEntry 21 = .ok (.dconst 0, 1) := by decide +kernel
theorem dX1_makeEntry_22 : decode cX1_makeEntry 22 = .ok (.iconst 3, 1) := by decide +kernel
theorem dX1_makeEntry_23 : decode cX1_makeEntry 23 = .ok (.invokevirtual 62, 3) := by decide +kernel
theorem dX1_makeEntry_26 : decode cX1_makeEntry 26 = .ok (.goto 42, 3) := by decide +kernel
theorem dX1_makeEntry_29 : decode cX1_makeEntry 29 = .ok (.aload_n 0, 1) := by decide +kernel
theorem dX1_makeEntry_30 : decode cX1_makeEntry 30 = .ok (.getfield 19, 3) := by decide +kernel
theorem dX1_makeEntry_33 : decode cX1_makeEntry 33 = .ok (.iconst 2, 1) := by decide +kernel
theorem dX1_makeEntry_34 : decode cX1_makeEntry 34 = .ok (.if_icmp .ne 11, 3) := by decide +kernel
theorem dX1_makeEntry_37 : decode cX1_makeEntry 37 = .ok (.aload_n 0, 1) := by decide +kernel
theorem dX1_makeEntry_38 : decode cX1_makeEntry 38 = .ok (.iload_n 3, 1) := by decide +kernel
theorem dX1_makeEntry_39 : decode cX1_makeEntry 39 = .ok (.invokevirtual 78, 3) := by decide +kernel
theorem dX1_makeEntry_42 : decode cX1_makeEntry 42 = .ok (.goto 26, 3) := by decide +kernel
theorem dX1_makeEntry_45 : decode cX1_makeEntry 45 = .ok (.aload_n 0, 1) := by decide +kernel
theorem dX1_makeEntry_46 : decode cX1_makeEntry 46 = .ok (.getfield 19, 3) := by decide +kernel
theorem dX1_makeEntry_49 : decode cX1_makeEntry 49 = .ok (.iconst 3, 1) := by decide +kernel
theorem dX1_makeEntry_50 : decode cX1_makeEntry 50 = .ok (.if_icmp .ne 12, 3) := by decide +kernel
theorem dX1_makeEntry_53 : decode cX1_makeEntry 53 = .ok (.aload_n 0, 1) := by decide +kernel
theorem dX1_makeEntry_54 : decode cX1_makeEntry 54 = .ok (.iload_n 1, 1) := by decide +kernel
theorem dX1_makeEntry_55 : decode cX1_makeEntry 55 = .ok (.iload_n 3, 1) := by decide +kernel
theorem dX1_makeEntry_56 : decode cX1_makeEntry 56 = .ok (.invokevirtual 82, 3) := by decide +kernel
theorem dX1_makeEntry_59 : decode cX1_makeEntry 59 = .ok (.goto 9, 3) := by decide +kernel
theorem dX1_makeEntry_62 : decode cX1_makeEntry 62 = .ok (.aload_n 0, 1) := by decide +kernel
theorem dX1_makeEntry_63 : decode cX1_makeEntry 63 = .ok (.iload_n 1, 1) := by decide +kernel
theorem dX1_makeEntry_64 : decode cX1_makeEntry 64 = .ok (.iload_n 3, 1) := by decide +kernel
theorem dX1_makeEntry_65 : decode cX1_makeEntry 65 = .ok (.invokevirtual 85, 3) := by decide +kernel
theorem dX1_makeEntry_68 : decode cX1_makeEntry 68 = .ok (.return_, 1) := by decide +kernel
theorem dX1_restsOnBroken_0 : decode cX1_restsOnBroken 0 = .ok (.aload_n 0, 1) := by decide +kernel
theorem dX1_restsOnBroken_1 : decode cX1_restsOnBroken 1 = .ok (.getfield 15, 3) := by decide +kernel
theorem dX1_restsOnBroken_4 : decode cX1_restsOnBroken 4 = .ok (.iload_n 2, 1) := by decide +kernel
theorem dX1_restsOnBroken_5 : decode cX1_restsOnBroken 5 = .ok (.iaload, 1) := by decide +kernel
theorem dX1_restsOnBroken_6 : decode cX1_restsOnBroken 6 = .ok (.iconst 2, 1) := by decide +kernel
theorem dX1_restsOnBroken_7 : decode cX1_restsOnBroken 7 = .ok (.if_icmp .ge 15, 3) := by decide +kernel
theorem dX1_restsOnBroken_10 : decode cX1_restsOnBroken 10 = .ok (.aload_n 0, 1) := by decide +kernel
theorem dX1_restsOnBroken_11 : decode cX1_restsOnBroken 11 = .ok (.getfield 15, 3) := by decide +kernel
theorem dX1_restsOnBroken_14 : decode cX1_restsOnBroken 14 = .ok (.iload_n 2, 1) := by decide +kernel
theorem dX1_restsOnBroken_15 : decode cX1_restsOnBroken 15 = .ok (.iconst 1, 1) := by decide +kernel
theorem dX1_restsOnBroken_16 : decode cX1_restsOnBroken 16 = .ok (.iadd, 1) := by decide +kernel
theorem dX1_restsOnBroken_17 : decode cX1_restsOnBroken 17 = .ok (.iaload, 1) := by decide +kernel
theorem dX1_restsOnBroken_18 : decode cX1_restsOnBroken 18 = .ok (.iconst 2, 1) := by decide +kernel
theorem dX1_restsOnBroken_19 : decode cX1_restsOnBroken 19 = .ok (.if_icmp .lt 5, 3) := by decide +kernel
theorem dX1_restsOnBroken_22 : decode cX1_restsOnBroken 22 = .ok (.iconst 1, 1) := by decide +kernel
theorem dX1_restsOnBroken_23 : decode cX1_restsOnBroken 23 = .ok (.ireturn, 1) := by decide +kernel
theorem dX1_restsOnBroken_24 : decode cX1_restsOnBroken 24 = .ok (.aload_n 0, 1) := by decide +kernel
theorem dX1_restsOnBroken_25 : decode cX1_restsOnBroken 25 = .ok (.getfield 19, 3) := by decide +kernel
theorem dX1_restsOnBroken_28 : decode cX1_restsOnBroken 28 = .ok (.iconst 2, 1) := by decide +kernel
theorem dX1_restsOnBroken_29 : decode cX1_restsOnBroken 29 = .ok (.if_icmp .ne 21, 3) := by decide +kernel
theorem dX1_restsOnBroken_32 : decode cX1_restsOnBroken 32 = .ok (.aload_n 0, 1) := by decide +kernel
theorem dX1_restsOnBroken_33 : decode cX1_restsOnBroken 33 = .ok (.getfield 15, 3) := by decide +kernel
theorem dX1_restsOnBroken_36 : decode cX1_restsOnBroken 36 = .ok (.iload_n 2, 1) := by decide +kernel
theorem dX1_restsOnBroken_37 : decode cX1_restsOnBroken 37 = .ok (.iconst 2, 1) := by decide +kernel
theorem dX1_restsOnBroken_38 : decode cX1_restsOnBroken 38 = .ok (.iadd, 1) := by decide +kernel
theorem dX1_restsOnBroken_39 : decode cX1_restsOnBroken 39 = .ok (.iaload, 1) := by decide +kernel
theorem dX1_restsOnBroken_40 : decode cX1_restsOnBroken 40 = .ok (.iconst 2, 1) := by decide +kernel
theorem dX1_restsOnBroken_41 : decode cX1_restsOnBroken 41 = .ok (.if_icmp .lt 7, 3) := by decide +kernel
theorem dX1_restsOnBroken_44 : decode cX1_restsOnBroken 44 = .ok (.iconst 1, 1) := by decide +kernel
theorem dX1_restsOnBroken_45 : decode cX1_restsOnBroken 45 = .ok (.goto 4, 3) := by decide +kernel
theorem dX1_restsOnBroken_48 : decode cX1_restsOnBroken 48 = .ok (.iconst 0, 1) := by decide +kernel
theorem dX1_restsOnBroken_49 : decode cX1_restsOnBroken 49 = .ok (.ireturn, 1) := by decide +kernel
theorem dX1_restsOnBroken_50 : decode cX1_restsOnBroken 50 = .ok (.aload_n 0, 1) := by decide +kernel
theorem dX1_restsOnBroken_51 : decode cX1_restsOnBroken 51 = .ok (.getfield 19, 3) := by decide +kernel
theorem dX1_restsOnBroken_54 : decode cX1_restsOnBroken 54 = .ok (.iconst 2, 1) := by decide +kernel
theorem dX1_restsOnBroken_55 : decode cX1_restsOnBroken 55 = .ok (.if_icmp .ge 27, 3) := by decide +kernel
theorem dX1_restsOnBroken_58 : decode cX1_restsOnBroken 58 = .ok (.iload_n 1, 1) := by decide +kernel
theorem dX1_restsOnBroken_59 : decode cX1_restsOnBroken 59 = .ok (.iconst 2, 1) := by decide +kernel
theorem dX1_restsOnBroken_60 : decode cX1_restsOnBroken 60 = .ok (.if_icmp .lt 22, 3) := by decide +kernel
theorem dX1_restsOnBroken_63 : decode cX1_restsOnBroken 63 = .ok (.aload_n 0, 1) := by decide +kernel
theorem dX1_restsOnBroken_64 : decode cX1_restsOnBroken 64 = .ok (.getfield 15, 3) := by decide +kernel
theorem dX1_restsOnBroken_67 : decode cX1_restsOnBroken 67 = .ok (.iload_n 2, 1) := by decide +kernel
theorem dX1_restsOnBroken_68 : decode cX1_restsOnBroken 68 = .ok (.bipush 16, 2) := by decide +kernel
theorem dX1_restsOnBroken_70 : decode cX1_restsOnBroken 70 = .ok (.isub, 1) := by decide +kernel
theorem dX1_restsOnBroken_71 : decode cX1_restsOnBroken 71 = .ok (.iconst 1, 1) := by decide +kernel
theorem dX1_restsOnBroken_72 : decode cX1_restsOnBroken 72 = .ok (.iadd, 1) := by decide +kernel
theorem dX1_restsOnBroken_73 : decode cX1_restsOnBroken 73 = .ok (.iaload, 1) := by decide +kernel
theorem dX1_restsOnBroken_74 : decode cX1_restsOnBroken 74 = .ok (.iconst 2, 1) := by decide +kernel
theorem dX1_restsOnBroken_75 : decode cX1_restsOnBroken 75 = .ok (.if_icmp .lt 7, 3) := by decide +kernel
theorem dX1_restsOnBroken_78 : decode cX1_restsOnBroken 78 = .ok (.iconst 1, 1) := by decide +kernel
theorem dX1_restsOnBroken_79 : decode cX1_restsOnBroken 79 = .ok (.goto 4, 3) := by decide +kernel
theorem dX1_restsOnBroken_82 : decode cX1_restsOnBroken 82 = .ok (.iconst 0, 1) := by decide +kernel
theorem dX1_restsOnBroken_83 : decode cX1_restsOnBroken 83 = .ok (.ireturn, 1) := by decide +kernel
set_option maxRecDepth 20000 in
theorem ggX1_makeByInverse_X1_isTooSmall : GoodIn wsX1_makeByInverse wsX1_isTooSmall := goodIn_r _ [7, 8, 9, 10, 11, 12, 32, 33, 34, 35, 36, 37, 38, 39, 40, 41] (by decide +kernel) (by decide +kernel)
set_option maxRecDepth 20000 in
theorem gX1_makeByInverse_X1_isTooSmall : GoodIn wsX1_makeByInverse (wsV RX1 88 RX1 yX1_isTooSmall wsX1_isTooSmall) := goodIn_app (goodIn_of _ (by decide +kernel)) ggX1_makeByInverse_X1_isTooSmall
set_option maxRecDepth 20000 in
theorem ggX1_makeByInverse_X1_putUndivided : GoodIn wsX1_makeByInverse wsX1_putUndivided := goodIn_r _ [16, 17, 18, 19, 20, 6, 21, 1, 22, 32, 33, 34, 35, 36, 37, 38, 39, 40, 41] (by decide +kernel) (by decide +kernel)
set_option maxRecDepth 20000 in
theorem gX1_makeByInverse_X1_putUndivided : GoodIn wsX1_makeByInverse (wsV RX1 92 RX1 yX1_putUndivided wsX1_putUndivided) := goodIn_app (goodIn_of _ (by decide +kernel)) ggX1_makeByInverse_X1_putUndivided
set_option maxRecDepth 20000 in
theorem ggX1_makeByInverse_X1_putIfFinite : GoodIn wsX1_makeByInverse wsX1_putIfFinite := goodIn_r _ [26, 27, 28, 11, 29, 30, 31, 18, 19, 20, 6, 21, 1, 22, 32, 33, 34, 35, 36, 37, 38, 39, 40, 41] (by decide +kernel) (by decide +kernel)
set_option maxRecDepth 20000 in
theorem gX1_makeByInverse_X1_putIfFinite : GoodIn wsX1_makeByInverse (wsV RX1 96 RX1 yX1_putIfFinite wsX1_putIfFinite) := goodIn_app (goodIn_of _ (by decide +kernel)) ggX1_makeByInverse_X1_putIfFinite
theorem dX1_makeByInverse_0 : decode cX1_makeByInverse 0 = .ok (.iload_n 2, 1) := by decide +kernel
theorem dX1_makeByInverse_1 : decode cX1_makeByInverse 1 = .ok (.bipush 16, 2) := by decide +kernel
theorem dX1_makeByInverse_3 : decode cX1_makeByInverse 3 = .ok (.isub, 1) := by decide +kernel
theorem dX1_makeByInverse_4 : decode cX1_makeByInverse 4 = .ok (.istore_n 3, 1) := by decide +kernel
theorem dX1_makeByInverse_5 : decode cX1_makeByInverse 5 = .ok (.iload_n 1, 1) := by decide +kernel
theorem dX1_makeByInverse_6 : decode cX1_makeByInverse 6 = .ok (.iconst 2, 1) := by decide +kernel
theorem dX1_makeByInverse_7 : decode cX1_makeByInverse 7 = .ok (.if_icmp .lt 17, 3) := by decide +kernel
theorem dX1_makeByInverse_10 : decode cX1_makeByInverse 10 = .ok (.aload_n 0, 1) := by decide +kernel
theorem dX1_makeByInverse_11 : decode cX1_makeByInverse 11 = .ok (.getfield 9, 3) := by decide +kernel
theorem dX1_makeByInverse_14 : decode cX1_makeByInverse 14 = .ok (.iload_n 3, 1) := by decide +kernel
theorem dX1_makeByInverse_15 : decode cX1_makeByInverse 15 = .ok (.bipush 16, 2) := by decide +kernel
theorem dX1_makeByInverse_17 : decode cX1_makeByInverse 17 = .ok (.isub, 1) := by decide +kernel
theorem dX1_makeByInverse_18 : decode cX1_makeByInverse 18 = .ok (.iconst 1, 1) := by decide +kernel
theorem dX1_makeByInverse_19 : decode cX1_makeByInverse 19 = .ok (.iadd, 1) := by decide +kernel
theorem dX1_makeByInverse_20 : decode cX1_makeByInverse 20 = .ok (.daload, 1) := by decide +kernel
theorem dX1_makeByInverse_21 : decode cX1_makeByInverse 21 = .ok (.goto 4, 3) := by decide +kernel
theorem dX1_makeByInverse_24 : decode cX1_makeByInverse 24 = .ok (.dconst 0, 1) := by decide +kernel
theorem dX1_makeByInverse_25 : decode cX1_makeByInverse 25 = .ok (.dstore 4, 2) := by decide +kernel
theorem dX1_makeByInverse_27 : decode cX1_makeByInverse 27 = .ok (.aload_n 0, 1) := by decide +kernel
theorem dX1_makeByInverse_28 : decode cX1_makeByInverse 28 = .ok (.getfield 9, 3) := by decide +kernel
theorem dX1_makeByInverse_31 : decode cX1_makeByInverse 31 = .ok (.iload_n 3, 1) := by decide +kernel
theorem dX1_makeByInverse_32 : decode cX1_makeByInverse 32 = .ok (.iconst 1, 1) := by decide +kernel
theorem dX1_makeByInverse_33 : decode cX1_makeByInverse 33 = .ok (.iadd, 1) := by decide +kernel
theorem dX1_makeByInverse_34 : decode cX1_makeByInverse 34 = .ok (.daload, 1) := by decide +kernel
theorem dX1_makeByInverse_35 : decode cX1_makeByInverse 35 = .ok (.aload_n 0, 1) := by decide +kernel
theorem dX1_makeByInverse_36 : decode cX1_makeByInverse 36 = .ok (.getfield 9, 3) := by decide +kernel
theorem dX1_makeByInverse_39 : decode cX1_makeByInverse 39 = .ok (.iload_n 3, 1) := by decide +kernel
theorem dX1_makeByInverse_40 : decode cX1_makeByInverse 40 = .ok (.daload, 1) := by decide +kernel
theorem dX1_makeByInverse_41 : decode cX1_makeByInverse 41 = .ok (.dsub, 1) := by decide +kernel
theorem dX1_makeByInverse_42 : decode cX1_makeByInverse 42 = .ok (.dstore 6, 2) := by decide +kernel
theorem dX1_makeByInverse_44 : decode cX1_makeByInverse 44 = .ok (.aload_n 0, 1) := by decide +kernel
theorem dX1_makeByInverse_45 : decode cX1_makeByInverse 45 = .ok (.dload 6, 2) := by decide +kernel
theorem dX1_makeByInverse_47 : decode cX1_makeByInverse 47 = .ok (.invokevirtual 88, 3) := by decide +kernel
theorem dX1_makeByInverse_50 : decode cX1_makeByInverse 50 = .ok (.ifCond .eq 13, 3) := by decide +kernel
theorem dX1_makeByInverse_53 : decode cX1_makeByInverse 53 = .ok (.aload_n 0, 1) := by decide +kernel
theorem dX1_makeByInverse_54 : decode cX1_makeByInverse 54 = .ok (.iload_n 2, 1) := by decide +kernel
theorem dX1_makeByInverse_55 : decode cX1_makeByInverse 55 = .ok (.dload 4, 2) := by decide +kernel
theorem dX1_makeByInverse_57 : decode cX1_makeByInverse 57 = .ok (.dconst 0, 1) := by decide +kernel
theorem dX1_makeByInverse_58 : decode cX1_makeByInverse 58 = .ok (.dadd, 1) := by decide +kernel
theorem dX1_makeByInverse_59 : decode cX1_makeByInverse 59 = .ok (.invokevirtual 92, 3) := by decide +kernel
theorem dX1_makeByInverse_62 : decode cX1_makeByInverse 62 = .ok (.return_, 1) := by decide +kernel
theorem dX1_makeByInverse_63 : decode cX1_makeByInverse 63 = .ok (.aload_n 0, 1) := by decide +kernel
theorem dX1_makeByInverse_64 : decode cX1_makeByInverse 64 = .ok (.getfield 19, 3) := by decide +kernel
theorem dX1_makeByInverse_67 : decode cX1_makeByInverse 67 = .ok (.ifCond .ne 7, 3) := by decide +kernel
theorem dX1_makeByInverse_70 : decode cX1_makeByInverse 70 = .ok (.dconst 1, 1) := by decide +kernel
theorem dX1_makeByInverse_71 : decode cX1_makeByInverse 71 = .ok (.goto 5, 3) := by decide +kernel
theorem dX1_makeByInverse_74 : decode cX1_makeByInverse 74 = .ok (.iload_n 1, 1) := by decide +kernel
theorem dX1_makeByInverse_75 : decode cX1_makeByInverse 75 = .ok (.i2d, 1) := by decide +kernel
theorem dX1_makeByInverse_76 : decode cX1_makeByInverse 76 = .ok (.dstore 8, 2) := by decide +kernel
theorem dX1_makeByInverse_78 : decode cX1_makeByInverse 78 = .ok (.aload_n 0, 1) := by decide +kernel
theorem dX1_makeByInverse_79 : decode cX1_makeByInverse 79 = .ok (.iload_n 2, 1) := by decide +kernel
theorem dX1_makeByInverse_80 : decode cX1_makeByInverse 80 = .ok (.dload 4, 2) := by decide +kernel
theorem dX1_makeByInverse_82 : decode cX1_makeByInverse 82 = .ok (.dload 8, 2) := by decide +kernel
theorem dX1_makeByInverse_84 : decode cX1_makeByInverse 84 = .ok (.dload 6, 2) := by decide +kernel
theorem dX1_makeByInverse_86 : decode cX1_makeByInverse 86 = .ok (.ddiv, 1) := by decide +kernel
theorem dX1_makeByInverse_87 : decode cX1_makeByInverse 87 = .ok (.dadd, 1) := by decide +kernel
theorem dX1_makeByInverse_88 : decode cX1_makeByInverse 88 = .ok (.invokevirtual 96, 3) := by decide +kernel
theorem dX1_makeByInverse_91 : decode cX1_makeByInverse 91 = .ok (.return_, 1) := by decide +kernel
set_option maxRecDepth 20000 in
theorem ggX1_makeOfThree_X3_isFinite : GoodIn wsX1_makeOfThree wsX3_isFinite := goodIn_r _ [5, 6, 7] (by decide +kernel) (by decide +kernel)
set_option maxRecDepth 20000 in
theorem gX1_makeOfThree_X3_isFinite : GoodIn wsX1_makeOfThree (va_wsS RX1 99 yX3_isFinite wsX3_isFinite) := goodIn_app (goodIn_of _ (by decide +kernel)) ggX1_makeOfThree_X3_isFinite
set_option maxRecDepth 20000 in
theorem ggX1_makeOfThree_X1_isTooSmall : GoodIn wsX1_makeOfThree wsX1_isTooSmall := goodIn_r _ [12, 13, 14, 15, 4, 16, 31, 32, 33, 34, 35, 36, 37, 38, 39, 40] (by decide +kernel) (by decide +kernel)
set_option maxRecDepth 20000 in
theorem gX1_makeOfThree_X1_isTooSmall : GoodIn wsX1_makeOfThree (wsV RX1 88 RX1 yX1_isTooSmall wsX1_isTooSmall) := goodIn_app (goodIn_of _ (by decide +kernel)) ggX1_makeOfThree_X1_isTooSmall
set_option maxRecDepth 20000 in
theorem ggX1_makeOfThree_X1_putUndivided : GoodIn wsX1_makeOfThree wsX1_putUndivided := goodIn_r _ [20, 21, 22, 23, 24, 11, 25, 1, 26, 31, 32, 33, 34, 35, 36, 37, 38, 39, 40] (by decide +kernel) (by decide +kernel)
set_option maxRecDepth 20000 in
theorem gX1_makeOfThree_X1_putUndivided : GoodIn wsX1_makeOfThree (wsV RX1 92 RX1 yX1_putUndivided wsX1_putUndivided) := goodIn_app (goodIn_of _ (by decide +kernel)) ggX1_makeOfThree_X1_putUndivided
set_option maxRecDepth 20000 in
theorem ggX1_makeOfThree_X1_put : GoodIn wsX1_makeOfThree wsX1_put := goodIn_r _ [25, 1, 26, 31, 32, 33, 34, 35, 36, 37, 38, 39, 40] (by decide +kernel) (by decide +kernel)
set_option maxRecDepth 20000 in
theorem gX1_makeOfThree_X1_put : GoodIn wsX1_makeOfThree (wsV RX1 62 RX1 yX1_put wsX1_put) := goodIn_app (goodIn_of _ (by decide +kernel)) ggX1_makeOfThree_X1_put
set_option maxRecDepth 20000 in
theorem ggX1_makeOfThree_X1_putIfFinite : GoodIn wsX1_makeOfThree wsX1_putIfFinite := goodIn_r _ [30, 2, 3, 4, 5, 6, 7, 22, 23, 24, 11, 25, 1, 26, 31, 32, 33, 34, 35, 36, 37, 38, 39, 40] (by decide +kernel) (by decide +kernel)
set_option maxRecDepth 20000 in
theorem gX1_makeOfThree_X1_putIfFinite : GoodIn wsX1_makeOfThree (wsV RX1 96 RX1 yX1_putIfFinite wsX1_putIfFinite) := goodIn_app (goodIn_of _ (by decide +kernel)) ggX1_makeOfThree_X1_putIfFinite
theorem dX1_makeOfThree_0 : decode cX1_makeOfThree 0 = .ok (.iload_n 1, 1) := by decide +kernel
theorem dX1_makeOfThree_1 : decode cX1_makeOfThree 1 = .ok (.bipush 16, 2) := by decide +kernel
theorem dX1_makeOfThree_3 : decode cX1_makeOfThree 3 = .ok (.isub, 1) := by decide +kernel
theorem dX1_makeOfThree_4 : decode cX1_makeOfThree 4 = .ok (.istore_n 2, 1) := by decide +kernel
theorem dX1_makeOfThree_5 : decode cX1_makeOfThree 5 = .ok (.aload_n 0, 1) := by decide +kernel
theorem dX1_makeOfThree_6 : decode cX1_makeOfThree 6 = .ok (.getfield 9, 3) := by decide +kernel
theorem dX1_makeOfThree_9 : decode cX1_makeOfThree 9 = .ok (.iload_n 2, 1) := by decide +kernel
theorem dX1_makeOfThree_10 : decode cX1_makeOfThree 10 = .ok (.daload, 1) := by decide +kernel
theorem dX1_makeOfThree_11 : decode cX1_makeOfThree 11 = .ok (.dstore_n 3, 1) := by decide +kernel
theorem dX1_makeOfThree_12 : decode cX1_makeOfThree 12 = .ok (.aload_n 0, 1) := by decide +kernel
theorem dX1_makeOfThree_13 : decode cX1_makeOfThree 13 = .ok (.getfield 9, 3) := by decide +kernel
theorem dX1_makeOfThree_16 : decode cX1_makeOfThree 16 = .ok (.iload_n 2, 1) := by decide +kernel
theorem dX1_makeOfThree_17 : decode cX1_makeOfThree 17 = .ok (.iconst 1, 1) := by decide +kernel
theorem dX1_makeOfThree_18 : decode cX1_makeOfThree 18 = .ok (.iadd, 1) := by decide +kernel
theorem dX1_makeOfThree_19 : decode cX1_makeOfThree 19 = .ok (.daload, 1) := by decide +kernel
theorem dX1_makeOfThree_20 : decode cX1_makeOfThree 20 = .ok (.aload_n 0, 1) := by decide +kernel
theorem dX1_makeOfThree_21 : decode cX1_makeOfThree 21 = .ok (.getfield 9, 3) := by decide +kernel
theorem dX1_makeOfThree_24 : decode cX1_makeOfThree 24 = .ok (.iload_n 2, 1) := by decide +kernel
theorem dX1_makeOfThree_25 : decode cX1_makeOfThree 25 = .ok (.daload, 1) := by decide +kernel
theorem dX1_makeOfThree_26 : decode cX1_makeOfThree 26 = .ok (.dsub, 1) := by decide +kernel
theorem dX1_makeOfThree_27 : decode cX1_makeOfThree 27 = .ok (.dstore 5, 2) := by decide +kernel
theorem dX1_makeOfThree_29 : decode cX1_makeOfThree 29 = .ok (.aload_n 0, 1) := by decide +kernel
theorem dX1_makeOfThree_30 : decode cX1_makeOfThree 30 = .ok (.getfield 9, 3) := by decide +kernel
theorem dX1_makeOfThree_33 : decode cX1_makeOfThree 33 = .ok (.iload_n 2, 1) := by decide +kernel
theorem dX1_makeOfThree_34 : decode cX1_makeOfThree 34 = .ok (.iconst 2, 1) := by decide +kernel
theorem dX1_makeOfThree_35 : decode cX1_makeOfThree 35 = .ok (.iadd, 1) := by decide +kernel
theorem dX1_makeOfThree_36 : decode cX1_makeOfThree 36 = .ok (.daload, 1) := by decide +kernel
theorem dX1_makeOfThree_37 : decode cX1_makeOfThree 37 = .ok (.aload_n 0, 1) := by decide +kernel
theorem dX1_makeOfThree_38 : decode cX1_makeOfThree 38 = .ok (.getfield 9, 3) := by decide +kernel
theorem dX1_makeOfThree_41 : decode cX1_makeOfThree 41 = .ok (.iload_n 2, 1) := by decide +kernel
theorem dX1_makeOfThree_42 : decode cX1_makeOfThree 42 = .ok (.iconst 1, 1) := by decide +kernel
theorem dX1_makeOfThree_43 : decode cX1_makeOfThree 43 = .ok (.iadd, 1) := by decide +kernel
theorem dX1_makeOfThree_44 : decode cX1_makeOfThree 44 = .ok (.daload, 1) := by decide +kernel
theorem dX1_makeOfThree_45 : decode cX1_makeOfThree 45 = .ok (.dsub, 1) := by decide +kernel
theorem dX1_makeOfThree_46 : decode cX1_makeOfThree 46 = .ok (.dstore 7, 2) := by decide +kernel
theorem dX1_makeOfThree_48 : decode cX1_makeOfThree 48 = .ok (.dload 5, 2) := by decide +kernel
theorem dX1_makeOfThree_50 : decode cX1_makeOfThree 50 = .ok (.invokestatic 99, 3) := by decide +kernel
theorem dX1_makeOfThree_53 : decode cX1_makeOfThree 53 = .ok (.ifCond .ne 11, 3) := by decide +kernel
theorem dX1_makeOfThree_56 : decode cX1_makeOfThree 56 = .ok (.dload 5, 2) := by decide +kernel
theorem dX1_makeOfThree_58 : decode cX1_makeOfThree 58 = .ok (.dload 7, 2) := by decide +kernel
theorem dX1_makeOfThree_60 : decode cX1_makeOfThree 60 = .ok (.dcmp .l, 1) := by decide +kernel
theorem dX1_makeOfThree_61 : decode cX1_makeOfThree 61 = .ok (.ifCond .eq 15, 3) := by decide +kernel
theorem dX1_makeOfThree_64 : decode cX1_makeOfThree 64 = .ok (.aload_n 0, 1) := by decide +kernel
theorem dX1_makeOfThree_65 : decode cX1_makeOfThree 65 = .ok (.dload 7, 2) := by decide +kernel
theorem dX1_makeOfThree_67 : decode cX1_makeOfThree 67 = .ok (.dload 5, 2) := by decide +kernel
theorem dX1_makeOfThree_69 : decode cX1_makeOfThree 69 = .ok (.dsub, 1) := by decide +kernel
theorem dX1_makeOfThree_70 : decode cX1_makeOfThree 70 = .ok (.invokevirtual 88, 3) := by decide +kernel
theorem dX1_makeOfThree_73 : decode cX1_makeOfThree 73 = .ok (.ifCond .eq 12, 3) := by decide +kernel
theorem dX1_makeOfThree_76 : decode cX1_makeOfThree 76 = .ok (.aload_n 0, 1) := by decide +kernel
theorem dX1_makeOfThree_77 : decode cX1_makeOfThree 77 = .ok (.iload_n 1, 1) := by decide +kernel
theorem dX1_makeOfThree_78 : decode cX1_makeOfThree 78 = .ok (.dload_n 3, 1) := by decide +kernel
theorem dX1_makeOfThree_79 : decode cX1_makeOfThree 79 = .ok (.dconst 0, 1) := by decide +kernel
theorem dX1_makeOfThree_80 : decode cX1_makeOfThree 80 = .ok (.dsub, 1) := by decide +kernel
theorem dX1_makeOfThree_81 : decode cX1_makeOfThree 81 = .ok (.invokevirtual 92, 3) := by decide +kernel
theorem dX1_makeOfThree_84 : decode cX1_makeOfThree 84 = .ok (.return_, 1) := by decide +kernel
theorem dX1_makeOfThree_85 : decode cX1_makeOfThree 85 = .ok (.dload 5, 2) := by decide +kernel
theorem dX1_makeOfThree_87 : decode cX1_makeOfThree 87 = .ok (.dload 5, 2) := by decide +kernel
theorem dX1_makeOfThree_89 : decode cX1_makeOfThree 89 = .ok (.dmul, 1) := by decide +kernel
theorem dX1_makeOfThree_90 : decode cX1_makeOfThree 90 = .ok (.dstore 9, 2) := by decide +kernel
theorem dX1_makeOfThree_92 : decode cX1_makeOfThree 92 = .ok (.dload 7, 2) := by decide +kernel
theorem dX1_makeOfThree_94 : decode cX1_makeOfThree 94 = .ok (.dload 5, 2) := by decide +kernel
theorem dX1_makeOfThree_96 : decode cX1_makeOfThree 96 = .ok (.dsub, 1) := by decide +kernel
theorem dX1_makeOfThree_97 : decode cX1_makeOfThree 97 = .ok (.dstore 11, 2) := by decide +kernel
theorem dX1_makeOfThree_99 : decode cX1_makeOfThree 99 = .ok (.dload 9, 2) := by decide +kernel
theorem dX1_makeOfThree_101 : decode cX1_makeOfThree 101 = .ok (.invokestatic 99, 3) := by decide +kernel
theorem dX1_makeOfThree_104 : decode cX1_makeOfThree 104 = .ok (.ifCond .ne 19, 3) := by decide +kernel
theorem dX1_makeOfThree_107 : decode cX1_makeOfThree 107 = .ok (.dload 11, 2) := by decide +kernel
theorem dX1_makeOfThree_109 : decode cX1_makeOfThree 109 = .ok (.invokestatic 99, 3) := by decide +kernel
theorem dX1_makeOfThree_112 : decode cX1_makeOfThree 112 = .ok (.ifCond .ne 11, 3) := by decide +kernel
theorem dX1_makeOfThree_115 : decode cX1_makeOfThree 115 = .ok (.aload_n 0, 1) := by decide +kernel
theorem dX1_makeOfThree_116 : decode cX1_makeOfThree 116 = .ok (.iload_n 1, 1) := by decide +kernel
theorem dX1_makeOfThree_117 : decode cX1_makeOfThree 117 = .ok (.dconst 0, 1) := by decide +kernel
theorem dX1_makeOfThree_118 : decode cX1_makeOfThree 118 = .ok (.iconst 2, 1) := by decide +kernel
theorem dX1_makeOfThree_119 : decode cX1_makeOfThree 119 = .ok (.invokevirtual 62, 3) := by decide +kernel
theorem dX1_makeOfThree_122 : decode cX1_makeOfThree 122 = .ok (.return_, 1) := by decide +kernel
theorem dX1_makeOfThree_123 : decode cX1_makeOfThree 123 = .ok (.aload_n 0, 1) := by decide +kernel
theorem dX1_makeOfThree_124 : decode cX1_makeOfThree 124 = .ok (.iload_n 1, 1) := by decide +kernel
theorem dX1_makeOfThree_125 : decode cX1_makeOfThree 125 = .ok (.dload_n 3, 1) := by decide +kernel
theorem dX1_makeOfThree_126 : decode cX1_makeOfThree 126 = .ok (.dload 9, 2) := by decide +kernel
theorem dX1_makeOfThree_128 : decode cX1_makeOfThree 128 = .ok (.dload 11, 2) := by decide +kernel
theorem dX1_makeOfThree_130 : decode cX1_makeOfThree 130 = .ok (.ddiv, 1) := by decide +kernel
theorem dX1_makeOfThree_131 : decode cX1_makeOfThree 131 = .ok (.dsub, 1) := by decide +kernel
theorem dX1_makeOfThree_132 : decode cX1_makeOfThree 132 = .ok (.invokevirtual 96, 3) := by decide +kernel
theorem dX1_makeOfThree_135 : decode cX1_makeOfThree 135 = .ok (.return_, 1) := by decide +kernel
set_option maxRecDepth 20000 in
theorem ggX1_makeByRatio_X1_isTooSmall : GoodIn wsX1_makeByRatio wsX1_isTooSmall := goodIn_r _ [7, 8, 9, 10, 11, 12, 32, 33, 34, 35, 36, 37, 38, 39, 40, 41] (by decide +kernel) (by decide +kernel)
set_option maxRecDepth 20000 in
theorem gX1_makeByRatio_X1_isTooSmall : GoodIn wsX1_makeByRatio (wsV RX1 88 RX1 yX1_isTooSmall wsX1_isTooSmall) := goodIn_app (goodIn_of _ (by decide +kernel)) ggX1_makeByRatio_X1_isTooSmall
set_option maxRecDepth 20000 in
theorem ggX1_makeByRatio_X1_putUndivided : GoodIn wsX1_makeByRatio wsX1_putUndivided := goodIn_r _ [16, 17, 18, 19, 20, 6, 21, 1, 22, 32, 33, 34, 35, 36, 37, 38, 39, 40, 41] (by decide +kernel) (by decide +kernel)
set_option maxRecDepth 20000 in
theorem gX1_makeByRatio_X1_putUndivided : GoodIn wsX1_makeByRatio (wsV RX1 92 RX1 yX1_putUndivided wsX1_putUndivided) := goodIn_app (goodIn_of _ (by decide +kernel)) ggX1_makeByRatio_X1_putUndivided
set_option maxRecDepth 20000 in
theorem ggX1_makeByRatio_X1_putIfFinite : GoodIn wsX1_makeByRatio wsX1_putIfFinite := goodIn_r _ [26, 27, 28, 11, 29, 30, 31, 18, 19, 20, 6, 21, 1, 22, 32, 33, 34, 35, 36, 37, 38, 39, 40, 41] (by decide +kernel) (by decide +kernel)
set_option maxRecDepth 20000 in
theorem gX1_makeByRatio_X1_putIfFinite : GoodIn wsX1_makeByRatio (wsV RX1 96 RX1 yX1_putIfFinite wsX1_putIfFinite) := goodIn_app (goodIn_of _ (by decide +kernel)) ggX1_makeByRatio_X1_putIfFinite
theorem dX1_makeByRatio_0 : decode cX1_makeByRatio 0 = .ok (.iload_n 2, 1) := by decide +kernel
theorem dX1_makeByRatio_1 : decode cX1_makeByRatio 1 = .ok (.bipush 16, 2) := by decide +kernel
theorem dX1_makeByRatio_3 : decode cX1_makeByRatio 3 = .ok (.isub, 1) := by decide +kernel
theorem dX1_makeByRatio_4 : decode cX1_makeByRatio 4 = .ok (.istore_n 3, 1) := by decide +kernel
theorem dX1_makeByRatio_5 : decode cX1_makeByRatio 5 = .ok (.aload_n 0, 1) := by decide +kernel
theorem dX1_makeByRatio_6 : decode cX1_makeByRatio 6 = .ok (.getfield 9, 3) := by decide +kernel
theorem dX1_makeByRatio_9 : decode cX1_makeByRatio 9 = .ok (.iload_n 3, 1) := by decide +kernel
theorem dX1_makeByRatio_10 : decode cX1_makeByRatio 10 = .ok (.iconst 1, 1) := by decide +kernel
theorem dX1_makeByRatio_11 : decode cX1_makeByRatio 11 = .ok (.iadd, 1) := by decide +kernel
theorem dX1_makeByRatio_12 : decode cX1_makeByRatio 12 = .ok (.daload, 1) := by decide +kernel
theorem dX1_makeByRatio_13 : decode cX1_makeByRatio 13 = .ok (.dstore 4, 2) := by decide +kernel
theorem dX1_makeByRatio_15 : decode cX1_makeByRatio 15 = .ok (.aload_n 0, 1) := by decide +kernel
theorem dX1_makeByRatio_16 : decode cX1_makeByRatio 16 = .ok (.getfield 27, 3) := by decide +kernel
theorem dX1_makeByRatio_19 : decode cX1_makeByRatio 19 = .ok (.dstore 6, 2) := by decide +kernel
theorem dX1_makeByRatio_21 : decode cX1_makeByRatio 21 = .ok (.iconst 1, 1) := by decide +kernel
theorem dX1_makeByRatio_22 : decode cX1_makeByRatio 22 = .ok (.istore 8, 2) := by decide +kernel
theorem dX1_makeByRatio_24 : decode cX1_makeByRatio 24 = .ok (.iload 8, 2) := by decide +kernel
theorem dX1_makeByRatio_26 : decode cX1_makeByRatio 26 = .ok (.iload_n 1, 1) := by decide +kernel
theorem dX1_makeByRatio_27 : decode cX1_makeByRatio 27 = .ok (.if_icmp .ge 18, 3) := by decide +kernel
theorem dX1_makeByRatio_30 : decode cX1_makeByRatio 30 = .ok (.dload 6, 2) := by decide +kernel
theorem dX1_makeByRatio_32 : decode cX1_makeByRatio 32 = .ok (.aload_n 0, 1) := by decide +kernel
theorem dX1_makeByRatio_33 : decode cX1_makeByRatio 33 = .ok (.getfield 27, 3) := by decide +kernel
theorem dX1_makeByRatio_36 : decode cX1_makeByRatio 36 = .ok (.dmul, 1) := by decide +kernel
theorem dX1_makeByRatio_37 : decode cX1_makeByRatio 37 = .ok (.dstore 6, 2) := by decide +kernel
theorem dX1_makeByRatio_39 : decode cX1_makeByRatio 39 = .ok (.iinc 8 1, 3) := by decide +kernel
theorem dX1_makeByRatio_42 : decode cX1_makeByRatio 42 = .ok (.goto (-18), 3) := by decide +kernel
theorem dX1_makeByRatio_45 : decode cX1_makeByRatio 45 = .ok (.dload 6, 2) := by decide +kernel
theorem dX1_makeByRatio_47 : decode cX1_makeByRatio 47 = .ok (.dconst 1, 1) := by decide +kernel
theorem dX1_makeByRatio_48 : decode cX1_makeByRatio 48 = .ok (.dsub, 1) := by decide +kernel
theorem dX1_makeByRatio_49 : decode cX1_makeByRatio 49 = .ok (.dstore 8, 2) := by decide +kernel
theorem dX1_makeByRatio_51 : decode cX1_makeByRatio 51 = .ok (.aload_n 0, 1) := by decide +kernel
theorem dX1_makeByRatio_52 : decode cX1_makeByRatio 52 = .ok (.dload 8, 2) := by decide +kernel
theorem dX1_makeByRatio_54 : decode cX1_makeByRatio 54 = .ok (.invokevirtual 88, 3) := by decide +kernel
theorem dX1_makeByRatio_57 : decode cX1_makeByRatio 57 = .ok (.ifCond .eq 13, 3) := by decide +kernel
theorem dX1_makeByRatio_60 : decode cX1_makeByRatio 60 = .ok (.aload_n 0, 1) := by decide +kernel
theorem dX1_makeByRatio_61 : decode cX1_makeByRatio 61 = .ok (.iload_n 2, 1) := by decide +kernel
theorem dX1_makeByRatio_62 : decode cX1_makeByRatio 62 = .ok (.dload 4, 2) := by decide +kernel
theorem dX1_makeByRatio_64 : decode cX1_makeByRatio 64 = .ok (.dconst 0, 1) := by decide +kernel
theorem dX1_makeByRatio_65 : decode cX1_makeByRatio 65 = .ok (.dadd, 1) := by decide +kernel
theorem dX1_makeByRatio_66 : decode cX1_makeByRatio 66 = .ok (.invokevirtual 92, 3) := by decide +kernel
theorem dX1_makeByRatio_69 : decode cX1_makeByRatio 69 = .ok (.return_, 1) := by decide +kernel
theorem dX1_makeByRatio_70 : decode cX1_makeByRatio 70 = .ok (.aload_n 0, 1) := by decide +kernel
theorem dX1_makeByRatio_71 : decode cX1_makeByRatio 71 = .ok (.iload_n 2, 1) := by decide +kernel
theorem dX1_makeByRatio_72 : decode cX1_makeByRatio 72 = .ok (.dload 4, 2) := by decide +kernel
theorem dX1_makeByRatio_74 : decode cX1_makeByRatio 74 = .ok (.dload 4, 2) := by decide +kernel
theorem dX1_makeByRatio_76 : decode cX1_makeByRatio 76 = .ok (.aload_n 0, 1) := by decide +kernel
theorem dX1_makeByRatio_77 : decode cX1_makeByRatio 77 = .ok (.getfield 9, 3) := by decide +kernel
theorem dX1_makeByRatio_80 : decode cX1_makeByRatio 80 = .ok (.iload_n 3, 1) := by decide +kernel
theorem dX1_makeByRatio_81 : decode cX1_makeByRatio 81 = .ok (.daload, 1) := by decide +kernel
theorem dX1_makeByRatio_82 : decode cX1_makeByRatio 82 = .ok (.dsub, 1) := by decide +kernel
theorem dX1_makeByRatio_83 : decode cX1_makeByRatio 83 = .ok (.dload 8, 2) := by decide +kernel
theorem dX1_makeByRatio_85 : decode cX1_makeByRatio 85 = .ok (.ddiv, 1) := by decide +kernel
theorem dX1_makeByRatio_86 : decode cX1_makeByRatio 86 = .ok (.dadd, 1) := by decide +kernel
theorem dX1_makeByRatio_87 : decode cX1_makeByRatio 87 = .ok (.invokevirtual 96, 3) := by decide +kernel
theorem dX1_makeByRatio_90 : decode cX1_makeByRatio 90 = .ok (.return_, 1) := by decide +kernel
set_option maxRecDepth 20000 in
theorem ggX1_isTooSmall_X3_sizeOf : GoodIn wsX1_isTooSmall wsX3_sizeOf := goodIn_r _ [5] (by decide +kernel) (by decide +kernel)
set_option maxRecDepth 20000 in
theorem gX1_isTooSmall_X3_sizeOf : GoodIn wsX1_isTooSmall (va_wsS RX1 104 yX3_sizeOf wsX3_sizeOf) := goodIn_app (goodIn_of _ (by decide +kernel)) ggX1_isTooSmall_X3_sizeOf
theorem dX1_isTooSmall_0 : decode cX1_isTooSmall 0 = .ok (.dload_n 1, 1) := by decide +kernel
theorem dX1_isTooSmall_1 : decode cX1_isTooSmall 1 = .ok (.invokestatic 104, 3) := by decide +kernel
theorem dX1_isTooSmall_4 : decode cX1_isTooSmall 4 = .ok (.aload_n 0, 1) := by decide +kernel
theorem dX1_isTooSmall_5 : decode cX1_isTooSmall 5 = .ok (.getfield 23, 3) := by decide +kernel
theorem dX1_isTooSmall_8 : decode cX1_isTooSmall 8 = .ok (.dcmp .l, 1) := by decide +kernel
theorem dX1_isTooSmall_9 : decode cX1_isTooSmall 9 = .ok (.ifCond .gt 7, 3) := by decide +kernel
theorem dX1_isTooSmall_12 : decode cX1_isTooSmall 12 = .ok (.iconst 1, 1) := by decide +kernel
theorem dX1_isTooSmall_13 : decode cX1_isTooSmall 13 = .ok (.goto 4, 3) := by decide +kernel
theorem dX1_isTooSmall_16 : decode cX1_isTooSmall 16 = .ok (.iconst 0, 1) := by decide +kernel
theorem dX1_isTooSmall_17 : decode cX1_isTooSmall 17 = .ok (.ireturn, 1) := by decide +kernel
set_option maxRecDepth 20000 in
theorem ggX1_putUndivided_X1_put : GoodIn wsX1_putUndivided wsX1_put := goodIn_r _ [6, 7, 8, 9, 10, 11, 12, 13, 14, 15, 16, 17, 18] (by decide +kernel) (by decide +kernel)
set_option maxRecDepth 20000 in
theorem gX1_putUndivided_X1_put : GoodIn wsX1_putUndivided (wsV RX1 62 RX1 yX1_put wsX1_put) := goodIn_app (goodIn_of _ (by decide +kernel)) ggX1_putUndivided_X1_put
theorem dX1_putUndivided_0 : decode cX1_putUndivided 0 = .ok (.aload_n 0, 1) := by decide +kernel
theorem dX1_putUndivided_1 : decode cX1_putUndivided 1 = .ok (.iload_n 1, 1) := by decide +kernel
theorem dX1_putUndivided_2 : decode cX1_putUndivided 2 = .ok (.aload_n 0, 1) := by decide +kernel
theorem dX1_putUndivided_3 : decode cX1_putUndivided 3 = .ok (.getfield 30, 3) := by decide +kernel
theorem dX1_putUndivided_6 : decode cX1_putUndivided 6 = .ok (.ifCond .eq 7, 3) := by decide +kernel
theorem dX1_putUndivided_9 : decode cX1_putUndivided 9 = .ok (.dload_n 2, 1) := by decide +kernel
theorem dX1_putUndivided_10 : decode cX1_putUndivided 10 = .ok (.goto 4, 3) := by decide +kernel
theorem dX1_putUndivided_13 : decode cX1_putUndivided 13 = .ok (.dconst 0, 1) := by decide +kernel
theorem dX1_putUndivided_14 : decode cX1_putUndivided 14 = .ok (.aload_n 0, 1) := by decide +kernel
theorem dX1_putUndivided_15 : decode cX1_putUndivided 15 = .ok (.getfield 30, 3) := by decide +kernel
theorem dX1_putUndivided_18 : decode cX1_putUndivided 18 = .ok (.ifCond .eq 7, 3) := by decide +kernel
theorem dX1_putUndivided_21 : decode cX1_putUndivided 21 = .ok (.iconst 1, 1) := by decide +kernel
theorem dX1_putUndivided_22 : decode cX1_putUndivided 22 = .ok (.goto 4, 3) := by decide +kernel
theorem dX1_putUndivided_25 : decode cX1_putUndivided 25 = .ok (.iconst 2, 1) := by decide +kernel
theorem dX1_putUndivided_26 : decode cX1_putUndivided 26 = .ok (.invokevirtual 62, 3) := by decide +kernel
theorem dX1_putUndivided_29 : decode cX1_putUndivided 29 = .ok (.return_, 1) := by decide +kernel
set_option maxRecDepth 20000 in
theorem ggX1_putIfFinite_X3_isFinite : GoodIn wsX1_putIfFinite wsX3_isFinite := goodIn_r _ [4, 5, 6] (by decide +kernel) (by decide +kernel)
set_option maxRecDepth 20000 in
theorem gX1_putIfFinite_X3_isFinite : GoodIn wsX1_putIfFinite (va_wsS RX1 99 yX3_isFinite wsX3_isFinite) := goodIn_app (goodIn_of _ (by decide +kernel)) ggX1_putIfFinite_X3_isFinite
set_option maxRecDepth 20000 in
theorem ggX1_putIfFinite_X1_put : GoodIn wsX1_putIfFinite wsX1_put := goodIn_r _ [11, 12, 13, 14, 15, 16, 17, 18, 19, 20, 21, 22, 23] (by decide +kernel) (by decide +kernel)
set_option maxRecDepth 20000 in
theorem gX1_putIfFinite_X1_put : GoodIn wsX1_putIfFinite (wsV RX1 62 RX1 yX1_put wsX1_put) := goodIn_app (goodIn_of _ (by decide +kernel)) ggX1_putIfFinite_X1_put
theorem dX1_putIfFinite_0 : decode cX1_putIfFinite 0 = .ok (.dload_n 2, 1) := by decide +kernel
theorem dX1_putIfFinite_1 : decode cX1_putIfFinite 1 = .ok (.invokestatic 99, 3) := by decide +kernel
theorem dX1_putIfFinite_4 : decode cX1_putIfFinite 4 = .ok (.istore 4, 2) := by decide +kernel
theorem dX1_putIfFinite_6 : decode cX1_putIfFinite 6 = .ok (.aload_n 0, 1) := by decide +kernel
theorem dX1_putIfFinite_7 : decode cX1_putIfFinite 7 = .ok (.iload_n 1, 1) := by decide +kernel
theorem dX1_putIfFinite_8 : decode cX1_putIfFinite 8 = .ok (.iload 4, 2) := by decide +kernel
theorem dX1_putIfFinite_10 : decode cX1_putIfFinite 10 = .ok (.ifCond .eq 7, 3) := by decide +kernel
theorem dX1_putIfFinite_13 : decode cX1_putIfFinite 13 = .ok (.dload_n 2, 1) := by decide +kernel
theorem dX1_putIfFinite_14 : decode cX1_putIfFinite 14 = .ok (.goto 4, 3) := by decide +kernel
theorem dX1_putIfFinite_17 : decode cX1_putIfFinite 17 = .ok (.dconst 0, 1) := by decide +kernel
theorem dX1_putIfFinite_18 : decode cX1_putIfFinite 18 = .ok (.iload 4, 2) := by decide +kernel
theorem dX1_putIfFinite_20 : decode cX1_putIfFinite 20 = .ok (.ifCond .eq 7, 3) := by decide +kernel
theorem dX1_putIfFinite_23 : decode cX1_putIfFinite 23 = .ok (.iconst 0, 1) := by decide +kernel
theorem dX1_putIfFinite_24 : decode cX1_putIfFinite 24 = .ok (.goto 4, 3) := by decide +kernel
theorem dX1_putIfFinite_27 : decode cX1_putIfFinite 27 = .ok (.iconst 2, 1) := by decide +kernel
theorem dX1_putIfFinite_28 : decode cX1_putIfFinite 28 = .ok (.invokevirtual 62, 3) := by decide +kernel
theorem dX1_putIfFinite_31 : decode cX1_putIfFinite 31 = .ok (.return_, 1) := by decide +kernel
set_option maxRecDepth 20000 in
theorem ggX1_hasEntry_X1_manyIn : GoodIn wsX1_hasEntry wsX1_manyIn := goodIn_r _ [6, 7, 8, 9, 10, 11, 12, 13, 14, 15, 16, 17] (by decide +kernel) (by decide +kernel)
set_option maxRecDepth 20000 in
theorem gX1_hasEntry_X1_manyIn : GoodIn wsX1_hasEntry (wsV RX1 66 RX1 yX1_manyIn wsX1_manyIn) := goodIn_app (goodIn_of _ (by decide +kernel)) ggX1_hasEntry_X1_manyIn
theorem dX1_hasEntry_0 : decode cX1_hasEntry 0 = .ok (.iload_n 1, 1) := by decide +kernel
theorem dX1_hasEntry_1 : decode cX1_hasEntry 1 = .ok (.ifCond .lt 30, 3) := by decide +kernel
theorem dX1_hasEntry_4 : decode cX1_hasEntry 4 = .ok (.iload_n 1, 1) := by decide +kernel
theorem dX1_hasEntry_5 : decode cX1_hasEntry 5 = .ok (.bipush 16, 2) := by decide +kernel
theorem dX1_hasEntry_7 : decode cX1_hasEntry 7 = .ok (.if_icmp .ge 24, 3) := by decide +kernel
theorem dX1_hasEntry_10 : decode cX1_hasEntry 10 = .ok (.iload_n 2, 1) := by decide +kernel
theorem dX1_hasEntry_11 : decode cX1_hasEntry 11 = .ok (.ifCond .lt 20, 3) := by decide +kernel
theorem dX1_hasEntry_14 : decode cX1_hasEntry 14 = .ok (.iload_n 2, 1) := by decide +kernel
theorem dX1_hasEntry_15 : decode cX1_hasEntry 15 = .ok (.aload_n 0, 1) := by decide +kernel
theorem dX1_hasEntry_16 : decode cX1_hasEntry 16 = .ok (.iload_n 1, 1) := by decide +kernel
theorem dX1_hasEntry_17 : decode cX1_hasEntry 17 = .ok (.aload_n 0, 1) := by decide +kernel
theorem dX1_hasEntry_18 : decode cX1_hasEntry 18 = .ok (.getfield 34, 3) := by decide +kernel
theorem dX1_hasEntry_21 : decode cX1_hasEntry 21 = .ok (.invokevirtual 66, 3) := by decide +kernel
theorem dX1_hasEntry_24 : decode cX1_hasEntry 24 = .ok (.if_icmp .ge 7, 3) := by decide +kernel
theorem dX1_hasEntry_27 : decode cX1_hasEntry 27 = .ok (.iconst 1, 1) := by decide +kernel
theorem dX1_hasEntry_28 : decode cX1_hasEntry 28 = .ok (.goto 4, 3) := by decide +kernel
theorem dX1_hasEntry_31 : decode cX1_hasEntry 31 = .ok (.iconst 0, 1) := by decide +kernel
theorem dX1_hasEntry_32 : decode cX1_hasEntry 32 = .ok (.ireturn, 1) := by decide +kernel
set_option maxRecDepth 20000 in
theorem ggX1_isBroken_X1_kindAt : GoodIn wsX1_isBroken wsX1_kindAt := goodIn_r _ [5, 6, 7, 8, 9, 10, 11, 12, 13, 14, 15, 16] (by decide +kernel) (by decide +kernel)
set_option maxRecDepth 20000 in
theorem gX1_isBroken_X1_kindAt : GoodIn wsX1_isBroken (wsV RX1 108 RX1 yX1_kindAt wsX1_kindAt) := goodIn_app (goodIn_of _ (by decide +kernel)) ggX1_isBroken_X1_kindAt
theorem dX1_isBroken_0 : decode cX1_isBroken 0 = .ok (.aload_n 0, 1) := by decide +kernel
theorem dX1_isBroken_1 : decode cX1_isBroken 1 = .ok (.iload_n 1, 1) := by decide +kernel
theorem dX1_isBroken_2 : decode cX1_isBroken 2 = .ok (.iload_n 2, 1) := by decide +kernel
theorem dX1_isBroken_3 : decode cX1_isBroken 3 = .ok (.invokevirtual 108, 3) := by decide +kernel
theorem dX1_isBroken_6 : decode cX1_isBroken 6 = .ok (.iconst 2, 1) := by decide +kernel
theorem dX1_isBroken_7 : decode cX1_isBroken 7 = .ok (.if_icmp .lt 7, 3) := by decide +kernel
theorem dX1_isBroken_10 : decode cX1_isBroken 10 = .ok (.iconst 1, 1) := by decide +kernel
theorem dX1_isBroken_11 : decode cX1_isBroken 11 = .ok (.goto 4, 3) := by decide +kernel
theorem dX1_isBroken_14 : decode cX1_isBroken 14 = .ok (.iconst 0, 1) := by decide +kernel
theorem dX1_isBroken_15 : decode cX1_isBroken 15 = .ok (.ireturn, 1) := by decide +kernel
theorem dX1_kindAt_0 : decode cX1_kindAt 0 = .ok (.aload_n 0, 1) := by decide +kernel
theorem dX1_kindAt_1 : decode cX1_kindAt 1 = .ok (.getfield 15, 3) := by decide +kernel
theorem dX1_kindAt_4 : decode cX1_kindAt 4 = .ok (.iload_n 1, 1) := by decide +kernel
theorem dX1_kindAt_5 : decode cX1_kindAt 5 = .ok (.bipush 16, 2) := by decide +kernel
theorem dX1_kindAt_7 : decode cX1_kindAt 7 = .ok (.imul, 1) := by decide +kernel
theorem dX1_kindAt_8 : decode cX1_kindAt 8 = .ok (.iload_n 2, 1) := by decide +kernel
theorem dX1_kindAt_9 : decode cX1_kindAt 9 = .ok (.iadd, 1) := by decide +kernel
theorem dX1_kindAt_10 : decode cX1_kindAt 10 = .ok (.iaload, 1) := by decide +kernel
theorem dX1_kindAt_11 : decode cX1_kindAt 11 = .ok (.ireturn, 1) := by decide +kernel
theorem dX1_valueAt_0 : decode cX1_valueAt 0 = .ok (.aload_n 0, 1) := by decide +kernel
theorem dX1_valueAt_1 : decode cX1_valueAt 1 = .ok (.getfield 9, 3) := by decide +kernel
theorem dX1_valueAt_4 : decode cX1_valueAt 4 = .ok (.iload_n 1, 1) := by decide +kernel
theorem dX1_valueAt_5 : decode cX1_valueAt 5 = .ok (.bipush 16, 2) := by decide +kernel
theorem dX1_valueAt_7 : decode cX1_valueAt 7 = .ok (.imul, 1) := by decide +kernel
theorem dX1_valueAt_8 : decode cX1_valueAt 8 = .ok (.iload_n 2, 1) := by decide +kernel
theorem dX1_valueAt_9 : decode cX1_valueAt 9 = .ok (.iadd, 1) := by decide +kernel
theorem dX1_valueAt_10 : decode cX1_valueAt 10 = .ok (.daload, 1) := by decide +kernel
theorem dX1_valueAt_11 : decode cX1_valueAt 11 = .ok (.dreturn, 1) := by decide +kernel
set_option maxRecDepth 20000 in
theorem ggX1_copyColumn_X1_manyIn : GoodIn wsX1_copyColumn wsX1_manyIn := goodIn_r _ [7, 8, 38, 39, 40, 41, 42, 43, 44, 45, 46, 47] (by decide +kernel) (by decide +kernel)
set_option maxRecDepth 20000 in
theorem gX1_copyColumn_X1_manyIn : GoodIn wsX1_copyColumn (wsV RX1 66 RX1 yX1_manyIn wsX1_manyIn) := goodIn_app (goodIn_of _ (by decide +kernel)) ggX1_copyColumn_X1_manyIn
set_option maxRecDepth 20000 in
theorem ggX1_copyColumn_X1_isBroken : GoodIn wsX1_copyColumn wsX1_isBroken := goodIn_r _ [12, 13, 14, 15, 6, 16, 17, 38, 39, 40, 41, 42, 43, 44, 45, 46, 47] (by decide +kernel) (by decide +kernel)
set_option maxRecDepth 20000 in
theorem gX1_copyColumn_X1_isBroken : GoodIn wsX1_copyColumn (wsV RX1 111 RX1 yX1_isBroken wsX1_isBroken) := goodIn_app (goodIn_of _ (by decide +kernel)) ggX1_copyColumn_X1_isBroken
set_option maxRecDepth 20000 in
theorem ggX1_copyColumn_X1_valueAt : GoodIn wsX1_copyColumn wsX1_valueAt := goodIn_r _ [21, 22, 38, 39, 40, 41, 42, 43, 44, 45, 46, 47] (by decide +kernel) (by decide +kernel)
set_option maxRecDepth 20000 in
theorem gX1_copyColumn_X1_valueAt : GoodIn wsX1_copyColumn (wsV RX1 114 RX1 yX1_valueAt wsX1_valueAt) := goodIn_app (goodIn_of _ (by decide +kernel)) ggX1_copyColumn_X1_valueAt
set_option maxRecDepth 20000 in
theorem ggX1_copyColumn_X3_fitsRow : GoodIn wsX1_copyColumn wsX3_fitsRow := goodIn_r _ [26, 27, 28] (by decide +kernel) (by decide +kernel)
set_option maxRecDepth 20000 in
theorem gX1_copyColumn_X3_fitsRow : GoodIn wsX1_copyColumn (va_wsS RX1 118 yX3_fitsRow wsX3_fitsRow) := goodIn_app (goodIn_of _ (by decide +kernel)) ggX1_copyColumn_X3_fitsRow
set_option maxRecDepth 20000 in
theorem ggX1_copyColumn_X4_append : GoodIn wsX1_copyColumn wsX4_append := goodIn_r _ [33, 34, 35, 36, 37] (by decide +kernel) (by decide +kernel)
set_option maxRecDepth 20000 in
theorem gX1_copyColumn_X4_append : GoodIn wsX1_copyColumn (wsV RX1 121 RX4 yX4_append wsX4_append) := goodIn_app (goodIn_of _ (by decide +kernel)) ggX1_copyColumn_X4_append
theorem dX1_copyColumn_0 : decode cX1_copyColumn 0 = .ok (.aload_n 2, 1) := by decide +kernel
theorem dX1_copyColumn_1 : decode cX1_copyColumn 1 = .ok (.iconst 0, 1) := by decide +kernel
theorem dX1_copyColumn_2 : decode cX1_copyColumn 2 = .ok (.putfield 56, 3) := by decide +kernel
theorem dX1_copyColumn_5 : decode cX1_copyColumn 5 = .ok (.aload_n 0, 1) := by decide +kernel
theorem dX1_copyColumn_6 : decode cX1_copyColumn 6 = .ok (.iload_n 1, 1) := by decide +kernel
theorem dX1_copyColumn_7 : decode cX1_copyColumn 7 = .ok (.aload_n 0, 1) := by decide +kernel
theorem dX1_copyColumn_8 : decode cX1_copyColumn 8 = .ok (.getfield 34, 3) := by decide +kernel
theorem dX1_copyColumn_11 : decode cX1_copyColumn 11 = .ok (.invokevirtual 66, 3) := by decide +kernel
theorem dX1_copyColumn_14 : decode cX1_copyColumn 14 = .ok (.istore_n 3, 1) := by decide +kernel
theorem dX1_copyColumn_15 : decode cX1_copyColumn 15 = .ok (.iconst 0, 1) := by decide +kernel
theorem dX1_copyColumn_16 : decode cX1_copyColumn 16 = .ok (.istore 4, 2) := by decide +kernel
theorem dX1_copyColumn_18 : decode cX1_copyColumn 18 = .ok (.iload 4, 2) := by decide +kernel
theorem dX1_copyColumn_20 : decode cX1_copyColumn 20 = .ok (.iload_n 3, 1) := by decide +kernel
theorem dX1_copyColumn_21 : decode cX1_copyColumn 21 = .ok (.if_icmp .ge 43, 3) := by decide +kernel
theorem dX1_copyColumn_24 : decode cX1_copyColumn 24 = .ok (.aload_n 0, 1) := by decide +kernel
theorem dX1_copyColumn_25 : decode cX1_copyColumn 25 = .ok (.iload_n 1, 1) := by decide +kernel
theorem dX1_copyColumn_26 : decode cX1_copyColumn 26 = .ok (.iload 4, 2) := by decide +kernel
theorem dX1_copyColumn_28 : decode cX1_copyColumn 28 = .ok (.invokevirtual 111, 3) := by decide +kernel
theorem dX1_copyColumn_31 : decode cX1_copyColumn 31 = .ok (.ifCond .ne 27, 3) := by decide +kernel
theorem dX1_copyColumn_34 : decode cX1_copyColumn 34 = .ok (.aload_n 0, 1) := by decide +kernel
theorem dX1_copyColumn_35 : decode cX1_copyColumn 35 = .ok (.iload_n 1, 1) := by decide +kernel
theorem dX1_copyColumn_36 : decode cX1_copyColumn 36 = .ok (.iload 4, 2) := by decide +kernel
theorem dX1_copyColumn_38 : decode cX1_copyColumn 38 = .ok (.invokevirtual 114, 3) := by decide +kernel
theorem dX1_copyColumn_41 : decode cX1_copyColumn 41 = .ok (.invokestatic 118, 3) := by decide +kernel
theorem dX1_copyColumn_44 : decode cX1_copyColumn 44 = .ok (.ifCond .eq 14, 3) := by decide +kernel
theorem dX1_copyColumn_47 : decode cX1_copyColumn 47 = .ok (.aload_n 2, 1) := by decide +kernel
theorem dX1_copyColumn_48 : decode cX1_copyColumn 48 = .ok (.aload_n 0, 1) := by decide +kernel
theorem dX1_copyColumn_49 : decode cX1_copyColumn 49 = .ok (.iload_n 1, 1) := by decide +kernel
theorem dX1_copyColumn_50 : decode cX1_copyColumn 50 = .ok (.iload 4, 2) := by decide +kernel
theorem dX1_copyColumn_52 : decode cX1_copyColumn 52 = .ok (.invokevirtual 114, 3) := by decide +kernel
theorem dX1_copyColumn_55 : decode cX1_copyColumn 55 = .ok (.invokevirtual 121, 3) := by decide +kernel
theorem dX1_copyColumn_58 : decode cX1_copyColumn 58 = .ok (.iinc 4 1, 3) := by decide +kernel
theorem dX1_copyColumn_61 : decode cX1_copyColumn 61 = .ok (.goto (-43), 3) := by decide +kernel
theorem dX1_copyColumn_64 : decode cX1_copyColumn 64 = .ok (.return_, 1) := by decide +kernel
set_option maxRecDepth 20000 in
theorem ggX1_manyColumns_X1_manyIn : GoodIn wsX1_manyColumns wsX1_manyIn := goodIn_r _ [6, 7, 8, 9, 10, 11, 12, 13, 14, 15, 16, 17] (by decide +kernel) (by decide +kernel)
set_option maxRecDepth 20000 in
theorem gX1_manyColumns_X1_manyIn : GoodIn wsX1_manyColumns (wsV RX1 66 RX1 yX1_manyIn wsX1_manyIn) := goodIn_app (goodIn_of _ (by decide +kernel)) ggX1_manyColumns_X1_manyIn
theorem dX1_manyColumns_0 : decode cX1_manyColumns 0 = .ok (.iconst 0, 1) := by decide +kernel
theorem dX1_manyColumns_1 : decode cX1_manyColumns 1 = .ok (.istore_n 1, 1) := by decide +kernel
theorem dX1_manyColumns_2 : decode cX1_manyColumns 2 = .ok (.iconst 0, 1) := by decide +kernel
theorem dX1_manyColumns_3 : decode cX1_manyColumns 3 = .ok (.istore_n 2, 1) := by decide +kernel
theorem dX1_manyColumns_4 : decode cX1_manyColumns 4 = .ok (.iload_n 2, 1) := by decide +kernel
theorem dX1_manyColumns_5 : decode cX1_manyColumns 5 = .ok (.bipush 16, 2) := by decide +kernel
theorem dX1_manyColumns_7 : decode cX1_manyColumns 7 = .ok (.if_icmp .ge 29, 3) := by decide +kernel
theorem dX1_manyColumns_10 : decode cX1_manyColumns 10 = .ok (.iload_n 1, 1) := by decide +kernel
theorem dX1_manyColumns_11 : decode cX1_manyColumns 11 = .ok (.aload_n 0, 1) := by decide +kernel
theorem dX1_manyColumns_12 : decode cX1_manyColumns 12 = .ok (.iload_n 2, 1) := by decide +kernel
theorem dX1_manyColumns_13 : decode cX1_manyColumns 13 = .ok (.aload_n 0, 1) := by decide +kernel
theorem dX1_manyColumns_14 : decode cX1_manyColumns 14 = .ok (.getfield 34, 3) := by decide +kernel
theorem dX1_manyColumns_17 : decode cX1_manyColumns 17 = .ok (.invokevirtual 66, 3) := by decide +kernel
theorem dX1_manyColumns_20 : decode cX1_manyColumns 20 = .ok (.ifCond .le 7, 3) := by decide +kernel
theorem dX1_manyColumns_23 : decode cX1_manyColumns 23 = .ok (.iconst 1, 1) := by decide +kernel
theorem dX1_manyColumns_24 : decode cX1_manyColumns 24 = .ok (.goto 4, 3) := by decide +kernel
theorem dX1_manyColumns_27 : decode cX1_manyColumns 27 = .ok (.iconst 0, 1) := by decide +kernel
theorem dX1_manyColumns_28 : decode cX1_manyColumns 28 = .ok (.iadd, 1) := by decide +kernel
theorem dX1_manyColumns_29 : decode cX1_manyColumns 29 = .ok (.istore_n 1, 1) := by decide +kernel
theorem dX1_manyColumns_30 : decode cX1_manyColumns 30 = .ok (.iinc 2 1, 3) := by decide +kernel
theorem dX1_manyColumns_33 : decode cX1_manyColumns 33 = .ok (.goto (-29), 3) := by decide +kernel
theorem dX1_manyColumns_36 : decode cX1_manyColumns 36 = .ok (.iload_n 1, 1) := by decide +kernel
theorem dX1_manyColumns_37 : decode cX1_manyColumns 37 = .ok (.ireturn, 1) := by decide +kernel
set_option maxRecDepth 20000 in
theorem ggX1_manyBroken_X1_manyOfKinds : GoodIn wsX1_manyBroken wsX1_manyOfKinds := goodIn_r _ [5, 6, 7, 8, 4, 9, 10, 11, 12, 13, 14, 15, 16, 17, 18, 19, 20, 21, 22, 23, 24, 25, 26, 27, 28, 29, 30] (by decide +kernel) (by decide +kernel)
set_option maxRecDepth 20000 in
theorem gX1_manyBroken_X1_manyOfKinds : GoodIn wsX1_manyBroken (wsV RX1 125 RX1 yX1_manyOfKinds wsX1_manyOfKinds) := goodIn_app (goodIn_of _ (by decide +kernel)) ggX1_manyBroken_X1_manyOfKinds
theorem dX1_manyBroken_0 : decode cX1_manyBroken 0 = .ok (.aload_n 0, 1) := by decide +kernel
theorem dX1_manyBroken_1 : decode cX1_manyBroken 1 = .ok (.iconst 2, 1) := by decide +kernel
theorem dX1_manyBroken_2 : decode cX1_manyBroken 2 = .ok (.iconst 3, 1) := by decide +kernel
theorem dX1_manyBroken_3 : decode cX1_manyBroken 3 = .ok (.invokevirtual 125, 3) := by decide +kernel
theorem dX1_manyBroken_6 : decode cX1_manyBroken 6 = .ok (.ireturn, 1) := by decide +kernel
set_option maxRecDepth 20000 in
theorem ggX1_manyBridged_X1_manyOfKinds : GoodIn wsX1_manyBridged wsX1_manyOfKinds := goodIn_r _ [5, 6, 7, 8, 4, 9, 10, 11, 12, 13, 14, 15, 16, 17, 18, 19, 20, 21, 22, 23, 24, 25, 26, 27, 28, 29, 30] (by decide +kernel) (by decide +kernel)
set_option maxRecDepth 20000 in
theorem gX1_manyBridged_X1_manyOfKinds : GoodIn wsX1_manyBridged (wsV RX1 125 RX1 yX1_manyOfKinds wsX1_manyOfKinds) := goodIn_app (goodIn_of _ (by decide +kernel)) ggX1_manyBridged_X1_manyOfKinds
theorem dX1_manyBridged_0 : decode cX1_manyBridged 0 = .ok (.aload_n 0, 1) := by decide +kernel
theorem dX1_manyBridged_1 : decode cX1_manyBridged 1 = .ok (.iconst 1, 1) := by decide +kernel
theorem dX1_manyBridged_2 : decode cX1_manyBridged 2 = .ok (.iconst 1, 1) := by decide +kernel
theorem dX1_manyBridged_3 : decode cX1_manyBridged 3 = .ok (.invokevirtual 125, 3) := by decide +kernel
theorem dX1_manyBridged_6 : decode cX1_manyBridged 6 = .ok (.ireturn, 1) := by decide +kernel
set_option maxRecDepth 20000 in
theorem ggX1_manyOfKinds_X1_manyInColumn : GoodIn wsX1_manyOfKinds wsX1_manyInColumn := goodIn_r _ [5, 6, 7, 8, 9, 4, 10, 11, 12, 13, 14, 15, 16, 17, 18, 19, 20, 21, 22, 23, 24, 25, 26] (by decide +kernel) (by decide +kernel)
set_option maxRecDepth 20000 in
theorem gX1_manyOfKinds_X1_manyInColumn : GoodIn wsX1_manyOfKinds (wsV RX1 128 RX1 yX1_manyInColumn wsX1_manyInColumn) := goodIn_app (goodIn_of _ (by decide +kernel)) ggX1_manyOfKinds_X1_manyInColumn
theorem dX1_manyOfKinds_0 : decode cX1_manyOfKinds 0 = .ok (.iconst 0, 1) := by decide +kernel
theorem dX1_manyOfKinds_1 : decode cX1_manyOfKinds 1 = .ok (.istore_n 3, 1) := by decide +kernel
theorem dX1_manyOfKinds_2 : decode cX1_manyOfKinds 2 = .ok (.iconst 0, 1) := by decide +kernel
theorem dX1_manyOfKinds_3 : decode cX1_manyOfKinds 3 = .ok (.istore 4, 2) := by decide +kernel
theorem dX1_manyOfKinds_5 : decode cX1_manyOfKinds 5 = .ok (.iload 4, 2) := by decide +kernel
theorem dX1_manyOfKinds_7 : decode cX1_manyOfKinds 7 = .ok (.bipush 16, 2) := by decide +kernel
theorem dX1_manyOfKinds_9 : decode cX1_manyOfKinds 9 = .ok (.if_icmp .ge 20, 3) := by decide +kernel
theorem dX1_manyOfKinds_12 : decode cX1_manyOfKinds 12 = .ok (.iload_n 3, 1) := by decide +kernel
theorem dX1_manyOfKinds_13 : decode cX1_manyOfKinds 13 = .ok (.aload_n 0, 1) := by decide +kernel
theorem dX1_manyOfKinds_14 : decode cX1_manyOfKinds 14 = .ok (.iload 4, 2) := by decide +kernel
theorem dX1_manyOfKinds_16 : decode cX1_manyOfKinds 16 = .ok (.iload_n 1, 1) := by decide +kernel
theorem dX1_manyOfKinds_17 : decode cX1_manyOfKinds 17 = .ok (.iload_n 2, 1) := by decide +kernel
theorem dX1_manyOfKinds_18 : decode cX1_manyOfKinds 18 = .ok (.invokevirtual 128, 3) := by decide +kernel
theorem dX1_manyOfKinds_21 : decode cX1_manyOfKinds 21 = .ok (.iadd, 1) := by decide +kernel
theorem dX1_manyOfKinds_22 : decode cX1_manyOfKinds 22 = .ok (.istore_n 3, 1) := by decide +kernel
theorem dX1_manyOfKinds_23 : decode cX1_manyOfKinds 23 = .ok (.iinc 4 1, 3) := by decide +kernel
theorem dX1_manyOfKinds_26 : decode cX1_manyOfKinds 26 = .ok (.goto (-21), 3) := by decide +kernel
theorem dX1_manyOfKinds_29 : decode cX1_manyOfKinds 29 = .ok (.iload_n 3, 1) := by decide +kernel
theorem dX1_manyOfKinds_30 : decode cX1_manyOfKinds 30 = .ok (.ireturn, 1) := by decide +kernel
set_option maxRecDepth 20000 in
theorem ggX1_manyInColumn_X1_manyIn : GoodIn wsX1_manyInColumn wsX1_manyIn := goodIn_r _ [6, 7, 13, 14, 15, 16, 17, 18, 19, 20, 21, 22] (by decide +kernel) (by decide +kernel)
set_option maxRecDepth 20000 in
theorem gX1_manyInColumn_X1_manyIn : GoodIn wsX1_manyInColumn (wsV RX1 66 RX1 yX1_manyIn wsX1_manyIn) := goodIn_app (goodIn_of _ (by decide +kernel)) ggX1_manyInColumn_X1_manyIn
set_option maxRecDepth 20000 in
theorem ggX1_manyInColumn_X1_kindAt : GoodIn wsX1_manyInColumn wsX1_kindAt := goodIn_r _ [11, 12, 13, 14, 15, 16, 17, 18, 19, 20, 21, 22] (by decide +kernel) (by decide +kernel)
set_option maxRecDepth 20000 in
theorem gX1_manyInColumn_X1_kindAt : GoodIn wsX1_manyInColumn (wsV RX1 108 RX1 yX1_kindAt wsX1_kindAt) := goodIn_app (goodIn_of _ (by decide +kernel)) ggX1_manyInColumn_X1_kindAt
theorem dX1_manyInColumn_0 : decode cX1_manyInColumn 0 = .ok (.iconst 0, 1) := by decide +kernel
theorem dX1_manyInColumn_1 : decode cX1_manyInColumn 1 = .ok (.istore 4, 2) := by decide +kernel
theorem dX1_manyInColumn_3 : decode cX1_manyInColumn 3 = .ok (.aload_n 0, 1) := by decide +kernel
theorem dX1_manyInColumn_4 : decode cX1_manyInColumn 4 = .ok (.iload_n 1, 1) := by decide +kernel
theorem dX1_manyInColumn_5 : decode cX1_manyInColumn 5 = .ok (.aload_n 0, 1) := by decide +kernel
theorem dX1_manyInColumn_6 : decode cX1_manyInColumn 6 = .ok (.getfield 34, 3) := by decide +kernel
theorem dX1_manyInColumn_9 : decode cX1_manyInColumn 9 = .ok (.invokevirtual 66, 3) := by decide +kernel
theorem dX1_manyInColumn_12 : decode cX1_manyInColumn 12 = .ok (.istore 5, 2) := by decide +kernel
theorem dX1_manyInColumn_14 : decode cX1_manyInColumn 14 = .ok (.iconst 0, 1) := by decide +kernel
theorem dX1_manyInColumn_15 : decode cX1_manyInColumn 15 = .ok (.istore 6, 2) := by decide +kernel
theorem dX1_manyInColumn_17 : decode cX1_manyInColumn 17 = .ok (.iload 6, 2) := by decide +kernel
theorem dX1_manyInColumn_19 : decode cX1_manyInColumn 19 = .ok (.iload 5, 2) := by decide +kernel
theorem dX1_manyInColumn_21 : decode cX1_manyInColumn 21 = .ok (.if_icmp .ge 40, 3) := by decide +kernel
theorem dX1_manyInColumn_24 : decode cX1_manyInColumn 24 = .ok (.aload_n 0, 1) := by decide +kernel
theorem dX1_manyInColumn_25 : decode cX1_manyInColumn 25 = .ok (.iload_n 1, 1) := by decide +kernel
theorem dX1_manyInColumn_26 : decode cX1_manyInColumn 26 = .ok (.iload 6, 2) := by decide +kernel
theorem dX1_manyInColumn_28 : decode cX1_manyInColumn 28 = .ok (.invokevirtual 108, 3) := by decide +kernel
theorem dX1_manyInColumn_31 : decode cX1_manyInColumn 31 = .ok (.istore 7, 2) := by decide +kernel
theorem dX1_manyInColumn_33 : decode cX1_manyInColumn 33 = .ok (.iload 4, 2) := by decide +kernel
theorem dX1_manyInColumn_35 : decode cX1_manyInColumn 35 = .ok (.iload 7, 2) := by decide +kernel
theorem dX1_manyInColumn_37 : decode cX1_manyInColumn 37 = .ok (.iload_n 2, 1) := by decide +kernel
theorem dX1_manyInColumn_38 : decode cX1_manyInColumn 38 = .ok (.if_icmp .lt 13, 3) := by decide +kernel
theorem dX1_manyInColumn_41 : decode cX1_manyInColumn 41 = .ok (.iload 7, 2) := by decide +kernel
theorem dX1_manyInColumn_43 : decode cX1_manyInColumn 43 = .ok (.iload_n 3, 1) := by decide +kernel
theorem dX1_manyInColumn_44 : decode cX1_manyInColumn 44 = .ok (.if_icmp .gt 7, 3) := by decide +kernel
theorem dX1_manyInColumn_47 : decode cX1_manyInColumn 47 = .ok (.iconst 1, 1) := by decide +kernel
theorem dX1_manyInColumn_48 : decode cX1_manyInColumn 48 = .ok (.goto 4, 3) := by decide +kernel
theorem dX1_manyInColumn_51 : decode cX1_manyInColumn 51 = .ok (.iconst 0, 1) := by decide +kernel
theorem dX1_manyInColumn_52 : decode cX1_manyInColumn 52 = .ok (.iadd, 1) := by decide +kernel
theorem dX1_manyInColumn_53 : decode cX1_manyInColumn 53 = .ok (.istore 4, 2) := by decide +kernel
theorem dX1_manyInColumn_55 : decode cX1_manyInColumn 55 = .ok (.iinc 6 1, 3) := by decide +kernel
theorem dX1_manyInColumn_58 : decode cX1_manyInColumn 58 = .ok (.goto (-41), 3) := by decide +kernel
theorem dX1_manyInColumn_61 : decode cX1_manyInColumn 61 = .ok (.iload 4, 2) := by decide +kernel
theorem dX1_manyInColumn_63 : decode cX1_manyInColumn 63 = .ok (.ireturn, 1) := by decide +kernel
set_option maxRecDepth 20000 in
theorem ggX1_lowestBroken_X1_manyInColumn : GoodIn wsX1_lowestBroken wsX1_manyInColumn := goodIn_r _ [5, 6, 7, 8, 9, 4, 10, 11, 12, 13, 14, 15, 16, 17, 18, 19, 20, 21, 22, 23, 24, 25, 26] (by decide +kernel) (by decide +kernel)
set_option maxRecDepth 20000 in
theorem gX1_lowestBroken_X1_manyInColumn : GoodIn wsX1_lowestBroken (wsV RX1 128 RX1 yX1_manyInColumn wsX1_manyInColumn) := goodIn_app (goodIn_of _ (by decide +kernel)) ggX1_lowestBroken_X1_manyInColumn
theorem dX1_lowestBroken_0 : decode cX1_lowestBroken 0 = .ok (.iconst 0, 1) := by decide +kernel
theorem dX1_lowestBroken_1 : decode cX1_lowestBroken 1 = .ok (.istore_n 1, 1) := by decide +kernel
theorem dX1_lowestBroken_2 : decode cX1_lowestBroken 2 = .ok (.iload_n 1, 1) := by decide +kernel
theorem dX1_lowestBroken_3 : decode cX1_lowestBroken 3 = .ok (.bipush 16, 2) := by decide +kernel
theorem dX1_lowestBroken_5 : decode cX1_lowestBroken 5 = .ok (.if_icmp .ge 21, 3) := by decide +kernel
theorem dX1_lowestBroken_8 : decode cX1_lowestBroken 8 = .ok (.aload_n 0, 1) := by decide +kernel
theorem dX1_lowestBroken_9 : decode cX1_lowestBroken 9 = .ok (.iload_n 1, 1) := by decide +kernel
theorem dX1_lowestBroken_10 : decode cX1_lowestBroken 10 = .ok (.iconst 2, 1) := by decide +kernel
theorem dX1_lowestBroken_11 : decode cX1_lowestBroken 11 = .ok (.iconst 3, 1) := by decide +kernel
theorem dX1_lowestBroken_12 : decode cX1_lowestBroken 12 = .ok (.invokevirtual 128, 3) := by decide +kernel
theorem dX1_lowestBroken_15 : decode cX1_lowestBroken 15 = .ok (.ifCond .le 5, 3) := by decide +kernel
theorem dX1_lowestBroken_18 : decode cX1_lowestBroken 18 = .ok (.iload_n 1, 1) := by decide +kernel
theorem dX1_lowestBroken_19 : decode cX1_lowestBroken 19 = .ok (.ireturn, 1) := by decide +kernel
theorem dX1_lowestBroken_20 : decode cX1_lowestBroken 20 = .ok (.iinc 1 1, 3) := by decide +kernel
theorem dX1_lowestBroken_23 : decode cX1_lowestBroken 23 = .ok (.goto (-21), 3) := by decide +kernel
theorem dX1_lowestBroken_26 : decode cX1_lowestBroken 26 = .ok (.bipush (-5), 2) := by decide +kernel
theorem dX1_lowestBroken_28 : decode cX1_lowestBroken 28 = .ok (.ireturn, 1) := by decide +kernel
set_option maxRecDepth 20000 in
theorem ggX1_endOf_X1_manyIn : GoodIn wsX1_endOf wsX1_manyIn := goodIn_r _ [5, 6, 16, 17, 18, 19, 20, 21, 22, 23, 24, 25] (by decide +kernel) (by decide +kernel)
set_option maxRecDepth 20000 in
theorem gX1_endOf_X1_manyIn : GoodIn wsX1_endOf (wsV RX1 66 RX1 yX1_manyIn wsX1_manyIn) := goodIn_app (goodIn_of _ (by decide +kernel)) ggX1_endOf_X1_manyIn
set_option maxRecDepth 20000 in
theorem ggX1_endOf_X1_isBroken : GoodIn wsX1_endOf wsX1_isBroken := goodIn_r _ [10, 11, 12, 13, 4, 14, 15, 16, 17, 18, 19, 20, 21, 22, 23, 24, 25] (by decide +kernel) (by decide +kernel)
set_option maxRecDepth 20000 in
theorem gX1_endOf_X1_isBroken : GoodIn wsX1_endOf (wsV RX1 111 RX1 yX1_isBroken wsX1_isBroken) := goodIn_app (goodIn_of _ (by decide +kernel)) ggX1_endOf_X1_isBroken
theorem dX1_endOf_0 : decode cX1_endOf 0 = .ok (.aload_n 0, 1) := by decide +kernel
theorem dX1_endOf_1 : decode cX1_endOf 1 = .ok (.iload_n 1, 1) := by decide +kernel
theorem dX1_endOf_2 : decode cX1_endOf 2 = .ok (.iload_n 2, 1) := by decide +kernel
theorem dX1_endOf_3 : decode cX1_endOf 3 = .ok (.invokevirtual 66, 3) := by decide +kernel
theorem dX1_endOf_6 : decode cX1_endOf 6 = .ok (.iconst 1, 1) := by decide +kernel
theorem dX1_endOf_7 : decode cX1_endOf 7 = .ok (.isub, 1) := by decide +kernel
theorem dX1_endOf_8 : decode cX1_endOf 8 = .ok (.istore_n 3, 1) := by decide +kernel
theorem dX1_endOf_9 : decode cX1_endOf 9 = .ok (.iload_n 3, 1) := by decide +kernel
theorem dX1_endOf_10 : decode cX1_endOf 10 = .ok (.ifCond .lt 20, 3) := by decide +kernel
theorem dX1_endOf_13 : decode cX1_endOf 13 = .ok (.aload_n 0, 1) := by decide +kernel
theorem dX1_endOf_14 : decode cX1_endOf 14 = .ok (.iload_n 1, 1) := by decide +kernel
theorem dX1_endOf_15 : decode cX1_endOf 15 = .ok (.iload_n 3, 1) := by decide +kernel
theorem dX1_endOf_16 : decode cX1_endOf 16 = .ok (.invokevirtual 111, 3) := by decide +kernel
theorem dX1_endOf_19 : decode cX1_endOf 19 = .ok (.ifCond .ne 5, 3) := by decide +kernel
theorem dX1_endOf_22 : decode cX1_endOf 22 = .ok (.iload_n 3, 1) := by decide +kernel
theorem dX1_endOf_23 : decode cX1_endOf 23 = .ok (.ireturn, 1) := by decide +kernel
theorem dX1_endOf_24 : decode cX1_endOf 24 = .ok (.iinc 3 (-1), 3) := by decide +kernel
theorem dX1_endOf_27 : decode cX1_endOf 27 = .ok (.goto (-18), 3) := by decide +kernel
theorem dX1_endOf_30 : decode cX1_endOf 30 = .ok (.iconst (-1), 1) := by decide +kernel
theorem dX1_endOf_31 : decode cX1_endOf 31 = .ok (.ireturn, 1) := by decide +kernel
set_option maxRecDepth 20000 in
theorem ggX1_seekGuess_X1_endOf : GoodIn wsX1_seekGuess wsX1_endOf := goodIn_r _ [10, 11, 12, 13, 9, 14, 1, 15, 16, 17, 18, 19, 20, 21, 22, 23, 32, 33, 34, 35, 36, 37, 38, 39, 40, 41] (by decide +kernel) (by decide +kernel)
set_option maxRecDepth 20000 in
theorem gX1_seekGuess_X1_endOf : GoodIn wsX1_seekGuess (wsV RX1 132 RX1 yX1_endOf wsX1_endOf) := goodIn_app (goodIn_of _ (by decide +kernel)) ggX1_seekGuess_X1_endOf
set_option maxRecDepth 20000 in
theorem ggX1_seekGuess_X1_valueAt : GoodIn wsX1_seekGuess wsX1_valueAt := goodIn_r _ [27, 4, 32, 33, 34, 35, 36, 37, 38, 39, 40, 41] (by decide +kernel) (by decide +kernel)
set_option maxRecDepth 20000 in
theorem gX1_seekGuess_X1_valueAt : GoodIn wsX1_seekGuess (wsV RX1 114 RX1 yX1_valueAt wsX1_valueAt) := goodIn_app (goodIn_of _ (by decide +kernel)) ggX1_seekGuess_X1_valueAt
set_option maxRecDepth 20000 in
theorem ggX1_seekGuess_X3_sizeOf : GoodIn wsX1_seekGuess wsX3_sizeOf := goodIn_r _ [31] (by decide +kernel) (by decide +kernel)
set_option maxRecDepth 20000 in
theorem gX1_seekGuess_X3_sizeOf : GoodIn wsX1_seekGuess (va_wsS RX1 104 yX3_sizeOf wsX3_sizeOf) := goodIn_app (goodIn_of _ (by decide +kernel)) ggX1_seekGuess_X3_sizeOf
theorem dX1_seekGuess_0 : decode cX1_seekGuess 0 = .ok (.aload_n 0, 1) := by decide +kernel
theorem dX1_seekGuess_1 : decode cX1_seekGuess 1 = .ok (.getfield 19, 3) := by decide +kernel
theorem dX1_seekGuess_4 : decode cX1_seekGuess 4 = .ok (.iconst 2, 1) := by decide +kernel
theorem dX1_seekGuess_5 : decode cX1_seekGuess 5 = .ok (.if_icmp .ge 7, 3) := by decide +kernel
theorem dX1_seekGuess_8 : decode cX1_seekGuess 8 = .ok (.iconst 2, 1) := by decide +kernel
theorem dX1_seekGuess_9 : decode cX1_seekGuess 9 = .ok (.goto 4, 3) := by decide +kernel
theorem dX1_seekGuess_12 : decode cX1_seekGuess 12 = .ok (.iconst 1, 1) := by decide +kernel
theorem dX1_seekGuess_13 : decode cX1_seekGuess 13 = .ok (.istore_n 2, 1) := by decide +kernel
theorem dX1_seekGuess_14 : decode cX1_seekGuess 14 = .ok (.iconst 0, 1) := by decide +kernel
theorem dX1_seekGuess_15 : decode cX1_seekGuess 15 = .ok (.istore_n 3, 1) := by decide +kernel
theorem dX1_seekGuess_16 : decode cX1_seekGuess 16 = .ok (.aload_n 0, 1) := by decide +kernel
theorem dX1_seekGuess_17 : decode cX1_seekGuess 17 = .ok (.iconst 0, 1) := by decide +kernel
theorem dX1_seekGuess_18 : decode cX1_seekGuess 18 = .ok (.putfield 37, 3) := by decide +kernel
theorem dX1_seekGuess_21 : decode cX1_seekGuess 21 = .ok (.aload_n 0, 1) := by decide +kernel
theorem dX1_seekGuess_22 : decode cX1_seekGuess 22 = .ok (.dconst 0, 1) := by decide +kernel
theorem dX1_seekGuess_23 : decode cX1_seekGuess 23 = .ok (.putfield 40, 3) := by decide +kernel
theorem dX1_seekGuess_26 : decode cX1_seekGuess 26 = .ok (.aload_n 0, 1) := by decide +kernel
theorem dX1_seekGuess_27 : decode cX1_seekGuess 27 = .ok (.iload_n 1, 1) := by decide +kernel
theorem dX1_seekGuess_28 : decode cX1_seekGuess 28 = .ok (.ifCond .le 14, 3) := by decide +kernel
theorem dX1_seekGuess_31 : decode cX1_seekGuess 31 = .ok (.aload_n 0, 1) := by decide +kernel
theorem dX1_seekGuess_32 : decode cX1_seekGuess 32 = .ok (.getfield 9, 3) := by decide +kernel
theorem dX1_seekGuess_35 : decode cX1_seekGuess 35 = .ok (.iload_n 1, 1) := by decide +kernel
theorem dX1_seekGuess_36 : decode cX1_seekGuess 36 = .ok (.iconst 1, 1) := by decide +kernel
theorem dX1_seekGuess_37 : decode cX1_seekGuess 37 = .ok (.isub, 1) := by decide +kernel
theorem dX1_seekGuess_38 : decode cX1_seekGuess 38 = .ok (.daload, 1) := by decide +kernel
theorem dX1_seekGuess_39 : decode cX1_seekGuess 39 = .ok (.goto 4, 3) := by decide +kernel
theorem dX1_seekGuess_42 : decode cX1_seekGuess 42 = .ok (.dconst 0, 1) := by decide +kernel
theorem dX1_seekGuess_43 : decode cX1_seekGuess 43 = .ok (.putfield 43, 3) := by decide +kernel
theorem dX1_seekGuess_46 : decode cX1_seekGuess 46 = .ok (.iload_n 2, 1) := by decide +kernel
theorem dX1_seekGuess_47 : decode cX1_seekGuess 47 = .ok (.istore 4, 2) := by decide +kernel
theorem dX1_seekGuess_49 : decode cX1_seekGuess 49 = .ok (.iload 4, 2) := by decide +kernel
theorem dX1_seekGuess_51 : decode cX1_seekGuess 51 = .ok (.bipush 16, 2) := by decide +kernel
theorem dX1_seekGuess_53 : decode cX1_seekGuess 53 = .ok (.if_icmp .ge 107, 3) := by decide +kernel
theorem dX1_seekGuess_56 : decode cX1_seekGuess 56 = .ok (.aload_n 0, 1) := by decide +kernel
theorem dX1_seekGuess_57 : decode cX1_seekGuess 57 = .ok (.iload 4, 2) := by decide +kernel
theorem dX1_seekGuess_59 : decode cX1_seekGuess 59 = .ok (.iload_n 1, 1) := by decide +kernel
theorem dX1_seekGuess_60 : decode cX1_seekGuess 60 = .ok (.invokevirtual 132, 3) := by decide +kernel
theorem dX1_seekGuess_63 : decode cX1_seekGuess 63 = .ok (.istore 5, 2) := by decide +kernel
theorem dX1_seekGuess_65 : decode cX1_seekGuess 65 = .ok (.aload_n 0, 1) := by decide +kernel
theorem dX1_seekGuess_66 : decode cX1_seekGuess 66 = .ok (.iload 4, 2) := by decide +kernel
theorem dX1_seekGuess_68 : decode cX1_seekGuess 68 = .ok (.iload_n 2, 1) := by decide +kernel
theorem dX1_seekGuess_69 : decode cX1_seekGuess 69 = .ok (.isub, 1) := by decide +kernel
theorem dX1_seekGuess_70 : decode cX1_seekGuess 70 = .ok (.iload_n 1, 1) := by decide +kernel
theorem dX1_seekGuess_71 : decode cX1_seekGuess 71 = .ok (.invokevirtual 132, 3) := by decide +kernel
theorem dX1_seekGuess_74 : decode cX1_seekGuess 74 = .ok (.istore 6, 2) := by decide +kernel
theorem dX1_seekGuess_76 : decode cX1_seekGuess 76 = .ok (.iload 5, 2) := by decide +kernel
theorem dX1_seekGuess_78 : decode cX1_seekGuess 78 = .ok (.ifCond .lt 73, 3) := by decide +kernel
theorem dX1_seekGuess_81 : decode cX1_seekGuess 81 = .ok (.iload 6, 2) := by decide +kernel
theorem dX1_seekGuess_83 : decode cX1_seekGuess 83 = .ok (.ifCond .ge 6, 3) := by decide +kernel
theorem dX1_seekGuess_86 : decode cX1_seekGuess 86 = .ok (.goto 65, 3) := by decide +kernel
theorem dX1_seekGuess_89 : decode cX1_seekGuess 89 = .ok (.aload_n 0, 1) := by decide +kernel
theorem dX1_seekGuess_90 : decode cX1_seekGuess 90 = .ok (.iload 4, 2) := by decide +kernel
theorem dX1_seekGuess_92 : decode cX1_seekGuess 92 = .ok (.iload 5, 2) := by decide +kernel
theorem dX1_seekGuess_94 : decode cX1_seekGuess 94 = .ok (.invokevirtual 114, 3) := by decide +kernel
theorem dX1_seekGuess_97 : decode cX1_seekGuess 97 = .ok (.dstore 7, 2) := by decide +kernel
theorem dX1_seekGuess_99 : decode cX1_seekGuess 99 = .ok (.dload 7, 2) := by decide +kernel
theorem dX1_seekGuess_101 : decode cX1_seekGuess 101 = .ok (.aload_n 0, 1) := by decide +kernel
theorem dX1_seekGuess_102 : decode cX1_seekGuess 102 = .ok (.iload 4, 2) := by decide +kernel
theorem dX1_seekGuess_104 : decode cX1_seekGuess 104 = .ok (.iload_n 2, 1) := by decide +kernel
theorem dX1_seekGuess_105 : decode cX1_seekGuess 105 = .ok (.isub, 1) := by decide +kernel
theorem dX1_seekGuess_106 : decode cX1_seekGuess 106 = .ok (.iload 6, 2) := by decide +kernel
theorem dX1_seekGuess_108 : decode cX1_seekGuess 108 = .ok (.invokevirtual 114, 3) := by decide +kernel
theorem dX1_seekGuess_111 : decode cX1_seekGuess 111 = .ok (.dsub, 1) := by decide +kernel
theorem dX1_seekGuess_112 : decode cX1_seekGuess 112 = .ok (.invokestatic 104, 3) := by decide +kernel
theorem dX1_seekGuess_115 : decode cX1_seekGuess 115 = .ok (.dstore 9, 2) := by decide +kernel
theorem dX1_seekGuess_117 : decode cX1_seekGuess 117 = .ok (.iload_n 3, 1) := by decide +kernel
theorem dX1_seekGuess_118 : decode cX1_seekGuess 118 = .ok (.ifCond .eq 13, 3) := by decide +kernel
theorem dX1_seekGuess_121 : decode cX1_seekGuess 121 = .ok (.dload 9, 2) := by decide +kernel
theorem dX1_seekGuess_123 : decode cX1_seekGuess 123 = .ok (.aload_n 0, 1) := by decide +kernel
theorem dX1_seekGuess_124 : decode cX1_seekGuess 124 = .ok (.getfield 40, 3) := by decide +kernel
theorem dX1_seekGuess_127 : decode cX1_seekGuess 127 = .ok (.dcmp .g, 1) := by decide +kernel
theorem dX1_seekGuess_128 : decode cX1_seekGuess 128 = .ok (.ifCond .ge 23, 3) := by decide +kernel
theorem dX1_seekGuess_131 : decode cX1_seekGuess 131 = .ok (.iconst 1, 1) := by decide +kernel
theorem dX1_seekGuess_132 : decode cX1_seekGuess 132 = .ok (.istore_n 3, 1) := by decide +kernel
theorem dX1_seekGuess_133 : decode cX1_seekGuess 133 = .ok (.aload_n 0, 1) := by decide +kernel
theorem dX1_seekGuess_134 : decode cX1_seekGuess 134 = .ok (.iload 4, 2) := by decide +kernel
theorem dX1_seekGuess_136 : decode cX1_seekGuess 136 = .ok (.putfield 37, 3) := by decide +kernel
theorem dX1_seekGuess_139 : decode cX1_seekGuess 139 = .ok (.aload_n 0, 1) := by decide +kernel
theorem dX1_seekGuess_140 : decode cX1_seekGuess 140 = .ok (.dload 9, 2) := by decide +kernel
theorem dX1_seekGuess_142 : decode cX1_seekGuess 142 = .ok (.putfield 40, 3) := by decide +kernel
theorem dX1_seekGuess_145 : decode cX1_seekGuess 145 = .ok (.aload_n 0, 1) := by decide +kernel
theorem dX1_seekGuess_146 : decode cX1_seekGuess 146 = .ok (.dload 7, 2) := by decide +kernel
theorem dX1_seekGuess_148 : decode cX1_seekGuess 148 = .ok (.putfield 43, 3) := by decide +kernel
theorem dX1_seekGuess_151 : decode cX1_seekGuess 151 = .ok (.iload 4, 2) := by decide +kernel
theorem dX1_seekGuess_153 : decode cX1_seekGuess 153 = .ok (.iload_n 2, 1) := by decide +kernel
theorem dX1_seekGuess_154 : decode cX1_seekGuess 154 = .ok (.iadd, 1) := by decide +kernel
theorem dX1_seekGuess_155 : decode cX1_seekGuess 155 = .ok (.istore 4, 2) := by decide +kernel
theorem dX1_seekGuess_157 : decode cX1_seekGuess 157 = .ok (.goto (-108), 3) := by decide +kernel
theorem dX1_seekGuess_160 : decode cX1_seekGuess 160 = .ok (.iload_n 3, 1) := by decide +kernel
theorem dX1_seekGuess_161 : decode cX1_seekGuess 161 = .ok (.ireturn, 1) := by decide +kernel
set_option maxRecDepth 20000 in
theorem ggX2_init_X5_init : GoodIn wsX2_init wsX5_init := goodIn_r _ [12, 13, 2, 3, 14, 15, 16, 17, 18, 19, 20, 21, 22, 23, 24, 25, 26, 27, 28, 29, 37, 38, 33, 34, 35, 36] (by decide +kernel) (by decide +kernel)
set_option maxRecDepth 20000 in
theorem gX2_init_X5_init : GoodIn wsX2_init (wsX5_init) := ggX2_init_X5_init
theorem dX2_init_0 : decode cX2_init 0 = .ok (.aload_n 0, 1) := by decide +kernel
theorem dX2_init_1 : decode cX2_init 1 = .ok (.invokespecial 1, 3) := by decide +kernel
theorem dX2_init_4 : decode cX2_init 4 = .ok (.aload_n 0, 1) := by decide +kernel
theorem dX2_init_5 : decode cX2_init 5 = .ok (.iconst 4, 1) := by decide +kernel
theorem dX2_init_6 : decode cX2_init 6 = .ok (.anewarray 9, 3) := by decide +kernel
theorem dX2_init_9 : decode cX2_init 9 = .ok (.putfield 11, 3) := by decide +kernel
theorem dX2_init_12 : decode cX2_init 12 = .ok (.aload_n 0, 1) := by decide +kernel
theorem dX2_init_13 : decode cX2_init 13 = .ok (.iconst 0, 1) := by decide +kernel
theorem dX2_init_14 : decode cX2_init 14 = .ok (.putfield 15, 3) := by decide +kernel
theorem dX2_init_17 : decode cX2_init 17 = .ok (.aload_n 0, 1) := by decide +kernel
theorem dX2_init_18 : decode cX2_init 18 = .ok (.iconst 0, 1) := by decide +kernel
theorem dX2_init_19 : decode cX2_init 19 = .ok (.putfield 19, 3) := by decide +kernel
theorem dX2_init_22 : decode cX2_init 22 = .ok (.iconst 0, 1) := by decide +kernel
theorem dX2_init_23 : decode cX2_init 23 = .ok (.istore_n 1, 1) := by decide +kernel
theorem dX2_init_24 : decode cX2_init 24 = .ok (.iload_n 1, 1) := by decide +kernel
theorem dX2_init_25 : decode cX2_init 25 = .ok (.iconst 4, 1) := by decide +kernel
theorem dX2_init_26 : decode cX2_init 26 = .ok (.if_icmp .ge 22, 3) := by decide +kernel
theorem dX2_init_29 : decode cX2_init 29 = .ok (.aload_n 0, 1) := by decide +kernel
theorem dX2_init_30 : decode cX2_init 30 = .ok (.getfield 11, 3) := by decide +kernel
theorem dX2_init_33 : decode cX2_init 33 = .ok (.iload_n 1, 1) := by decide +kernel
theorem dX2_init_34 : decode cX2_init 34 = .ok (.new 9, 3) := by decide +kernel
theorem dX2_init_37 : decode cX2_init 37 = .ok (.dup, 1) := by decide +kernel
theorem dX2_init_38 : decode cX2_init 38 = .ok (.invokespecial 22, 3) := by decide +kernel
theorem dX2_init_41 : decode cX2_init 41 = .ok (.aastore, 1) := by decide +kernel
theorem dX2_init_42 : decode cX2_init 42 = .ok (.iinc 1 1, 3) := by decide +kernel
theorem dX2_init_45 : decode cX2_init 45 = .ok (.goto (-21), 3) := by decide +kernel
theorem dX2_init_48 : decode cX2_init 48 = .ok (.return_, 1) := by decide +kernel
set_option maxRecDepth 20000 in
theorem ggX2_remember_X5_copyFrom : GoodIn wsX2_remember wsX5_copyFrom := goodIn_r _ [8, 9, 10, 11, 12, 13, 14, 15, 16, 17, 18, 19, 20, 21, 22, 23, 24, 28, 29, 30, 31, 32, 33] (by decide +kernel) (by decide +kernel)
set_option maxRecDepth 20000 in
theorem gX2_remember_X5_copyFrom : GoodIn wsX2_remember (wsV RX2 23 RX5 yX5_copyFrom wsX5_copyFrom) := goodIn_app (goodIn_of _ (by decide +kernel)) ggX2_remember_X5_copyFrom
theorem dX2_remember_0 : decode cX2_remember 0 = .ok (.aload_n 0, 1) := by decide +kernel
theorem dX2_remember_1 : decode cX2_remember 1 = .ok (.getfield 19, 3) := by decide +kernel
theorem dX2_remember_4 : decode cX2_remember 4 = .ok (.iconst 4, 1) := by decide +kernel
theorem dX2_remember_5 : decode cX2_remember 5 = .ok (.if_icmp .ne 25, 3) := by decide +kernel
theorem dX2_remember_8 : decode cX2_remember 8 = .ok (.aload_n 0, 1) := by decide +kernel
theorem dX2_remember_9 : decode cX2_remember 9 = .ok (.aload_n 0, 1) := by decide +kernel
theorem dX2_remember_10 : decode cX2_remember 10 = .ok (.getfield 15, 3) := by decide +kernel
theorem dX2_remember_13 : decode cX2_remember 13 = .ok (.iconst 1, 1) := by decide +kernel
theorem dX2_remember_14 : decode cX2_remember 14 = .ok (.iadd, 1) := by decide +kernel
theorem dX2_remember_15 : decode cX2_remember 15 = .ok (.iconst 4, 1) := by decide +kernel
theorem dX2_remember_16 : decode cX2_remember 16 = .ok (.irem, 1) := by decide +kernel
theorem dX2_remember_17 : decode cX2_remember 17 = .ok (.putfield 15, 3) := by decide +kernel
theorem dX2_remember_20 : decode cX2_remember 20 = .ok (.aload_n 0, 1) := by decide +kernel
theorem dX2_remember_21 : decode cX2_remember 21 = .ok (.dup, 1) := by decide +kernel
theorem dX2_remember_22 : decode cX2_remember 22 = .ok (.getfield 19, 3) := by decide +kernel
theorem dX2_remember_25 : decode cX2_remember 25 = .ok (.iconst 1, 1) := by decide +kernel
theorem dX2_remember_26 : decode cX2_remember 26 = .ok (.isub, 1) := by decide +kernel
theorem dX2_remember_27 : decode cX2_remember 27 = .ok (.putfield 19, 3) := by decide +kernel
theorem dX2_remember_30 : decode cX2_remember 30 = .ok (.aload_n 0, 1) := by decide +kernel
theorem dX2_remember_31 : decode cX2_remember 31 = .ok (.getfield 11, 3) := by decide +kernel
theorem dX2_remember_34 : decode cX2_remember 34 = .ok (.aload_n 0, 1) := by decide +kernel
theorem dX2_remember_35 : decode cX2_remember 35 = .ok (.getfield 15, 3) := by decide +kernel
theorem dX2_remember_38 : decode cX2_remember 38 = .ok (.aload_n 0, 1) := by decide +kernel
theorem dX2_remember_39 : decode cX2_remember 39 = .ok (.getfield 19, 3) := by decide +kernel
theorem dX2_remember_42 : decode cX2_remember 42 = .ok (.iadd, 1) := by decide +kernel
theorem dX2_remember_43 : decode cX2_remember 43 = .ok (.iconst 4, 1) := by decide +kernel
theorem dX2_remember_44 : decode cX2_remember 44 = .ok (.irem, 1) := by decide +kernel
theorem dX2_remember_45 : decode cX2_remember 45 = .ok (.aaload, 1) := by decide +kernel
theorem dX2_remember_46 : decode cX2_remember 46 = .ok (.aload_n 1, 1) := by decide +kernel
theorem dX2_remember_47 : decode cX2_remember 47 = .ok (.invokevirtual 23, 3) := by decide +kernel
theorem dX2_remember_50 : decode cX2_remember 50 = .ok (.aload_n 0, 1) := by decide +kernel
theorem dX2_remember_51 : decode cX2_remember 51 = .ok (.dup, 1) := by decide +kernel
theorem dX2_remember_52 : decode cX2_remember 52 = .ok (.getfield 19, 3) := by decide +kernel
theorem dX2_remember_55 : decode cX2_remember 55 = .ok (.iconst 1, 1) := by decide +kernel
theorem dX2_remember_56 : decode cX2_remember 56 = .ok (.iadd, 1) := by decide +kernel
theorem dX2_remember_57 : decode cX2_remember 57 = .ok (.putfield 19, 3) := by decide +kernel
theorem dX2_remember_60 : decode cX2_remember 60 = .ok (.return_, 1) := by decide +kernel
set_option maxRecDepth 20000 in
theorem ggX2_bringBack_X5_copyFrom : GoodIn wsX2_bringBack wsX5_copyFrom := goodIn_r _ [8, 9, 10, 11, 12, 13, 14, 15, 16, 17, 18, 19, 20, 21, 22, 23, 24, 28, 29, 30, 31, 32, 33] (by decide +kernel) (by decide +kernel)
set_option maxRecDepth 20000 in
theorem gX2_bringBack_X5_copyFrom : GoodIn wsX2_bringBack (wsV RX2 23 RX5 yX5_copyFrom wsX5_copyFrom) := goodIn_app (goodIn_of _ (by decide +kernel)) ggX2_bringBack_X5_copyFrom
theorem dX2_bringBack_0 : decode cX2_bringBack 0 = .ok (.aload_n 0, 1) := by decide +kernel
theorem dX2_bringBack_1 : decode cX2_bringBack 1 = .ok (.dup, 1) := by decide +kernel
theorem dX2_bringBack_2 : decode cX2_bringBack 2 = .ok (.getfield 19, 3) := by decide +kernel
theorem dX2_bringBack_5 : decode cX2_bringBack 5 = .ok (.iconst 1, 1) := by decide +kernel
theorem dX2_bringBack_6 : decode cX2_bringBack 6 = .ok (.isub, 1) := by decide +kernel
theorem dX2_bringBack_7 : decode cX2_bringBack 7 = .ok (.putfield 19, 3) := by decide +kernel
theorem dX2_bringBack_10 : decode cX2_bringBack 10 = .ok (.aload_n 1, 1) := by decide +kernel
theorem dX2_bringBack_11 : decode cX2_bringBack 11 = .ok (.aload_n 0, 1) := by decide +kernel
theorem dX2_bringBack_12 : decode cX2_bringBack 12 = .ok (.getfield 11, 3) := by decide +kernel
theorem dX2_bringBack_15 : decode cX2_bringBack 15 = .ok (.aload_n 0, 1) := by decide +kernel
theorem dX2_bringBack_16 : decode cX2_bringBack 16 = .ok (.getfield 15, 3) := by decide +kernel
theorem dX2_bringBack_19 : decode cX2_bringBack 19 = .ok (.aload_n 0, 1) := by decide +kernel
theorem dX2_bringBack_20 : decode cX2_bringBack 20 = .ok (.getfield 19, 3) := by decide +kernel
theorem dX2_bringBack_23 : decode cX2_bringBack 23 = .ok (.iadd, 1) := by decide +kernel
theorem dX2_bringBack_24 : decode cX2_bringBack 24 = .ok (.iconst 4, 1) := by decide +kernel
theorem dX2_bringBack_25 : decode cX2_bringBack 25 = .ok (.irem, 1) := by decide +kernel
theorem dX2_bringBack_26 : decode cX2_bringBack 26 = .ok (.aaload, 1) := by decide +kernel
theorem dX2_bringBack_27 : decode cX2_bringBack 27 = .ok (.invokevirtual 23, 3) := by decide +kernel
theorem dX2_bringBack_30 : decode cX2_bringBack 30 = .ok (.return_, 1) := by decide +kernel
theorem dX3_isFinite_0 : decode cX3_isFinite 0 = .ok (.dload_n 0, 1) := by decide +kernel
theorem dX3_isFinite_1 : decode cX3_isFinite 1 = .ok (.ldc2_w 7, 3) := by decide +kernel
theorem dX3_isFinite_4 : decode cX3_isFinite 4 = .ok (.dcmp .l, 1) := by decide +kernel
theorem dX3_isFinite_5 : decode cX3_isFinite 5 = .ok (.ifCond .lt 15, 3) := by decide +kernel
theorem dX3_isFinite_8 : decode cX3_isFinite 8 = .ok (.dload_n 0, 1) := by decide +kernel
theorem dX3_isFinite_9 : decode cX3_isFinite 9 = .ok (.ldc2_w 9, 3) := by decide +kernel
theorem dX3_isFinite_12 : decode cX3_isFinite 12 = .ok (.dcmp .g, 1) := by decide +kernel
theorem dX3_isFinite_13 : decode cX3_isFinite 13 = .ok (.ifCond .gt 7, 3) := by decide +kernel
theorem dX3_isFinite_16 : decode cX3_isFinite 16 = .ok (.iconst 1, 1) := by decide +kernel
theorem dX3_isFinite_17 : decode cX3_isFinite 17 = .ok (.goto 4, 3) := by decide +kernel
theorem dX3_isFinite_20 : decode cX3_isFinite 20 = .ok (.iconst 0, 1) := by decide +kernel
theorem dX3_isFinite_21 : decode cX3_isFinite 21 = .ok (.ireturn, 1) := by decide +kernel
theorem dX3_fitsRow_0 : decode cX3_fitsRow 0 = .ok (.dload_n 0, 1) := by decide +kernel
theorem dX3_fitsRow_1 : decode cX3_fitsRow 1 = .ok (.ldc2_w 11, 3) := by decide +kernel
theorem dX3_fitsRow_4 : decode cX3_fitsRow 4 = .ok (.dcmp .l, 1) := by decide +kernel
theorem dX3_fitsRow_5 : decode cX3_fitsRow 5 = .ok (.ifCond .lt 15, 3) := by decide +kernel
theorem dX3_fitsRow_8 : decode cX3_fitsRow 8 = .ok (.dload_n 0, 1) := by decide +kernel
theorem dX3_fitsRow_9 : decode cX3_fitsRow 9 = .ok (.ldc2_w 13, 3) := by decide +kernel
theorem dX3_fitsRow_12 : decode cX3_fitsRow 12 = .ok (.dcmp .g, 1) := by decide +kernel
theorem dX3_fitsRow_13 : decode cX3_fitsRow 13 = .ok (.ifCond .gt 7, 3) := by decide +kernel
theorem dX3_fitsRow_16 : decode cX3_fitsRow 16 = .ok (.iconst 1, 1) := by decide +kernel
theorem dX3_fitsRow_17 : decode cX3_fitsRow 17 = .ok (.goto 4, 3) := by decide +kernel
theorem dX3_fitsRow_20 : decode cX3_fitsRow 20 = .ok (.iconst 0, 1) := by decide +kernel
theorem dX3_fitsRow_21 : decode cX3_fitsRow 21 = .ok (.ireturn, 1) := by decide +kernel
theorem dX3_sizeOf_0 : decode cX3_sizeOf 0 = .ok (.dload_n 0, 1) := by decide +kernel
theorem dX3_sizeOf_1 : decode cX3_sizeOf 1 = .ok (.dconst 0, 1) := by decide +kernel
theorem dX3_sizeOf_2 : decode cX3_sizeOf 2 = .ok (.dcmp .g, 1) := by decide +kernel
theorem dX3_sizeOf_3 : decode cX3_sizeOf 3 = .ok (.ifCond .gt 9, 3) := by decide +kernel
theorem dX3_sizeOf_6 : decode cX3_sizeOf 6 = .ok (.dconst 0, 1) := by decide +kernel
theorem dX3_sizeOf_7 : decode cX3_sizeOf 7 = .ok (.dload_n 0, 1) := by decide +kernel
theorem dX3_sizeOf_8 : decode cX3_sizeOf 8 = .ok (.dsub, 1) := by decide +kernel
theorem dX3_sizeOf_9 : decode cX3_sizeOf 9 = .ok (.goto 4, 3) := by decide +kernel
theorem dX3_sizeOf_12 : decode cX3_sizeOf 12 = .ok (.dload_n 0, 1) := by decide +kernel
theorem dX3_sizeOf_13 : decode cX3_sizeOf 13 = .ok (.dreturn, 1) := by decide +kernel
theorem dX3_sameBits_0 : decode cX3_sameBits 0 = .ok (.dload_n 0, 1) := by decide +kernel
theorem dX3_sameBits_1 : decode cX3_sameBits 1 = .ok (.dload_n 2, 1) := by decide +kernel
theorem dX3_sameBits_2 : decode cX3_sameBits 2 = .ok (.dcmp .l, 1) := by decide +kernel
theorem dX3_sameBits_3 : decode cX3_sameBits 3 = .ok (.ifCond .eq 5, 3) := by decide +kernel
theorem dX3_sameBits_6 : decode cX3_sameBits 6 = .ok (.iconst 0, 1) := by decide +kernel
theorem dX3_sameBits_7 : decode cX3_sameBits 7 = .ok (.ireturn, 1) := by decide +kernel
theorem dX3_sameBits_8 : decode cX3_sameBits 8 = .ok (.dload_n 0, 1) := by decide +kernel
theorem dX3_sameBits_9 : decode cX3_sameBits 9 = .ok (.dconst 0, 1) := by decide +kernel
theorem dX3_sameBits_10 : decode cX3_sameBits 10 = .ok (.dcmp .l, 1) := by decide +kernel
theorem dX3_sameBits_11 : decode cX3_sameBits 11 = .ok (.ifCond .ne 32, 3) := by decide +kernel
theorem dX3_sameBits_14 : decode cX3_sameBits 14 = .ok (.dconst 1, 1) := by decide +kernel
theorem dX3_sameBits_15 : decode cX3_sameBits 15 = .ok (.dload_n 0, 1) := by decide +kernel
theorem dX3_sameBits_16 : decode cX3_sameBits 16 = .ok (.ddiv, 1) := by decide +kernel
theorem dX3_sameBits_17 : decode cX3_sameBits 17 = .ok (.dconst 0, 1) := by decide +kernel
theorem dX3_sameBits_18 : decode cX3_sameBits 18 = .ok (.dcmp .g, 1) := by decide +kernel
theorem dX3_sameBits_19 : decode cX3_sameBits 19 = .ok (.ifCond .ge 7, 3) := by decide +kernel
theorem dX3_sameBits_22 : decode cX3_sameBits 22 = .ok (.iconst 1, 1) := by decide +kernel
theorem dX3_sameBits_23 : decode cX3_sameBits 23 = .ok (.goto 4, 3) := by decide +kernel
theorem dX3_sameBits_26 : decode cX3_sameBits 26 = .ok (.iconst 0, 1) := by decide +kernel
theorem dX3_sameBits_27 : decode cX3_sameBits 27 = .ok (.dconst 1, 1) := by decide +kernel
theorem dX3_sameBits_28 : decode cX3_sameBits 28 = .ok (.dload_n 2, 1) := by decide +kernel
theorem dX3_sameBits_29 : decode cX3_sameBits 29 = .ok (.ddiv, 1) := by decide +kernel
theorem dX3_sameBits_30 : decode cX3_sameBits 30 = .ok (.dconst 0, 1) := by decide +kernel
theorem dX3_sameBits_31 : decode cX3_sameBits 31 = .ok (.dcmp .g, 1) := by decide +kernel
theorem dX3_sameBits_32 : decode cX3_sameBits 32 = .ok (.ifCond .ge 7, 3) := by decide +kernel
theorem dX3_sameBits_35 : decode cX3_sameBits 35 = .ok (.iconst 1, 1) := by decide +kernel
theorem dX3_sameBits_36 : decode cX3_sameBits 36 = .ok (.goto 4, 3) := by decide +kernel
theorem dX3_sameBits_39 : decode cX3_sameBits 39 = .ok (.iconst 0, 1) := by decide +kernel
theorem dX3_sameBits_40 : decode cX3_sameBits 40 = .ok (.if_icmp .ne 7, 3) := by decide +kernel
theorem dX3_sameBits_43 : decode cX3_sameBits 43 = .ok (.iconst 1, 1) := by decide +kernel
theorem dX3_sameBits_44 : decode cX3_sameBits 44 = .ok (.goto 4, 3) := by decide +kernel
theorem dX3_sameBits_47 : decode cX3_sameBits 47 = .ok (.iconst 0, 1) := by decide +kernel
theorem dX3_sameBits_48 : decode cX3_sameBits 48 = .ok (.ireturn, 1) := by decide +kernel
theorem dX4_init_0 : decode cX4_init 0 = .ok (.aload_n 0, 1) := by decide +kernel
theorem dX4_init_1 : decode cX4_init 1 = .ok (.invokespecial 3, 3) := by decide +kernel
theorem dX4_init_4 : decode cX4_init 4 = .ok (.aload_n 0, 1) := by decide +kernel
theorem dX4_init_5 : decode cX4_init 5 = .ok (.bipush 16, 2) := by decide +kernel
theorem dX4_init_7 : decode cX4_init 7 = .ok (.newarray .double, 2) := by decide +kernel
theorem dX4_init_9 : decode cX4_init 9 = .ok (.putfield 9, 3) := by decide +kernel
theorem dX4_init_12 : decode cX4_init 12 = .ok (.aload_n 0, 1) := by decide +kernel
theorem dX4_init_13 : decode cX4_init 13 = .ok (.iconst 0, 1) := by decide +kernel
theorem dX4_init_14 : decode cX4_init 14 = .ok (.putfield 15, 3) := by decide +kernel
theorem dX4_init_17 : decode cX4_init 17 = .ok (.return_, 1) := by decide +kernel
theorem dX4_hasPlace_0 : decode cX4_hasPlace 0 = .ok (.iload_n 1, 1) := by decide +kernel
theorem dX4_hasPlace_1 : decode cX4_hasPlace 1 = .ok (.ifCond .lt 15, 3) := by decide +kernel
theorem dX4_hasPlace_4 : decode cX4_hasPlace 4 = .ok (.iload_n 1, 1) := by decide +kernel
theorem dX4_hasPlace_5 : decode cX4_hasPlace 5 = .ok (.aload_n 0, 1) := by decide +kernel
theorem dX4_hasPlace_6 : decode cX4_hasPlace 6 = .ok (.getfield 15, 3) := by decide +kernel
theorem dX4_hasPlace_9 : decode cX4_hasPlace 9 = .ok (.if_icmp .ge 7, 3) := by decide +kernel
theorem dX4_hasPlace_12 : decode cX4_hasPlace 12 = .ok (.iconst 1, 1) := by decide +kernel
theorem dX4_hasPlace_13 : decode cX4_hasPlace 13 = .ok (.goto 4, 3) := by decide +kernel
theorem dX4_hasPlace_16 : decode cX4_hasPlace 16 = .ok (.iconst 0, 1) := by decide +kernel
theorem dX4_hasPlace_17 : decode cX4_hasPlace 17 = .ok (.ireturn, 1) := by decide +kernel
theorem dX4_append_0 : decode cX4_append 0 = .ok (.aload_n 0, 1) := by decide +kernel
theorem dX4_append_1 : decode cX4_append 1 = .ok (.getfield 15, 3) := by decide +kernel
theorem dX4_append_4 : decode cX4_append 4 = .ok (.bipush 16, 2) := by decide +kernel
theorem dX4_append_6 : decode cX4_append 6 = .ok (.if_icmp .ge 23, 3) := by decide +kernel
theorem dX4_append_9 : decode cX4_append 9 = .ok (.aload_n 0, 1) := by decide +kernel
theorem dX4_append_10 : decode cX4_append 10 = .ok (.getfield 9, 3) := by decide +kernel
theorem dX4_append_13 : decode cX4_append 13 = .ok (.aload_n 0, 1) := by decide +kernel
theorem dX4_append_14 : decode cX4_append 14 = .ok (.getfield 15, 3) := by decide +kernel
theorem dX4_append_17 : decode cX4_append 17 = .ok (.dload_n 1, 1) := by decide +kernel
theorem dX4_append_18 : decode cX4_append 18 = .ok (.dastore, 1) := by decide +kernel
theorem dX4_append_19 : decode cX4_append 19 = .ok (.aload_n 0, 1) := by decide +kernel
theorem dX4_append_20 : decode cX4_append 20 = .ok (.dup, 1) := by decide +kernel
theorem dX4_append_21 : decode cX4_append 21 = .ok (.getfield 15, 3) := by decide +kernel
theorem dX4_append_24 : decode cX4_append 24 = .ok (.iconst 1, 1) := by decide +kernel
theorem dX4_append_25 : decode cX4_append 25 = .ok (.iadd, 1) := by decide +kernel
theorem dX4_append_26 : decode cX4_append 26 = .ok (.putfield 15, 3) := by decide +kernel
theorem dX4_append_29 : decode cX4_append 29 = .ok (.return_, 1) := by decide +kernel
theorem dX4_copyFrom_0 : decode cX4_copyFrom 0 = .ok (.aload_n 1, 1) := by decide +kernel
theorem dX4_copyFrom_1 : decode cX4_copyFrom 1 = .ok (.getfield 9, 3) := by decide +kernel
theorem dX4_copyFrom_4 : decode cX4_copyFrom 4 = .ok (.iconst 0, 1) := by decide +kernel
theorem dX4_copyFrom_5 : decode cX4_copyFrom 5 = .ok (.aload_n 0, 1) := by decide +kernel
theorem dX4_copyFrom_6 : decode cX4_copyFrom 6 = .ok (.getfield 9, 3) := by decide +kernel
theorem dX4_copyFrom_9 : decode cX4_copyFrom 9 = .ok (.iconst 0, 1) := by decide +kernel
theorem dX4_copyFrom_10 : decode cX4_copyFrom 10 = .ok (.bipush 16, 2) := by decide +kernel
theorem dX4_copyFrom_12 : decode cX4_copyFrom 12 = .ok (.invokestatic 19, 3) := by decide +kernel
theorem dX4_copyFrom_15 : decode cX4_copyFrom 15 = .ok (.aload_n 0, 1) := by decide +kernel
theorem dX4_copyFrom_16 : decode cX4_copyFrom 16 = .ok (.aload_n 1, 1) := by decide +kernel
theorem dX4_copyFrom_17 : decode cX4_copyFrom 17 = .ok (.getfield 15, 3) := by decide +kernel
theorem dX4_copyFrom_20 : decode cX4_copyFrom 20 = .ok (.putfield 15, 3) := by decide +kernel
theorem dX4_copyFrom_23 : decode cX4_copyFrom 23 = .ok (.return_, 1) := by decide +kernel
set_option maxRecDepth 20000 in
theorem ggX5_init_X4_init : GoodIn wsX5_init wsX4_init := goodIn_r _ [16, 17, 2, 3, 9, 18, 19, 20, 21] (by decide +kernel) (by decide +kernel)
set_option maxRecDepth 20000 in
theorem gX5_init_X4_init_n9 : GoodIn wsX5_init (wsX4_init) := ggX5_init_X4_init
theorem dX5_init_0 : decode cX5_init 0 = .ok (.aload_n 0, 1) := by decide +kernel
theorem dX5_init_1 : decode cX5_init 1 = .ok (.invokespecial 1, 3) := by decide +kernel
theorem dX5_init_4 : decode cX5_init 4 = .ok (.aload_n 0, 1) := by decide +kernel
theorem dX5_init_5 : decode cX5_init 5 = .ok (.new 7, 3) := by decide +kernel
theorem dX5_init_8 : decode cX5_init 8 = .ok (.dup, 1) := by decide +kernel
theorem dX5_init_9 : decode cX5_init 9 = .ok (.invokespecial 9, 3) := by decide +kernel
theorem dX5_init_12 : decode cX5_init 12 = .ok (.putfield 10, 3) := by decide +kernel
theorem dX5_init_15 : decode cX5_init 15 = .ok (.aload_n 0, 1) := by decide +kernel
theorem dX5_init_16 : decode cX5_init 16 = .ok (.new 7, 3) := by decide +kernel
theorem dX5_init_19 : decode cX5_init 19 = .ok (.dup, 1) := by decide +kernel
theorem dX5_init_20 : decode cX5_init 20 = .ok (.invokespecial 9, 3) := by decide +kernel
theorem dX5_init_23 : decode cX5_init 23 = .ok (.putfield 16, 3) := by decide +kernel
theorem dX5_init_26 : decode cX5_init 26 = .ok (.aload_n 0, 1) := by decide +kernel
theorem dX5_init_27 : decode cX5_init 27 = .ok (.iconst 3, 1) := by decide +kernel
theorem dX5_init_28 : decode cX5_init 28 = .ok (.newarray .double, 2) := by decide +kernel
theorem dX5_init_30 : decode cX5_init 30 = .ok (.putfield 19, 3) := by decide +kernel
theorem dX5_init_33 : decode cX5_init 33 = .ok (.aload_n 0, 1) := by decide +kernel
theorem dX5_init_34 : decode cX5_init 34 = .ok (.iconst 0, 1) := by decide +kernel
theorem dX5_init_35 : decode cX5_init 35 = .ok (.putfield 23, 3) := by decide +kernel
theorem dX5_init_38 : decode cX5_init 38 = .ok (.aload_n 0, 1) := by decide +kernel
theorem dX5_init_39 : decode cX5_init 39 = .ok (.getfield 19, 3) := by decide +kernel
theorem dX5_init_42 : decode cX5_init 42 = .ok (.iconst 0, 1) := by decide +kernel
theorem dX5_init_43 : decode cX5_init 43 = .ok (.ldc2_w 27, 3) := by decide +kernel
theorem dX5_init_46 : decode cX5_init 46 = .ok (.dastore, 1) := by decide +kernel
theorem dX5_init_47 : decode cX5_init 47 = .ok (.aload_n 0, 1) := by decide +kernel
theorem dX5_init_48 : decode cX5_init 48 = .ok (.getfield 19, 3) := by decide +kernel
theorem dX5_init_51 : decode cX5_init 51 = .ok (.iconst 1, 1) := by decide +kernel
theorem dX5_init_52 : decode cX5_init 52 = .ok (.ldc2_w 29, 3) := by decide +kernel
theorem dX5_init_55 : decode cX5_init 55 = .ok (.dastore, 1) := by decide +kernel
theorem dX5_init_56 : decode cX5_init 56 = .ok (.aload_n 0, 1) := by decide +kernel
theorem dX5_init_57 : decode cX5_init 57 = .ok (.getfield 19, 3) := by decide +kernel
theorem dX5_init_60 : decode cX5_init 60 = .ok (.iconst 2, 1) := by decide +kernel
theorem dX5_init_61 : decode cX5_init 61 = .ok (.ldc2_w 31, 3) := by decide +kernel
theorem dX5_init_64 : decode cX5_init 64 = .ok (.dastore, 1) := by decide +kernel
theorem dX5_init_65 : decode cX5_init 65 = .ok (.return_, 1) := by decide +kernel
theorem dX5_isSetting_0 : decode cX5_isSetting 0 = .ok (.iload_n 0, 1) := by decide +kernel
theorem dX5_isSetting_1 : decode cX5_isSetting 1 = .ok (.ifCond .lt 12, 3) := by decide +kernel
theorem dX5_isSetting_4 : decode cX5_isSetting 4 = .ok (.iload_n 0, 1) := by decide +kernel
theorem dX5_isSetting_5 : decode cX5_isSetting 5 = .ok (.iconst 3, 1) := by decide +kernel
theorem dX5_isSetting_6 : decode cX5_isSetting 6 = .ok (.if_icmp .ge 7, 3) := by decide +kernel
theorem dX5_isSetting_9 : decode cX5_isSetting 9 = .ok (.iconst 1, 1) := by decide +kernel
theorem dX5_isSetting_10 : decode cX5_isSetting 10 = .ok (.goto 4, 3) := by decide +kernel
theorem dX5_isSetting_13 : decode cX5_isSetting 13 = .ok (.iconst 0, 1) := by decide +kernel
theorem dX5_isSetting_14 : decode cX5_isSetting 14 = .ok (.ireturn, 1) := by decide +kernel
theorem dX5_inRange_0 : decode cX5_inRange 0 = .ok (.iload_n 0, 1) := by decide +kernel
theorem dX5_inRange_1 : decode cX5_inRange 1 = .ok (.lookupswitch 67 #[(0, 27), (1, 45)], 27) := by decide +kernel
theorem dX5_inRange_28 : decode cX5_inRange 28 = .ok (.dload_n 1, 1) := by decide +kernel
theorem dX5_inRange_29 : decode cX5_inRange 29 = .ok (.dconst 0, 1) := by decide +kernel
theorem dX5_inRange_30 : decode cX5_inRange 30 = .ok (.dcmp .l, 1) := by decide +kernel
theorem dX5_inRange_31 : decode cX5_inRange 31 = .ok (.ifCond .lt 13, 3) := by decide +kernel
theorem dX5_inRange_34 : decode cX5_inRange 34 = .ok (.dload_n 1, 1) := by decide +kernel
theorem dX5_inRange_35 : decode cX5_inRange 35 = .ok (.dconst 1, 1) := by decide +kernel
theorem dX5_inRange_36 : decode cX5_inRange 36 = .ok (.dcmp .g, 1) := by decide +kernel
theorem dX5_inRange_37 : decode cX5_inRange 37 = .ok (.ifCond .gt 7, 3) := by decide +kernel
theorem dX5_inRange_40 : decode cX5_inRange 40 = .ok (.iconst 1, 1) := by decide +kernel
theorem dX5_inRange_41 : decode cX5_inRange 41 = .ok (.goto 4, 3) := by decide +kernel
theorem dX5_inRange_44 : decode cX5_inRange 44 = .ok (.iconst 0, 1) := by decide +kernel
theorem dX5_inRange_45 : decode cX5_inRange 45 = .ok (.ireturn, 1) := by decide +kernel
theorem dX5_inRange_46 : decode cX5_inRange 46 = .ok (.dload_n 1, 1) := by decide +kernel
theorem dX5_inRange_47 : decode cX5_inRange 47 = .ok (.ldc2_w 33, 3) := by decide +kernel
theorem dX5_inRange_50 : decode cX5_inRange 50 = .ok (.dcmp .l, 1) := by decide +kernel
theorem dX5_inRange_51 : decode cX5_inRange 51 = .ok (.ifCond .lt 15, 3) := by decide +kernel
theorem dX5_inRange_54 : decode cX5_inRange 54 = .ok (.dload_n 1, 1) := by decide +kernel
theorem dX5_inRange_55 : decode cX5_inRange 55 = .ok (.ldc2_w 35, 3) := by decide +kernel
theorem dX5_inRange_58 : decode cX5_inRange 58 = .ok (.dcmp .g, 1) := by decide +kernel
theorem dX5_inRange_59 : decode cX5_inRange 59 = .ok (.ifCond .gt 7, 3) := by decide +kernel
theorem dX5_inRange_62 : decode cX5_inRange 62 = .ok (.iconst 1, 1) := by decide +kernel
theorem dX5_inRange_63 : decode cX5_inRange 63 = .ok (.goto 4, 3) := by decide +kernel
theorem dX5_inRange_66 : decode cX5_inRange 66 = .ok (.iconst 0, 1) := by decide +kernel
theorem dX5_inRange_67 : decode cX5_inRange 67 = .ok (.ireturn, 1) := by decide +kernel
theorem dX5_inRange_68 : decode cX5_inRange 68 = .ok (.dload_n 1, 1) := by decide +kernel
theorem dX5_inRange_69 : decode cX5_inRange 69 = .ok (.ldc2_w 37, 3) := by decide +kernel
theorem dX5_inRange_72 : decode cX5_inRange 72 = .ok (.dcmp .l, 1) := by decide +kernel
theorem dX5_inRange_73 : decode cX5_inRange 73 = .ok (.ifCond .lt 15, 3) := by decide +kernel
theorem dX5_inRange_76 : decode cX5_inRange 76 = .ok (.dload_n 1, 1) := by decide +kernel
theorem dX5_inRange_77 : decode cX5_inRange 77 = .ok (.ldc2_w 39, 3) := by decide +kernel
theorem dX5_inRange_80 : decode cX5_inRange 80 = .ok (.dcmp .g, 1) := by decide +kernel
theorem dX5_inRange_81 : decode cX5_inRange 81 = .ok (.ifCond .gt 7, 3) := by decide +kernel
theorem dX5_inRange_84 : decode cX5_inRange 84 = .ok (.iconst 1, 1) := by decide +kernel
theorem dX5_inRange_85 : decode cX5_inRange 85 = .ok (.goto 4, 3) := by decide +kernel
theorem dX5_inRange_88 : decode cX5_inRange 88 = .ok (.iconst 0, 1) := by decide +kernel
theorem dX5_inRange_89 : decode cX5_inRange 89 = .ok (.ireturn, 1) := by decide +kernel
theorem dX5_rowAt_0 : decode cX5_rowAt 0 = .ok (.iload_n 1, 1) := by decide +kernel
theorem dX5_rowAt_1 : decode cX5_rowAt 1 = .ok (.ifCond .ne 10, 3) := by decide +kernel
theorem dX5_rowAt_4 : decode cX5_rowAt 4 = .ok (.aload_n 0, 1) := by decide +kernel
theorem dX5_rowAt_5 : decode cX5_rowAt 5 = .ok (.getfield 10, 3) := by decide +kernel
theorem dX5_rowAt_8 : decode cX5_rowAt 8 = .ok (.goto 7, 3) := by decide +kernel
theorem dX5_rowAt_11 : decode cX5_rowAt 11 = .ok (.aload_n 0, 1) := by decide +kernel
theorem dX5_rowAt_12 : decode cX5_rowAt 12 = .ok (.getfield 16, 3) := by decide +kernel
theorem dX5_rowAt_15 : decode cX5_rowAt 15 = .ok (.areturn, 1) := by decide +kernel
theorem dX5_manyNumbers_0 : decode cX5_manyNumbers 0 = .ok (.aload_n 0, 1) := by decide +kernel
theorem dX5_manyNumbers_1 : decode cX5_manyNumbers 1 = .ok (.getfield 10, 3) := by decide +kernel
theorem dX5_manyNumbers_4 : decode cX5_manyNumbers 4 = .ok (.getfield 41, 3) := by decide +kernel
theorem dX5_manyNumbers_7 : decode cX5_manyNumbers 7 = .ok (.aload_n 0, 1) := by decide +kernel
theorem dX5_manyNumbers_8 : decode cX5_manyNumbers 8 = .ok (.getfield 16, 3) := by decide +kernel
theorem dX5_manyNumbers_11 : decode cX5_manyNumbers 11 = .ok (.getfield 41, 3) := by decide +kernel
theorem dX5_manyNumbers_14 : decode cX5_manyNumbers 14 = .ok (.iadd, 1) := by decide +kernel
theorem dX5_manyNumbers_15 : decode cX5_manyNumbers 15 = .ok (.ireturn, 1) := by decide +kernel
set_option maxRecDepth 20000 in
theorem ggX5_copyFrom_X4_copyFrom : GoodIn wsX5_copyFrom wsX4_copyFrom := goodIn_r _ [13, 14, 15, 5, 6, 7, 16, 21, 22] (by decide +kernel) (by decide +kernel)
set_option maxRecDepth 20000 in
theorem gX5_copyFrom_X4_copyFrom : GoodIn wsX5_copyFrom (wsV RX5 45 RX4 yX4_copyFrom wsX4_copyFrom) := goodIn_app (goodIn_of _ (by decide +kernel)) ggX5_copyFrom_X4_copyFrom
theorem dX5_copyFrom_0 : decode cX5_copyFrom 0 = .ok (.aload_n 0, 1) := by decide +kernel
theorem dX5_copyFrom_1 : decode cX5_copyFrom 1 = .ok (.getfield 10, 3) := by decide +kernel
theorem dX5_copyFrom_4 : decode cX5_copyFrom 4 = .ok (.aload_n 1, 1) := by decide +kernel
theorem dX5_copyFrom_5 : decode cX5_copyFrom 5 = .ok (.getfield 10, 3) := by decide +kernel
theorem dX5_copyFrom_8 : decode cX5_copyFrom 8 = .ok (.invokevirtual 45, 3) := by decide +kernel
theorem dX5_copyFrom_11 : decode cX5_copyFrom 11 = .ok (.aload_n 0, 1) := by decide +kernel
theorem dX5_copyFrom_12 : decode cX5_copyFrom 12 = .ok (.getfield 16, 3) := by decide +kernel
theorem dX5_copyFrom_15 : decode cX5_copyFrom 15 = .ok (.aload_n 1, 1) := by decide +kernel
theorem dX5_copyFrom_16 : decode cX5_copyFrom 16 = .ok (.getfield 16, 3) := by decide +kernel
theorem dX5_copyFrom_19 : decode cX5_copyFrom 19 = .ok (.invokevirtual 45, 3) := by decide +kernel
theorem dX5_copyFrom_22 : decode cX5_copyFrom 22 = .ok (.aload_n 1, 1) := by decide +kernel
theorem dX5_copyFrom_23 : decode cX5_copyFrom 23 = .ok (.getfield 19, 3) := by decide +kernel
theorem dX5_copyFrom_26 : decode cX5_copyFrom 26 = .ok (.iconst 0, 1) := by decide +kernel
theorem dX5_copyFrom_27 : decode cX5_copyFrom 27 = .ok (.aload_n 0, 1) := by decide +kernel
theorem dX5_copyFrom_28 : decode cX5_copyFrom 28 = .ok (.getfield 19, 3) := by decide +kernel
theorem dX5_copyFrom_31 : decode cX5_copyFrom 31 = .ok (.iconst 0, 1) := by decide +kernel
theorem dX5_copyFrom_32 : decode cX5_copyFrom 32 = .ok (.iconst 3, 1) := by decide +kernel
theorem dX5_copyFrom_33 : decode cX5_copyFrom 33 = .ok (.invokestatic 49, 3) := by decide +kernel
theorem dX5_copyFrom_36 : decode cX5_copyFrom 36 = .ok (.aload_n 0, 1) := by decide +kernel
theorem dX5_copyFrom_37 : decode cX5_copyFrom 37 = .ok (.aload_n 1, 1) := by decide +kernel
theorem dX5_copyFrom_38 : decode cX5_copyFrom 38 = .ok (.getfield 23, 3) := by decide +kernel
theorem dX5_copyFrom_41 : decode cX5_copyFrom 41 = .ok (.putfield 23, 3) := by decide +kernel
theorem dX5_copyFrom_44 : decode cX5_copyFrom 44 = .ok (.return_, 1) := by decide +kernel
set_option maxRecDepth 20000 in
theorem ggX6_fillSeries_X6_termOf : GoodIn wsX6_fillSeries wsX6_termOf := goodIn_r _ [5, 6] (by decide +kernel) (by decide +kernel)
set_option maxRecDepth 20000 in
theorem gX6_fillSeries_X6_termOf : GoodIn wsX6_fillSeries (va_wsS RX6 13 yX6_termOf wsX6_termOf) := goodIn_app (goodIn_of _ (by decide +kernel)) ggX6_fillSeries_X6_termOf
set_option maxRecDepth 20000 in
theorem ggX6_fillSeries_X4_append : GoodIn wsX6_fillSeries wsX4_append := goodIn_r _ [11, 12, 13, 14, 15] (by decide +kernel) (by decide +kernel)
set_option maxRecDepth 20000 in
theorem gX6_fillSeries_X4_append : GoodIn wsX6_fillSeries (wsV RX6 19 RX4 yX4_append wsX4_append) := goodIn_app (goodIn_of _ (by decide +kernel)) ggX6_fillSeries_X4_append
theorem dX6_fillSeries_0 : decode cX6_fillSeries 0 = .ok (.aload_n 0, 1) := by decide +kernel
theorem dX6_fillSeries_1 : decode cX6_fillSeries 1 = .ok (.iconst 0, 1) := by decide +kernel
theorem dX6_fillSeries_2 : decode cX6_fillSeries 2 = .ok (.putfield 7, 3) := by decide +kernel
theorem dX6_fillSeries_5 : decode cX6_fillSeries 5 = .ok (.dconst 0, 1) := by decide +kernel
theorem dX6_fillSeries_6 : decode cX6_fillSeries 6 = .ok (.dstore 5, 2) := by decide +kernel
theorem dX6_fillSeries_8 : decode cX6_fillSeries 8 = .ok (.dconst 1, 1) := by decide +kernel
theorem dX6_fillSeries_9 : decode cX6_fillSeries 9 = .ok (.dstore 7, 2) := by decide +kernel
theorem dX6_fillSeries_11 : decode cX6_fillSeries 11 = .ok (.iconst 1, 1) := by decide +kernel
theorem dX6_fillSeries_12 : decode cX6_fillSeries 12 = .ok (.istore 9, 2) := by decide +kernel
theorem dX6_fillSeries_14 : decode cX6_fillSeries 14 = .ok (.iload 9, 2) := by decide +kernel
theorem dX6_fillSeries_16 : decode cX6_fillSeries 16 = .ok (.iload_n 2, 1) := by decide +kernel
theorem dX6_fillSeries_17 : decode cX6_fillSeries 17 = .ok (.if_icmp .gt 75, 3) := by decide +kernel
theorem dX6_fillSeries_20 : decode cX6_fillSeries 20 = .ok (.iload_n 1, 1) := by decide +kernel
theorem dX6_fillSeries_21 : decode cX6_fillSeries 21 = .ok (.iload 9, 2) := by decide +kernel
theorem dX6_fillSeries_23 : decode cX6_fillSeries 23 = .ok (.dload 7, 2) := by decide +kernel
theorem dX6_fillSeries_25 : decode cX6_fillSeries 25 = .ok (.invokestatic 13, 3) := by decide +kernel
theorem dX6_fillSeries_28 : decode cX6_fillSeries 28 = .ok (.dstore 10, 2) := by decide +kernel
theorem dX6_fillSeries_30 : decode cX6_fillSeries 30 = .ok (.iload_n 1, 1) := by decide +kernel
theorem dX6_fillSeries_31 : decode cX6_fillSeries 31 = .ok (.iconst 1, 1) := by decide +kernel
theorem dX6_fillSeries_32 : decode cX6_fillSeries 32 = .ok (.if_icmp .eq 8, 3) := by decide +kernel
theorem dX6_fillSeries_35 : decode cX6_fillSeries 35 = .ok (.iload_n 1, 1) := by decide +kernel
theorem dX6_fillSeries_36 : decode cX6_fillSeries 36 = .ok (.iconst 2, 1) := by decide +kernel
theorem dX6_fillSeries_37 : decode cX6_fillSeries 37 = .ok (.if_icmp .ne 14, 3) := by decide +kernel
theorem dX6_fillSeries_40 : decode cX6_fillSeries 40 = .ok (.iload 9, 2) := by decide +kernel
theorem dX6_fillSeries_42 : decode cX6_fillSeries 42 = .ok (.iconst 2, 1) := by decide +kernel
theorem dX6_fillSeries_43 : decode cX6_fillSeries 43 = .ok (.irem, 1) := by decide +kernel
theorem dX6_fillSeries_44 : decode cX6_fillSeries 44 = .ok (.ifCond .ne 7, 3) := by decide +kernel
theorem dX6_fillSeries_47 : decode cX6_fillSeries 47 = .ok (.iconst 1, 1) := by decide +kernel
theorem dX6_fillSeries_48 : decode cX6_fillSeries 48 = .ok (.goto 4, 3) := by decide +kernel
theorem dX6_fillSeries_51 : decode cX6_fillSeries 51 = .ok (.iconst 0, 1) := by decide +kernel
theorem dX6_fillSeries_52 : decode cX6_fillSeries 52 = .ok (.istore 12, 2) := by decide +kernel
theorem dX6_fillSeries_54 : decode cX6_fillSeries 54 = .ok (.iload 12, 2) := by decide +kernel
theorem dX6_fillSeries_56 : decode cX6_fillSeries 56 = .ok (.ifCond .eq 11, 3) := by decide +kernel
theorem dX6_fillSeries_59 : decode cX6_fillSeries 59 = .ok (.dload 5, 2) := by decide +kernel
theorem dX6_fillSeries_61 : decode cX6_fillSeries 61 = .ok (.dload 10, 2) := by decide +kernel
theorem dX6_fillSeries_63 : decode cX6_fillSeries 63 = .ok (.dsub, 1) := by decide +kernel
theorem dX6_fillSeries_64 : decode cX6_fillSeries 64 = .ok (.goto 8, 3) := by decide +kernel
theorem dX6_fillSeries_67 : decode cX6_fillSeries 67 = .ok (.dload 5, 2) := by decide +kernel
theorem dX6_fillSeries_69 : decode cX6_fillSeries 69 = .ok (.dload 10, 2) := by decide +kernel
theorem dX6_fillSeries_71 : decode cX6_fillSeries 71 = .ok (.dadd, 1) := by decide +kernel
theorem dX6_fillSeries_72 : decode cX6_fillSeries 72 = .ok (.dstore 5, 2) := by decide +kernel
theorem dX6_fillSeries_74 : decode cX6_fillSeries 74 = .ok (.aload_n 0, 1) := by decide +kernel
theorem dX6_fillSeries_75 : decode cX6_fillSeries 75 = .ok (.dload 5, 2) := by decide +kernel
theorem dX6_fillSeries_77 : decode cX6_fillSeries 77 = .ok (.invokevirtual 19, 3) := by decide +kernel
theorem dX6_fillSeries_80 : decode cX6_fillSeries 80 = .ok (.dload 7, 2) := by decide +kernel
theorem dX6_fillSeries_82 : decode cX6_fillSeries 82 = .ok (.dload_n 3, 1) := by decide +kernel
theorem dX6_fillSeries_83 : decode cX6_fillSeries 83 = .ok (.dmul, 1) := by decide +kernel
theorem dX6_fillSeries_84 : decode cX6_fillSeries 84 = .ok (.dstore 7, 2) := by decide +kernel
theorem dX6_fillSeries_86 : decode cX6_fillSeries 86 = .ok (.iinc 9 1, 3) := by decide +kernel
theorem dX6_fillSeries_89 : decode cX6_fillSeries 89 = .ok (.goto (-75), 3) := by decide +kernel
theorem dX6_fillSeries_92 : decode cX6_fillSeries 92 = .ok (.return_, 1) := by decide +kernel
theorem dX6_termOf_0 : decode cX6_termOf 0 = .ok (.iload_n 1, 1) := by decide +kernel
theorem dX6_termOf_1 : decode cX6_termOf 1 = .ok (.i2d, 1) := by decide +kernel
theorem dX6_termOf_2 : decode cX6_termOf 2 = .ok (.dstore 4, 2) := by decide +kernel
theorem dX6_termOf_4 : decode cX6_termOf 4 = .ok (.iload_n 0, 1) := by decide +kernel
theorem dX6_termOf_5 : decode cX6_termOf 5 = .ok (.tableswitch 57 0 3 #[31, 39, 44, 55], 31) := by decide +kernel
theorem dX6_termOf_36 : decode cX6_termOf 36 = .ok (.dconst 1, 1) := by decide +kernel
theorem dX6_termOf_37 : decode cX6_termOf 37 = .ok (.dload 4, 2) := by decide +kernel
theorem dX6_termOf_39 : decode cX6_termOf 39 = .ok (.dload 4, 2) := by decide +kernel
theorem dX6_termOf_41 : decode cX6_termOf 41 = .ok (.dmul, 1) := by decide +kernel
theorem dX6_termOf_42 : decode cX6_termOf 42 = .ok (.ddiv, 1) := by decide +kernel
theorem dX6_termOf_43 : decode cX6_termOf 43 = .ok (.dreturn, 1) := by decide +kernel
theorem dX6_termOf_44 : decode cX6_termOf 44 = .ok (.dconst 1, 1) := by decide +kernel
theorem dX6_termOf_45 : decode cX6_termOf 45 = .ok (.dload 4, 2) := by decide +kernel
theorem dX6_termOf_47 : decode cX6_termOf 47 = .ok (.ddiv, 1) := by decide +kernel
theorem dX6_termOf_48 : decode cX6_termOf 48 = .ok (.dreturn, 1) := by decide +kernel
theorem dX6_termOf_49 : decode cX6_termOf 49 = .ok (.dconst 1, 1) := by decide +kernel
theorem dX6_termOf_50 : decode cX6_termOf 50 = .ok (.ldc2_w 23, 3) := by decide +kernel
theorem dX6_termOf_53 : decode cX6_termOf 53 = .ok (.dload 4, 2) := by decide +kernel
theorem dX6_termOf_55 : decode cX6_termOf 55 = .ok (.dmul, 1) := by decide +kernel
theorem dX6_termOf_56 : decode cX6_termOf 56 = .ok (.dconst 1, 1) := by decide +kernel
theorem dX6_termOf_57 : decode cX6_termOf 57 = .ok (.dsub, 1) := by decide +kernel
theorem dX6_termOf_58 : decode cX6_termOf 58 = .ok (.ddiv, 1) := by decide +kernel
theorem dX6_termOf_59 : decode cX6_termOf 59 = .ok (.dreturn, 1) := by decide +kernel
theorem dX6_termOf_60 : decode cX6_termOf 60 = .ok (.dload_n 2, 1) := by decide +kernel
theorem dX6_termOf_61 : decode cX6_termOf 61 = .ok (.dreturn, 1) := by decide +kernel
theorem dX6_termOf_62 : decode cX6_termOf 62 = .ok (.dload_n 2, 1) := by decide +kernel
theorem dX6_termOf_63 : decode cX6_termOf 63 = .ok (.dload 4, 2) := by decide +kernel
theorem dX6_termOf_65 : decode cX6_termOf 65 = .ok (.ddiv, 1) := by decide +kernel
theorem dX6_termOf_66 : decode cX6_termOf 66 = .ok (.dreturn, 1) := by decide +kernel
set_option maxRecDepth 20000 in
theorem ggX6_sumUp_X3_fitsRow : GoodIn wsX6_sumUp wsX3_fitsRow := goodIn_r _ [6, 7, 8] (by decide +kernel) (by decide +kernel)
set_option maxRecDepth 20000 in
theorem gX6_sumUp_X3_fitsRow : GoodIn wsX6_sumUp (va_wsS RX6 29 yX3_fitsRow wsX3_fitsRow) := goodIn_app (goodIn_of _ (by decide +kernel)) ggX6_sumUp_X3_fitsRow
set_option maxRecDepth 20000 in
theorem ggX6_sumUp_X4_append : GoodIn wsX6_sumUp wsX4_append := goodIn_r _ [13, 14, 15, 16, 17] (by decide +kernel) (by decide +kernel)
set_option maxRecDepth 20000 in
theorem gX6_sumUp_X4_append : GoodIn wsX6_sumUp (wsV RX6 19 RX4 yX4_append wsX4_append) := goodIn_app (goodIn_of _ (by decide +kernel)) ggX6_sumUp_X4_append
theorem dX6_sumUp_0 : decode cX6_sumUp 0 = .ok (.aload_n 1, 1) := by decide +kernel
theorem dX6_sumUp_1 : decode cX6_sumUp 1 = .ok (.iconst 0, 1) := by decide +kernel
theorem dX6_sumUp_2 : decode cX6_sumUp 2 = .ok (.putfield 7, 3) := by decide +kernel
theorem dX6_sumUp_5 : decode cX6_sumUp 5 = .ok (.dconst 0, 1) := by decide +kernel
theorem dX6_sumUp_6 : decode cX6_sumUp 6 = .ok (.dstore_n 2, 1) := by decide +kernel
theorem dX6_sumUp_7 : decode cX6_sumUp 7 = .ok (.iconst 0, 1) := by decide +kernel
theorem dX6_sumUp_8 : decode cX6_sumUp 8 = .ok (.istore 4, 2) := by decide +kernel
theorem dX6_sumUp_10 : decode cX6_sumUp 10 = .ok (.iload 4, 2) := by decide +kernel
theorem dX6_sumUp_12 : decode cX6_sumUp 12 = .ok (.aload_n 0, 1) := by decide +kernel
theorem dX6_sumUp_13 : decode cX6_sumUp 13 = .ok (.getfield 7, 3) := by decide +kernel
theorem dX6_sumUp_16 : decode cX6_sumUp 16 = .ok (.if_icmp .ge 33, 3) := by decide +kernel
theorem dX6_sumUp_19 : decode cX6_sumUp 19 = .ok (.dload_n 2, 1) := by decide +kernel
theorem dX6_sumUp_20 : decode cX6_sumUp 20 = .ok (.aload_n 0, 1) := by decide +kernel
theorem dX6_sumUp_21 : decode cX6_sumUp 21 = .ok (.getfield 25, 3) := by decide +kernel
theorem dX6_sumUp_24 : decode cX6_sumUp 24 = .ok (.iload 4, 2) := by decide +kernel
theorem dX6_sumUp_26 : decode cX6_sumUp 26 = .ok (.daload, 1) := by decide +kernel
theorem dX6_sumUp_27 : decode cX6_sumUp 27 = .ok (.dadd, 1) := by decide +kernel
theorem dX6_sumUp_28 : decode cX6_sumUp 28 = .ok (.dstore_n 2, 1) := by decide +kernel
theorem dX6_sumUp_29 : decode cX6_sumUp 29 = .ok (.dload_n 2, 1) := by decide +kernel
theorem dX6_sumUp_30 : decode cX6_sumUp 30 = .ok (.invokestatic 29, 3) := by decide +kernel
theorem dX6_sumUp_33 : decode cX6_sumUp 33 = .ok (.ifCond .ne 5, 3) := by decide +kernel
theorem dX6_sumUp_36 : decode cX6_sumUp 36 = .ok (.iconst 0, 1) := by decide +kernel
theorem dX6_sumUp_37 : decode cX6_sumUp 37 = .ok (.ireturn, 1) := by decide +kernel
theorem dX6_sumUp_38 : decode cX6_sumUp 38 = .ok (.aload_n 1, 1) := by decide +kernel
theorem dX6_sumUp_39 : decode cX6_sumUp 39 = .ok (.dload_n 2, 1) := by decide +kernel
theorem dX6_sumUp_40 : decode cX6_sumUp 40 = .ok (.invokevirtual 19, 3) := by decide +kernel
theorem dX6_sumUp_43 : decode cX6_sumUp 43 = .ok (.iinc 4 1, 3) := by decide +kernel
theorem dX6_sumUp_46 : decode cX6_sumUp 46 = .ok (.goto (-36), 3) := by decide +kernel
theorem dX6_sumUp_49 : decode cX6_sumUp 49 = .ok (.iconst 1, 1) := by decide +kernel
theorem dX6_sumUp_50 : decode cX6_sumUp 50 = .ok (.ireturn, 1) := by decide +kernel
set_option maxRecDepth 20000 in
theorem ggX6_takeDifferences_X3_fitsRow : GoodIn wsX6_takeDifferences wsX3_fitsRow := goodIn_r _ [6, 7, 8] (by decide +kernel) (by decide +kernel)
set_option maxRecDepth 20000 in
theorem gX6_takeDifferences_X3_fitsRow : GoodIn wsX6_takeDifferences (va_wsS RX6 29 yX3_fitsRow wsX3_fitsRow) := goodIn_app (goodIn_of _ (by decide +kernel)) ggX6_takeDifferences_X3_fitsRow
set_option maxRecDepth 20000 in
theorem ggX6_takeDifferences_X4_append : GoodIn wsX6_takeDifferences wsX4_append := goodIn_r _ [13, 14, 15, 16, 17] (by decide +kernel) (by decide +kernel)
set_option maxRecDepth 20000 in
theorem gX6_takeDifferences_X4_append : GoodIn wsX6_takeDifferences (wsV RX6 19 RX4 yX4_append wsX4_append) := goodIn_app (goodIn_of _ (by decide +kernel)) ggX6_takeDifferences_X4_append
theorem dX6_takeDifferences_0 : decode cX6_takeDifferences 0 = .ok (.aload_n 1, 1) := by decide +kernel
theorem dX6_takeDifferences_1 : decode cX6_takeDifferences 1 = .ok (.iconst 0, 1) := by decide +kernel
theorem dX6_takeDifferences_2 : decode cX6_takeDifferences 2 = .ok (.putfield 7, 3) := by decide +kernel
theorem dX6_takeDifferences_5 : decode cX6_takeDifferences 5 = .ok (.iconst 0, 1) := by decide +kernel
theorem dX6_takeDifferences_6 : decode cX6_takeDifferences 6 = .ok (.istore_n 2, 1) := by decide +kernel
theorem dX6_takeDifferences_7 : decode cX6_takeDifferences 7 = .ok (.iload_n 2, 1) := by decide +kernel
theorem dX6_takeDifferences_8 : decode cX6_takeDifferences 8 = .ok (.aload_n 0, 1) := by decide +kernel
theorem dX6_takeDifferences_9 : decode cX6_takeDifferences 9 = .ok (.getfield 7, 3) := by decide +kernel
theorem dX6_takeDifferences_12 : decode cX6_takeDifferences 12 = .ok (.if_icmp .ge 45, 3) := by decide +kernel
theorem dX6_takeDifferences_15 : decode cX6_takeDifferences 15 = .ok (.aload_n 0, 1) := by decide +kernel
theorem dX6_takeDifferences_16 : decode cX6_takeDifferences 16 = .ok (.getfield 25, 3) := by decide +kernel
theorem dX6_takeDifferences_19 : decode cX6_takeDifferences 19 = .ok (.iload_n 2, 1) := by decide +kernel
theorem dX6_takeDifferences_20 : decode cX6_takeDifferences 20 = .ok (.daload, 1) := by decide +kernel
theorem dX6_takeDifferences_21 : decode cX6_takeDifferences 21 = .ok (.dstore_n 3, 1) := by decide +kernel
theorem dX6_takeDifferences_22 : decode cX6_takeDifferences 22 = .ok (.iload_n 2, 1) := by decide +kernel
theorem dX6_takeDifferences_23 : decode cX6_takeDifferences 23 = .ok (.ifCond .le 14, 3) := by decide +kernel
theorem dX6_takeDifferences_26 : decode cX6_takeDifferences 26 = .ok (.dload_n 3, 1) := by decide +kernel
theorem dX6_takeDifferences_27 : decode cX6_takeDifferences 27 = .ok (.aload_n 0, 1) := by decide +kernel
theorem dX6_takeDifferences_28 : decode cX6_takeDifferences 28 = .ok (.getfield 25, 3) := by decide +kernel
theorem dX6_takeDifferences_31 : decode cX6_takeDifferences 31 = .ok (.iload_n 2, 1) := by decide +kernel
theorem dX6_takeDifferences_32 : decode cX6_takeDifferences 32 = .ok (.iconst 1, 1) := by decide +kernel
theorem dX6_takeDifferences_33 : decode cX6_takeDifferences 33 = .ok (.isub, 1) := by decide +kernel
theorem dX6_takeDifferences_34 : decode cX6_takeDifferences 34 = .ok (.daload, 1) := by decide +kernel
theorem dX6_takeDifferences_35 : decode cX6_takeDifferences 35 = .ok (.dsub, 1) := by decide +kernel
theorem dX6_takeDifferences_36 : decode cX6_takeDifferences 36 = .ok (.dstore_n 3, 1) := by decide +kernel
theorem dX6_takeDifferences_37 : decode cX6_takeDifferences 37 = .ok (.dload_n 3, 1) := by decide +kernel
theorem dX6_takeDifferences_38 : decode cX6_takeDifferences 38 = .ok (.invokestatic 29, 3) := by decide +kernel
theorem dX6_takeDifferences_41 : decode cX6_takeDifferences 41 = .ok (.ifCond .ne 5, 3) := by decide +kernel
theorem dX6_takeDifferences_44 : decode cX6_takeDifferences 44 = .ok (.iconst 0, 1) := by decide +kernel
theorem dX6_takeDifferences_45 : decode cX6_takeDifferences 45 = .ok (.ireturn, 1) := by decide +kernel
theorem dX6_takeDifferences_46 : decode cX6_takeDifferences 46 = .ok (.aload_n 1, 1) := by decide +kernel
theorem dX6_takeDifferences_47 : decode cX6_takeDifferences 47 = .ok (.dload_n 3, 1) := by decide +kernel
theorem dX6_takeDifferences_48 : decode cX6_takeDifferences 48 = .ok (.invokevirtual 19, 3) := by decide +kernel
theorem dX6_takeDifferences_51 : decode cX6_takeDifferences 51 = .ok (.iinc 2 1, 3) := by decide +kernel
theorem dX6_takeDifferences_54 : decode cX6_takeDifferences 54 = .ok (.goto (-47), 3) := by decide +kernel
theorem dX6_takeDifferences_57 : decode cX6_takeDifferences 57 = .ok (.iconst 1, 1) := by decide +kernel
theorem dX6_takeDifferences_58 : decode cX6_takeDifferences 58 = .ok (.ireturn, 1) := by decide +kernel
theorem dX7_init_0 : decode cX7_init 0 = .ok (.aload_n 0, 1) := by decide +kernel
theorem dX7_init_1 : decode cX7_init 1 = .ok (.invokespecial 1, 3) := by decide +kernel
theorem dX7_init_4 : decode cX7_init 4 = .ok (.aload_n 0, 1) := by decide +kernel
theorem dX7_init_5 : decode cX7_init 5 = .ok (.bipush 60, 2) := by decide +kernel
theorem dX7_init_7 : decode cX7_init 7 = .ok (.newarray .char, 2) := by decide +kernel
theorem dX7_init_9 : decode cX7_init 9 = .ok (.putfield 9, 3) := by decide +kernel
theorem dX7_init_12 : decode cX7_init 12 = .ok (.aload_n 0, 1) := by decide +kernel
theorem dX7_init_13 : decode cX7_init 13 = .ok (.iconst 0, 1) := by decide +kernel
theorem dX7_init_14 : decode cX7_init 14 = .ok (.putfield 13, 3) := by decide +kernel
theorem dX7_init_17 : decode cX7_init 17 = .ok (.aload_n 0, 1) := by decide +kernel
theorem dX7_init_18 : decode cX7_init 18 = .ok (.iconst 0, 1) := by decide +kernel
theorem dX7_init_19 : decode cX7_init 19 = .ok (.putfield 17, 3) := by decide +kernel
theorem dX7_init_22 : decode cX7_init 22 = .ok (.aload_n 0, 1) := by decide +kernel
theorem dX7_init_23 : decode cX7_init 23 = .ok (.lconst 0, 1) := by decide +kernel
theorem dX7_init_24 : decode cX7_init 24 = .ok (.putfield 20, 3) := by decide +kernel
theorem dX7_init_27 : decode cX7_init 27 = .ok (.return_, 1) := by decide +kernel
theorem dX7_append_0 : decode cX7_append 0 = .ok (.aload_n 0, 1) := by decide +kernel
theorem dX7_append_1 : decode cX7_append 1 = .ok (.getfield 13, 3) := by decide +kernel
theorem dX7_append_4 : decode cX7_append 4 = .ok (.bipush 60, 2) := by decide +kernel
theorem dX7_append_6 : decode cX7_append 6 = .ok (.if_icmp .ge 23, 3) := by decide +kernel
theorem dX7_append_9 : decode cX7_append 9 = .ok (.aload_n 0, 1) := by decide +kernel
theorem dX7_append_10 : decode cX7_append 10 = .ok (.getfield 9, 3) := by decide +kernel
theorem dX7_append_13 : decode cX7_append 13 = .ok (.aload_n 0, 1) := by decide +kernel
theorem dX7_append_14 : decode cX7_append 14 = .ok (.getfield 13, 3) := by decide +kernel
theorem dX7_append_17 : decode cX7_append 17 = .ok (.iload_n 1, 1) := by decide +kernel
theorem dX7_append_18 : decode cX7_append 18 = .ok (.castore, 1) := by decide +kernel
theorem dX7_append_19 : decode cX7_append 19 = .ok (.aload_n 0, 1) := by decide +kernel
theorem dX7_append_20 : decode cX7_append 20 = .ok (.dup, 1) := by decide +kernel
theorem dX7_append_21 : decode cX7_append 21 = .ok (.getfield 13, 3) := by decide +kernel
theorem dX7_append_24 : decode cX7_append 24 = .ok (.iconst 1, 1) := by decide +kernel
theorem dX7_append_25 : decode cX7_append 25 = .ok (.iadd, 1) := by decide +kernel
theorem dX7_append_26 : decode cX7_append 26 = .ok (.putfield 13, 3) := by decide +kernel
theorem dX7_append_29 : decode cX7_append 29 = .ok (.return_, 1) := by decide +kernel
set_option maxRecDepth 20000 in
theorem ggX7_parseInto_X7_parseNumber : GoodIn wsX7_parseInto wsX7_parseNumber := goodIn_r _ [8, 9, 1, 10, 11, 12, 7, 13, 3, 14, 15, 16, 17, 18, 19, 20, 21, 22, 23, 24, 25, 26, 27, 28, 29, 30, 31, 32, 33, 34, 35, 36, 37, 38, 39] (by decide +kernel) (by decide +kernel)
set_option maxRecDepth 20000 in
theorem gX7_parseInto_X7_parseNumber : GoodIn wsX7_parseInto (wsV RX7 27 RX7 yX7_parseNumber wsX7_parseNumber) := goodIn_app (goodIn_of _ (by decide +kernel)) ggX7_parseInto_X7_parseNumber
set_option maxRecDepth 20000 in
theorem ggX7_parseInto_X7_isHere : GoodIn wsX7_parseInto wsX7_isHere := goodIn_r _ [13, 1, 3, 14, 34, 35, 36, 37] (by decide +kernel) (by decide +kernel)
set_option maxRecDepth 20000 in
theorem gX7_parseInto_X7_isHere : GoodIn wsX7_parseInto (wsV RX7 31 RX7 yX7_isHere wsX7_isHere) := goodIn_app (goodIn_of _ (by decide +kernel)) ggX7_parseInto_X7_isHere
theorem dX7_parseInto_0 : decode cX7_parseInto 0 = .ok (.aload_n 0, 1) := by decide +kernel
theorem dX7_parseInto_1 : decode cX7_parseInto 1 = .ok (.iconst 0, 1) := by decide +kernel
theorem dX7_parseInto_2 : decode cX7_parseInto 2 = .ok (.putfield 17, 3) := by decide +kernel
theorem dX7_parseInto_5 : decode cX7_parseInto 5 = .ok (.aload_n 1, 1) := by decide +kernel
theorem dX7_parseInto_6 : decode cX7_parseInto 6 = .ok (.iconst 0, 1) := by decide +kernel
theorem dX7_parseInto_7 : decode cX7_parseInto 7 = .ok (.putfield 24, 3) := by decide +kernel
theorem dX7_parseInto_10 : decode cX7_parseInto 10 = .ok (.iconst 1, 1) := by decide +kernel
theorem dX7_parseInto_11 : decode cX7_parseInto 11 = .ok (.istore_n 2, 1) := by decide +kernel
theorem dX7_parseInto_12 : decode cX7_parseInto 12 = .ok (.iload_n 2, 1) := by decide +kernel
theorem dX7_parseInto_13 : decode cX7_parseInto 13 = .ok (.bipush 60, 2) := by decide +kernel
theorem dX7_parseInto_15 : decode cX7_parseInto 15 = .ok (.if_icmp .gt 65, 3) := by decide +kernel
theorem dX7_parseInto_18 : decode cX7_parseInto 18 = .ok (.aload_n 0, 1) := by decide +kernel
theorem dX7_parseInto_19 : decode cX7_parseInto 19 = .ok (.aload_n 1, 1) := by decide +kernel
theorem dX7_parseInto_20 : decode cX7_parseInto 20 = .ok (.invokevirtual 27, 3) := by decide +kernel
theorem dX7_parseInto_23 : decode cX7_parseInto 23 = .ok (.ifCond .ne 11, 3) := by decide +kernel
theorem dX7_parseInto_26 : decode cX7_parseInto 26 = .ok (.bipush (-100), 2) := by decide +kernel
theorem dX7_parseInto_28 : decode cX7_parseInto 28 = .ok (.aload_n 0, 1) := by decide +kernel
theorem dX7_parseInto_29 : decode cX7_parseInto 29 = .ok (.getfield 17, 3) := by decide +kernel
theorem dX7_parseInto_32 : decode cX7_parseInto 32 = .ok (.isub, 1) := by decide +kernel
theorem dX7_parseInto_33 : decode cX7_parseInto 33 = .ok (.ireturn, 1) := by decide +kernel
theorem dX7_parseInto_34 : decode cX7_parseInto 34 = .ok (.aload_n 0, 1) := by decide +kernel
theorem dX7_parseInto_35 : decode cX7_parseInto 35 = .ok (.getfield 17, 3) := by decide +kernel
theorem dX7_parseInto_38 : decode cX7_parseInto 38 = .ok (.aload_n 0, 1) := by decide +kernel
theorem dX7_parseInto_39 : decode cX7_parseInto 39 = .ok (.getfield 13, 3) := by decide +kernel
theorem dX7_parseInto_42 : decode cX7_parseInto 42 = .ok (.if_icmp .ne 5, 3) := by decide +kernel
theorem dX7_parseInto_45 : decode cX7_parseInto 45 = .ok (.iload_n 2, 1) := by decide +kernel
theorem dX7_parseInto_46 : decode cX7_parseInto 46 = .ok (.ireturn, 1) := by decide +kernel
theorem dX7_parseInto_47 : decode cX7_parseInto 47 = .ok (.aload_n 0, 1) := by decide +kernel
theorem dX7_parseInto_48 : decode cX7_parseInto 48 = .ok (.bipush 44, 2) := by decide +kernel
theorem dX7_parseInto_50 : decode cX7_parseInto 50 = .ok (.invokevirtual 31, 3) := by decide +kernel
theorem dX7_parseInto_53 : decode cX7_parseInto 53 = .ok (.ifCond .ne 11, 3) := by decide +kernel
theorem dX7_parseInto_56 : decode cX7_parseInto 56 = .ok (.bipush (-100), 2) := by decide +kernel
theorem dX7_parseInto_58 : decode cX7_parseInto 58 = .ok (.aload_n 0, 1) := by decide +kernel
theorem dX7_parseInto_59 : decode cX7_parseInto 59 = .ok (.getfield 17, 3) := by decide +kernel
theorem dX7_parseInto_62 : decode cX7_parseInto 62 = .ok (.isub, 1) := by decide +kernel
theorem dX7_parseInto_63 : decode cX7_parseInto 63 = .ok (.ireturn, 1) := by decide +kernel
theorem dX7_parseInto_64 : decode cX7_parseInto 64 = .ok (.aload_n 0, 1) := by decide +kernel
theorem dX7_parseInto_65 : decode cX7_parseInto 65 = .ok (.dup, 1) := by decide +kernel
theorem dX7_parseInto_66 : decode cX7_parseInto 66 = .ok (.getfield 17, 3) := by decide +kernel
theorem dX7_parseInto_69 : decode cX7_parseInto 69 = .ok (.iconst 1, 1) := by decide +kernel
theorem dX7_parseInto_70 : decode cX7_parseInto 70 = .ok (.iadd, 1) := by decide +kernel
theorem dX7_parseInto_71 : decode cX7_parseInto 71 = .ok (.putfield 17, 3) := by decide +kernel
theorem dX7_parseInto_74 : decode cX7_parseInto 74 = .ok (.iinc 2 1, 3) := by decide +kernel
theorem dX7_parseInto_77 : decode cX7_parseInto 77 = .ok (.goto (-65), 3) := by decide +kernel
theorem dX7_parseInto_80 : decode cX7_parseInto 80 = .ok (.bipush (-100), 2) := by decide +kernel
theorem dX7_parseInto_82 : decode cX7_parseInto 82 = .ok (.aload_n 0, 1) := by decide +kernel
theorem dX7_parseInto_83 : decode cX7_parseInto 83 = .ok (.getfield 17, 3) := by decide +kernel
theorem dX7_parseInto_86 : decode cX7_parseInto 86 = .ok (.isub, 1) := by decide +kernel
theorem dX7_parseInto_87 : decode cX7_parseInto 87 = .ok (.ireturn, 1) := by decide +kernel
theorem dX7_isHere_0 : decode cX7_isHere 0 = .ok (.aload_n 0, 1) := by decide +kernel
theorem dX7_isHere_1 : decode cX7_isHere 1 = .ok (.getfield 17, 3) := by decide +kernel
theorem dX7_isHere_4 : decode cX7_isHere 4 = .ok (.aload_n 0, 1) := by decide +kernel
theorem dX7_isHere_5 : decode cX7_isHere 5 = .ok (.getfield 13, 3) := by decide +kernel
theorem dX7_isHere_8 : decode cX7_isHere 8 = .ok (.if_icmp .ge 20, 3) := by decide +kernel
theorem dX7_isHere_11 : decode cX7_isHere 11 = .ok (.aload_n 0, 1) := by decide +kernel
theorem dX7_isHere_12 : decode cX7_isHere 12 = .ok (.getfield 9, 3) := by decide +kernel
theorem dX7_isHere_15 : decode cX7_isHere 15 = .ok (.aload_n 0, 1) := by decide +kernel
theorem dX7_isHere_16 : decode cX7_isHere 16 = .ok (.getfield 17, 3) := by decide +kernel
theorem dX7_isHere_19 : decode cX7_isHere 19 = .ok (.caload, 1) := by decide +kernel
theorem dX7_isHere_20 : decode cX7_isHere 20 = .ok (.iload_n 1, 1) := by decide +kernel
theorem dX7_isHere_21 : decode cX7_isHere 21 = .ok (.if_icmp .ne 7, 3) := by decide +kernel
theorem dX7_isHere_24 : decode cX7_isHere 24 = .ok (.iconst 1, 1) := by decide +kernel
theorem dX7_isHere_25 : decode cX7_isHere 25 = .ok (.goto 4, 3) := by decide +kernel
theorem dX7_isHere_28 : decode cX7_isHere 28 = .ok (.iconst 0, 1) := by decide +kernel
theorem dX7_isHere_29 : decode cX7_isHere 29 = .ok (.ireturn, 1) := by decide +kernel
theorem dX7_isDigitHere_0 : decode cX7_isDigitHere 0 = .ok (.aload_n 0, 1) := by decide +kernel
theorem dX7_isDigitHere_1 : decode cX7_isDigitHere 1 = .ok (.getfield 17, 3) := by decide +kernel
theorem dX7_isDigitHere_4 : decode cX7_isDigitHere 4 = .ok (.aload_n 0, 1) := by decide +kernel
theorem dX7_isDigitHere_5 : decode cX7_isDigitHere 5 = .ok (.getfield 13, 3) := by decide +kernel
theorem dX7_isDigitHere_8 : decode cX7_isDigitHere 8 = .ok (.if_icmp .ge 35, 3) := by decide +kernel
theorem dX7_isDigitHere_11 : decode cX7_isDigitHere 11 = .ok (.aload_n 0, 1) := by decide +kernel
theorem dX7_isDigitHere_12 : decode cX7_isDigitHere 12 = .ok (.getfield 9, 3) := by decide +kernel
theorem dX7_isDigitHere_15 : decode cX7_isDigitHere 15 = .ok (.aload_n 0, 1) := by decide +kernel
theorem dX7_isDigitHere_16 : decode cX7_isDigitHere 16 = .ok (.getfield 17, 3) := by decide +kernel
theorem dX7_isDigitHere_19 : decode cX7_isDigitHere 19 = .ok (.caload, 1) := by decide +kernel
theorem dX7_isDigitHere_20 : decode cX7_isDigitHere 20 = .ok (.bipush 48, 2) := by decide +kernel
theorem dX7_isDigitHere_22 : decode cX7_isDigitHere 22 = .ok (.if_icmp .lt 21, 3) := by decide +kernel
theorem dX7_isDigitHere_25 : decode cX7_isDigitHere 25 = .ok (.aload_n 0, 1) := by decide +kernel
theorem dX7_isDigitHere_26 : decode cX7_isDigitHere 26 = .ok (.getfield 9, 3) := by decide +kernel
theorem dX7_isDigitHere_29 : decode cX7_isDigitHere 29 = .ok (.aload_n 0, 1) := by decide +kernel
theorem dX7_isDigitHere_30 : decode cX7_isDigitHere 30 = .ok (.getfield 17, 3) := by decide +kernel
theorem dX7_isDigitHere_33 : decode cX7_isDigitHere 33 = .ok (.caload, 1) := by decide +kernel
theorem dX7_isDigitHere_34 : decode cX7_isDigitHere 34 = .ok (.bipush 57, 2) := by decide +kernel
theorem dX7_isDigitHere_36 : decode cX7_isDigitHere 36 = .ok (.if_icmp .gt 7, 3) := by decide +kernel
theorem dX7_isDigitHere_39 : decode cX7_isDigitHere 39 = .ok (.iconst 1, 1) := by decide +kernel
theorem dX7_isDigitHere_40 : decode cX7_isDigitHere 40 = .ok (.goto 4, 3) := by decide +kernel
theorem dX7_isDigitHere_43 : decode cX7_isDigitHere 43 = .ok (.iconst 0, 1) := by decide +kernel
theorem dX7_isDigitHere_44 : decode cX7_isDigitHere 44 = .ok (.ireturn, 1) := by decide +kernel
set_option maxRecDepth 20000 in
theorem ggX7_parseNumber_X7_isHere : GoodIn wsX7_parseNumber wsX7_isHere := goodIn_r _ [7, 2, 8, 9, 29, 30, 31, 32] (by decide +kernel) (by decide +kernel)
set_option maxRecDepth 20000 in
theorem gX7_parseNumber_X7_isHere : GoodIn wsX7_parseNumber (wsV RX7 31 RX7 yX7_isHere wsX7_isHere) := goodIn_app (goodIn_of _ (by decide +kernel)) ggX7_parseNumber_X7_isHere
set_option maxRecDepth 20000 in
theorem ggX7_parseNumber_X7_parseDigits : GoodIn wsX7_parseNumber wsX7_parseDigits := goodIn_r _ [13, 2, 1, 14, 9, 15, 16, 17, 6, 18, 8, 29, 30, 31, 32] (by decide +kernel) (by decide +kernel)
set_option maxRecDepth 20000 in
theorem gX7_parseNumber_X7_parseDigits : GoodIn wsX7_parseNumber (wsV RX7 35 RX7 yX7_parseDigits wsX7_parseDigits) := goodIn_app (goodIn_of _ (by decide +kernel)) ggX7_parseNumber_X7_parseDigits
set_option maxRecDepth 20000 in
theorem ggX7_parseNumber_X7_tenToThe : GoodIn wsX7_parseNumber wsX7_tenToThe := goodIn_r _ [21, 14] (by decide +kernel) (by decide +kernel)
set_option maxRecDepth 20000 in
theorem gX7_parseNumber_X7_tenToThe : GoodIn wsX7_parseNumber (va_wsS RX7 39 yX7_tenToThe wsX7_tenToThe) := goodIn_app (goodIn_of _ (by decide +kernel)) ggX7_parseNumber_X7_tenToThe
set_option maxRecDepth 20000 in
theorem ggX7_parseNumber_X4_append : GoodIn wsX7_parseNumber wsX4_append := goodIn_r _ [26, 27, 28, 33, 34] (by decide +kernel) (by decide +kernel)
set_option maxRecDepth 20000 in
theorem gX7_parseNumber_X4_append : GoodIn wsX7_parseNumber (wsV RX7 43 RX4 yX4_append wsX4_append) := goodIn_app (goodIn_of _ (by decide +kernel)) ggX7_parseNumber_X4_append
