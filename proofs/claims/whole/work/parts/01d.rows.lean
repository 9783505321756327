theorem dX9_undo_58 : decode cX9_undo 58 = .ok (.ireturn, 1) := by decide +kernel
set_option maxRecDepth 20000 in
theorem ggX9_keep_X9_many : GoodIn wsX9_keep wsX9_many := goodIn_r _ [8, 2, 9, 10, 11, 12, 13, 14, 15, 16, 17, 18, 19, 20, 21, 22, 23, 24, 25, 26, 27] (by decide +kernel) (by decide +kernel)
set_option maxRecDepth 20000 in
theorem gX9_keep_X9_many : GoodIn wsX9_keep (wsV RX9 47 RX9 yX9_many wsX9_many) := goodIn_app (goodIn_of _ (by decide +kernel)) ggX9_keep_X9_many
theorem dX9_keep_0 : decode cX9_keep 0 = .ok (.iconst 0, 1) := by decide +kernel
theorem dX9_keep_1 : decode cX9_keep 1 = .ok (.istore_n 1, 1) := by decide +kernel
theorem dX9_keep_2 : decode cX9_keep 2 = .ok (.iload_n 1, 1) := by decide +kernel
theorem dX9_keep_3 : decode cX9_keep 3 = .ok (.bipush 38, 2) := by decide +kernel
theorem dX9_keep_5 : decode cX9_keep 5 = .ok (.if_icmp .ge 21, 3) := by decide +kernel
theorem dX9_keep_8 : decode cX9_keep 8 = .ok (.aload_n 0, 1) := by decide +kernel
theorem dX9_keep_9 : decode cX9_keep 9 = .ok (.getfield 16, 3) := by decide +kernel
theorem dX9_keep_12 : decode cX9_keep 12 = .ok (.iload_n 1, 1) := by decide +kernel
theorem dX9_keep_13 : decode cX9_keep 13 = .ok (.aload_n 0, 1) := by decide +kernel
theorem dX9_keep_14 : decode cX9_keep 14 = .ok (.getfield 7, 3) := by decide +kernel
theorem dX9_keep_17 : decode cX9_keep 17 = .ok (.iload_n 1, 1) := by decide +kernel
theorem dX9_keep_18 : decode cX9_keep 18 = .ok (.daload, 1) := by decide +kernel
theorem dX9_keep_19 : decode cX9_keep 19 = .ok (.dastore, 1) := by decide +kernel
theorem dX9_keep_20 : decode cX9_keep 20 = .ok (.iinc 1 1, 3) := by decide +kernel
theorem dX9_keep_23 : decode cX9_keep 23 = .ok (.goto (-21), 3) := by decide +kernel
theorem dX9_keep_26 : decode cX9_keep 26 = .ok (.aload_n 0, 1) := by decide +kernel
theorem dX9_keep_27 : decode cX9_keep 27 = .ok (.iconst 1, 1) := by decide +kernel
theorem dX9_keep_28 : decode cX9_keep 28 = .ok (.putfield 79, 3) := by decide +kernel
theorem dX9_keep_31 : decode cX9_keep 31 = .ok (.aload_n 0, 1) := by decide +kernel
theorem dX9_keep_32 : decode cX9_keep 32 = .ok (.iconst 0, 1) := by decide +kernel
theorem dX9_keep_33 : decode cX9_keep 33 = .ok (.invokevirtual 47, 3) := by decide +kernel
theorem dX9_keep_36 : decode cX9_keep 36 = .ok (.aload_n 0, 1) := by decide +kernel
theorem dX9_keep_37 : decode cX9_keep 37 = .ok (.iconst 1, 1) := by decide +kernel
theorem dX9_keep_38 : decode cX9_keep 38 = .ok (.invokevirtual 47, 3) := by decide +kernel
theorem dX9_keep_41 : decode cX9_keep 41 = .ok (.iadd, 1) := by decide +kernel
theorem dX9_keep_42 : decode cX9_keep 42 = .ok (.ireturn, 1) := by decide +kernel
set_option maxRecDepth 20000 in
theorem ggX9_restore_X9_records : GoodIn wsX9_restore wsX9_records := goodIn_r _ [8, 9, 10, 2, 15, 16, 17, 18, 19, 20, 21, 22, 23, 24, 25, 26, 27, 28, 29, 30, 31, 32, 33] (by decide +kernel) (by decide +kernel)
set_option maxRecDepth 20000 in
theorem gX9_restore_X9_records : GoodIn wsX9_restore (wsV RX9 83 RX9 yX9_records wsX9_records) := goodIn_app (goodIn_of _ (by decide +kernel)) ggX9_restore_X9_records
set_option maxRecDepth 20000 in
theorem ggX9_restore_X9_many : GoodIn wsX9_restore wsX9_many := goodIn_r _ [14, 2, 15, 16, 17, 18, 19, 20, 21, 22, 23, 24, 25, 26, 27, 28, 29, 30, 31, 32, 33] (by decide +kernel) (by decide +kernel)
set_option maxRecDepth 20000 in
theorem gX9_restore_X9_many : GoodIn wsX9_restore (wsV RX9 47 RX9 yX9_many wsX9_many) := goodIn_app (goodIn_of _ (by decide +kernel)) ggX9_restore_X9_many
theorem dX9_restore_0 : decode cX9_restore 0 = .ok (.aload_n 0, 1) := by decide +kernel
theorem dX9_restore_1 : decode cX9_restore 1 = .ok (.getfield 79, 3) := by decide +kernel
theorem dX9_restore_4 : decode cX9_restore 4 = .ok (.ifCond .ne 6, 3) := by decide +kernel
theorem dX9_restore_7 : decode cX9_restore 7 = .ok (.bipush (-5), 2) := by decide +kernel
theorem dX9_restore_9 : decode cX9_restore 9 = .ok (.ireturn, 1) := by decide +kernel
theorem dX9_restore_10 : decode cX9_restore 10 = .ok (.aload_n 0, 1) := by decide +kernel
theorem dX9_restore_11 : decode cX9_restore 11 = .ok (.invokevirtual 83, 3) := by decide +kernel
theorem dX9_restore_14 : decode cX9_restore 14 = .ok (.iconst 0, 1) := by decide +kernel
theorem dX9_restore_15 : decode cX9_restore 15 = .ok (.istore_n 1, 1) := by decide +kernel
theorem dX9_restore_16 : decode cX9_restore 16 = .ok (.iload_n 1, 1) := by decide +kernel
theorem dX9_restore_17 : decode cX9_restore 17 = .ok (.bipush 38, 2) := by decide +kernel
theorem dX9_restore_19 : decode cX9_restore 19 = .ok (.if_icmp .ge 21, 3) := by decide +kernel
theorem dX9_restore_22 : decode cX9_restore 22 = .ok (.aload_n 0, 1) := by decide +kernel
theorem dX9_restore_23 : decode cX9_restore 23 = .ok (.getfield 7, 3) := by decide +kernel
theorem dX9_restore_26 : decode cX9_restore 26 = .ok (.iload_n 1, 1) := by decide +kernel
theorem dX9_restore_27 : decode cX9_restore 27 = .ok (.aload_n 0, 1) := by decide +kernel
theorem dX9_restore_28 : decode cX9_restore 28 = .ok (.getfield 16, 3) := by decide +kernel
theorem dX9_restore_31 : decode cX9_restore 31 = .ok (.iload_n 1, 1) := by decide +kernel
theorem dX9_restore_32 : decode cX9_restore 32 = .ok (.daload, 1) := by decide +kernel
theorem dX9_restore_33 : decode cX9_restore 33 = .ok (.dastore, 1) := by decide +kernel
theorem dX9_restore_34 : decode cX9_restore 34 = .ok (.iinc 1 1, 3) := by decide +kernel
theorem dX9_restore_37 : decode cX9_restore 37 = .ok (.goto (-21), 3) := by decide +kernel
theorem dX9_restore_40 : decode cX9_restore 40 = .ok (.aload_n 0, 1) := by decide +kernel
theorem dX9_restore_41 : decode cX9_restore 41 = .ok (.iconst 0, 1) := by decide +kernel
theorem dX9_restore_42 : decode cX9_restore 42 = .ok (.invokevirtual 47, 3) := by decide +kernel
theorem dX9_restore_45 : decode cX9_restore 45 = .ok (.aload_n 0, 1) := by decide +kernel
theorem dX9_restore_46 : decode cX9_restore 46 = .ok (.iconst 1, 1) := by decide +kernel
theorem dX9_restore_47 : decode cX9_restore 47 = .ok (.invokevirtual 47, 3) := by decide +kernel
theorem dX9_restore_50 : decode cX9_restore 50 = .ok (.iadd, 1) := by decide +kernel
theorem dX9_restore_51 : decode cX9_restore 51 = .ok (.ireturn, 1) := by decide +kernel
set_option maxRecDepth 20000 in
theorem ggX9_becomes_X9_records : GoodIn wsX9_becomes wsX9_records := goodIn_r _ [8, 9, 10, 1, 11, 12, 13, 14, 15, 16, 17, 18, 19, 20, 21, 22, 23, 24, 25, 26, 27, 28, 29] (by decide +kernel) (by decide +kernel)
set_option maxRecDepth 20000 in
theorem gX9_becomes_X9_records : GoodIn wsX9_becomes (wsV RX9 83 RX9 yX9_records wsX9_records) := goodIn_app (goodIn_of _ (by decide +kernel)) ggX9_becomes_X9_records
theorem dX9_becomes_0 : decode cX9_becomes 0 = .ok (.aload_n 0, 1) := by decide +kernel
theorem dX9_becomes_1 : decode cX9_becomes 1 = .ok (.invokevirtual 83, 3) := by decide +kernel
theorem dX9_becomes_4 : decode cX9_becomes 4 = .ok (.iconst 0, 1) := by decide +kernel
theorem dX9_becomes_5 : decode cX9_becomes 5 = .ok (.istore_n 2, 1) := by decide +kernel
theorem dX9_becomes_6 : decode cX9_becomes 6 = .ok (.iload_n 2, 1) := by decide +kernel
theorem dX9_becomes_7 : decode cX9_becomes 7 = .ok (.bipush 16, 2) := by decide +kernel
theorem dX9_becomes_9 : decode cX9_becomes 9 = .ok (.if_icmp .ge 38, 3) := by decide +kernel
theorem dX9_becomes_12 : decode cX9_becomes 12 = .ok (.aload_n 0, 1) := by decide +kernel
theorem dX9_becomes_13 : decode cX9_becomes 13 = .ok (.getfield 7, 3) := by decide +kernel
theorem dX9_becomes_16 : decode cX9_becomes 16 = .ok (.bipush 16, 2) := by decide +kernel
theorem dX9_becomes_18 : decode cX9_becomes 18 = .ok (.iload_n 1, 1) := by decide +kernel
theorem dX9_becomes_19 : decode cX9_becomes 19 = .ok (.imul, 1) := by decide +kernel
theorem dX9_becomes_20 : decode cX9_becomes 20 = .ok (.iload_n 2, 1) := by decide +kernel
theorem dX9_becomes_21 : decode cX9_becomes 21 = .ok (.iadd, 1) := by decide +kernel
theorem dX9_becomes_22 : decode cX9_becomes 22 = .ok (.iload_n 2, 1) := by decide +kernel
theorem dX9_becomes_23 : decode cX9_becomes 23 = .ok (.aload_n 0, 1) := by decide +kernel
theorem dX9_becomes_24 : decode cX9_becomes 24 = .ok (.getfield 86, 3) := by decide +kernel
theorem dX9_becomes_27 : decode cX9_becomes 27 = .ok (.if_icmp .ge 12, 3) := by decide +kernel
theorem dX9_becomes_30 : decode cX9_becomes 30 = .ok (.aload_n 0, 1) := by decide +kernel
theorem dX9_becomes_31 : decode cX9_becomes 31 = .ok (.getfield 23, 3) := by decide +kernel
theorem dX9_becomes_34 : decode cX9_becomes 34 = .ok (.iload_n 2, 1) := by decide +kernel
theorem dX9_becomes_35 : decode cX9_becomes 35 = .ok (.daload, 1) := by decide +kernel
theorem dX9_becomes_36 : decode cX9_becomes 36 = .ok (.goto 4, 3) := by decide +kernel
theorem dX9_becomes_39 : decode cX9_becomes 39 = .ok (.dconst 0, 1) := by decide +kernel
theorem dX9_becomes_40 : decode cX9_becomes 40 = .ok (.dastore, 1) := by decide +kernel
theorem dX9_becomes_41 : decode cX9_becomes 41 = .ok (.iinc 2 1, 3) := by decide +kernel
theorem dX9_becomes_44 : decode cX9_becomes 44 = .ok (.goto (-38), 3) := by decide +kernel
theorem dX9_becomes_47 : decode cX9_becomes 47 = .ok (.aload_n 0, 1) := by decide +kernel
theorem dX9_becomes_48 : decode cX9_becomes 48 = .ok (.getfield 7, 3) := by decide +kernel
theorem dX9_becomes_51 : decode cX9_becomes 51 = .ok (.bipush 32, 2) := by decide +kernel
theorem dX9_becomes_53 : decode cX9_becomes 53 = .ok (.iload_n 1, 1) := by decide +kernel
theorem dX9_becomes_54 : decode cX9_becomes 54 = .ok (.iadd, 1) := by decide +kernel
theorem dX9_becomes_55 : decode cX9_becomes 55 = .ok (.aload_n 0, 1) := by decide +kernel
theorem dX9_becomes_56 : decode cX9_becomes 56 = .ok (.getfield 86, 3) := by decide +kernel
theorem dX9_becomes_59 : decode cX9_becomes 59 = .ok (.i2d, 1) := by decide +kernel
theorem dX9_becomes_60 : decode cX9_becomes 60 = .ok (.dastore, 1) := by decide +kernel
theorem dX9_becomes_61 : decode cX9_becomes 61 = .ok (.aload_n 0, 1) := by decide +kernel
theorem dX9_becomes_62 : decode cX9_becomes 62 = .ok (.getfield 86, 3) := by decide +kernel
theorem dX9_becomes_65 : decode cX9_becomes 65 = .ok (.ireturn, 1) := by decide +kernel
theorem dX9_lays_0 : decode cX9_lays 0 = .ok (.aload_n 0, 1) := by decide +kernel
theorem dX9_lays_1 : decode cX9_lays 1 = .ok (.getfield 23, 3) := by decide +kernel
theorem dX9_lays_4 : decode cX9_lays 4 = .ok (.aload_n 0, 1) := by decide +kernel
theorem dX9_lays_5 : decode cX9_lays 5 = .ok (.getfield 86, 3) := by decide +kernel
theorem dX9_lays_8 : decode cX9_lays 8 = .ok (.dload_n 1, 1) := by decide +kernel
theorem dX9_lays_9 : decode cX9_lays 9 = .ok (.dastore, 1) := by decide +kernel
theorem dX9_lays_10 : decode cX9_lays 10 = .ok (.aload_n 0, 1) := by decide +kernel
theorem dX9_lays_11 : decode cX9_lays 11 = .ok (.dup, 1) := by decide +kernel
theorem dX9_lays_12 : decode cX9_lays 12 = .ok (.getfield 86, 3) := by decide +kernel
theorem dX9_lays_15 : decode cX9_lays 15 = .ok (.iconst 1, 1) := by decide +kernel
theorem dX9_lays_16 : decode cX9_lays 16 = .ok (.iadd, 1) := by decide +kernel
theorem dX9_lays_17 : decode cX9_lays 17 = .ok (.putfield 86, 3) := by decide +kernel
theorem dX9_lays_20 : decode cX9_lays 20 = .ok (.return_, 1) := by decide +kernel
set_option maxRecDepth 20000 in
theorem ggX9_areGood_X9_isGood : GoodIn wsX9_areGood wsX9_isGood := goodIn_r _ [6, 7, 8, 9, 5, 10, 11, 12, 13, 14, 15] (by decide +kernel) (by decide +kernel)
set_option maxRecDepth 20000 in
theorem gX9_areGood_X9_isGood : GoodIn wsX9_areGood (va_wsS RX9 89 yX9_isGood wsX9_isGood) := goodIn_app (goodIn_of _ (by decide +kernel)) ggX9_areGood_X9_isGood
theorem dX9_areGood_0 : decode cX9_areGood 0 = .ok (.iconst 1, 1) := by decide +kernel
theorem dX9_areGood_1 : decode cX9_areGood 1 = .ok (.istore_n 1, 1) := by decide +kernel
theorem dX9_areGood_2 : decode cX9_areGood 2 = .ok (.iconst 0, 1) := by decide +kernel
theorem dX9_areGood_3 : decode cX9_areGood 3 = .ok (.istore_n 2, 1) := by decide +kernel
theorem dX9_areGood_4 : decode cX9_areGood 4 = .ok (.iload_n 2, 1) := by decide +kernel
theorem dX9_areGood_5 : decode cX9_areGood 5 = .ok (.aload_n 0, 1) := by decide +kernel
theorem dX9_areGood_6 : decode cX9_areGood 6 = .ok (.getfield 86, 3) := by decide +kernel
theorem dX9_areGood_9 : decode cX9_areGood 9 = .ok (.if_icmp .ge 31, 3) := by decide +kernel
theorem dX9_areGood_12 : decode cX9_areGood 12 = .ok (.iload_n 1, 1) := by decide +kernel
theorem dX9_areGood_13 : decode cX9_areGood 13 = .ok (.ifCond .eq 19, 3) := by decide +kernel
theorem dX9_areGood_16 : decode cX9_areGood 16 = .ok (.aload_n 0, 1) := by decide +kernel
theorem dX9_areGood_17 : decode cX9_areGood 17 = .ok (.getfield 23, 3) := by decide +kernel
theorem dX9_areGood_20 : decode cX9_areGood 20 = .ok (.iload_n 2, 1) := by decide +kernel
theorem dX9_areGood_21 : decode cX9_areGood 21 = .ok (.daload, 1) := by decide +kernel
theorem dX9_areGood_22 : decode cX9_areGood 22 = .ok (.invokestatic 89, 3) := by decide +kernel
theorem dX9_areGood_25 : decode cX9_areGood 25 = .ok (.ifCond .eq 7, 3) := by decide +kernel
theorem dX9_areGood_28 : decode cX9_areGood 28 = .ok (.iconst 1, 1) := by decide +kernel
theorem dX9_areGood_29 : decode cX9_areGood 29 = .ok (.goto 4, 3) := by decide +kernel
theorem dX9_areGood_32 : decode cX9_areGood 32 = .ok (.iconst 0, 1) := by decide +kernel
theorem dX9_areGood_33 : decode cX9_areGood 33 = .ok (.istore_n 1, 1) := by decide +kernel
theorem dX9_areGood_34 : decode cX9_areGood 34 = .ok (.iinc 2 1, 3) := by decide +kernel
theorem dX9_areGood_37 : decode cX9_areGood 37 = .ok (.goto (-33), 3) := by decide +kernel
theorem dX9_areGood_40 : decode cX9_areGood 40 = .ok (.iload_n 1, 1) := by decide +kernel
theorem dX9_areGood_41 : decode cX9_areGood 41 = .ok (.ireturn, 1) := by decide +kernel
set_option maxRecDepth 20000 in
theorem ggX9_add_X9_isRow : GoodIn wsX9_add wsX9_isRow := goodIn_r _ [9, 10, 11, 8, 12] (by decide +kernel) (by decide +kernel)
set_option maxRecDepth 20000 in
theorem gX9_add_X9_isRow : GoodIn wsX9_add (va_wsS RX9 43 yX9_isRow wsX9_isRow) := goodIn_app (goodIn_of _ (by decide +kernel)) ggX9_add_X9_isRow
set_option maxRecDepth 20000 in
theorem ggX9_add_X9_areOfNone : GoodIn wsX9_add wsX9_areOfNone := goodIn_r _ [15, 16, 17] (by decide +kernel) (by decide +kernel)
set_option maxRecDepth 20000 in
theorem gX9_add_X9_areOfNone : GoodIn wsX9_add (va_wsS RX9 92 yX9_areOfNone wsX9_areOfNone) := goodIn_app (goodIn_of _ (by decide +kernel)) ggX9_add_X9_areOfNone
set_option maxRecDepth 20000 in
theorem ggX9_add_X9_isGood : GoodIn wsX9_add wsX9_isGood := goodIn_r _ [20, 21, 22, 23, 8, 24, 25, 26, 27, 28, 29] (by decide +kernel) (by decide +kernel)
set_option maxRecDepth 20000 in
theorem gX9_add_X9_isGood : GoodIn wsX9_add (va_wsS RX9 89 yX9_isGood wsX9_isGood) := goodIn_app (goodIn_of _ (by decide +kernel)) ggX9_add_X9_isGood
set_option maxRecDepth 20000 in
theorem ggX9_add_X9_many : GoodIn wsX9_add wsX9_many := goodIn_r _ [33, 5, 40, 41, 42, 43, 44, 45, 46, 47, 48, 49, 50, 51, 52, 53, 54, 55, 56, 57, 58] (by decide +kernel) (by decide +kernel)
set_option maxRecDepth 20000 in
theorem gX9_add_X9_many : GoodIn wsX9_add (wsV RX9 47 RX9 yX9_many wsX9_many) := goodIn_app (goodIn_of _ (by decide +kernel)) ggX9_add_X9_many
set_option maxRecDepth 20000 in
theorem ggX9_add_X9_records : GoodIn wsX9_add wsX9_records := goodIn_r _ [37, 38, 39, 5, 40, 41, 42, 43, 44, 45, 46, 47, 48, 49, 50, 51, 52, 53, 54, 55, 56, 57, 58] (by decide +kernel) (by decide +kernel)
set_option maxRecDepth 20000 in
theorem gX9_add_X9_records : GoodIn wsX9_add (wsV RX9 83 RX9 yX9_records wsX9_records) := goodIn_app (goodIn_of _ (by decide +kernel)) ggX9_add_X9_records
theorem dX9_add_0 : decode cX9_add 0 = .ok (.iload_n 1, 1) := by decide +kernel
theorem dX9_add_1 : decode cX9_add 1 = .ok (.invokestatic 43, 3) := by decide +kernel
theorem dX9_add_4 : decode cX9_add 4 = .ok (.ifCond .ne 5, 3) := by decide +kernel
theorem dX9_add_7 : decode cX9_add 7 = .ok (.iconst (-1), 1) := by decide +kernel
theorem dX9_add_8 : decode cX9_add 8 = .ok (.ireturn, 1) := by decide +kernel
theorem dX9_add_9 : decode cX9_add 9 = .ok (.lload_n 2, 1) := by decide +kernel
theorem dX9_add_10 : decode cX9_add 10 = .ok (.invokestatic 92, 3) := by decide +kernel
theorem dX9_add_13 : decode cX9_add 13 = .ok (.ifCond .eq 6, 3) := by decide +kernel
theorem dX9_add_16 : decode cX9_add 16 = .ok (.bipush (-2), 2) := by decide +kernel
theorem dX9_add_18 : decode cX9_add 18 = .ok (.ireturn, 1) := by decide +kernel
theorem dX9_add_19 : decode cX9_add 19 = .ok (.lload_n 2, 1) := by decide +kernel
theorem dX9_add_20 : decode cX9_add 20 = .ok (.invokestatic 96, 3) := by decide +kernel
theorem dX9_add_23 : decode cX9_add 23 = .ok (.dstore 4, 2) := by decide +kernel
theorem dX9_add_25 : decode cX9_add 25 = .ok (.dload 4, 2) := by decide +kernel
theorem dX9_add_27 : decode cX9_add 27 = .ok (.invokestatic 89, 3) := by decide +kernel
theorem dX9_add_30 : decode cX9_add 30 = .ok (.ifCond .ne 6, 3) := by decide +kernel
theorem dX9_add_33 : decode cX9_add 33 = .ok (.bipush (-2), 2) := by decide +kernel
theorem dX9_add_35 : decode cX9_add 35 = .ok (.ireturn, 1) := by decide +kernel
theorem dX9_add_36 : decode cX9_add 36 = .ok (.aload_n 0, 1) := by decide +kernel
theorem dX9_add_37 : decode cX9_add 37 = .ok (.iload_n 1, 1) := by decide +kernel
theorem dX9_add_38 : decode cX9_add 38 = .ok (.invokevirtual 47, 3) := by decide +kernel
theorem dX9_add_41 : decode cX9_add 41 = .ok (.istore 6, 2) := by decide +kernel
theorem dX9_add_43 : decode cX9_add 43 = .ok (.iload 6, 2) := by decide +kernel
theorem dX9_add_45 : decode cX9_add 45 = .ok (.bipush 16, 2) := by decide +kernel
theorem dX9_add_47 : decode cX9_add 47 = .ok (.if_icmp .ne 6, 3) := by decide +kernel
theorem dX9_add_50 : decode cX9_add 50 = .ok (.bipush (-3), 2) := by decide +kernel
theorem dX9_add_52 : decode cX9_add 52 = .ok (.ireturn, 1) := by decide +kernel
theorem dX9_add_53 : decode cX9_add 53 = .ok (.aload_n 0, 1) := by decide +kernel
theorem dX9_add_54 : decode cX9_add 54 = .ok (.invokevirtual 83, 3) := by decide +kernel
theorem dX9_add_57 : decode cX9_add 57 = .ok (.aload_n 0, 1) := by decide +kernel
theorem dX9_add_58 : decode cX9_add 58 = .ok (.getfield 7, 3) := by decide +kernel
theorem dX9_add_61 : decode cX9_add 61 = .ok (.bipush 16, 2) := by decide +kernel
theorem dX9_add_63 : decode cX9_add 63 = .ok (.iload_n 1, 1) := by decide +kernel
theorem dX9_add_64 : decode cX9_add 64 = .ok (.imul, 1) := by decide +kernel
theorem dX9_add_65 : decode cX9_add 65 = .ok (.iload 6, 2) := by decide +kernel
theorem dX9_add_67 : decode cX9_add 67 = .ok (.iadd, 1) := by decide +kernel
theorem dX9_add_68 : decode cX9_add 68 = .ok (.dload 4, 2) := by decide +kernel
theorem dX9_add_70 : decode cX9_add 70 = .ok (.dastore, 1) := by decide +kernel
theorem dX9_add_71 : decode cX9_add 71 = .ok (.aload_n 0, 1) := by decide +kernel
theorem dX9_add_72 : decode cX9_add 72 = .ok (.getfield 7, 3) := by decide +kernel
theorem dX9_add_75 : decode cX9_add 75 = .ok (.bipush 32, 2) := by decide +kernel
theorem dX9_add_77 : decode cX9_add 77 = .ok (.iload_n 1, 1) := by decide +kernel
theorem dX9_add_78 : decode cX9_add 78 = .ok (.iadd, 1) := by decide +kernel
theorem dX9_add_79 : decode cX9_add 79 = .ok (.iload 6, 2) := by decide +kernel
theorem dX9_add_81 : decode cX9_add 81 = .ok (.iconst 1, 1) := by decide +kernel
theorem dX9_add_82 : decode cX9_add 82 = .ok (.iadd, 1) := by decide +kernel
theorem dX9_add_83 : decode cX9_add 83 = .ok (.i2d, 1) := by decide +kernel
theorem dX9_add_84 : decode cX9_add 84 = .ok (.dastore, 1) := by decide +kernel
theorem dX9_add_85 : decode cX9_add 85 = .ok (.iload 6, 2) := by decide +kernel
theorem dX9_add_87 : decode cX9_add 87 = .ok (.iconst 1, 1) := by decide +kernel
theorem dX9_add_88 : decode cX9_add 88 = .ok (.iadd, 1) := by decide +kernel
theorem dX9_add_89 : decode cX9_add 89 = .ok (.ireturn, 1) := by decide +kernel
set_option maxRecDepth 20000 in
theorem ggX9_cut_X9_isRow : GoodIn wsX9_cut wsX9_isRow := goodIn_r _ [5, 6, 7, 4, 8] (by decide +kernel) (by decide +kernel)
set_option maxRecDepth 20000 in
theorem gX9_cut_X9_isRow : GoodIn wsX9_cut (va_wsS RX9 43 yX9_isRow wsX9_isRow) := goodIn_app (goodIn_of _ (by decide +kernel)) ggX9_cut_X9_isRow
set_option maxRecDepth 20000 in
theorem ggX9_cut_X9_in : GoodIn wsX9_cut wsX9_in := goodIn_r _ [8] (by decide +kernel) (by decide +kernel)
set_option maxRecDepth 20000 in
theorem gX9_cut_X9_in : GoodIn wsX9_cut (va_wsS RX9 39 yX9_in wsX9_in) := goodIn_app (goodIn_of _ (by decide +kernel)) ggX9_cut_X9_in
set_option maxRecDepth 20000 in
theorem ggX9_cut_X9_many : GoodIn wsX9_cut wsX9_many := goodIn_r _ [12, 1, 19, 20, 21, 22, 23, 24, 25, 26, 27, 28, 29, 30, 31, 32, 33, 34, 35, 36, 37] (by decide +kernel) (by decide +kernel)
set_option maxRecDepth 20000 in
theorem gX9_cut_X9_many : GoodIn wsX9_cut (wsV RX9 47 RX9 yX9_many wsX9_many) := goodIn_app (goodIn_of _ (by decide +kernel)) ggX9_cut_X9_many
set_option maxRecDepth 20000 in
theorem ggX9_cut_X9_records : GoodIn wsX9_cut wsX9_records := goodIn_r _ [16, 17, 18, 1, 19, 20, 21, 22, 23, 24, 25, 26, 27, 28, 29, 30, 31, 32, 33, 34, 35, 36, 37] (by decide +kernel) (by decide +kernel)
set_option maxRecDepth 20000 in
theorem gX9_cut_X9_records : GoodIn wsX9_cut (wsV RX9 83 RX9 yX9_records wsX9_records) := goodIn_app (goodIn_of _ (by decide +kernel)) ggX9_cut_X9_records
theorem dX9_cut_0 : decode cX9_cut 0 = .ok (.iload_n 1, 1) := by decide +kernel
theorem dX9_cut_1 : decode cX9_cut 1 = .ok (.invokestatic 43, 3) := by decide +kernel
theorem dX9_cut_4 : decode cX9_cut 4 = .ok (.ifCond .ne 5, 3) := by decide +kernel
theorem dX9_cut_7 : decode cX9_cut 7 = .ok (.iconst (-1), 1) := by decide +kernel
theorem dX9_cut_8 : decode cX9_cut 8 = .ok (.ireturn, 1) := by decide +kernel
theorem dX9_cut_9 : decode cX9_cut 9 = .ok (.iload_n 2, 1) := by decide +kernel
theorem dX9_cut_10 : decode cX9_cut 10 = .ok (.iconst 1, 1) := by decide +kernel
theorem dX9_cut_11 : decode cX9_cut 11 = .ok (.bipush 16, 2) := by decide +kernel
theorem dX9_cut_13 : decode cX9_cut 13 = .ok (.invokestatic 39, 3) := by decide +kernel
theorem dX9_cut_16 : decode cX9_cut 16 = .ok (.ifCond .ne 6, 3) := by decide +kernel
theorem dX9_cut_19 : decode cX9_cut 19 = .ok (.bipush (-2), 2) := by decide +kernel
theorem dX9_cut_21 : decode cX9_cut 21 = .ok (.ireturn, 1) := by decide +kernel
theorem dX9_cut_22 : decode cX9_cut 22 = .ok (.aload_n 0, 1) := by decide +kernel
theorem dX9_cut_23 : decode cX9_cut 23 = .ok (.iload_n 1, 1) := by decide +kernel
theorem dX9_cut_24 : decode cX9_cut 24 = .ok (.invokevirtual 47, 3) := by decide +kernel
theorem dX9_cut_27 : decode cX9_cut 27 = .ok (.iload_n 2, 1) := by decide +kernel
theorem dX9_cut_28 : decode cX9_cut 28 = .ok (.if_icmp .ge 6, 3) := by decide +kernel
theorem dX9_cut_31 : decode cX9_cut 31 = .ok (.bipush (-4), 2) := by decide +kernel
theorem dX9_cut_33 : decode cX9_cut 33 = .ok (.ireturn, 1) := by decide +kernel
theorem dX9_cut_34 : decode cX9_cut 34 = .ok (.aload_n 0, 1) := by decide +kernel
theorem dX9_cut_35 : decode cX9_cut 35 = .ok (.invokevirtual 83, 3) := by decide +kernel
theorem dX9_cut_38 : decode cX9_cut 38 = .ok (.aload_n 0, 1) := by decide +kernel
theorem dX9_cut_39 : decode cX9_cut 39 = .ok (.iload_n 1, 1) := by decide +kernel
theorem dX9_cut_40 : decode cX9_cut 40 = .ok (.invokevirtual 47, 3) := by decide +kernel
theorem dX9_cut_43 : decode cX9_cut 43 = .ok (.iload_n 2, 1) := by decide +kernel
theorem dX9_cut_44 : decode cX9_cut 44 = .ok (.isub, 1) := by decide +kernel
theorem dX9_cut_45 : decode cX9_cut 45 = .ok (.istore_n 3, 1) := by decide +kernel
theorem dX9_cut_46 : decode cX9_cut 46 = .ok (.iload_n 3, 1) := by decide +kernel
theorem dX9_cut_47 : decode cX9_cut 47 = .ok (.istore 4, 2) := by decide +kernel
theorem dX9_cut_49 : decode cX9_cut 49 = .ok (.iload 4, 2) := by decide +kernel
theorem dX9_cut_51 : decode cX9_cut 51 = .ok (.bipush 16, 2) := by decide +kernel
theorem dX9_cut_53 : decode cX9_cut 53 = .ok (.if_icmp .ge 22, 3) := by decide +kernel
theorem dX9_cut_56 : decode cX9_cut 56 = .ok (.aload_n 0, 1) := by decide +kernel
theorem dX9_cut_57 : decode cX9_cut 57 = .ok (.getfield 7, 3) := by decide +kernel
theorem dX9_cut_60 : decode cX9_cut 60 = .ok (.bipush 16, 2) := by decide +kernel
theorem dX9_cut_62 : decode cX9_cut 62 = .ok (.iload_n 1, 1) := by decide +kernel
theorem dX9_cut_63 : decode cX9_cut 63 = .ok (.imul, 1) := by decide +kernel
theorem dX9_cut_64 : decode cX9_cut 64 = .ok (.iload 4, 2) := by decide +kernel
theorem dX9_cut_66 : decode cX9_cut 66 = .ok (.iadd, 1) := by decide +kernel
theorem dX9_cut_67 : decode cX9_cut 67 = .ok (.dconst 0, 1) := by decide +kernel
theorem dX9_cut_68 : decode cX9_cut 68 = .ok (.dastore, 1) := by decide +kernel
theorem dX9_cut_69 : decode cX9_cut 69 = .ok (.iinc 4 1, 3) := by decide +kernel
theorem dX9_cut_72 : decode cX9_cut 72 = .ok (.goto (-23), 3) := by decide +kernel
theorem dX9_cut_75 : decode cX9_cut 75 = .ok (.aload_n 0, 1) := by decide +kernel
theorem dX9_cut_76 : decode cX9_cut 76 = .ok (.getfield 7, 3) := by decide +kernel
theorem dX9_cut_79 : decode cX9_cut 79 = .ok (.bipush 32, 2) := by decide +kernel
theorem dX9_cut_81 : decode cX9_cut 81 = .ok (.iload_n 1, 1) := by decide +kernel
theorem dX9_cut_82 : decode cX9_cut 82 = .ok (.iadd, 1) := by decide +kernel
theorem dX9_cut_83 : decode cX9_cut 83 = .ok (.iload_n 3, 1) := by decide +kernel
theorem dX9_cut_84 : decode cX9_cut 84 = .ok (.i2d, 1) := by decide +kernel
theorem dX9_cut_85 : decode cX9_cut 85 = .ok (.dastore, 1) := by decide +kernel
theorem dX9_cut_86 : decode cX9_cut 86 = .ok (.iload_n 3, 1) := by decide +kernel
theorem dX9_cut_87 : decode cX9_cut 87 = .ok (.ireturn, 1) := by decide +kernel
set_option maxRecDepth 20000 in
theorem ggX9_set_X9_isPlace : GoodIn wsX9_set wsX9_isPlace := goodIn_r _ [10, 11, 12, 9, 13, 14, 15, 16, 17, 18, 19, 20, 5, 58, 59, 60, 61, 62, 63, 64, 65, 66, 67, 68, 69, 70, 71, 72, 73, 74, 75, 76] (by decide +kernel) (by decide +kernel)
set_option maxRecDepth 20000 in
theorem gX9_set_X9_isPlace : GoodIn wsX9_set (wsV RX9 100 RX9 yX9_isPlace wsX9_isPlace) := goodIn_app (goodIn_of _ (by decide +kernel)) ggX9_set_X9_isPlace
set_option maxRecDepth 20000 in
theorem ggX9_set_X9_areOfNone : GoodIn wsX9_set wsX9_areOfNone := goodIn_r _ [23, 24, 25] (by decide +kernel) (by decide +kernel)
set_option maxRecDepth 20000 in
theorem gX9_set_X9_areOfNone : GoodIn wsX9_set (va_wsS RX9 92 yX9_areOfNone wsX9_areOfNone) := goodIn_app (goodIn_of _ (by decide +kernel)) ggX9_set_X9_areOfNone
set_option maxRecDepth 20000 in
theorem ggX9_set_X9_isGood : GoodIn wsX9_set wsX9_isGood := goodIn_r _ [28, 29, 30, 31, 9, 32, 33, 34, 35, 36, 37] (by decide +kernel) (by decide +kernel)
set_option maxRecDepth 20000 in
theorem gX9_set_X9_isGood : GoodIn wsX9_set (va_wsS RX9 89 yX9_isGood wsX9_isGood) := goodIn_app (goodIn_of _ (by decide +kernel)) ggX9_set_X9_isGood
set_option maxRecDepth 20000 in
theorem ggX9_set_X9_areSame : GoodIn wsX9_set wsX9_areSame := goodIn_r _ [40, 41, 42, 43, 44, 45, 46, 47, 4, 48, 49, 50, 51] (by decide +kernel) (by decide +kernel)
set_option maxRecDepth 20000 in
theorem gX9_set_X9_areSame : GoodIn wsX9_set (va_wsS RX9 104 yX9_areSame wsX9_areSame) := goodIn_app (goodIn_of _ (by decide +kernel)) ggX9_set_X9_areSame
set_option maxRecDepth 20000 in
theorem ggX9_set_X9_records : GoodIn wsX9_set wsX9_records := goodIn_r _ [55, 56, 57, 5, 58, 59, 60, 61, 62, 63, 64, 65, 66, 67, 68, 69, 70, 71, 72, 73, 74, 75, 76] (by decide +kernel) (by decide +kernel)
set_option maxRecDepth 20000 in
theorem gX9_set_X9_records : GoodIn wsX9_set (wsV RX9 83 RX9 yX9_records wsX9_records) := goodIn_app (goodIn_of _ (by decide +kernel)) ggX9_set_X9_records
theorem dX9_set_0 : decode cX9_set 0 = .ok (.aload_n 0, 1) := by decide +kernel
theorem dX9_set_1 : decode cX9_set 1 = .ok (.iload_n 1, 1) := by decide +kernel
theorem dX9_set_2 : decode cX9_set 2 = .ok (.iload_n 2, 1) := by decide +kernel
theorem dX9_set_3 : decode cX9_set 3 = .ok (.invokevirtual 100, 3) := by decide +kernel
theorem dX9_set_6 : decode cX9_set 6 = .ok (.ifCond .ne 5, 3) := by decide +kernel
theorem dX9_set_9 : decode cX9_set 9 = .ok (.iconst (-1), 1) := by decide +kernel
theorem dX9_set_10 : decode cX9_set 10 = .ok (.ireturn, 1) := by decide +kernel
theorem dX9_set_11 : decode cX9_set 11 = .ok (.lload_n 3, 1) := by decide +kernel
theorem dX9_set_12 : decode cX9_set 12 = .ok (.invokestatic 92, 3) := by decide +kernel
theorem dX9_set_15 : decode cX9_set 15 = .ok (.ifCond .eq 6, 3) := by decide +kernel
theorem dX9_set_18 : decode cX9_set 18 = .ok (.bipush (-2), 2) := by decide +kernel
theorem dX9_set_20 : decode cX9_set 20 = .ok (.ireturn, 1) := by decide +kernel
theorem dX9_set_21 : decode cX9_set 21 = .ok (.lload_n 3, 1) := by decide +kernel
theorem dX9_set_22 : decode cX9_set 22 = .ok (.invokestatic 96, 3) := by decide +kernel
theorem dX9_set_25 : decode cX9_set 25 = .ok (.dstore 5, 2) := by decide +kernel
theorem dX9_set_27 : decode cX9_set 27 = .ok (.dload 5, 2) := by decide +kernel
theorem dX9_set_29 : decode cX9_set 29 = .ok (.invokestatic 89, 3) := by decide +kernel
theorem dX9_set_32 : decode cX9_set 32 = .ok (.ifCond .ne 6, 3) := by decide +kernel
theorem dX9_set_35 : decode cX9_set 35 = .ok (.bipush (-2), 2) := by decide +kernel
theorem dX9_set_37 : decode cX9_set 37 = .ok (.ireturn, 1) := by decide +kernel
theorem dX9_set_38 : decode cX9_set 38 = .ok (.dload 5, 2) := by decide +kernel
theorem dX9_set_40 : decode cX9_set 40 = .ok (.aload_n 0, 1) := by decide +kernel
theorem dX9_set_41 : decode cX9_set 41 = .ok (.getfield 7, 3) := by decide +kernel
theorem dX9_set_44 : decode cX9_set 44 = .ok (.bipush 16, 2) := by decide +kernel
theorem dX9_set_46 : decode cX9_set 46 = .ok (.iload_n 1, 1) := by decide +kernel
theorem dX9_set_47 : decode cX9_set 47 = .ok (.imul, 1) := by decide +kernel
theorem dX9_set_48 : decode cX9_set 48 = .ok (.iload_n 2, 1) := by decide +kernel
theorem dX9_set_49 : decode cX9_set 49 = .ok (.iadd, 1) := by decide +kernel
theorem dX9_set_50 : decode cX9_set 50 = .ok (.daload, 1) := by decide +kernel
theorem dX9_set_51 : decode cX9_set 51 = .ok (.invokestatic 104, 3) := by decide +kernel
theorem dX9_set_54 : decode cX9_set 54 = .ok (.ifCond .eq 6, 3) := by decide +kernel
theorem dX9_set_57 : decode cX9_set 57 = .ok (.bipush (-5), 2) := by decide +kernel
theorem dX9_set_59 : decode cX9_set 59 = .ok (.ireturn, 1) := by decide +kernel
theorem dX9_set_60 : decode cX9_set 60 = .ok (.aload_n 0, 1) := by decide +kernel
theorem dX9_set_61 : decode cX9_set 61 = .ok (.invokevirtual 83, 3) := by decide +kernel
theorem dX9_set_64 : decode cX9_set 64 = .ok (.aload_n 0, 1) := by decide +kernel
theorem dX9_set_65 : decode cX9_set 65 = .ok (.getfield 7, 3) := by decide +kernel
theorem dX9_set_68 : decode cX9_set 68 = .ok (.bipush 16, 2) := by decide +kernel
theorem dX9_set_70 : decode cX9_set 70 = .ok (.iload_n 1, 1) := by decide +kernel
theorem dX9_set_71 : decode cX9_set 71 = .ok (.imul, 1) := by decide +kernel
theorem dX9_set_72 : decode cX9_set 72 = .ok (.iload_n 2, 1) := by decide +kernel
theorem dX9_set_73 : decode cX9_set 73 = .ok (.iadd, 1) := by decide +kernel
theorem dX9_set_74 : decode cX9_set 74 = .ok (.dload 5, 2) := by decide +kernel
theorem dX9_set_76 : decode cX9_set 76 = .ok (.dastore, 1) := by decide +kernel
theorem dX9_set_77 : decode cX9_set 77 = .ok (.iload_n 2, 1) := by decide +kernel
theorem dX9_set_78 : decode cX9_set 78 = .ok (.ireturn, 1) := by decide +kernel
theorem dX9_term_0 : decode cX9_term 0 = .ok (.iload_n 1, 1) := by decide +kernel
theorem dX9_term_1 : decode cX9_term 1 = .ok (.ifCond .ne 10, 3) := by decide +kernel
theorem dX9_term_4 : decode cX9_term 4 = .ok (.dconst 1, 1) := by decide +kernel
theorem dX9_term_5 : decode cX9_term 5 = .ok (.iload_n 2, 1) := by decide +kernel
theorem dX9_term_6 : decode cX9_term 6 = .ok (.iload_n 2, 1) := by decide +kernel
theorem dX9_term_7 : decode cX9_term 7 = .ok (.imul, 1) := by decide +kernel
theorem dX9_term_8 : decode cX9_term 8 = .ok (.i2d, 1) := by decide +kernel
theorem dX9_term_9 : decode cX9_term 9 = .ok (.ddiv, 1) := by decide +kernel
theorem dX9_term_10 : decode cX9_term 10 = .ok (.dreturn, 1) := by decide +kernel
theorem dX9_term_11 : decode cX9_term 11 = .ok (.iload_n 1, 1) := by decide +kernel
theorem dX9_term_12 : decode cX9_term 12 = .ok (.iconst 3, 1) := by decide +kernel
theorem dX9_term_13 : decode cX9_term 13 = .ok (.if_icmp .ge 24, 3) := by decide +kernel
theorem dX9_term_16 : decode cX9_term 16 = .ok (.iload_n 1, 1) := by decide +kernel
theorem dX9_term_17 : decode cX9_term 17 = .ok (.iconst 1, 1) := by decide +kernel
theorem dX9_term_18 : decode cX9_term 18 = .ok (.if_icmp .ne 10, 3) := by decide +kernel
theorem dX9_term_21 : decode cX9_term 21 = .ok (.dconst 1, 1) := by decide +kernel
theorem dX9_term_22 : decode cX9_term 22 = .ok (.iload_n 2, 1) := by decide +kernel
theorem dX9_term_23 : decode cX9_term 23 = .ok (.i2d, 1) := by decide +kernel
theorem dX9_term_24 : decode cX9_term 24 = .ok (.ddiv, 1) := by decide +kernel
theorem dX9_term_25 : decode cX9_term 25 = .ok (.goto 11, 3) := by decide +kernel
theorem dX9_term_28 : decode cX9_term 28 = .ok (.dconst 1, 1) := by decide +kernel
theorem dX9_term_29 : decode cX9_term 29 = .ok (.iconst 2, 1) := by decide +kernel
theorem dX9_term_30 : decode cX9_term 30 = .ok (.iload_n 2, 1) := by decide +kernel
theorem dX9_term_31 : decode cX9_term 31 = .ok (.imul, 1) := by decide +kernel
theorem dX9_term_32 : decode cX9_term 32 = .ok (.iconst 1, 1) := by decide +kernel
theorem dX9_term_33 : decode cX9_term 33 = .ok (.isub, 1) := by decide +kernel
theorem dX9_term_34 : decode cX9_term 34 = .ok (.i2d, 1) := by decide +kernel
theorem dX9_term_35 : decode cX9_term 35 = .ok (.ddiv, 1) := by decide +kernel
theorem dX9_term_36 : decode cX9_term 36 = .ok (.dreturn, 1) := by decide +kernel
theorem dX9_term_37 : decode cX9_term 37 = .ok (.dconst 1, 1) := by decide +kernel
theorem dX9_term_38 : decode cX9_term 38 = .ok (.dstore_n 3, 1) := by decide +kernel
theorem dX9_term_39 : decode cX9_term 39 = .ok (.iconst 1, 1) := by decide +kernel
theorem dX9_term_40 : decode cX9_term 40 = .ok (.istore 5, 2) := by decide +kernel
theorem dX9_term_42 : decode cX9_term 42 = .ok (.iload 5, 2) := by decide +kernel
theorem dX9_term_44 : decode cX9_term 44 = .ok (.iload_n 2, 1) := by decide +kernel
theorem dX9_term_45 : decode cX9_term 45 = .ok (.if_icmp .ge 19, 3) := by decide +kernel
theorem dX9_term_48 : decode cX9_term 48 = .ok (.dload_n 3, 1) := by decide +kernel
theorem dX9_term_49 : decode cX9_term 49 = .ok (.aload_n 0, 1) := by decide +kernel
theorem dX9_term_50 : decode cX9_term 50 = .ok (.getfield 7, 3) := by decide +kernel
theorem dX9_term_53 : decode cX9_term 53 = .ok (.bipush 36, 2) := by decide +kernel
theorem dX9_term_55 : decode cX9_term 55 = .ok (.daload, 1) := by decide +kernel
theorem dX9_term_56 : decode cX9_term 56 = .ok (.dmul, 1) := by decide +kernel
theorem dX9_term_57 : decode cX9_term 57 = .ok (.dstore_n 3, 1) := by decide +kernel
theorem dX9_term_58 : decode cX9_term 58 = .ok (.iinc 5 1, 3) := by decide +kernel
theorem dX9_term_61 : decode cX9_term 61 = .ok (.goto (-19), 3) := by decide +kernel
theorem dX9_term_64 : decode cX9_term 64 = .ok (.iload_n 1, 1) := by decide +kernel
theorem dX9_term_65 : decode cX9_term 65 = .ok (.iconst 3, 1) := by decide +kernel
theorem dX9_term_66 : decode cX9_term 66 = .ok (.if_icmp .ne 7, 3) := by decide +kernel
theorem dX9_term_69 : decode cX9_term 69 = .ok (.dload_n 3, 1) := by decide +kernel
theorem dX9_term_70 : decode cX9_term 70 = .ok (.goto 7, 3) := by decide +kernel
theorem dX9_term_73 : decode cX9_term 73 = .ok (.dload_n 3, 1) := by decide +kernel
theorem dX9_term_74 : decode cX9_term 74 = .ok (.iload_n 2, 1) := by decide +kernel
theorem dX9_term_75 : decode cX9_term 75 = .ok (.i2d, 1) := by decide +kernel
theorem dX9_term_76 : decode cX9_term 76 = .ok (.ddiv, 1) := by decide +kernel
theorem dX9_term_77 : decode cX9_term 77 = .ok (.dreturn, 1) := by decide +kernel
set_option maxRecDepth 20000 in
theorem ggX9_fill_X9_isRow : GoodIn wsX9_fill wsX9_isRow := goodIn_r _ [5, 6, 7, 4, 8] (by decide +kernel) (by decide +kernel)
set_option maxRecDepth 20000 in
theorem gX9_fill_X9_isRow : GoodIn wsX9_fill (va_wsS RX9 43 yX9_isRow wsX9_isRow) := goodIn_app (goodIn_of _ (by decide +kernel)) ggX9_fill_X9_isRow
set_option maxRecDepth 20000 in
theorem ggX9_fill_X9_in : GoodIn wsX9_fill wsX9_in := goodIn_r _ [8] (by decide +kernel) (by decide +kernel)
set_option maxRecDepth 20000 in
theorem gX9_fill_X9_in : GoodIn wsX9_fill (va_wsS RX9 39 yX9_in wsX9_in) := goodIn_app (goodIn_of _ (by decide +kernel)) ggX9_fill_X9_in
set_option maxRecDepth 20000 in
theorem ggX9_fill_X9_term : GoodIn wsX9_fill wsX9_term := goodIn_r _ [12, 13, 29, 30, 31, 32, 33, 34, 35, 36, 37, 38, 39, 40, 41, 42, 43, 44, 45, 46, 47] (by decide +kernel) (by decide +kernel)
set_option maxRecDepth 20000 in
theorem gX9_fill_X9_term : GoodIn wsX9_fill (wsV RX9 108 RX9 yX9_term wsX9_term) := goodIn_app (goodIn_of _ (by decide +kernel)) ggX9_fill_X9_term
set_option maxRecDepth 20000 in
theorem ggX9_fill_X9_lays : GoodIn wsX9_fill wsX9_lays := goodIn_r _ [17, 18, 1, 29, 30, 31, 32, 33, 34, 35, 36, 37, 38, 39, 40, 41, 42, 43, 44, 45, 46, 47] (by decide +kernel) (by decide +kernel)
set_option maxRecDepth 20000 in
theorem gX9_fill_X9_lays : GoodIn wsX9_fill (wsV RX9 112 RX9 yX9_lays wsX9_lays) := goodIn_app (goodIn_of _ (by decide +kernel)) ggX9_fill_X9_lays
set_option maxRecDepth 20000 in
theorem ggX9_fill_X9_becomes : GoodIn wsX9_fill wsX9_becomes := goodIn_r _ [22, 13, 1, 18, 23, 24, 25, 4, 26, 27, 28, 29, 30, 31, 32, 33, 34, 35, 36, 37, 38, 39, 40, 41, 42, 43, 44, 45, 46, 47] (by decide +kernel) (by decide +kernel)
set_option maxRecDepth 20000 in
theorem gX9_fill_X9_becomes : GoodIn wsX9_fill (wsV RX9 116 RX9 yX9_becomes wsX9_becomes) := goodIn_app (goodIn_of _ (by decide +kernel)) ggX9_fill_X9_becomes
theorem dX9_fill_0 : decode cX9_fill 0 = .ok (.iload_n 1, 1) := by decide +kernel
theorem dX9_fill_1 : decode cX9_fill 1 = .ok (.invokestatic 43, 3) := by decide +kernel
theorem dX9_fill_4 : decode cX9_fill 4 = .ok (.ifCond .ne 5, 3) := by decide +kernel
theorem dX9_fill_7 : decode cX9_fill 7 = .ok (.iconst (-1), 1) := by decide +kernel
theorem dX9_fill_8 : decode cX9_fill 8 = .ok (.ireturn, 1) := by decide +kernel
theorem dX9_fill_9 : decode cX9_fill 9 = .ok (.iload_n 2, 1) := by decide +kernel
theorem dX9_fill_10 : decode cX9_fill 10 = .ok (.iconst 0, 1) := by decide +kernel
theorem dX9_fill_11 : decode cX9_fill 11 = .ok (.iconst 4, 1) := by decide +kernel
theorem dX9_fill_12 : decode cX9_fill 12 = .ok (.invokestatic 39, 3) := by decide +kernel
theorem dX9_fill_15 : decode cX9_fill 15 = .ok (.ifCond .eq 13, 3) := by decide +kernel
theorem dX9_fill_18 : decode cX9_fill 18 = .ok (.iload_n 3, 1) := by decide +kernel
theorem dX9_fill_19 : decode cX9_fill 19 = .ok (.iconst 1, 1) := by decide +kernel
theorem dX9_fill_20 : decode cX9_fill 20 = .ok (.bipush 16, 2) := by decide +kernel
theorem dX9_fill_22 : decode cX9_fill 22 = .ok (.invokestatic 39, 3) := by decide +kernel
theorem dX9_fill_25 : decode cX9_fill 25 = .ok (.ifCond .ne 6, 3) := by decide +kernel
theorem dX9_fill_28 : decode cX9_fill 28 = .ok (.bipush (-2), 2) := by decide +kernel
theorem dX9_fill_30 : decode cX9_fill 30 = .ok (.ireturn, 1) := by decide +kernel
theorem dX9_fill_31 : decode cX9_fill 31 = .ok (.aload_n 0, 1) := by decide +kernel
theorem dX9_fill_32 : decode cX9_fill 32 = .ok (.iconst 0, 1) := by decide +kernel
theorem dX9_fill_33 : decode cX9_fill 33 = .ok (.putfield 86, 3) := by decide +kernel
theorem dX9_fill_36 : decode cX9_fill 36 = .ok (.dconst 0, 1) := by decide +kernel
theorem dX9_fill_37 : decode cX9_fill 37 = .ok (.dstore 4, 2) := by decide +kernel
theorem dX9_fill_39 : decode cX9_fill 39 = .ok (.iconst 1, 1) := by decide +kernel
theorem dX9_fill_40 : decode cX9_fill 40 = .ok (.istore 6, 2) := by decide +kernel
theorem dX9_fill_42 : decode cX9_fill 42 = .ok (.iload 6, 2) := by decide +kernel
theorem dX9_fill_44 : decode cX9_fill 44 = .ok (.iload_n 3, 1) := by decide +kernel
theorem dX9_fill_45 : decode cX9_fill 45 = .ok (.if_icmp .gt 67, 3) := by decide +kernel
theorem dX9_fill_48 : decode cX9_fill 48 = .ok (.iload_n 2, 1) := by decide +kernel
theorem dX9_fill_49 : decode cX9_fill 49 = .ok (.iconst 1, 1) := by decide +kernel
theorem dX9_fill_50 : decode cX9_fill 50 = .ok (.iconst 2, 1) := by decide +kernel
theorem dX9_fill_51 : decode cX9_fill 51 = .ok (.invokestatic 39, 3) := by decide +kernel
theorem dX9_fill_54 : decode cX9_fill 54 = .ok (.ifCond .eq 14, 3) := by decide +kernel
theorem dX9_fill_57 : decode cX9_fill 57 = .ok (.iload 6, 2) := by decide +kernel
theorem dX9_fill_59 : decode cX9_fill 59 = .ok (.iconst 2, 1) := by decide +kernel
theorem dX9_fill_60 : decode cX9_fill 60 = .ok (.irem, 1) := by decide +kernel
theorem dX9_fill_61 : decode cX9_fill 61 = .ok (.ifCond .ne 7, 3) := by decide +kernel
theorem dX9_fill_64 : decode cX9_fill 64 = .ok (.iconst 1, 1) := by decide +kernel
theorem dX9_fill_65 : decode cX9_fill 65 = .ok (.goto 4, 3) := by decide +kernel
theorem dX9_fill_68 : decode cX9_fill 68 = .ok (.iconst 0, 1) := by decide +kernel
theorem dX9_fill_69 : decode cX9_fill 69 = .ok (.istore 7, 2) := by decide +kernel
theorem dX9_fill_71 : decode cX9_fill 71 = .ok (.aload_n 0, 1) := by decide +kernel
theorem dX9_fill_72 : decode cX9_fill 72 = .ok (.iload_n 2, 1) := by decide +kernel
theorem dX9_fill_73 : decode cX9_fill 73 = .ok (.iload 6, 2) := by decide +kernel
theorem dX9_fill_75 : decode cX9_fill 75 = .ok (.invokevirtual 108, 3) := by decide +kernel
theorem dX9_fill_78 : decode cX9_fill 78 = .ok (.dstore 8, 2) := by decide +kernel
theorem dX9_fill_80 : decode cX9_fill 80 = .ok (.iload 7, 2) := by decide +kernel
theorem dX9_fill_82 : decode cX9_fill 82 = .ok (.ifCond .eq 11, 3) := by decide +kernel
theorem dX9_fill_85 : decode cX9_fill 85 = .ok (.dload 4, 2) := by decide +kernel
theorem dX9_fill_87 : decode cX9_fill 87 = .ok (.dload 8, 2) := by decide +kernel
theorem dX9_fill_89 : decode cX9_fill 89 = .ok (.dsub, 1) := by decide +kernel
theorem dX9_fill_90 : decode cX9_fill 90 = .ok (.goto 8, 3) := by decide +kernel
theorem dX9_fill_93 : decode cX9_fill 93 = .ok (.dload 4, 2) := by decide +kernel
theorem dX9_fill_95 : decode cX9_fill 95 = .ok (.dload 8, 2) := by decide +kernel
theorem dX9_fill_97 : decode cX9_fill 97 = .ok (.dadd, 1) := by decide +kernel
theorem dX9_fill_98 : decode cX9_fill 98 = .ok (.dstore 4, 2) := by decide +kernel
theorem dX9_fill_100 : decode cX9_fill 100 = .ok (.aload_n 0, 1) := by decide +kernel
theorem dX9_fill_101 : decode cX9_fill 101 = .ok (.dload 4, 2) := by decide +kernel
theorem dX9_fill_103 : decode cX9_fill 103 = .ok (.invokevirtual 112, 3) := by decide +kernel
theorem dX9_fill_106 : decode cX9_fill 106 = .ok (.iinc 6 1, 3) := by decide +kernel
theorem dX9_fill_109 : decode cX9_fill 109 = .ok (.goto (-67), 3) := by decide +kernel
theorem dX9_fill_112 : decode cX9_fill 112 = .ok (.aload_n 0, 1) := by decide +kernel
theorem dX9_fill_113 : decode cX9_fill 113 = .ok (.iload_n 1, 1) := by decide +kernel
theorem dX9_fill_114 : decode cX9_fill 114 = .ok (.invokevirtual 116, 3) := by decide +kernel
theorem dX9_fill_117 : decode cX9_fill 117 = .ok (.ireturn, 1) := by decide +kernel
set_option maxRecDepth 20000 in
theorem ggX9_becomesGood_X9_areGood : GoodIn wsX9_becomesGood wsX9_areGood := goodIn_r _ [6, 1, 7, 8, 9, 5, 10, 11, 12, 13, 14, 15, 16, 17, 18, 19, 31, 32, 33, 34, 35, 36, 37, 38, 39, 40, 41, 42, 43, 44, 45, 46, 47, 48, 49] (by decide +kernel) (by decide +kernel)
set_option maxRecDepth 20000 in
theorem gX9_becomesGood_X9_areGood : GoodIn wsX9_becomesGood (wsV RX9 119 RX9 yX9_areGood wsX9_areGood) := goodIn_app (goodIn_of _ (by decide +kernel)) ggX9_becomesGood_X9_areGood
set_option maxRecDepth 20000 in
theorem ggX9_becomesGood_X9_becomes : GoodIn wsX9_becomesGood wsX9_becomes := goodIn_r _ [23, 24, 1, 7, 25, 26, 27, 5, 28, 29, 30, 31, 32, 33, 34, 35, 36, 37, 38, 39, 40, 41, 42, 43, 44, 45, 46, 47, 48, 49] (by decide +kernel) (by decide +kernel)
set_option maxRecDepth 20000 in
theorem gX9_becomesGood_X9_becomes : GoodIn wsX9_becomesGood (wsV RX9 116 RX9 yX9_becomes wsX9_becomes) := goodIn_app (goodIn_of _ (by decide +kernel)) ggX9_becomesGood_X9_becomes
theorem dX9_becomesGood_0 : decode cX9_becomesGood 0 = .ok (.aload_n 0, 1) := by decide +kernel
theorem dX9_becomesGood_1 : decode cX9_becomesGood 1 = .ok (.getfield 86, 3) := by decide +kernel
theorem dX9_becomesGood_4 : decode cX9_becomesGood 4 = .ok (.ifCond .ne 8, 3) := by decide +kernel
theorem dX9_becomesGood_7 : decode cX9_becomesGood 7 = .ok (.bipush (-5), 2) := by decide +kernel
theorem dX9_becomesGood_9 : decode cX9_becomesGood 9 = .ok (.goto 20, 3) := by decide +kernel
theorem dX9_becomesGood_12 : decode cX9_becomesGood 12 = .ok (.aload_n 0, 1) := by decide +kernel
theorem dX9_becomesGood_13 : decode cX9_becomesGood 13 = .ok (.invokevirtual 119, 3) := by decide +kernel
theorem dX9_becomesGood_16 : decode cX9_becomesGood 16 = .ok (.ifCond .eq 11, 3) := by decide +kernel
theorem dX9_becomesGood_19 : decode cX9_becomesGood 19 = .ok (.aload_n 0, 1) := by decide +kernel
theorem dX9_becomesGood_20 : decode cX9_becomesGood 20 = .ok (.iload_n 1, 1) := by decide +kernel
theorem dX9_becomesGood_21 : decode cX9_becomesGood 21 = .ok (.invokevirtual 116, 3) := by decide +kernel
theorem dX9_becomesGood_24 : decode cX9_becomesGood 24 = .ok (.goto 5, 3) := by decide +kernel
theorem dX9_becomesGood_27 : decode cX9_becomesGood 27 = .ok (.bipush (-4), 2) := by decide +kernel
theorem dX9_becomesGood_29 : decode cX9_becomesGood 29 = .ok (.ireturn, 1) := by decide +kernel
set_option maxRecDepth 20000 in
theorem ggX9_sum_X9_isRow : GoodIn wsX9_sum wsX9_isRow := goodIn_r _ [6, 7, 8, 5, 9] (by decide +kernel) (by decide +kernel)
set_option maxRecDepth 20000 in
theorem gX9_sum_X9_isRow : GoodIn wsX9_sum (va_wsS RX9 43 yX9_isRow wsX9_isRow) := goodIn_app (goodIn_of _ (by decide +kernel)) ggX9_sum_X9_isRow
set_option maxRecDepth 20000 in
theorem ggX9_sum_X9_many : GoodIn wsX9_sum wsX9_many := goodIn_r _ [13, 2, 49, 50, 51, 52, 53, 54, 55, 56, 57, 58, 59, 60, 61, 62, 63, 64, 65, 66, 67] (by decide +kernel) (by decide +kernel)
set_option maxRecDepth 20000 in
theorem gX9_sum_X9_many : GoodIn wsX9_sum (wsV RX9 47 RX9 yX9_many wsX9_many) := goodIn_app (goodIn_of _ (by decide +kernel)) ggX9_sum_X9_many
set_option maxRecDepth 20000 in
theorem ggX9_sum_X9_lays : GoodIn wsX9_sum wsX9_lays := goodIn_r _ [17, 18, 1, 49, 50, 51, 52, 53, 54, 55, 56, 57, 58, 59, 60, 61, 62, 63, 64, 65, 66, 67] (by decide +kernel) (by decide +kernel)
set_option maxRecDepth 20000 in
theorem gX9_sum_X9_lays : GoodIn wsX9_sum (wsV RX9 112 RX9 yX9_lays wsX9_lays) := goodIn_app (goodIn_of _ (by decide +kernel)) ggX9_sum_X9_lays
set_option maxRecDepth 20000 in
theorem ggX9_sum_X9_becomesGood : GoodIn wsX9_sum wsX9_becomesGood := goodIn_r _ [22, 1, 23, 24, 25, 5, 26, 18, 27, 28, 29, 30, 31, 32, 33, 34, 35, 36, 37, 38, 39, 40, 41, 42, 2, 43, 44, 45, 46, 47, 48, 49, 50, 51, 52, 53, 54, 55, 56, 57, 58, 59, 60, 61, 62, 63, 64, 65, 66, 67] (by decide +kernel) (by decide +kernel)
set_option maxRecDepth 20000 in
theorem gX9_sum_X9_becomesGood : GoodIn wsX9_sum (wsV RX9 123 RX9 yX9_becomesGood wsX9_becomesGood) := goodIn_app (goodIn_of _ (by decide +kernel)) ggX9_sum_X9_becomesGood
theorem dX9_sum_0 : decode cX9_sum 0 = .ok (.iload_n 1, 1) := by decide +kernel
theorem dX9_sum_1 : decode cX9_sum 1 = .ok (.invokestatic 43, 3) := by decide +kernel
theorem dX9_sum_4 : decode cX9_sum 4 = .ok (.ifCond .ne 5, 3) := by decide +kernel
theorem dX9_sum_7 : decode cX9_sum 7 = .ok (.iconst (-1), 1) := by decide +kernel
theorem dX9_sum_8 : decode cX9_sum 8 = .ok (.ireturn, 1) := by decide +kernel
theorem dX9_sum_9 : decode cX9_sum 9 = .ok (.aload_n 0, 1) := by decide +kernel
theorem dX9_sum_10 : decode cX9_sum 10 = .ok (.iconst 0, 1) := by decide +kernel
theorem dX9_sum_11 : decode cX9_sum 11 = .ok (.putfield 86, 3) := by decide +kernel
theorem dX9_sum_14 : decode cX9_sum 14 = .ok (.dconst 0, 1) := by decide +kernel
theorem dX9_sum_15 : decode cX9_sum 15 = .ok (.dstore_n 2, 1) := by decide +kernel
theorem dX9_sum_16 : decode cX9_sum 16 = .ok (.iconst 0, 1) := by decide +kernel
theorem dX9_sum_17 : decode cX9_sum 17 = .ok (.istore 4, 2) := by decide +kernel
theorem dX9_sum_19 : decode cX9_sum 19 = .ok (.iload 4, 2) := by decide +kernel
theorem dX9_sum_21 : decode cX9_sum 21 = .ok (.aload_n 0, 1) := by decide +kernel
theorem dX9_sum_22 : decode cX9_sum 22 = .ok (.iload_n 1, 1) := by decide +kernel
theorem dX9_sum_23 : decode cX9_sum 23 = .ok (.invokevirtual 47, 3) := by decide +kernel
theorem dX9_sum_26 : decode cX9_sum 26 = .ok (.if_icmp .ge 29, 3) := by decide +kernel
theorem dX9_sum_29 : decode cX9_sum 29 = .ok (.dload_n 2, 1) := by decide +kernel
theorem dX9_sum_30 : decode cX9_sum 30 = .ok (.aload_n 0, 1) := by decide +kernel
theorem dX9_sum_31 : decode cX9_sum 31 = .ok (.getfield 7, 3) := by decide +kernel
theorem dX9_sum_34 : decode cX9_sum 34 = .ok (.bipush 16, 2) := by decide +kernel
theorem dX9_sum_36 : decode cX9_sum 36 = .ok (.iload_n 1, 1) := by decide +kernel
theorem dX9_sum_37 : decode cX9_sum 37 = .ok (.imul, 1) := by decide +kernel
theorem dX9_sum_38 : decode cX9_sum 38 = .ok (.iload 4, 2) := by decide +kernel
theorem dX9_sum_40 : decode cX9_sum 40 = .ok (.iadd, 1) := by decide +kernel
theorem dX9_sum_41 : decode cX9_sum 41 = .ok (.daload, 1) := by decide +kernel
theorem dX9_sum_42 : decode cX9_sum 42 = .ok (.dadd, 1) := by decide +kernel
theorem dX9_sum_43 : decode cX9_sum 43 = .ok (.dstore_n 2, 1) := by decide +kernel
theorem dX9_sum_44 : decode cX9_sum 44 = .ok (.aload_n 0, 1) := by decide +kernel
theorem dX9_sum_45 : decode cX9_sum 45 = .ok (.dload_n 2, 1) := by decide +kernel
theorem dX9_sum_46 : decode cX9_sum 46 = .ok (.invokevirtual 112, 3) := by decide +kernel
theorem dX9_sum_49 : decode cX9_sum 49 = .ok (.iinc 4 1, 3) := by decide +kernel
theorem dX9_sum_52 : decode cX9_sum 52 = .ok (.goto (-33), 3) := by decide +kernel
theorem dX9_sum_55 : decode cX9_sum 55 = .ok (.aload_n 0, 1) := by decide +kernel
theorem dX9_sum_56 : decode cX9_sum 56 = .ok (.iload_n 1, 1) := by decide +kernel
theorem dX9_sum_57 : decode cX9_sum 57 = .ok (.invokevirtual 123, 3) := by decide +kernel
theorem dX9_sum_60 : decode cX9_sum 60 = .ok (.ireturn, 1) := by decide +kernel
set_option maxRecDepth 20000 in
theorem ggX9_differences_X9_isRow : GoodIn wsX9_differences wsX9_isRow := goodIn_r _ [6, 7, 8, 5, 9] (by decide +kernel) (by decide +kernel)
set_option maxRecDepth 20000 in
theorem gX9_differences_X9_isRow : GoodIn wsX9_differences (va_wsS RX9 43 yX9_isRow wsX9_isRow) := goodIn_app (goodIn_of _ (by decide +kernel)) ggX9_differences_X9_isRow
set_option maxRecDepth 20000 in
theorem ggX9_differences_X9_many : GoodIn wsX9_differences wsX9_many := goodIn_r _ [13, 2, 49, 50, 51, 52, 53, 54, 55, 56, 57, 58, 59, 60, 61, 62, 63, 64, 65, 66, 67] (by decide +kernel) (by decide +kernel)
set_option maxRecDepth 20000 in
theorem gX9_differences_X9_many : GoodIn wsX9_differences (wsV RX9 47 RX9 yX9_many wsX9_many) := goodIn_app (goodIn_of _ (by decide +kernel)) ggX9_differences_X9_many
set_option maxRecDepth 20000 in
theorem ggX9_differences_X9_lays : GoodIn wsX9_differences wsX9_lays := goodIn_r _ [17, 18, 1, 49, 50, 51, 52, 53, 54, 55, 56, 57, 58, 59, 60, 61, 62, 63, 64, 65, 66, 67] (by decide +kernel) (by decide +kernel)
set_option maxRecDepth 20000 in
theorem gX9_differences_X9_lays : GoodIn wsX9_differences (wsV RX9 112 RX9 yX9_lays wsX9_lays) := goodIn_app (goodIn_of _ (by decide +kernel)) ggX9_differences_X9_lays
set_option maxRecDepth 20000 in
theorem ggX9_differences_X9_becomesGood : GoodIn wsX9_differences wsX9_becomesGood := goodIn_r _ [22, 1, 23, 24, 25, 5, 26, 18, 27, 28, 29, 30, 31, 32, 33, 34, 35, 36, 37, 38, 39, 40, 41, 42, 2, 43, 44, 45, 46, 47, 48, 49, 50, 51, 52, 53, 54, 55, 56, 57, 58, 59, 60, 61, 62, 63, 64, 65, 66, 67] (by decide +kernel) (by decide +kernel)
set_option maxRecDepth 20000 in
theorem gX9_differences_X9_becomesGood : GoodIn wsX9_differences (wsV RX9 123 RX9 yX9_becomesGood wsX9_becomesGood) := goodIn_app (goodIn_of _ (by decide +kernel)) ggX9_differences_X9_becomesGood
theorem dX9_differences_0 : decode cX9_differences 0 = .ok (.iload_n 1, 1) := by decide +kernel
theorem dX9_differences_1 : decode cX9_differences 1 = .ok (.invokestatic 43, 3) := by decide +kernel
theorem dX9_differences_4 : decode cX9_differences 4 = .ok (.ifCond .ne 5, 3) := by decide +kernel
theorem dX9_differences_7 : decode cX9_differences 7 = .ok (.iconst (-1), 1) := by decide +kernel
theorem dX9_differences_8 : decode cX9_differences 8 = .ok (.ireturn, 1) := by decide +kernel
theorem dX9_differences_9 : decode cX9_differences 9 = .ok (.aload_n 0, 1) := by decide +kernel
theorem dX9_differences_10 : decode cX9_differences 10 = .ok (.iconst 0, 1) := by decide +kernel
theorem dX9_differences_11 : decode cX9_differences 11 = .ok (.putfield 86, 3) := by decide +kernel
theorem dX9_differences_14 : decode cX9_differences 14 = .ok (.iconst 0, 1) := by decide +kernel
theorem dX9_differences_15 : decode cX9_differences 15 = .ok (.istore_n 2, 1) := by decide +kernel
theorem dX9_differences_16 : decode cX9_differences 16 = .ok (.iload_n 2, 1) := by decide +kernel
theorem dX9_differences_17 : decode cX9_differences 17 = .ok (.aload_n 0, 1) := by decide +kernel
theorem dX9_differences_18 : decode cX9_differences 18 = .ok (.iload_n 1, 1) := by decide +kernel
theorem dX9_differences_19 : decode cX9_differences 19 = .ok (.invokevirtual 47, 3) := by decide +kernel
theorem dX9_differences_22 : decode cX9_differences 22 = .ok (.if_icmp .ge 48, 3) := by decide +kernel
theorem dX9_differences_25 : decode cX9_differences 25 = .ok (.aload_n 0, 1) := by decide +kernel
theorem dX9_differences_26 : decode cX9_differences 26 = .ok (.getfield 7, 3) := by decide +kernel
theorem dX9_differences_29 : decode cX9_differences 29 = .ok (.bipush 16, 2) := by decide +kernel
theorem dX9_differences_31 : decode cX9_differences 31 = .ok (.iload_n 1, 1) := by decide +kernel
theorem dX9_differences_32 : decode cX9_differences 32 = .ok (.imul, 1) := by decide +kernel
theorem dX9_differences_33 : decode cX9_differences 33 = .ok (.iload_n 2, 1) := by decide +kernel
theorem dX9_differences_34 : decode cX9_differences 34 = .ok (.iadd, 1) := by decide +kernel
theorem dX9_differences_35 : decode cX9_differences 35 = .ok (.daload, 1) := by decide +kernel
theorem dX9_differences_36 : decode cX9_differences 36 = .ok (.dstore_n 3, 1) := by decide +kernel
theorem dX9_differences_37 : decode cX9_differences 37 = .ok (.aload_n 0, 1) := by decide +kernel
theorem dX9_differences_38 : decode cX9_differences 38 = .ok (.iload_n 2, 1) := by decide +kernel
theorem dX9_differences_39 : decode cX9_differences 39 = .ok (.ifCond .ne 7, 3) := by decide +kernel
theorem dX9_differences_42 : decode cX9_differences 42 = .ok (.dload_n 3, 1) := by decide +kernel
theorem dX9_differences_43 : decode cX9_differences 43 = .ok (.goto 18, 3) := by decide +kernel
theorem dX9_differences_46 : decode cX9_differences 46 = .ok (.dload_n 3, 1) := by decide +kernel
theorem dX9_differences_47 : decode cX9_differences 47 = .ok (.aload_n 0, 1) := by decide +kernel
theorem dX9_differences_48 : decode cX9_differences 48 = .ok (.getfield 7, 3) := by decide +kernel
theorem dX9_differences_51 : decode cX9_differences 51 = .ok (.bipush 16, 2) := by decide +kernel
theorem dX9_differences_53 : decode cX9_differences 53 = .ok (.iload_n 1, 1) := by decide +kernel
theorem dX9_differences_54 : decode cX9_differences 54 = .ok (.imul, 1) := by decide +kernel
theorem dX9_differences_55 : decode cX9_differences 55 = .ok (.iload_n 2, 1) := by decide +kernel
theorem dX9_differences_56 : decode cX9_differences 56 = .ok (.iadd, 1) := by decide +kernel
theorem dX9_differences_57 : decode cX9_differences 57 = .ok (.iconst 1, 1) := by decide +kernel
theorem dX9_differences_58 : decode cX9_differences 58 = .ok (.isub, 1) := by decide +kernel
theorem dX9_differences_59 : decode cX9_differences 59 = .ok (.daload, 1) := by decide +kernel
theorem dX9_differences_60 : decode cX9_differences 60 = .ok (.dsub, 1) := by decide +kernel
theorem dX9_differences_61 : decode cX9_differences 61 = .ok (.invokevirtual 112, 3) := by decide +kernel
theorem dX9_differences_64 : decode cX9_differences 64 = .ok (.iinc 2 1, 3) := by decide +kernel
theorem dX9_differences_67 : decode cX9_differences 67 = .ok (.goto (-51), 3) := by decide +kernel
theorem dX9_differences_70 : decode cX9_differences 70 = .ok (.aload_n 0, 1) := by decide +kernel
theorem dX9_differences_71 : decode cX9_differences 71 = .ok (.iload_n 1, 1) := by decide +kernel
theorem dX9_differences_72 : decode cX9_differences 72 = .ok (.invokevirtual 123, 3) := by decide +kernel
theorem dX9_differences_75 : decode cX9_differences 75 = .ok (.ireturn, 1) := by decide +kernel
theorem dX9_isThere_0 : decode cX9_isThere 0 = .ok (.aload_n 0, 1) := by decide +kernel
theorem dX9_isThere_1 : decode cX9_isThere 1 = .ok (.getfield 126, 3) := by decide +kernel
theorem dX9_isThere_4 : decode cX9_isThere 4 = .ok (.iconst 2, 1) := by decide +kernel
theorem dX9_isThere_5 : decode cX9_isThere 5 = .ok (.if_icmp .ne 9, 3) := by decide +kernel
theorem dX9_isThere_8 : decode cX9_isThere 8 = .ok (.iconst 2, 1) := by decide +kernel
theorem dX9_isThere_9 : decode cX9_isThere 9 = .ok (.iload_n 1, 1) := by decide +kernel
theorem dX9_isThere_10 : decode cX9_isThere 10 = .ok (.imul, 1) := by decide +kernel
theorem dX9_isThere_11 : decode cX9_isThere 11 = .ok (.goto 4, 3) := by decide +kernel
theorem dX9_isThere_14 : decode cX9_isThere 14 = .ok (.iload_n 1, 1) := by decide +kernel
theorem dX9_isThere_15 : decode cX9_isThere 15 = .ok (.istore_n 3, 1) := by decide +kernel
theorem dX9_isThere_16 : decode cX9_isThere 16 = .ok (.iload_n 1, 1) := by decide +kernel
theorem dX9_isThere_17 : decode cX9_isThere 17 = .ok (.ifCond .lt 27, 3) := by decide +kernel
theorem dX9_isThere_20 : decode cX9_isThere 20 = .ok (.iload_n 2, 1) := by decide +kernel
theorem dX9_isThere_21 : decode cX9_isThere 21 = .ok (.ifCond .lt 23, 3) := by decide +kernel
theorem dX9_isThere_24 : decode cX9_isThere 24 = .ok (.iload_n 1, 1) := by decide +kernel
theorem dX9_isThere_25 : decode cX9_isThere 25 = .ok (.bipush 16, 2) := by decide +kernel
theorem dX9_isThere_27 : decode cX9_isThere 27 = .ok (.if_icmp .ge 17, 3) := by decide +kernel
theorem dX9_isThere_30 : decode cX9_isThere 30 = .ok (.iload_n 2, 1) := by decide +kernel
theorem dX9_isThere_31 : decode cX9_isThere 31 = .ok (.aload_n 0, 1) := by decide +kernel
theorem dX9_isThere_32 : decode cX9_isThere 32 = .ok (.getfield 129, 3) := by decide +kernel
theorem dX9_isThere_35 : decode cX9_isThere 35 = .ok (.iload_n 3, 1) := by decide +kernel
theorem dX9_isThere_36 : decode cX9_isThere 36 = .ok (.isub, 1) := by decide +kernel
theorem dX9_isThere_37 : decode cX9_isThere 37 = .ok (.if_icmp .ge 7, 3) := by decide +kernel
theorem dX9_isThere_40 : decode cX9_isThere 40 = .ok (.iconst 1, 1) := by decide +kernel
theorem dX9_isThere_41 : decode cX9_isThere 41 = .ok (.goto 4, 3) := by decide +kernel
theorem dX9_isThere_44 : decode cX9_isThere 44 = .ok (.iconst 0, 1) := by decide +kernel
theorem dX9_isThere_45 : decode cX9_isThere 45 = .ok (.ireturn, 1) := by decide +kernel
theorem dX9_x_0 : decode cX9_x 0 = .ok (.iload_n 1, 1) := by decide +kernel
theorem dX9_x_1 : decode cX9_x 1 = .ok (.ifCond .ge 7, 3) := by decide +kernel
theorem dX9_x_4 : decode cX9_x 4 = .ok (.dconst 0, 1) := by decide +kernel
theorem dX9_x_5 : decode cX9_x 5 = .ok (.goto 14, 3) := by decide +kernel
theorem dX9_x_8 : decode cX9_x 8 = .ok (.aload_n 0, 1) := by decide +kernel
theorem dX9_x_9 : decode cX9_x 9 = .ok (.getfield 26, 3) := by decide +kernel
theorem dX9_x_12 : decode cX9_x 12 = .ok (.bipush 16, 2) := by decide +kernel
theorem dX9_x_14 : decode cX9_x 14 = .ok (.iload_n 1, 1) := by decide +kernel
theorem dX9_x_15 : decode cX9_x 15 = .ok (.imul, 1) := by decide +kernel
theorem dX9_x_16 : decode cX9_x 16 = .ok (.iload_n 2, 1) := by decide +kernel
theorem dX9_x_17 : decode cX9_x 17 = .ok (.iadd, 1) := by decide +kernel
theorem dX9_x_18 : decode cX9_x 18 = .ok (.daload, 1) := by decide +kernel
theorem dX9_x_19 : decode cX9_x 19 = .ok (.dreturn, 1) := by decide +kernel
theorem dX9_isBroken_0 : decode cX9_isBroken 0 = .ok (.iload_n 1, 1) := by decide +kernel
theorem dX9_isBroken_1 : decode cX9_isBroken 1 = .ok (.ifCond .lt 22, 3) := by decide +kernel
theorem dX9_isBroken_4 : decode cX9_isBroken 4 = .ok (.aload_n 0, 1) := by decide +kernel
theorem dX9_isBroken_5 : decode cX9_isBroken 5 = .ok (.getfield 29, 3) := by decide +kernel
theorem dX9_isBroken_8 : decode cX9_isBroken 8 = .ok (.bipush 16, 2) := by decide +kernel
theorem dX9_isBroken_10 : decode cX9_isBroken 10 = .ok (.iload_n 1, 1) := by decide +kernel
theorem dX9_isBroken_11 : decode cX9_isBroken 11 = .ok (.imul, 1) := by decide +kernel
theorem dX9_isBroken_12 : decode cX9_isBroken 12 = .ok (.iload_n 2, 1) := by decide +kernel
theorem dX9_isBroken_13 : decode cX9_isBroken 13 = .ok (.iadd, 1) := by decide +kernel
theorem dX9_isBroken_14 : decode cX9_isBroken 14 = .ok (.iaload, 1) := by decide +kernel
theorem dX9_isBroken_15 : decode cX9_isBroken 15 = .ok (.iconst 2, 1) := by decide +kernel
theorem dX9_isBroken_16 : decode cX9_isBroken 16 = .ok (.if_icmp .lt 7, 3) := by decide +kernel
theorem dX9_isBroken_19 : decode cX9_isBroken 19 = .ok (.iconst 1, 1) := by decide +kernel
theorem dX9_isBroken_20 : decode cX9_isBroken 20 = .ok (.goto 4, 3) := by decide +kernel
theorem dX9_isBroken_23 : decode cX9_isBroken 23 = .ok (.iconst 0, 1) := by decide +kernel
theorem dX9_isBroken_24 : decode cX9_isBroken 24 = .ok (.ireturn, 1) := by decide +kernel
set_option maxRecDepth 20000 in
theorem ggX9_hasBroken_X9_isBroken : GoodIn wsX9_hasBroken wsX9_isBroken := goodIn_r _ [6, 7, 8, 9, 10, 11, 12, 13, 14, 15, 16, 17, 18, 19, 20, 21, 22, 23, 24, 25, 26] (by decide +kernel) (by decide +kernel)
set_option maxRecDepth 20000 in
theorem gX9_hasBroken_X9_isBroken : GoodIn wsX9_hasBroken (wsV RX9 132 RX9 yX9_isBroken wsX9_isBroken) := goodIn_app (goodIn_of _ (by decide +kernel)) ggX9_hasBroken_X9_isBroken
theorem dX9_hasBroken_0 : decode cX9_hasBroken 0 = .ok (.aload_n 0, 1) := by decide +kernel
theorem dX9_hasBroken_1 : decode cX9_hasBroken 1 = .ok (.iload_n 1, 1) := by decide +kernel
theorem dX9_hasBroken_2 : decode cX9_hasBroken 2 = .ok (.iconst 1, 1) := by decide +kernel
theorem dX9_hasBroken_3 : decode cX9_hasBroken 3 = .ok (.isub, 1) := by decide +kernel
theorem dX9_hasBroken_4 : decode cX9_hasBroken 4 = .ok (.iload_n 2, 1) := by decide +kernel
theorem dX9_hasBroken_5 : decode cX9_hasBroken 5 = .ok (.invokevirtual 132, 3) := by decide +kernel
theorem dX9_hasBroken_8 : decode cX9_hasBroken 8 = .ok (.ifCond .ne 16, 3) := by decide +kernel
theorem dX9_hasBroken_11 : decode cX9_hasBroken 11 = .ok (.aload_n 0, 1) := by decide +kernel
theorem dX9_hasBroken_12 : decode cX9_hasBroken 12 = .ok (.iload_n 1, 1) := by decide +kernel
theorem dX9_hasBroken_13 : decode cX9_hasBroken 13 = .ok (.iconst 1, 1) := by decide +kernel
theorem dX9_hasBroken_14 : decode cX9_hasBroken 14 = .ok (.isub, 1) := by decide +kernel
theorem dX9_hasBroken_15 : decode cX9_hasBroken 15 = .ok (.iload_n 2, 1) := by decide +kernel
theorem dX9_hasBroken_16 : decode cX9_hasBroken 16 = .ok (.iconst 1, 1) := by decide +kernel
theorem dX9_hasBroken_17 : decode cX9_hasBroken 17 = .ok (.iadd, 1) := by decide +kernel
theorem dX9_hasBroken_18 : decode cX9_hasBroken 18 = .ok (.invokevirtual 132, 3) := by decide +kernel
theorem dX9_hasBroken_21 : decode cX9_hasBroken 21 = .ok (.ifCond .eq 7, 3) := by decide +kernel
theorem dX9_hasBroken_24 : decode cX9_hasBroken 24 = .ok (.iconst 1, 1) := by decide +kernel
theorem dX9_hasBroken_25 : decode cX9_hasBroken 25 = .ok (.goto 4, 3) := by decide +kernel
theorem dX9_hasBroken_28 : decode cX9_hasBroken 28 = .ok (.iconst 0, 1) := by decide +kernel
theorem dX9_hasBroken_29 : decode cX9_hasBroken 29 = .ok (.istore_n 3, 1) := by decide +kernel
theorem dX9_hasBroken_30 : decode cX9_hasBroken 30 = .ok (.iload_n 3, 1) := by decide +kernel
theorem dX9_hasBroken_31 : decode cX9_hasBroken 31 = .ok (.ifCond .ne 48, 3) := by decide +kernel
theorem dX9_hasBroken_34 : decode cX9_hasBroken 34 = .ok (.aload_n 0, 1) := by decide +kernel
theorem dX9_hasBroken_35 : decode cX9_hasBroken 35 = .ok (.getfield 126, 3) := by decide +kernel
theorem dX9_hasBroken_38 : decode cX9_hasBroken 38 = .ok (.iconst 2, 1) := by decide +kernel
theorem dX9_hasBroken_39 : decode cX9_hasBroken 39 = .ok (.if_icmp .ne 19, 3) := by decide +kernel
theorem dX9_hasBroken_42 : decode cX9_hasBroken 42 = .ok (.aload_n 0, 1) := by decide +kernel
theorem dX9_hasBroken_43 : decode cX9_hasBroken 43 = .ok (.iload_n 1, 1) := by decide +kernel
theorem dX9_hasBroken_44 : decode cX9_hasBroken 44 = .ok (.iconst 1, 1) := by decide +kernel
theorem dX9_hasBroken_45 : decode cX9_hasBroken 45 = .ok (.isub, 1) := by decide +kernel
theorem dX9_hasBroken_46 : decode cX9_hasBroken 46 = .ok (.iload_n 2, 1) := by decide +kernel
theorem dX9_hasBroken_47 : decode cX9_hasBroken 47 = .ok (.iconst 2, 1) := by decide +kernel
theorem dX9_hasBroken_48 : decode cX9_hasBroken 48 = .ok (.iadd, 1) := by decide +kernel
theorem dX9_hasBroken_49 : decode cX9_hasBroken 49 = .ok (.invokevirtual 132, 3) := by decide +kernel
theorem dX9_hasBroken_52 : decode cX9_hasBroken 52 = .ok (.ifCond .eq 31, 3) := by decide +kernel
theorem dX9_hasBroken_55 : decode cX9_hasBroken 55 = .ok (.goto 24, 3) := by decide +kernel
theorem dX9_hasBroken_58 : decode cX9_hasBroken 58 = .ok (.aload_n 0, 1) := by decide +kernel
theorem dX9_hasBroken_59 : decode cX9_hasBroken 59 = .ok (.getfield 126, 3) := by decide +kernel
theorem dX9_hasBroken_62 : decode cX9_hasBroken 62 = .ok (.iconst 2, 1) := by decide +kernel
theorem dX9_hasBroken_63 : decode cX9_hasBroken 63 = .ok (.if_icmp .ge 20, 3) := by decide +kernel
theorem dX9_hasBroken_66 : decode cX9_hasBroken 66 = .ok (.aload_n 0, 1) := by decide +kernel
theorem dX9_hasBroken_67 : decode cX9_hasBroken 67 = .ok (.iload_n 1, 1) := by decide +kernel
theorem dX9_hasBroken_68 : decode cX9_hasBroken 68 = .ok (.iconst 2, 1) := by decide +kernel
theorem dX9_hasBroken_69 : decode cX9_hasBroken 69 = .ok (.isub, 1) := by decide +kernel
theorem dX9_hasBroken_70 : decode cX9_hasBroken 70 = .ok (.iload_n 2, 1) := by decide +kernel
theorem dX9_hasBroken_71 : decode cX9_hasBroken 71 = .ok (.iconst 1, 1) := by decide +kernel
theorem dX9_hasBroken_72 : decode cX9_hasBroken 72 = .ok (.iadd, 1) := by decide +kernel
theorem dX9_hasBroken_73 : decode cX9_hasBroken 73 = .ok (.invokevirtual 132, 3) := by decide +kernel
theorem dX9_hasBroken_76 : decode cX9_hasBroken 76 = .ok (.ifCond .eq 7, 3) := by decide +kernel
theorem dX9_hasBroken_79 : decode cX9_hasBroken 79 = .ok (.iconst 1, 1) := by decide +kernel
theorem dX9_hasBroken_80 : decode cX9_hasBroken 80 = .ok (.goto 4, 3) := by decide +kernel
theorem dX9_hasBroken_83 : decode cX9_hasBroken 83 = .ok (.iconst 0, 1) := by decide +kernel
theorem dX9_hasBroken_84 : decode cX9_hasBroken 84 = .ok (.ireturn, 1) := by decide +kernel
set_option maxRecDepth 20000 in
theorem ggX9_divisor_X9_x : GoodIn wsX9_divisor wsX9_x := goodIn_r _ [8, 9, 15, 16, 17, 18, 19, 20, 21, 22, 23, 24, 25, 26, 27, 28, 29, 30, 31, 32, 33] (by decide +kernel) (by decide +kernel)
set_option maxRecDepth 20000 in
theorem gX9_divisor_X9_x : GoodIn wsX9_divisor (wsV RX9 135 RX9 yX9_x wsX9_x) := goodIn_app (goodIn_of _ (by decide +kernel)) ggX9_divisor_X9_x
set_option maxRecDepth 20000 in
theorem ggX9_divisor_X9_isFinite : GoodIn wsX9_divisor wsX9_isFinite := goodIn_r _ [12, 13, 14] (by decide +kernel) (by decide +kernel)
set_option maxRecDepth 20000 in
theorem gX9_divisor_X9_isFinite : GoodIn wsX9_divisor (va_wsS RX9 59 yX9_isFinite wsX9_isFinite) := goodIn_app (goodIn_of _ (by decide +kernel)) ggX9_divisor_X9_isFinite
theorem dX9_divisor_0 : decode cX9_divisor 0 = .ok (.aload_n 0, 1) := by decide +kernel
theorem dX9_divisor_1 : decode cX9_divisor 1 = .ok (.iload_n 1, 1) := by decide +kernel
theorem dX9_divisor_2 : decode cX9_divisor 2 = .ok (.iconst 1, 1) := by decide +kernel
theorem dX9_divisor_3 : decode cX9_divisor 3 = .ok (.isub, 1) := by decide +kernel
theorem dX9_divisor_4 : decode cX9_divisor 4 = .ok (.iload_n 2, 1) := by decide +kernel
theorem dX9_divisor_5 : decode cX9_divisor 5 = .ok (.iconst 1, 1) := by decide +kernel
theorem dX9_divisor_6 : decode cX9_divisor 6 = .ok (.iadd, 1) := by decide +kernel
theorem dX9_divisor_7 : decode cX9_divisor 7 = .ok (.invokevirtual 135, 3) := by decide +kernel
theorem dX9_divisor_10 : decode cX9_divisor 10 = .ok (.aload_n 0, 1) := by decide +kernel
theorem dX9_divisor_11 : decode cX9_divisor 11 = .ok (.iload_n 1, 1) := by decide +kernel
theorem dX9_divisor_12 : decode cX9_divisor 12 = .ok (.iconst 1, 1) := by decide +kernel
theorem dX9_divisor_13 : decode cX9_divisor 13 = .ok (.isub, 1) := by decide +kernel
theorem dX9_divisor_14 : decode cX9_divisor 14 = .ok (.iload_n 2, 1) := by decide +kernel
theorem dX9_divisor_15 : decode cX9_divisor 15 = .ok (.invokevirtual 135, 3) := by decide +kernel
theorem dX9_divisor_18 : decode cX9_divisor 18 = .ok (.dsub, 1) := by decide +kernel
theorem dX9_divisor_19 : decode cX9_divisor 19 = .ok (.dstore_n 3, 1) := by decide +kernel
theorem dX9_divisor_20 : decode cX9_divisor 20 = .ok (.aload_n 0, 1) := by decide +kernel
theorem dX9_divisor_21 : decode cX9_divisor 21 = .ok (.getfield 126, 3) := by decide +kernel
theorem dX9_divisor_24 : decode cX9_divisor 24 = .ok (.iconst 2, 1) := by decide +kernel
theorem dX9_divisor_25 : decode cX9_divisor 25 = .ok (.if_icmp .ge 5, 3) := by decide +kernel
theorem dX9_divisor_28 : decode cX9_divisor 28 = .ok (.dload_n 3, 1) := by decide +kernel
theorem dX9_divisor_29 : decode cX9_divisor 29 = .ok (.dreturn, 1) := by decide +kernel
theorem dX9_divisor_30 : decode cX9_divisor 30 = .ok (.aload_n 0, 1) := by decide +kernel
theorem dX9_divisor_31 : decode cX9_divisor 31 = .ok (.getfield 126, 3) := by decide +kernel
theorem dX9_divisor_34 : decode cX9_divisor 34 = .ok (.iconst 2, 1) := by decide +kernel
theorem dX9_divisor_35 : decode cX9_divisor 35 = .ok (.if_icmp .ne 51, 3) := by decide +kernel
theorem dX9_divisor_38 : decode cX9_divisor 38 = .ok (.aload_n 0, 1) := by decide +kernel
theorem dX9_divisor_39 : decode cX9_divisor 39 = .ok (.iload_n 1, 1) := by decide +kernel
theorem dX9_divisor_40 : decode cX9_divisor 40 = .ok (.iconst 1, 1) := by decide +kernel
theorem dX9_divisor_41 : decode cX9_divisor 41 = .ok (.isub, 1) := by decide +kernel
theorem dX9_divisor_42 : decode cX9_divisor 42 = .ok (.iload_n 2, 1) := by decide +kernel
theorem dX9_divisor_43 : decode cX9_divisor 43 = .ok (.iconst 2, 1) := by decide +kernel
theorem dX9_divisor_44 : decode cX9_divisor 44 = .ok (.iadd, 1) := by decide +kernel
theorem dX9_divisor_45 : decode cX9_divisor 45 = .ok (.invokevirtual 135, 3) := by decide +kernel
theorem dX9_divisor_48 : decode cX9_divisor 48 = .ok (.aload_n 0, 1) := by decide +kernel
theorem dX9_divisor_49 : decode cX9_divisor 49 = .ok (.iload_n 1, 1) := by decide +kernel
theorem dX9_divisor_50 : decode cX9_divisor 50 = .ok (.iconst 1, 1) := by decide +kernel
theorem dX9_divisor_51 : decode cX9_divisor 51 = .ok (.isub, 1) := by decide +kernel
theorem dX9_divisor_52 : decode cX9_divisor 52 = .ok (.iload_n 2, 1) := by decide +kernel
theorem dX9_divisor_53 : decode cX9_divisor 53 = .ok (.iconst 1, 1) := by decide +kernel
theorem dX9_divisor_54 : decode cX9_divisor 54 = .ok (.iadd, 1) := by decide +kernel
theorem dX9_divisor_55 : decode cX9_divisor 55 = .ok (.invokevirtual 135, 3) := by decide +kernel
theorem dX9_divisor_58 : decode cX9_divisor 58 = .ok (.dsub, 1) := by decide +kernel
theorem dX9_divisor_59 : decode cX9_divisor 59 = .ok (.dstore 5, 2) := by decide +kernel
theorem dX9_divisor_61 : decode cX9_divisor 61 = .ok (.dload_n 3, 1) := by decide +kernel
theorem dX9_divisor_62 : decode cX9_divisor 62 = .ok (.invokestatic 59, 3) := by decide +kernel
theorem dX9_divisor_65 : decode cX9_divisor 65 = .ok (.ifCond .ne 16, 3) := by decide +kernel
theorem dX9_divisor_68 : decode cX9_divisor 68 = .ok (.dload 5, 2) := by decide +kernel
theorem dX9_divisor_70 : decode cX9_divisor 70 = .ok (.dload_n 3, 1) := by decide +kernel
theorem dX9_divisor_71 : decode cX9_divisor 71 = .ok (.dcmp .l, 1) := by decide +kernel
theorem dX9_divisor_72 : decode cX9_divisor 72 = .ok (.ifCond .ne 9, 3) := by decide +kernel
theorem dX9_divisor_75 : decode cX9_divisor 75 = .ok (.ldc2_w 138, 3) := by decide +kernel
theorem dX9_divisor_78 : decode cX9_divisor 78 = .ok (.goto 7, 3) := by decide +kernel
theorem dX9_divisor_81 : decode cX9_divisor 81 = .ok (.dload 5, 2) := by decide +kernel
theorem dX9_divisor_83 : decode cX9_divisor 83 = .ok (.dload_n 3, 1) := by decide +kernel
theorem dX9_divisor_84 : decode cX9_divisor 84 = .ok (.dsub, 1) := by decide +kernel
theorem dX9_divisor_85 : decode cX9_divisor 85 = .ok (.dreturn, 1) := by decide +kernel
theorem dX9_divisor_86 : decode cX9_divisor 86 = .ok (.aload_n 0, 1) := by decide +kernel
theorem dX9_divisor_87 : decode cX9_divisor 87 = .ok (.getfield 7, 3) := by decide +kernel
theorem dX9_divisor_90 : decode cX9_divisor 90 = .ok (.bipush 35, 2) := by decide +kernel
theorem dX9_divisor_92 : decode cX9_divisor 92 = .ok (.daload, 1) := by decide +kernel
theorem dX9_divisor_93 : decode cX9_divisor 93 = .ok (.dstore 5, 2) := by decide +kernel
theorem dX9_divisor_95 : decode cX9_divisor 95 = .ok (.iconst 1, 1) := by decide +kernel
theorem dX9_divisor_96 : decode cX9_divisor 96 = .ok (.istore 7, 2) := by decide +kernel
theorem dX9_divisor_98 : decode cX9_divisor 98 = .ok (.iload 7, 2) := by decide +kernel
theorem dX9_divisor_100 : decode cX9_divisor 100 = .ok (.iload_n 1, 1) := by decide +kernel
theorem dX9_divisor_101 : decode cX9_divisor 101 = .ok (.if_icmp .ge 21, 3) := by decide +kernel
theorem dX9_divisor_104 : decode cX9_divisor 104 = .ok (.dload 5, 2) := by decide +kernel
theorem dX9_divisor_106 : decode cX9_divisor 106 = .ok (.aload_n 0, 1) := by decide +kernel
theorem dX9_divisor_107 : decode cX9_divisor 107 = .ok (.getfield 7, 3) := by decide +kernel
theorem dX9_divisor_110 : decode cX9_divisor 110 = .ok (.bipush 35, 2) := by decide +kernel
theorem dX9_divisor_112 : decode cX9_divisor 112 = .ok (.daload, 1) := by decide +kernel
theorem dX9_divisor_113 : decode cX9_divisor 113 = .ok (.dmul, 1) := by decide +kernel
theorem dX9_divisor_114 : decode cX9_divisor 114 = .ok (.dstore 5, 2) := by decide +kernel
theorem dX9_divisor_116 : decode cX9_divisor 116 = .ok (.iinc 7 1, 3) := by decide +kernel
theorem dX9_divisor_119 : decode cX9_divisor 119 = .ok (.goto (-21), 3) := by decide +kernel
theorem dX9_divisor_122 : decode cX9_divisor 122 = .ok (.dload 5, 2) := by decide +kernel
theorem dX9_divisor_124 : decode cX9_divisor 124 = .ok (.dconst 1, 1) := by decide +kernel
theorem dX9_divisor_125 : decode cX9_divisor 125 = .ok (.dsub, 1) := by decide +kernel
theorem dX9_divisor_126 : decode cX9_divisor 126 = .ok (.dreturn, 1) := by decide +kernel
set_option maxRecDepth 20000 in
theorem ggX9_quotient_X9_x : GoodIn wsX9_quotient wsX9_x := goodIn_r _ [7, 8, 14, 15, 16, 17, 18, 19, 20, 21, 22, 23, 24, 25, 26, 27, 28, 29, 30, 31, 32] (by decide +kernel) (by decide +kernel)
set_option maxRecDepth 20000 in
theorem gX9_quotient_X9_x : GoodIn wsX9_quotient (wsV RX9 135 RX9 yX9_x wsX9_x) := goodIn_app (goodIn_of _ (by decide +kernel)) ggX9_quotient_X9_x
set_option maxRecDepth 20000 in
theorem ggX9_quotient_X9_isFinite : GoodIn wsX9_quotient wsX9_isFinite := goodIn_r _ [11, 12, 13] (by decide +kernel) (by decide +kernel)
set_option maxRecDepth 20000 in
theorem gX9_quotient_X9_isFinite : GoodIn wsX9_quotient (va_wsS RX9 59 yX9_isFinite wsX9_isFinite) := goodIn_app (goodIn_of _ (by decide +kernel)) ggX9_quotient_X9_isFinite
theorem dX9_quotient_0 : decode cX9_quotient 0 = .ok (.aload_n 0, 1) := by decide +kernel
theorem dX9_quotient_1 : decode cX9_quotient 1 = .ok (.getfield 126, 3) := by decide +kernel
theorem dX9_quotient_4 : decode cX9_quotient 4 = .ok (.iconst 2, 1) := by decide +kernel
theorem dX9_quotient_5 : decode cX9_quotient 5 = .ok (.if_icmp .ge 21, 3) := by decide +kernel
theorem dX9_quotient_8 : decode cX9_quotient 8 = .ok (.aload_n 0, 1) := by decide +kernel
theorem dX9_quotient_9 : decode cX9_quotient 9 = .ok (.getfield 126, 3) := by decide +kernel
theorem dX9_quotient_12 : decode cX9_quotient 12 = .ok (.ifCond .ne 9, 3) := by decide +kernel
theorem dX9_quotient_15 : decode cX9_quotient 15 = .ok (.dconst 1, 1) := by decide +kernel
theorem dX9_quotient_16 : decode cX9_quotient 16 = .ok (.dload_n 3, 1) := by decide +kernel
theorem dX9_quotient_17 : decode cX9_quotient 17 = .ok (.ddiv, 1) := by decide +kernel
theorem dX9_quotient_18 : decode cX9_quotient 18 = .ok (.goto 7, 3) := by decide +kernel
theorem dX9_quotient_21 : decode cX9_quotient 21 = .ok (.iload_n 1, 1) := by decide +kernel
theorem dX9_quotient_22 : decode cX9_quotient 22 = .ok (.i2d, 1) := by decide +kernel
theorem dX9_quotient_23 : decode cX9_quotient 23 = .ok (.dload_n 3, 1) := by decide +kernel
theorem dX9_quotient_24 : decode cX9_quotient 24 = .ok (.ddiv, 1) := by decide +kernel
theorem dX9_quotient_25 : decode cX9_quotient 25 = .ok (.dreturn, 1) := by decide +kernel
theorem dX9_quotient_26 : decode cX9_quotient 26 = .ok (.aload_n 0, 1) := by decide +kernel
theorem dX9_quotient_27 : decode cX9_quotient 27 = .ok (.iload_n 1, 1) := by decide +kernel
theorem dX9_quotient_28 : decode cX9_quotient 28 = .ok (.iconst 1, 1) := by decide +kernel
theorem dX9_quotient_29 : decode cX9_quotient 29 = .ok (.isub, 1) := by decide +kernel
theorem dX9_quotient_30 : decode cX9_quotient 30 = .ok (.iload_n 2, 1) := by decide +kernel
theorem dX9_quotient_31 : decode cX9_quotient 31 = .ok (.iconst 1, 1) := by decide +kernel
theorem dX9_quotient_32 : decode cX9_quotient 32 = .ok (.iadd, 1) := by decide +kernel
theorem dX9_quotient_33 : decode cX9_quotient 33 = .ok (.invokevirtual 135, 3) := by decide +kernel
theorem dX9_quotient_36 : decode cX9_quotient 36 = .ok (.aload_n 0, 1) := by decide +kernel
theorem dX9_quotient_37 : decode cX9_quotient 37 = .ok (.iload_n 1, 1) := by decide +kernel
theorem dX9_quotient_38 : decode cX9_quotient 38 = .ok (.iconst 1, 1) := by decide +kernel
theorem dX9_quotient_39 : decode cX9_quotient 39 = .ok (.isub, 1) := by decide +kernel
theorem dX9_quotient_40 : decode cX9_quotient 40 = .ok (.iload_n 2, 1) := by decide +kernel
theorem dX9_quotient_41 : decode cX9_quotient 41 = .ok (.invokevirtual 135, 3) := by decide +kernel
theorem dX9_quotient_44 : decode cX9_quotient 44 = .ok (.dsub, 1) := by decide +kernel
theorem dX9_quotient_45 : decode cX9_quotient 45 = .ok (.dstore 5, 2) := by decide +kernel
theorem dX9_quotient_47 : decode cX9_quotient 47 = .ok (.aload_n 0, 1) := by decide +kernel
theorem dX9_quotient_48 : decode cX9_quotient 48 = .ok (.getfield 126, 3) := by decide +kernel
theorem dX9_quotient_51 : decode cX9_quotient 51 = .ok (.iconst 2, 1) := by decide +kernel
theorem dX9_quotient_52 : decode cX9_quotient 52 = .ok (.if_icmp .ne 11, 3) := by decide +kernel
theorem dX9_quotient_55 : decode cX9_quotient 55 = .ok (.dload 5, 2) := by decide +kernel
theorem dX9_quotient_57 : decode cX9_quotient 57 = .ok (.dload 5, 2) := by decide +kernel
theorem dX9_quotient_59 : decode cX9_quotient 59 = .ok (.dmul, 1) := by decide +kernel
theorem dX9_quotient_60 : decode cX9_quotient 60 = .ok (.goto 5, 3) := by decide +kernel
theorem dX9_quotient_63 : decode cX9_quotient 63 = .ok (.dload 5, 2) := by decide +kernel
theorem dX9_quotient_65 : decode cX9_quotient 65 = .ok (.dstore 7, 2) := by decide +kernel
theorem dX9_quotient_67 : decode cX9_quotient 67 = .ok (.dload 7, 2) := by decide +kernel
theorem dX9_quotient_69 : decode cX9_quotient 69 = .ok (.invokestatic 59, 3) := by decide +kernel
theorem dX9_quotient_72 : decode cX9_quotient 72 = .ok (.ifCond .ne 10, 3) := by decide +kernel
theorem dX9_quotient_75 : decode cX9_quotient 75 = .ok (.dload_n 3, 1) := by decide +kernel
theorem dX9_quotient_76 : decode cX9_quotient 76 = .ok (.invokestatic 59, 3) := by decide +kernel
theorem dX9_quotient_79 : decode cX9_quotient 79 = .ok (.ifCond .eq 10, 3) := by decide +kernel
theorem dX9_quotient_82 : decode cX9_quotient 82 = .ok (.dload 7, 2) := by decide +kernel
theorem dX9_quotient_84 : decode cX9_quotient 84 = .ok (.dload_n 3, 1) := by decide +kernel
theorem dX9_quotient_85 : decode cX9_quotient 85 = .ok (.ddiv, 1) := by decide +kernel
theorem dX9_quotient_86 : decode cX9_quotient 86 = .ok (.goto 6, 3) := by decide +kernel
theorem dX9_quotient_89 : decode cX9_quotient 89 = .ok (.ldc2_w 138, 3) := by decide +kernel
theorem dX9_quotient_92 : decode cX9_quotient 92 = .ok (.dreturn, 1) := by decide +kernel
set_option maxRecDepth 20000 in
theorem ggX9_made_X9_x : GoodIn wsX9_made wsX9_x := goodIn_r _ [6, 7, 8, 9, 10, 11, 12, 13, 14, 15, 16, 17, 18, 19, 20, 21, 22, 23, 24, 25, 26] (by decide +kernel) (by decide +kernel)
set_option maxRecDepth 20000 in
theorem gX9_made_X9_x : GoodIn wsX9_made (wsV RX9 135 RX9 yX9_x wsX9_x) := goodIn_app (goodIn_of _ (by decide +kernel)) ggX9_made_X9_x
theorem dX9_made_0 : decode cX9_made 0 = .ok (.aload_n 0, 1) := by decide +kernel
theorem dX9_made_1 : decode cX9_made 1 = .ok (.getfield 126, 3) := by decide +kernel
theorem dX9_made_4 : decode cX9_made 4 = .ok (.iconst 2, 1) := by decide +kernel
theorem dX9_made_5 : decode cX9_made 5 = .ok (.if_icmp .ne 14, 3) := by decide +kernel
theorem dX9_made_8 : decode cX9_made 8 = .ok (.aload_n 0, 1) := by decide +kernel
theorem dX9_made_9 : decode cX9_made 9 = .ok (.iload_n 1, 1) := by decide +kernel
theorem dX9_made_10 : decode cX9_made 10 = .ok (.iconst 1, 1) := by decide +kernel
theorem dX9_made_11 : decode cX9_made 11 = .ok (.isub, 1) := by decide +kernel
theorem dX9_made_12 : decode cX9_made 12 = .ok (.iload_n 2, 1) := by decide +kernel
theorem dX9_made_13 : decode cX9_made 13 = .ok (.invokevirtual 135, 3) := by decide +kernel
theorem dX9_made_16 : decode cX9_made 16 = .ok (.dload_n 3, 1) := by decide +kernel
theorem dX9_made_17 : decode cX9_made 17 = .ok (.dsub, 1) := by decide +kernel
theorem dX9_made_18 : decode cX9_made 18 = .ok (.dreturn, 1) := by decide +kernel
theorem dX9_made_19 : decode cX9_made 19 = .ok (.aload_n 0, 1) := by decide +kernel
theorem dX9_made_20 : decode cX9_made 20 = .ok (.getfield 126, 3) := by decide +kernel
theorem dX9_made_23 : decode cX9_made 23 = .ok (.iconst 3, 1) := by decide +kernel
theorem dX9_made_24 : decode cX9_made 24 = .ok (.if_icmp .ne 18, 3) := by decide +kernel
theorem dX9_made_27 : decode cX9_made 27 = .ok (.aload_n 0, 1) := by decide +kernel
theorem dX9_made_28 : decode cX9_made 28 = .ok (.iload_n 1, 1) := by decide +kernel
theorem dX9_made_29 : decode cX9_made 29 = .ok (.iconst 1, 1) := by decide +kernel
theorem dX9_made_30 : decode cX9_made 30 = .ok (.isub, 1) := by decide +kernel
theorem dX9_made_31 : decode cX9_made 31 = .ok (.iload_n 2, 1) := by decide +kernel
theorem dX9_made_32 : decode cX9_made 32 = .ok (.iconst 1, 1) := by decide +kernel
theorem dX9_made_33 : decode cX9_made 33 = .ok (.iadd, 1) := by decide +kernel
theorem dX9_made_34 : decode cX9_made 34 = .ok (.invokevirtual 135, 3) := by decide +kernel
theorem dX9_made_37 : decode cX9_made 37 = .ok (.dload_n 3, 1) := by decide +kernel
theorem dX9_made_38 : decode cX9_made 38 = .ok (.dadd, 1) := by decide +kernel
theorem dX9_made_39 : decode cX9_made 39 = .ok (.goto 15, 3) := by decide +kernel
theorem dX9_made_42 : decode cX9_made 42 = .ok (.aload_n 0, 1) := by decide +kernel
theorem dX9_made_43 : decode cX9_made 43 = .ok (.iload_n 1, 1) := by decide +kernel
theorem dX9_made_44 : decode cX9_made 44 = .ok (.iconst 2, 1) := by decide +kernel
theorem dX9_made_45 : decode cX9_made 45 = .ok (.isub, 1) := by decide +kernel
theorem dX9_made_46 : decode cX9_made 46 = .ok (.iload_n 2, 1) := by decide +kernel
theorem dX9_made_47 : decode cX9_made 47 = .ok (.iconst 1, 1) := by decide +kernel
theorem dX9_made_48 : decode cX9_made 48 = .ok (.iadd, 1) := by decide +kernel
theorem dX9_made_49 : decode cX9_made 49 = .ok (.invokevirtual 135, 3) := by decide +kernel
theorem dX9_made_52 : decode cX9_made 52 = .ok (.dload_n 3, 1) := by decide +kernel
theorem dX9_made_53 : decode cX9_made 53 = .ok (.dadd, 1) := by decide +kernel
theorem dX9_made_54 : decode cX9_made 54 = .ok (.dreturn, 1) := by decide +kernel
set_option maxRecDepth 20000 in
theorem ggX9_makes_X9_hasBroken : GoodIn wsX9_makes wsX9_hasBroken := goodIn_r _ [9, 10, 11, 12, 13, 8, 14, 2, 39, 40, 41, 42, 43, 44, 45, 46, 47, 48, 49, 50, 51, 52, 53, 54, 55, 56, 57] (by decide +kernel) (by decide +kernel)
set_option maxRecDepth 20000 in
theorem gX9_makes_X9_hasBroken : GoodIn wsX9_makes (wsV RX9 140 RX9 yX9_hasBroken wsX9_hasBroken) := goodIn_app (goodIn_of _ (by decide +kernel)) ggX9_makes_X9_hasBroken
set_option maxRecDepth 20000 in
theorem ggX9_makes_X9_divisor : GoodIn wsX9_makes wsX9_divisor := goodIn_r _ [18, 10, 4, 3, 19, 20, 21, 8, 22, 1, 23, 24, 25, 26, 27, 39, 40, 41, 42, 43, 44, 45, 46, 47, 48, 49, 50, 51, 52, 53, 54, 55, 56, 57] (by decide +kernel) (by decide +kernel)
set_option maxRecDepth 20000 in
theorem gX9_makes_X9_divisor : GoodIn wsX9_makes (wsV RX9 143 RX9 yX9_divisor wsX9_divisor) := goodIn_app (goodIn_of _ (by decide +kernel)) ggX9_makes_X9_divisor
set_option maxRecDepth 20000 in
theorem ggX9_makes_X9_size : GoodIn wsX9_makes wsX9_size := goodIn_r _ [30] (by decide +kernel) (by decide +kernel)
set_option maxRecDepth 20000 in
theorem gX9_makes_X9_size : GoodIn wsX9_makes (va_wsS RX9 63 yX9_size wsX9_size) := goodIn_app (goodIn_of _ (by decide +kernel)) ggX9_makes_X9_size
set_option maxRecDepth 20000 in
theorem ggX9_makes_X9_quotient : GoodIn wsX9_makes wsX9_quotient := goodIn_r _ [34, 10, 4, 19, 20, 21, 8, 22, 1, 23, 24, 25, 26, 27, 39, 40, 41, 42, 43, 44, 45, 46, 47, 48, 49, 50, 51, 52, 53, 54, 55, 56, 57] (by decide +kernel) (by decide +kernel)
set_option maxRecDepth 20000 in
theorem gX9_makes_X9_quotient : GoodIn wsX9_makes (wsV RX9 146 RX9 yX9_quotient wsX9_quotient) := goodIn_app (goodIn_of _ (by decide +kernel)) ggX9_makes_X9_quotient
set_option maxRecDepth 20000 in
theorem ggX9_makes_X9_isFinite : GoodIn wsX9_makes wsX9_isFinite := goodIn_r _ [25, 26, 27] (by decide +kernel) (by decide +kernel)
set_option maxRecDepth 20000 in
theorem gX9_makes_X9_isFinite : GoodIn wsX9_makes (va_wsS RX9 59 yX9_isFinite wsX9_isFinite) := goodIn_app (goodIn_of _ (by decide +kernel)) ggX9_makes_X9_isFinite
set_option maxRecDepth 20000 in
theorem ggX9_makes_X9_made : GoodIn wsX9_makes wsX9_made := goodIn_r _ [38, 10, 19, 20, 21, 8, 22, 1, 39, 40, 41, 42, 43, 44, 45, 46, 47, 48, 49, 50, 51, 52, 53, 54, 55, 56, 57] (by decide +kernel) (by decide +kernel)
set_option maxRecDepth 20000 in
theorem gX9_makes_X9_made : GoodIn wsX9_makes (wsV RX9 150 RX9 yX9_made wsX9_made) := goodIn_app (goodIn_of _ (by decide +kernel)) ggX9_makes_X9_made
theorem dX9_makes_0 : decode cX9_makes 0 = .ok (.bipush 16, 2) := by decide +kernel
theorem dX9_makes_2 : decode cX9_makes 2 = .ok (.iload_n 1, 1) := by decide +kernel
theorem dX9_makes_3 : decode cX9_makes 3 = .ok (.imul, 1) := by decide +kernel
theorem dX9_makes_4 : decode cX9_makes 4 = .ok (.iload_n 2, 1) := by decide +kernel
theorem dX9_makes_5 : decode cX9_makes 5 = .ok (.iadd, 1) := by decide +kernel
theorem dX9_makes_6 : decode cX9_makes 6 = .ok (.istore_n 3, 1) := by decide +kernel
theorem dX9_makes_7 : decode cX9_makes 7 = .ok (.aload_n 0, 1) := by decide +kernel
theorem dX9_makes_8 : decode cX9_makes 8 = .ok (.getfield 26, 3) := by decide +kernel
theorem dX9_makes_11 : decode cX9_makes 11 = .ok (.iload_n 3, 1) := by decide +kernel
theorem dX9_makes_12 : decode cX9_makes 12 = .ok (.dconst 0, 1) := by decide +kernel
theorem dX9_makes_13 : decode cX9_makes 13 = .ok (.dastore, 1) := by decide +kernel
theorem dX9_makes_14 : decode cX9_makes 14 = .ok (.aload_n 0, 1) := by decide +kernel
theorem dX9_makes_15 : decode cX9_makes 15 = .ok (.getfield 29, 3) := by decide +kernel
theorem dX9_makes_18 : decode cX9_makes 18 = .ok (.iload_n 3, 1) := by decide +kernel
theorem dX9_makes_19 : decode cX9_makes 19 = .ok (.iconst 3, 1) := by decide +kernel
theorem dX9_makes_20 : decode cX9_makes 20 = .ok (.iastore, 1) := by decide +kernel
theorem dX9_makes_21 : decode cX9_makes 21 = .ok (.aload_n 0, 1) := by decide +kernel
theorem dX9_makes_22 : decode cX9_makes 22 = .ok (.iload_n 1, 1) := by decide +kernel
theorem dX9_makes_23 : decode cX9_makes 23 = .ok (.iload_n 2, 1) := by decide +kernel
theorem dX9_makes_24 : decode cX9_makes 24 = .ok (.invokevirtual 140, 3) := by decide +kernel
theorem dX9_makes_27 : decode cX9_makes 27 = .ok (.ifCond .eq 4, 3) := by decide +kernel
theorem dX9_makes_30 : decode cX9_makes 30 = .ok (.return_, 1) := by decide +kernel
theorem dX9_makes_31 : decode cX9_makes 31 = .ok (.aload_n 0, 1) := by decide +kernel
theorem dX9_makes_32 : decode cX9_makes 32 = .ok (.iload_n 1, 1) := by decide +kernel
theorem dX9_makes_33 : decode cX9_makes 33 = .ok (.iload_n 2, 1) := by decide +kernel
theorem dX9_makes_34 : decode cX9_makes 34 = .ok (.invokevirtual 143, 3) := by decide +kernel
theorem dX9_makes_37 : decode cX9_makes 37 = .ok (.dstore 4, 2) := by decide +kernel
theorem dX9_makes_39 : decode cX9_makes 39 = .ok (.dload 4, 2) := by decide +kernel
theorem dX9_makes_41 : decode cX9_makes 41 = .ok (.invokestatic 63, 3) := by decide +kernel
theorem dX9_makes_44 : decode cX9_makes 44 = .ok (.aload_n 0, 1) := by decide +kernel
theorem dX9_makes_45 : decode cX9_makes 45 = .ok (.getfield 7, 3) := by decide +kernel
theorem dX9_makes_48 : decode cX9_makes 48 = .ok (.bipush 34, 2) := by decide +kernel
theorem dX9_makes_50 : decode cX9_makes 50 = .ok (.daload, 1) := by decide +kernel
theorem dX9_makes_51 : decode cX9_makes 51 = .ok (.dcmp .l, 1) := by decide +kernel
theorem dX9_makes_52 : decode cX9_makes 52 = .ok (.ifCond .gt 7, 3) := by decide +kernel
theorem dX9_makes_55 : decode cX9_makes 55 = .ok (.iconst 1, 1) := by decide +kernel
theorem dX9_makes_56 : decode cX9_makes 56 = .ok (.goto 4, 3) := by decide +kernel
theorem dX9_makes_59 : decode cX9_makes 59 = .ok (.iconst 0, 1) := by decide +kernel
theorem dX9_makes_60 : decode cX9_makes 60 = .ok (.istore 6, 2) := by decide +kernel
theorem dX9_makes_62 : decode cX9_makes 62 = .ok (.aload_n 0, 1) := by decide +kernel
theorem dX9_makes_63 : decode cX9_makes 63 = .ok (.getfield 29, 3) := by decide +kernel
theorem dX9_makes_66 : decode cX9_makes 66 = .ok (.iload_n 3, 1) := by decide +kernel
theorem dX9_makes_67 : decode cX9_makes 67 = .ok (.iconst 2, 1) := by decide +kernel
theorem dX9_makes_68 : decode cX9_makes 68 = .ok (.iastore, 1) := by decide +kernel
theorem dX9_makes_69 : decode cX9_makes 69 = .ok (.iload 6, 2) := by decide +kernel
theorem dX9_makes_71 : decode cX9_makes 71 = .ok (.ifCond .eq 16, 3) := by decide +kernel
theorem dX9_makes_74 : decode cX9_makes 74 = .ok (.aload_n 0, 1) := by decide +kernel
theorem dX9_makes_75 : decode cX9_makes 75 = .ok (.getfield 7, 3) := by decide +kernel
theorem dX9_makes_78 : decode cX9_makes 78 = .ok (.bipush 37, 2) := by decide +kernel
theorem dX9_makes_80 : decode cX9_makes 80 = .ok (.daload, 1) := by decide +kernel
theorem dX9_makes_81 : decode cX9_makes 81 = .ok (.dconst 0, 1) := by decide +kernel
theorem dX9_makes_82 : decode cX9_makes 82 = .ok (.dcmp .l, 1) := by decide +kernel
theorem dX9_makes_83 : decode cX9_makes 83 = .ok (.ifCond .ne 4, 3) := by decide +kernel
theorem dX9_makes_86 : decode cX9_makes 86 = .ok (.return_, 1) := by decide +kernel
theorem dX9_makes_87 : decode cX9_makes 87 = .ok (.iload 6, 2) := by decide +kernel
theorem dX9_makes_89 : decode cX9_makes 89 = .ok (.ifCond .eq 7, 3) := by decide +kernel
theorem dX9_makes_92 : decode cX9_makes 92 = .ok (.dconst 0, 1) := by decide +kernel
theorem dX9_makes_93 : decode cX9_makes 93 = .ok (.goto 11, 3) := by decide +kernel
theorem dX9_makes_96 : decode cX9_makes 96 = .ok (.aload_n 0, 1) := by decide +kernel
theorem dX9_makes_97 : decode cX9_makes 97 = .ok (.iload_n 1, 1) := by decide +kernel
theorem dX9_makes_98 : decode cX9_makes 98 = .ok (.iload_n 2, 1) := by decide +kernel
theorem dX9_makes_99 : decode cX9_makes 99 = .ok (.dload 4, 2) := by decide +kernel
theorem dX9_makes_101 : decode cX9_makes 101 = .ok (.invokevirtual 146, 3) := by decide +kernel
theorem dX9_makes_104 : decode cX9_makes 104 = .ok (.dstore 7, 2) := by decide +kernel
theorem dX9_makes_106 : decode cX9_makes 106 = .ok (.dload 7, 2) := by decide +kernel
theorem dX9_makes_108 : decode cX9_makes 108 = .ok (.invokestatic 59, 3) := by decide +kernel
theorem dX9_makes_111 : decode cX9_makes 111 = .ok (.ifCond .eq 14, 3) := by decide +kernel
theorem dX9_makes_114 : decode cX9_makes 114 = .ok (.aload_n 0, 1) := by decide +kernel
theorem dX9_makes_115 : decode cX9_makes 115 = .ok (.iload_n 1, 1) := by decide +kernel
theorem dX9_makes_116 : decode cX9_makes 116 = .ok (.iload_n 2, 1) := by decide +kernel
theorem dX9_makes_117 : decode cX9_makes 117 = .ok (.dload 7, 2) := by decide +kernel
theorem dX9_makes_119 : decode cX9_makes 119 = .ok (.invokevirtual 150, 3) := by decide +kernel
theorem dX9_makes_122 : decode cX9_makes 122 = .ok (.goto 6, 3) := by decide +kernel
theorem dX9_makes_125 : decode cX9_makes 125 = .ok (.ldc2_w 138, 3) := by decide +kernel
theorem dX9_makes_128 : decode cX9_makes 128 = .ok (.dstore 9, 2) := by decide +kernel
theorem dX9_makes_130 : decode cX9_makes 130 = .ok (.dload 9, 2) := by decide +kernel
theorem dX9_makes_132 : decode cX9_makes 132 = .ok (.invokestatic 59, 3) := by decide +kernel
theorem dX9_makes_135 : decode cX9_makes 135 = .ok (.ifCond .eq 27, 3) := by decide +kernel
theorem dX9_makes_138 : decode cX9_makes 138 = .ok (.aload_n 0, 1) := by decide +kernel
theorem dX9_makes_139 : decode cX9_makes 139 = .ok (.getfield 26, 3) := by decide +kernel
theorem dX9_makes_142 : decode cX9_makes 142 = .ok (.iload_n 3, 1) := by decide +kernel
theorem dX9_makes_143 : decode cX9_makes 143 = .ok (.dload 9, 2) := by decide +kernel
theorem dX9_makes_145 : decode cX9_makes 145 = .ok (.dastore, 1) := by decide +kernel
theorem dX9_makes_146 : decode cX9_makes 146 = .ok (.aload_n 0, 1) := by decide +kernel
theorem dX9_makes_147 : decode cX9_makes 147 = .ok (.getfield 29, 3) := by decide +kernel
theorem dX9_makes_150 : decode cX9_makes 150 = .ok (.iload_n 3, 1) := by decide +kernel
theorem dX9_makes_151 : decode cX9_makes 151 = .ok (.iload 6, 2) := by decide +kernel
theorem dX9_makes_153 : decode cX9_makes 153 = .ok (.ifCond .eq 7, 3) := by decide +kernel
theorem dX9_makes_156 : decode cX9_makes 156 = .ok (.iconst 1, 1) := by decide +kernel
theorem dX9_makes_157 : decode cX9_makes 157 = .ok (.goto 4, 3) := by decide +kernel
theorem dX9_makes_160 : decode cX9_makes 160 = .ok (.iconst 0, 1) := by decide +kernel
theorem dX9_makes_161 : decode cX9_makes 161 = .ok (.iastore, 1) := by decide +kernel
theorem dX9_makes_162 : decode cX9_makes 162 = .ok (.return_, 1) := by decide +kernel
set_option maxRecDepth 20000 in
theorem ggX9_laysTable_X9_isThere : GoodIn wsX9_laysTable wsX9_isThere := goodIn_r _ [10, 1, 2, 48, 49, 50, 51, 52, 53, 54, 55, 56, 57, 58, 59, 60, 61, 62, 63, 64, 65, 66] (by decide +kernel) (by decide +kernel)
set_option maxRecDepth 20000 in
theorem gX9_laysTable_X9_isThere : GoodIn wsX9_laysTable (wsV RX9 153 RX9 yX9_isThere wsX9_isThere) := goodIn_app (goodIn_of _ (by decide +kernel)) ggX9_laysTable_X9_isThere
set_option maxRecDepth 20000 in
theorem ggX9_laysTable_X9_makes : GoodIn wsX9_laysTable wsX9_makes := goodIn_r _ [14, 3, 5, 4, 15, 16, 17, 18, 9, 19, 1, 20, 21, 22, 23, 24, 25, 26, 27, 28, 29, 30, 31, 32, 33, 34, 35, 36, 37, 38, 39, 40, 41, 42, 43, 44, 45, 46, 47, 48, 49, 50, 51, 52, 53, 54, 55, 56, 57, 58, 59, 60, 61, 62, 63, 64, 65, 66] (by decide +kernel) (by decide +kernel)
set_option maxRecDepth 20000 in
theorem gX9_laysTable_X9_makes : GoodIn wsX9_laysTable (wsV RX9 156 RX9 yX9_makes wsX9_makes) := goodIn_app (goodIn_of _ (by decide +kernel)) ggX9_laysTable_X9_makes
theorem dX9_laysTable_0 : decode cX9_laysTable 0 = .ok (.aload_n 0, 1) := by decide +kernel
theorem dX9_laysTable_1 : decode cX9_laysTable 1 = .ok (.iload_n 2, 1) := by decide +kernel
theorem dX9_laysTable_2 : decode cX9_laysTable 2 = .ok (.putfield 126, 3) := by decide +kernel
theorem dX9_laysTable_5 : decode cX9_laysTable 5 = .ok (.aload_n 0, 1) := by decide +kernel
theorem dX9_laysTable_6 : decode cX9_laysTable 6 = .ok (.iload_n 3, 1) := by decide +kernel
theorem dX9_laysTable_7 : decode cX9_laysTable 7 = .ok (.putfield 129, 3) := by decide +kernel
theorem dX9_laysTable_10 : decode cX9_laysTable 10 = .ok (.iconst 0, 1) := by decide +kernel
theorem dX9_laysTable_11 : decode cX9_laysTable 11 = .ok (.istore 4, 2) := by decide +kernel
theorem dX9_laysTable_13 : decode cX9_laysTable 13 = .ok (.iload 4, 2) := by decide +kernel
theorem dX9_laysTable_15 : decode cX9_laysTable 15 = .ok (.aload_n 0, 1) := by decide +kernel
theorem dX9_laysTable_16 : decode cX9_laysTable 16 = .ok (.getfield 129, 3) := by decide +kernel
theorem dX9_laysTable_19 : decode cX9_laysTable 19 = .ok (.if_icmp .ge 36, 3) := by decide +kernel
theorem dX9_laysTable_22 : decode cX9_laysTable 22 = .ok (.aload_n 0, 1) := by decide +kernel
theorem dX9_laysTable_23 : decode cX9_laysTable 23 = .ok (.getfield 26, 3) := by decide +kernel
theorem dX9_laysTable_26 : decode cX9_laysTable 26 = .ok (.iload 4, 2) := by decide +kernel
theorem dX9_laysTable_28 : decode cX9_laysTable 28 = .ok (.aload_n 0, 1) := by decide +kernel
theorem dX9_laysTable_29 : decode cX9_laysTable 29 = .ok (.getfield 7, 3) := by decide +kernel
theorem dX9_laysTable_32 : decode cX9_laysTable 32 = .ok (.bipush 16, 2) := by decide +kernel
theorem dX9_laysTable_34 : decode cX9_laysTable 34 = .ok (.iload_n 1, 1) := by decide +kernel
theorem dX9_laysTable_35 : decode cX9_laysTable 35 = .ok (.imul, 1) := by decide +kernel
theorem dX9_laysTable_36 : decode cX9_laysTable 36 = .ok (.iload 4, 2) := by decide +kernel
theorem dX9_laysTable_38 : decode cX9_laysTable 38 = .ok (.iadd, 1) := by decide +kernel
theorem dX9_laysTable_39 : decode cX9_laysTable 39 = .ok (.daload, 1) := by decide +kernel
theorem dX9_laysTable_40 : decode cX9_laysTable 40 = .ok (.dastore, 1) := by decide +kernel
theorem dX9_laysTable_41 : decode cX9_laysTable 41 = .ok (.aload_n 0, 1) := by decide +kernel
theorem dX9_laysTable_42 : decode cX9_laysTable 42 = .ok (.getfield 29, 3) := by decide +kernel
theorem dX9_laysTable_45 : decode cX9_laysTable 45 = .ok (.iload 4, 2) := by decide +kernel
theorem dX9_laysTable_47 : decode cX9_laysTable 47 = .ok (.iconst 0, 1) := by decide +kernel
theorem dX9_laysTable_48 : decode cX9_laysTable 48 = .ok (.iastore, 1) := by decide +kernel
theorem dX9_laysTable_49 : decode cX9_laysTable 49 = .ok (.iinc 4 1, 3) := by decide +kernel
theorem dX9_laysTable_52 : decode cX9_laysTable 52 = .ok (.goto (-39), 3) := by decide +kernel
theorem dX9_laysTable_55 : decode cX9_laysTable 55 = .ok (.iconst 1, 1) := by decide +kernel
theorem dX9_laysTable_56 : decode cX9_laysTable 56 = .ok (.istore 4, 2) := by decide +kernel
theorem dX9_laysTable_58 : decode cX9_laysTable 58 = .ok (.iload 4, 2) := by decide +kernel
theorem dX9_laysTable_60 : decode cX9_laysTable 60 = .ok (.bipush 16, 2) := by decide +kernel
theorem dX9_laysTable_62 : decode cX9_laysTable 62 = .ok (.if_icmp .ge 37, 3) := by decide +kernel
theorem dX9_laysTable_65 : decode cX9_laysTable 65 = .ok (.iconst 0, 1) := by decide +kernel
theorem dX9_laysTable_66 : decode cX9_laysTable 66 = .ok (.istore 5, 2) := by decide +kernel
theorem dX9_laysTable_68 : decode cX9_laysTable 68 = .ok (.aload_n 0, 1) := by decide +kernel
theorem dX9_laysTable_69 : decode cX9_laysTable 69 = .ok (.iload 4, 2) := by decide +kernel
theorem dX9_laysTable_71 : decode cX9_laysTable 71 = .ok (.iload 5, 2) := by decide +kernel
theorem dX9_laysTable_73 : decode cX9_laysTable 73 = .ok (.invokevirtual 153, 3) := by decide +kernel
theorem dX9_laysTable_76 : decode cX9_laysTable 76 = .ok (.ifCond .eq 17, 3) := by decide +kernel
theorem dX9_laysTable_79 : decode cX9_laysTable 79 = .ok (.aload_n 0, 1) := by decide +kernel
theorem dX9_laysTable_80 : decode cX9_laysTable 80 = .ok (.iload 4, 2) := by decide +kernel
theorem dX9_laysTable_82 : decode cX9_laysTable 82 = .ok (.iload 5, 2) := by decide +kernel
theorem dX9_laysTable_84 : decode cX9_laysTable 84 = .ok (.invokevirtual 156, 3) := by decide +kernel
theorem dX9_laysTable_87 : decode cX9_laysTable 87 = .ok (.iinc 5 1, 3) := by decide +kernel
theorem dX9_laysTable_90 : decode cX9_laysTable 90 = .ok (.goto (-22), 3) := by decide +kernel
theorem dX9_laysTable_93 : decode cX9_laysTable 93 = .ok (.iinc 4 1, 3) := by decide +kernel
theorem dX9_laysTable_96 : decode cX9_laysTable 96 = .ok (.goto (-38), 3) := by decide +kernel
theorem dX9_laysTable_99 : decode cX9_laysTable 99 = .ok (.return_, 1) := by decide +kernel
set_option maxRecDepth 20000 in
theorem ggX9_countKinds_X9_isThere : GoodIn wsX9_countKinds wsX9_isThere := goodIn_r _ [6, 7, 8, 12, 13, 14, 15, 16, 17, 18, 19, 20, 21, 22, 23, 24, 25, 26, 27, 28, 29, 30] (by decide +kernel) (by decide +kernel)
set_option maxRecDepth 20000 in
theorem gX9_countKinds_X9_isThere : GoodIn wsX9_countKinds (wsV RX9 153 RX9 yX9_isThere wsX9_isThere) := goodIn_app (goodIn_of _ (by decide +kernel)) ggX9_countKinds_X9_isThere
set_option maxRecDepth 20000 in
theorem ggX9_countKinds_X9_in : GoodIn wsX9_countKinds wsX9_in := goodIn_r _ [11] (by decide +kernel) (by decide +kernel)
set_option maxRecDepth 20000 in
theorem gX9_countKinds_X9_in : GoodIn wsX9_countKinds (va_wsS RX9 39 yX9_in wsX9_in) := goodIn_app (goodIn_of _ (by decide +kernel)) ggX9_countKinds_X9_in
theorem dX9_countKinds_0 : decode cX9_countKinds 0 = .ok (.iconst 0, 1) := by decide +kernel
theorem dX9_countKinds_1 : decode cX9_countKinds 1 = .ok (.istore_n 3, 1) := by decide +kernel
theorem dX9_countKinds_2 : decode cX9_countKinds 2 = .ok (.iconst 0, 1) := by decide +kernel
theorem dX9_countKinds_3 : decode cX9_countKinds 3 = .ok (.istore 4, 2) := by decide +kernel
theorem dX9_countKinds_5 : decode cX9_countKinds 5 = .ok (.iload 4, 2) := by decide +kernel
theorem dX9_countKinds_7 : decode cX9_countKinds 7 = .ok (.sipush 256, 3) := by decide +kernel
theorem dX9_countKinds_10 : decode cX9_countKinds 10 = .ok (.if_icmp .ge 49, 3) := by decide +kernel
theorem dX9_countKinds_13 : decode cX9_countKinds 13 = .ok (.iload_n 3, 1) := by decide +kernel
theorem dX9_countKinds_14 : decode cX9_countKinds 14 = .ok (.aload_n 0, 1) := by decide +kernel
theorem dX9_countKinds_15 : decode cX9_countKinds 15 = .ok (.iload 4, 2) := by decide +kernel
theorem dX9_countKinds_17 : decode cX9_countKinds 17 = .ok (.bipush 16, 2) := by decide +kernel
theorem dX9_countKinds_19 : decode cX9_countKinds 19 = .ok (.idiv, 1) := by decide +kernel
theorem dX9_countKinds_20 : decode cX9_countKinds 20 = .ok (.iload 4, 2) := by decide +kernel
theorem dX9_countKinds_22 : decode cX9_countKinds 22 = .ok (.bipush 16, 2) := by decide +kernel
theorem dX9_countKinds_24 : decode cX9_countKinds 24 = .ok (.irem, 1) := by decide +kernel
theorem dX9_countKinds_25 : decode cX9_countKinds 25 = .ok (.invokevirtual 153, 3) := by decide +kernel
theorem dX9_countKinds_28 : decode cX9_countKinds 28 = .ok (.ifCond .eq 22, 3) := by decide +kernel
theorem dX9_countKinds_31 : decode cX9_countKinds 31 = .ok (.aload_n 0, 1) := by decide +kernel
theorem dX9_countKinds_32 : decode cX9_countKinds 32 = .ok (.getfield 29, 3) := by decide +kernel
theorem dX9_countKinds_35 : decode cX9_countKinds 35 = .ok (.iload 4, 2) := by decide +kernel
theorem dX9_countKinds_37 : decode cX9_countKinds 37 = .ok (.iaload, 1) := by decide +kernel
theorem dX9_countKinds_38 : decode cX9_countKinds 38 = .ok (.iload_n 1, 1) := by decide +kernel
theorem dX9_countKinds_39 : decode cX9_countKinds 39 = .ok (.iload_n 2, 1) := by decide +kernel
theorem dX9_countKinds_40 : decode cX9_countKinds 40 = .ok (.invokestatic 39, 3) := by decide +kernel
theorem dX9_countKinds_43 : decode cX9_countKinds 43 = .ok (.ifCond .eq 7, 3) := by decide +kernel
theorem dX9_countKinds_46 : decode cX9_countKinds 46 = .ok (.iconst 1, 1) := by decide +kernel
theorem dX9_countKinds_47 : decode cX9_countKinds 47 = .ok (.goto 4, 3) := by decide +kernel
theorem dX9_countKinds_50 : decode cX9_countKinds 50 = .ok (.iconst 0, 1) := by decide +kernel
theorem dX9_countKinds_51 : decode cX9_countKinds 51 = .ok (.iadd, 1) := by decide +kernel
theorem dX9_countKinds_52 : decode cX9_countKinds 52 = .ok (.istore_n 3, 1) := by decide +kernel
theorem dX9_countKinds_53 : decode cX9_countKinds 53 = .ok (.iinc 4 1, 3) := by decide +kernel
theorem dX9_countKinds_56 : decode cX9_countKinds 56 = .ok (.goto (-51), 3) := by decide +kernel
theorem dX9_countKinds_59 : decode cX9_countKinds 59 = .ok (.iload_n 3, 1) := by decide +kernel
theorem dX9_countKinds_60 : decode cX9_countKinds 60 = .ok (.ireturn, 1) := by decide +kernel
set_option maxRecDepth 20000 in
theorem ggX9_brokenOnes_X9_many : GoodIn wsX9_brokenOnes wsX9_many := goodIn_r _ [5, 6, 63, 64, 65, 66, 67, 68, 69, 70, 71, 72, 73, 74, 75, 76, 77, 78, 79, 80, 81] (by decide +kernel) (by decide +kernel)
set_option maxRecDepth 20000 in
theorem gX9_brokenOnes_X9_many : GoodIn wsX9_brokenOnes (wsV RX9 47 RX9 yX9_many wsX9_many) := goodIn_app (goodIn_of _ (by decide +kernel)) ggX9_brokenOnes_X9_many
set_option maxRecDepth 20000 in
theorem ggX9_brokenOnes_X9_laysTable : GoodIn wsX9_brokenOnes wsX9_laysTable := goodIn_r _ [10, 11, 12, 13, 6, 14, 15, 16, 17, 4, 18, 19, 20, 21, 22, 23, 24, 25, 26, 27, 28, 29, 30, 31, 32, 33, 34, 35, 36, 37, 38, 39, 40, 41, 42, 43, 44, 45, 46, 47, 48, 49, 50, 51, 52, 53, 54, 55, 63, 64, 65, 66, 67, 68, 69, 70, 71, 72, 73, 74, 75, 76, 77, 78, 79, 80, 81] (by decide +kernel) (by decide +kernel)
set_option maxRecDepth 20000 in
theorem gX9_brokenOnes_X9_laysTable : GoodIn wsX9_brokenOnes (wsV RX9 160 RX9 yX9_laysTable wsX9_laysTable) := goodIn_app (goodIn_of _ (by decide +kernel)) ggX9_brokenOnes_X9_laysTable
set_option maxRecDepth 20000 in
theorem ggX9_brokenOnes_X9_countKinds : GoodIn wsX9_brokenOnes wsX9_countKinds := goodIn_r _ [59, 14, 15, 16, 17, 4, 18, 11, 12, 60, 61, 62, 63, 64, 65, 66, 67, 68, 69, 70, 71, 72, 73, 74, 75, 76, 77, 78, 79, 80, 81] (by decide +kernel) (by decide +kernel)
set_option maxRecDepth 20000 in
theorem gX9_brokenOnes_X9_countKinds : GoodIn wsX9_brokenOnes (wsV RX9 164 RX9 yX9_countKinds wsX9_countKinds) := goodIn_app (goodIn_of _ (by decide +kernel)) ggX9_brokenOnes_X9_countKinds
theorem dX9_brokenOnes_0 : decode cX9_brokenOnes 0 = .ok (.iconst 0, 1) := by decide +kernel
theorem dX9_brokenOnes_1 : decode cX9_brokenOnes 1 = .ok (.istore_n 1, 1) := by decide +kernel
theorem dX9_brokenOnes_2 : decode cX9_brokenOnes 2 = .ok (.iconst 0, 1) := by decide +kernel
theorem dX9_brokenOnes_3 : decode cX9_brokenOnes 3 = .ok (.istore_n 2, 1) := by decide +kernel
theorem dX9_brokenOnes_4 : decode cX9_brokenOnes 4 = .ok (.iload_n 2, 1) := by decide +kernel
theorem dX9_brokenOnes_5 : decode cX9_brokenOnes 5 = .ok (.bipush 8, 2) := by decide +kernel
theorem dX9_brokenOnes_7 : decode cX9_brokenOnes 7 = .ok (.if_icmp .ge 35, 3) := by decide +kernel
theorem dX9_brokenOnes_10 : decode cX9_brokenOnes 10 = .ok (.aload_n 0, 1) := by decide +kernel
theorem dX9_brokenOnes_11 : decode cX9_brokenOnes 11 = .ok (.iload_n 2, 1) := by decide +kernel
theorem dX9_brokenOnes_12 : decode cX9_brokenOnes 12 = .ok (.iconst 4, 1) := by decide +kernel
theorem dX9_brokenOnes_13 : decode cX9_brokenOnes 13 = .ok (.idiv, 1) := by decide +kernel
theorem dX9_brokenOnes_14 : decode cX9_brokenOnes 14 = .ok (.iload_n 2, 1) := by decide +kernel
theorem dX9_brokenOnes_15 : decode cX9_brokenOnes 15 = .ok (.iconst 4, 1) := by decide +kernel
theorem dX9_brokenOnes_16 : decode cX9_brokenOnes 16 = .ok (.irem, 1) := by decide +kernel
theorem dX9_brokenOnes_17 : decode cX9_brokenOnes 17 = .ok (.aload_n 0, 1) := by decide +kernel
theorem dX9_brokenOnes_18 : decode cX9_brokenOnes 18 = .ok (.iload_n 2, 1) := by decide +kernel
theorem dX9_brokenOnes_19 : decode cX9_brokenOnes 19 = .ok (.iconst 4, 1) := by decide +kernel
theorem dX9_brokenOnes_20 : decode cX9_brokenOnes 20 = .ok (.idiv, 1) := by decide +kernel
theorem dX9_brokenOnes_21 : decode cX9_brokenOnes 21 = .ok (.invokevirtual 47, 3) := by decide +kernel
theorem dX9_brokenOnes_24 : decode cX9_brokenOnes 24 = .ok (.invokevirtual 160, 3) := by decide +kernel
theorem dX9_brokenOnes_27 : decode cX9_brokenOnes 27 = .ok (.iload_n 1, 1) := by decide +kernel
theorem dX9_brokenOnes_28 : decode cX9_brokenOnes 28 = .ok (.aload_n 0, 1) := by decide +kernel
theorem dX9_brokenOnes_29 : decode cX9_brokenOnes 29 = .ok (.iconst 2, 1) := by decide +kernel
theorem dX9_brokenOnes_30 : decode cX9_brokenOnes 30 = .ok (.iconst 3, 1) := by decide +kernel
theorem dX9_brokenOnes_31 : decode cX9_brokenOnes 31 = .ok (.invokevirtual 164, 3) := by decide +kernel
theorem dX9_brokenOnes_34 : decode cX9_brokenOnes 34 = .ok (.iadd, 1) := by decide +kernel
theorem dX9_brokenOnes_35 : decode cX9_brokenOnes 35 = .ok (.istore_n 1, 1) := by decide +kernel
theorem dX9_brokenOnes_36 : decode cX9_brokenOnes 36 = .ok (.iinc 2 1, 3) := by decide +kernel
theorem dX9_brokenOnes_39 : decode cX9_brokenOnes 39 = .ok (.goto (-35), 3) := by decide +kernel
theorem dX9_brokenOnes_42 : decode cX9_brokenOnes 42 = .ok (.iload_n 1, 1) := by decide +kernel
theorem dX9_brokenOnes_43 : decode cX9_brokenOnes 43 = .ok (.ireturn, 1) := by decide +kernel
set_option maxRecDepth 20000 in
theorem ggX9_end_X9_isThere : GoodIn wsX9_end wsX9_isThere := goodIn_r _ [5, 6, 7, 13, 14, 15, 16, 17, 18, 19, 20, 21, 22, 23, 24, 25, 26, 27, 28, 29, 30, 31] (by decide +kernel) (by decide +kernel)
set_option maxRecDepth 20000 in
theorem gX9_end_X9_isThere : GoodIn wsX9_end (wsV RX9 153 RX9 yX9_isThere wsX9_isThere) := goodIn_app (goodIn_of _ (by decide +kernel)) ggX9_end_X9_isThere
set_option maxRecDepth 20000 in
theorem ggX9_end_X9_isBroken : GoodIn wsX9_end wsX9_isBroken := goodIn_r _ [11, 12, 13, 14, 15, 16, 17, 18, 19, 20, 21, 22, 23, 24, 25, 26, 27, 28, 29, 30, 31] (by decide +kernel) (by decide +kernel)
set_option maxRecDepth 20000 in
theorem gX9_end_X9_isBroken : GoodIn wsX9_end (wsV RX9 132 RX9 yX9_isBroken wsX9_isBroken) := goodIn_app (goodIn_of _ (by decide +kernel)) ggX9_end_X9_isBroken
theorem dX9_end_0 : decode cX9_end 0 = .ok (.bipush (-5), 2) := by decide +kernel
theorem dX9_end_2 : decode cX9_end 2 = .ok (.istore_n 2, 1) := by decide +kernel
theorem dX9_end_3 : decode cX9_end 3 = .ok (.iconst 0, 1) := by decide +kernel
theorem dX9_end_4 : decode cX9_end 4 = .ok (.istore_n 3, 1) := by decide +kernel
theorem dX9_end_5 : decode cX9_end 5 = .ok (.aload_n 0, 1) := by decide +kernel
theorem dX9_end_6 : decode cX9_end 6 = .ok (.iload_n 1, 1) := by decide +kernel
theorem dX9_end_7 : decode cX9_end 7 = .ok (.iload_n 3, 1) := by decide +kernel
theorem dX9_end_8 : decode cX9_end 8 = .ok (.invokevirtual 153, 3) := by decide +kernel
theorem dX9_end_11 : decode cX9_end 11 = .ok (.ifCond .eq 24, 3) := by decide +kernel
theorem dX9_end_14 : decode cX9_end 14 = .ok (.aload_n 0, 1) := by decide +kernel
theorem dX9_end_15 : decode cX9_end 15 = .ok (.iload_n 1, 1) := by decide +kernel
theorem dX9_end_16 : decode cX9_end 16 = .ok (.iload_n 3, 1) := by decide +kernel
theorem dX9_end_17 : decode cX9_end 17 = .ok (.invokevirtual 132, 3) := by decide +kernel
theorem dX9_end_20 : decode cX9_end 20 = .ok (.ifCond .eq 7, 3) := by decide +kernel
theorem dX9_end_23 : decode cX9_end 23 = .ok (.iload_n 2, 1) := by decide +kernel
theorem dX9_end_24 : decode cX9_end 24 = .ok (.goto 4, 3) := by decide +kernel
theorem dX9_end_27 : decode cX9_end 27 = .ok (.iload_n 3, 1) := by decide +kernel
theorem dX9_end_28 : decode cX9_end 28 = .ok (.istore_n 2, 1) := by decide +kernel
theorem dX9_end_29 : decode cX9_end 29 = .ok (.iinc 3 1, 3) := by decide +kernel
theorem dX9_end_32 : decode cX9_end 32 = .ok (.goto (-27), 3) := by decide +kernel
theorem dX9_end_35 : decode cX9_end 35 = .ok (.iload_n 2, 1) := by decide +kernel
theorem dX9_end_36 : decode cX9_end 36 = .ok (.ireturn, 1) := by decide +kernel
set_option maxRecDepth 20000 in
theorem ggX9_guesses_X9_laysTable : GoodIn wsX9_guesses wsX9_laysTable := goodIn_r _ [10, 11, 12, 13, 3, 14, 15, 16, 17, 9, 18, 19, 20, 21, 22, 2, 23, 24, 25, 26, 27, 28, 29, 30, 31, 32, 33, 34, 35, 36, 37, 38, 39, 40, 41, 42, 43, 44, 45, 46, 47, 48, 49, 50, 51, 52, 53, 54, 59, 60, 61, 62, 63, 64, 65, 66, 67, 68, 69, 70, 71, 72, 73, 74, 75, 76, 77] (by decide +kernel) (by decide +kernel)
set_option maxRecDepth 20000 in
theorem gX9_guesses_X9_laysTable : GoodIn wsX9_guesses (wsV RX9 160 RX9 yX9_laysTable wsX9_laysTable) := goodIn_app (goodIn_of _ (by decide +kernel)) ggX9_guesses_X9_laysTable
set_option maxRecDepth 20000 in
theorem ggX9_guesses_X9_end : GoodIn wsX9_guesses wsX9_end := goodIn_r _ [58, 15, 16, 17, 9, 18, 11, 12, 27, 28, 29, 30, 14, 59, 60, 61, 62, 63, 64, 65, 66, 67, 68, 69, 70, 71, 72, 73, 74, 75, 76, 77] (by decide +kernel) (by decide +kernel)
set_option maxRecDepth 20000 in
theorem gX9_guesses_X9_end : GoodIn wsX9_guesses (wsV RX9 178 RX9 yX9_end wsX9_end) := goodIn_app (goodIn_of _ (by decide +kernel)) ggX9_guesses_X9_end
set_option maxRecDepth 20000 in
theorem ggX9_guesses_X9_x : GoodIn wsX9_guesses wsX9_x := goodIn_r _ [38, 13, 59, 60, 61, 62, 63, 64, 65, 66, 67, 68, 69, 70, 71, 72, 73, 74, 75, 76, 77] (by decide +kernel) (by decide +kernel)
set_option maxRecDepth 20000 in
theorem gX9_guesses_X9_x : GoodIn wsX9_guesses (wsV RX9 135 RX9 yX9_x wsX9_x) := goodIn_app (goodIn_of _ (by decide +kernel)) ggX9_guesses_X9_x
set_option maxRecDepth 20000 in
theorem ggX9_guesses_X9_size : GoodIn wsX9_guesses wsX9_size := goodIn_r _ [46] (by decide +kernel) (by decide +kernel)
set_option maxRecDepth 20000 in
theorem gX9_guesses_X9_size : GoodIn wsX9_guesses (va_wsS RX9 63 yX9_size wsX9_size) := goodIn_app (goodIn_of _ (by decide +kernel)) ggX9_guesses_X9_size
theorem dX9_guesses_0 : decode cX9_guesses 0 = .ok (.aload_n 0, 1) := by decide +kernel
theorem dX9_guesses_1 : decode cX9_guesses 1 = .ok (.iload_n 1, 1) := by decide +kernel
theorem dX9_guesses_2 : decode cX9_guesses 2 = .ok (.iload_n 2, 1) := by decide +kernel
theorem dX9_guesses_3 : decode cX9_guesses 3 = .ok (.iload_n 3, 1) := by decide +kernel
theorem dX9_guesses_4 : decode cX9_guesses 4 = .ok (.invokevirtual 160, 3) := by decide +kernel
theorem dX9_guesses_7 : decode cX9_guesses 7 = .ok (.aload_n 0, 1) := by decide +kernel
theorem dX9_guesses_8 : decode cX9_guesses 8 = .ok (.bipush (-5), 2) := by decide +kernel
theorem dX9_guesses_10 : decode cX9_guesses 10 = .ok (.putfield 168, 3) := by decide +kernel
theorem dX9_guesses_13 : decode cX9_guesses 13 = .ok (.aload_n 0, 1) := by decide +kernel
theorem dX9_guesses_14 : decode cX9_guesses 14 = .ok (.iload_n 3, 1) := by decide +kernel
theorem dX9_guesses_15 : decode cX9_guesses 15 = .ok (.ifCond .ne 9, 3) := by decide +kernel
theorem dX9_guesses_18 : decode cX9_guesses 18 = .ok (.ldc2_w 138, 3) := by decide +kernel
theorem dX9_guesses_21 : decode cX9_guesses 21 = .ok (.goto 16, 3) := by decide +kernel
theorem dX9_guesses_24 : decode cX9_guesses 24 = .ok (.aload_n 0, 1) := by decide +kernel
theorem dX9_guesses_25 : decode cX9_guesses 25 = .ok (.getfield 7, 3) := by decide +kernel
theorem dX9_guesses_28 : decode cX9_guesses 28 = .ok (.bipush 16, 2) := by decide +kernel
theorem dX9_guesses_30 : decode cX9_guesses 30 = .ok (.iload_n 1, 1) := by decide +kernel
theorem dX9_guesses_31 : decode cX9_guesses 31 = .ok (.imul, 1) := by decide +kernel
theorem dX9_guesses_32 : decode cX9_guesses 32 = .ok (.iload_n 3, 1) := by decide +kernel
theorem dX9_guesses_33 : decode cX9_guesses 33 = .ok (.iadd, 1) := by decide +kernel
theorem dX9_guesses_34 : decode cX9_guesses 34 = .ok (.iconst 1, 1) := by decide +kernel
theorem dX9_guesses_35 : decode cX9_guesses 35 = .ok (.isub, 1) := by decide +kernel
theorem dX9_guesses_36 : decode cX9_guesses 36 = .ok (.daload, 1) := by decide +kernel
theorem dX9_guesses_37 : decode cX9_guesses 37 = .ok (.putfield 171, 3) := by decide +kernel
theorem dX9_guesses_40 : decode cX9_guesses 40 = .ok (.aload_n 0, 1) := by decide +kernel
theorem dX9_guesses_41 : decode cX9_guesses 41 = .ok (.ldc2_w 138, 3) := by decide +kernel
theorem dX9_guesses_44 : decode cX9_guesses 44 = .ok (.putfield 175, 3) := by decide +kernel
theorem dX9_guesses_47 : decode cX9_guesses 47 = .ok (.iload_n 2, 1) := by decide +kernel
theorem dX9_guesses_48 : decode cX9_guesses 48 = .ok (.iconst 2, 1) := by decide +kernel
theorem dX9_guesses_49 : decode cX9_guesses 49 = .ok (.if_icmp .ge 7, 3) := by decide +kernel
theorem dX9_guesses_52 : decode cX9_guesses 52 = .ok (.iconst 2, 1) := by decide +kernel
theorem dX9_guesses_53 : decode cX9_guesses 53 = .ok (.goto 4, 3) := by decide +kernel
theorem dX9_guesses_56 : decode cX9_guesses 56 = .ok (.iconst 1, 1) := by decide +kernel
theorem dX9_guesses_57 : decode cX9_guesses 57 = .ok (.istore 4, 2) := by decide +kernel
theorem dX9_guesses_59 : decode cX9_guesses 59 = .ok (.iload 4, 2) := by decide +kernel
theorem dX9_guesses_61 : decode cX9_guesses 61 = .ok (.istore 5, 2) := by decide +kernel
theorem dX9_guesses_63 : decode cX9_guesses 63 = .ok (.iload 5, 2) := by decide +kernel
theorem dX9_guesses_65 : decode cX9_guesses 65 = .ok (.bipush 16, 2) := by decide +kernel
theorem dX9_guesses_67 : decode cX9_guesses 67 = .ok (.if_icmp .ge 108, 3) := by decide +kernel
theorem dX9_guesses_70 : decode cX9_guesses 70 = .ok (.aload_n 0, 1) := by decide +kernel
theorem dX9_guesses_71 : decode cX9_guesses 71 = .ok (.iload 5, 2) := by decide +kernel
theorem dX9_guesses_73 : decode cX9_guesses 73 = .ok (.invokevirtual 178, 3) := by decide +kernel
theorem dX9_guesses_76 : decode cX9_guesses 76 = .ok (.istore 6, 2) := by decide +kernel
theorem dX9_guesses_78 : decode cX9_guesses 78 = .ok (.aload_n 0, 1) := by decide +kernel
theorem dX9_guesses_79 : decode cX9_guesses 79 = .ok (.iload 5, 2) := by decide +kernel
theorem dX9_guesses_81 : decode cX9_guesses 81 = .ok (.iload 4, 2) := by decide +kernel
theorem dX9_guesses_83 : decode cX9_guesses 83 = .ok (.isub, 1) := by decide +kernel
theorem dX9_guesses_84 : decode cX9_guesses 84 = .ok (.invokevirtual 178, 3) := by decide +kernel
theorem dX9_guesses_87 : decode cX9_guesses 87 = .ok (.istore 7, 2) := by decide +kernel
theorem dX9_guesses_89 : decode cX9_guesses 89 = .ok (.iload 6, 2) := by decide +kernel
theorem dX9_guesses_91 : decode cX9_guesses 91 = .ok (.ifCond .lt 74, 3) := by decide +kernel
theorem dX9_guesses_94 : decode cX9_guesses 94 = .ok (.iload 7, 2) := by decide +kernel
theorem dX9_guesses_96 : decode cX9_guesses 96 = .ok (.ifCond .lt 69, 3) := by decide +kernel
theorem dX9_guesses_99 : decode cX9_guesses 99 = .ok (.aload_n 0, 1) := by decide +kernel
theorem dX9_guesses_100 : decode cX9_guesses 100 = .ok (.iload 5, 2) := by decide +kernel
theorem dX9_guesses_102 : decode cX9_guesses 102 = .ok (.iload 6, 2) := by decide +kernel
theorem dX9_guesses_104 : decode cX9_guesses 104 = .ok (.invokevirtual 135, 3) := by decide +kernel
theorem dX9_guesses_107 : decode cX9_guesses 107 = .ok (.aload_n 0, 1) := by decide +kernel
theorem dX9_guesses_108 : decode cX9_guesses 108 = .ok (.iload 5, 2) := by decide +kernel
theorem dX9_guesses_110 : decode cX9_guesses 110 = .ok (.iload 4, 2) := by decide +kernel
theorem dX9_guesses_112 : decode cX9_guesses 112 = .ok (.isub, 1) := by decide +kernel
theorem dX9_guesses_113 : decode cX9_guesses 113 = .ok (.iload 7, 2) := by decide +kernel
theorem dX9_guesses_115 : decode cX9_guesses 115 = .ok (.invokevirtual 135, 3) := by decide +kernel
theorem dX9_guesses_118 : decode cX9_guesses 118 = .ok (.dsub, 1) := by decide +kernel
theorem dX9_guesses_119 : decode cX9_guesses 119 = .ok (.invokestatic 63, 3) := by decide +kernel
theorem dX9_guesses_122 : decode cX9_guesses 122 = .ok (.dstore 8, 2) := by decide +kernel
theorem dX9_guesses_124 : decode cX9_guesses 124 = .ok (.aload_n 0, 1) := by decide +kernel
theorem dX9_guesses_125 : decode cX9_guesses 125 = .ok (.getfield 168, 3) := by decide +kernel
theorem dX9_guesses_128 : decode cX9_guesses 128 = .ok (.ifCond .lt 13, 3) := by decide +kernel
theorem dX9_guesses_131 : decode cX9_guesses 131 = .ok (.dload 8, 2) := by decide +kernel
theorem dX9_guesses_133 : decode cX9_guesses 133 = .ok (.aload_n 0, 1) := by decide +kernel
theorem dX9_guesses_134 : decode cX9_guesses 134 = .ok (.getfield 175, 3) := by decide +kernel
theorem dX9_guesses_137 : decode cX9_guesses 137 = .ok (.dcmp .g, 1) := by decide +kernel
theorem dX9_guesses_138 : decode cX9_guesses 138 = .ok (.ifCond .ge 27, 3) := by decide +kernel
theorem dX9_guesses_141 : decode cX9_guesses 141 = .ok (.aload_n 0, 1) := by decide +kernel
theorem dX9_guesses_142 : decode cX9_guesses 142 = .ok (.iload 5, 2) := by decide +kernel
theorem dX9_guesses_144 : decode cX9_guesses 144 = .ok (.putfield 168, 3) := by decide +kernel
theorem dX9_guesses_147 : decode cX9_guesses 147 = .ok (.aload_n 0, 1) := by decide +kernel
theorem dX9_guesses_148 : decode cX9_guesses 148 = .ok (.aload_n 0, 1) := by decide +kernel
theorem dX9_guesses_149 : decode cX9_guesses 149 = .ok (.iload 5, 2) := by decide +kernel
theorem dX9_guesses_151 : decode cX9_guesses 151 = .ok (.iload 6, 2) := by decide +kernel
theorem dX9_guesses_153 : decode cX9_guesses 153 = .ok (.invokevirtual 135, 3) := by decide +kernel
theorem dX9_guesses_156 : decode cX9_guesses 156 = .ok (.putfield 171, 3) := by decide +kernel
theorem dX9_guesses_159 : decode cX9_guesses 159 = .ok (.aload_n 0, 1) := by decide +kernel
theorem dX9_guesses_160 : decode cX9_guesses 160 = .ok (.dload 8, 2) := by decide +kernel
theorem dX9_guesses_162 : decode cX9_guesses 162 = .ok (.putfield 175, 3) := by decide +kernel
theorem dX9_guesses_165 : decode cX9_guesses 165 = .ok (.iload 5, 2) := by decide +kernel
theorem dX9_guesses_167 : decode cX9_guesses 167 = .ok (.iload 4, 2) := by decide +kernel
theorem dX9_guesses_169 : decode cX9_guesses 169 = .ok (.iadd, 1) := by decide +kernel
theorem dX9_guesses_170 : decode cX9_guesses 170 = .ok (.istore 5, 2) := by decide +kernel
theorem dX9_guesses_172 : decode cX9_guesses 172 = .ok (.goto (-109), 3) := by decide +kernel
theorem dX9_guesses_175 : decode cX9_guesses 175 = .ok (.return_, 1) := by decide +kernel
set_option maxRecDepth 20000 in
theorem ggX9_take_X9_isTable : GoodIn wsX9_take wsX9_isTable := goodIn_r _ [5, 6, 7, 4, 8, 9, 10, 11] (by decide +kernel) (by decide +kernel)
set_option maxRecDepth 20000 in
theorem gX9_take_X9_isTable : GoodIn wsX9_take (va_wsS RX9 181 yX9_isTable wsX9_isTable) := goodIn_app (goodIn_of _ (by decide +kernel)) ggX9_take_X9_isTable
set_option maxRecDepth 20000 in
theorem ggX9_take_X9_in : GoodIn wsX9_take wsX9_in := goodIn_r _ [11] (by decide +kernel) (by decide +kernel)
set_option maxRecDepth 20000 in
theorem gX9_take_X9_in : GoodIn wsX9_take (va_wsS RX9 39 yX9_in wsX9_in) := goodIn_app (goodIn_of _ (by decide +kernel)) ggX9_take_X9_in
set_option maxRecDepth 20000 in
theorem ggX9_take_X9_many : GoodIn wsX9_take wsX9_many := goodIn_r _ [15, 16, 85, 86, 87, 88, 89, 90, 91, 92, 93, 94, 95, 96, 97, 98, 99, 100, 101, 102, 103] (by decide +kernel) (by decide +kernel)
set_option maxRecDepth 20000 in
theorem gX9_take_X9_many : GoodIn wsX9_take (wsV RX9 47 RX9 yX9_many wsX9_many) := goodIn_app (goodIn_of _ (by decide +kernel)) ggX9_take_X9_many
set_option maxRecDepth 20000 in
theorem ggX9_take_X9_laysTable : GoodIn wsX9_take wsX9_laysTable := goodIn_r _ [20, 21, 22, 23, 16, 24, 25, 26, 27, 4, 28, 29, 30, 31, 32, 33, 34, 35, 36, 37, 38, 39, 40, 41, 42, 43, 44, 45, 46, 47, 48, 49, 50, 51, 52, 53, 54, 55, 56, 57, 58, 59, 60, 61, 62, 63, 64, 65, 85, 86, 87, 88, 89, 90, 91, 92, 93, 94, 95, 96, 97, 98, 99, 100, 101, 102, 103] (by decide +kernel) (by decide +kernel)
set_option maxRecDepth 20000 in
theorem gX9_take_X9_laysTable : GoodIn wsX9_take (wsV RX9 160 RX9 yX9_laysTable wsX9_laysTable) := goodIn_app (goodIn_of _ (by decide +kernel)) ggX9_take_X9_laysTable
set_option maxRecDepth 20000 in
theorem ggX9_take_X9_isThere : GoodIn wsX9_take wsX9_isThere := goodIn_r _ [28, 21, 22, 85, 86, 87, 88, 89, 90, 91, 92, 93, 94, 95, 96, 97, 98, 99, 100, 101, 102, 103] (by decide +kernel) (by decide +kernel)
set_option maxRecDepth 20000 in
theorem gX9_take_X9_isThere : GoodIn wsX9_take (wsV RX9 153 RX9 yX9_isThere wsX9_isThere) := goodIn_app (goodIn_of _ (by decide +kernel)) ggX9_take_X9_isThere
set_option maxRecDepth 20000 in
theorem ggX9_take_X9_isBroken : GoodIn wsX9_take wsX9_isBroken := goodIn_r _ [41, 24, 85, 86, 87, 88, 89, 90, 91, 92, 93, 94, 95, 96, 97, 98, 99, 100, 101, 102, 103] (by decide +kernel) (by decide +kernel)
set_option maxRecDepth 20000 in
theorem gX9_take_X9_isBroken : GoodIn wsX9_take (wsV RX9 132 RX9 yX9_isBroken wsX9_isBroken) := goodIn_app (goodIn_of _ (by decide +kernel)) ggX9_take_X9_isBroken
set_option maxRecDepth 20000 in
theorem ggX9_take_X9_x : GoodIn wsX9_take wsX9_x := goodIn_r _ [49, 23, 85, 86, 87, 88, 89, 90, 91, 92, 93, 94, 95, 96, 97, 98, 99, 100, 101, 102, 103] (by decide +kernel) (by decide +kernel)
set_option maxRecDepth 20000 in
theorem gX9_take_X9_x : GoodIn wsX9_take (wsV RX9 135 RX9 yX9_x wsX9_x) := goodIn_app (goodIn_of _ (by decide +kernel)) ggX9_take_X9_x
set_option maxRecDepth 20000 in
theorem ggX9_take_X9_isGood : GoodIn wsX9_take wsX9_isGood := goodIn_r _ [68, 69, 50, 51, 4, 52, 53, 54, 55, 56, 57] (by decide +kernel) (by decide +kernel)
set_option maxRecDepth 20000 in
theorem gX9_take_X9_isGood : GoodIn wsX9_take (va_wsS RX9 89 yX9_isGood wsX9_isGood) := goodIn_app (goodIn_of _ (by decide +kernel)) ggX9_take_X9_isGood
set_option maxRecDepth 20000 in
theorem ggX9_take_X9_lays : GoodIn wsX9_take wsX9_lays := goodIn_r _ [73, 74, 1, 85, 86, 87, 88, 89, 90, 91, 92, 93, 94, 95, 96, 97, 98, 99, 100, 101, 102, 103] (by decide +kernel) (by decide +kernel)
set_option maxRecDepth 20000 in
theorem gX9_take_X9_lays : GoodIn wsX9_take (wsV RX9 112 RX9 yX9_lays wsX9_lays) := goodIn_app (goodIn_of _ (by decide +kernel)) ggX9_take_X9_lays
set_option maxRecDepth 20000 in
theorem ggX9_take_X9_becomes : GoodIn wsX9_take wsX9_becomes := goodIn_r _ [78, 16, 1, 74, 79, 80, 81, 4, 82, 83, 84, 85, 86, 87, 88, 89, 90, 91, 92, 93, 94, 95, 96, 97, 98, 99, 100, 101, 102, 103] (by decide +kernel) (by decide +kernel)
set_option maxRecDepth 20000 in
theorem gX9_take_X9_becomes : GoodIn wsX9_take (wsV RX9 116 RX9 yX9_becomes wsX9_becomes) := goodIn_app (goodIn_of _ (by decide +kernel)) ggX9_take_X9_becomes
theorem dX9_take_0 : decode cX9_take 0 = .ok (.iload_n 1, 1) := by decide +kernel
theorem dX9_take_1 : decode cX9_take 1 = .ok (.iload_n 2, 1) := by decide +kernel
theorem dX9_take_2 : decode cX9_take 2 = .ok (.invokestatic 181, 3) := by decide +kernel
theorem dX9_take_5 : decode cX9_take 5 = .ok (.ifCond .ne 5, 3) := by decide +kernel
theorem dX9_take_8 : decode cX9_take 8 = .ok (.iconst (-1), 1) := by decide +kernel
theorem dX9_take_9 : decode cX9_take 9 = .ok (.ireturn, 1) := by decide +kernel
theorem dX9_take_10 : decode cX9_take 10 = .ok (.iload_n 3, 1) := by decide +kernel
theorem dX9_take_11 : decode cX9_take 11 = .ok (.iconst 0, 1) := by decide +kernel
theorem dX9_take_12 : decode cX9_take 12 = .ok (.bipush 15, 2) := by decide +kernel
theorem dX9_take_14 : decode cX9_take 14 = .ok (.invokestatic 39, 3) := by decide +kernel
theorem dX9_take_17 : decode cX9_take 17 = .ok (.ifCond .ne 6, 3) := by decide +kernel
theorem dX9_take_20 : decode cX9_take 20 = .ok (.bipush (-2), 2) := by decide +kernel
theorem dX9_take_22 : decode cX9_take 22 = .ok (.ireturn, 1) := by decide +kernel
theorem dX9_take_23 : decode cX9_take 23 = .ok (.iconst 1, 1) := by decide +kernel
theorem dX9_take_24 : decode cX9_take 24 = .ok (.iload_n 1, 1) := by decide +kernel
theorem dX9_take_25 : decode cX9_take 25 = .ok (.isub, 1) := by decide +kernel
theorem dX9_take_26 : decode cX9_take 26 = .ok (.istore 4, 2) := by decide +kernel
theorem dX9_take_28 : decode cX9_take 28 = .ok (.aload_n 0, 1) := by decide +kernel
theorem dX9_take_29 : decode cX9_take 29 = .ok (.iload 4, 2) := by decide +kernel
theorem dX9_take_31 : decode cX9_take 31 = .ok (.iload_n 2, 1) := by decide +kernel
theorem dX9_take_32 : decode cX9_take 32 = .ok (.aload_n 0, 1) := by decide +kernel
theorem dX9_take_33 : decode cX9_take 33 = .ok (.iload 4, 2) := by decide +kernel
theorem dX9_take_35 : decode cX9_take 35 = .ok (.invokevirtual 47, 3) := by decide +kernel
theorem dX9_take_38 : decode cX9_take 38 = .ok (.invokevirtual 160, 3) := by decide +kernel
theorem dX9_take_41 : decode cX9_take 41 = .ok (.aload_n 0, 1) := by decide +kernel
theorem dX9_take_42 : decode cX9_take 42 = .ok (.iconst 0, 1) := by decide +kernel
theorem dX9_take_43 : decode cX9_take 43 = .ok (.putfield 86, 3) := by decide +kernel
theorem dX9_take_46 : decode cX9_take 46 = .ok (.iconst 0, 1) := by decide +kernel
theorem dX9_take_47 : decode cX9_take 47 = .ok (.istore 5, 2) := by decide +kernel
theorem dX9_take_49 : decode cX9_take 49 = .ok (.aload_n 0, 1) := by decide +kernel
theorem dX9_take_50 : decode cX9_take 50 = .ok (.iload_n 3, 1) := by decide +kernel
theorem dX9_take_51 : decode cX9_take 51 = .ok (.iload 5, 2) := by decide +kernel
theorem dX9_take_53 : decode cX9_take 53 = .ok (.invokevirtual 153, 3) := by decide +kernel
theorem dX9_take_56 : decode cX9_take 56 = .ok (.ifCond .eq 43, 3) := by decide +kernel
theorem dX9_take_59 : decode cX9_take 59 = .ok (.aload_n 0, 1) := by decide +kernel
theorem dX9_take_60 : decode cX9_take 60 = .ok (.iload_n 3, 1) := by decide +kernel
theorem dX9_take_61 : decode cX9_take 61 = .ok (.iload 5, 2) := by decide +kernel
theorem dX9_take_63 : decode cX9_take 63 = .ok (.invokevirtual 132, 3) := by decide +kernel
theorem dX9_take_66 : decode cX9_take 66 = .ok (.ifCond .ne 27, 3) := by decide +kernel
theorem dX9_take_69 : decode cX9_take 69 = .ok (.aload_n 0, 1) := by decide +kernel
theorem dX9_take_70 : decode cX9_take 70 = .ok (.iload_n 3, 1) := by decide +kernel
theorem dX9_take_71 : decode cX9_take 71 = .ok (.iload 5, 2) := by decide +kernel
theorem dX9_take_73 : decode cX9_take 73 = .ok (.invokevirtual 135, 3) := by decide +kernel
theorem dX9_take_76 : decode cX9_take 76 = .ok (.invokestatic 89, 3) := by decide +kernel
theorem dX9_take_79 : decode cX9_take 79 = .ok (.ifCond .eq 14, 3) := by decide +kernel
theorem dX9_take_82 : decode cX9_take 82 = .ok (.aload_n 0, 1) := by decide +kernel
theorem dX9_take_83 : decode cX9_take 83 = .ok (.aload_n 0, 1) := by decide +kernel
theorem dX9_take_84 : decode cX9_take 84 = .ok (.iload_n 3, 1) := by decide +kernel
theorem dX9_take_85 : decode cX9_take 85 = .ok (.iload 5, 2) := by decide +kernel
theorem dX9_take_87 : decode cX9_take 87 = .ok (.invokevirtual 135, 3) := by decide +kernel
theorem dX9_take_90 : decode cX9_take 90 = .ok (.invokevirtual 112, 3) := by decide +kernel
theorem dX9_take_93 : decode cX9_take 93 = .ok (.iinc 5 1, 3) := by decide +kernel
theorem dX9_take_96 : decode cX9_take 96 = .ok (.goto (-47), 3) := by decide +kernel
theorem dX9_take_99 : decode cX9_take 99 = .ok (.aload_n 0, 1) := by decide +kernel
theorem dX9_take_100 : decode cX9_take 100 = .ok (.getfield 86, 3) := by decide +kernel
theorem dX9_take_103 : decode cX9_take 103 = .ok (.ifCond .ne 8, 3) := by decide +kernel
theorem dX9_take_106 : decode cX9_take 106 = .ok (.bipush (-4), 2) := by decide +kernel
theorem dX9_take_108 : decode cX9_take 108 = .ok (.goto 8, 3) := by decide +kernel
theorem dX9_take_111 : decode cX9_take 111 = .ok (.aload_n 0, 1) := by decide +kernel
theorem dX9_take_112 : decode cX9_take 112 = .ok (.iload_n 1, 1) := by decide +kernel
theorem dX9_take_113 : decode cX9_take 113 = .ok (.invokevirtual 116, 3) := by decide +kernel
theorem dX9_take_116 : decode cX9_take 116 = .ok (.ireturn, 1) := by decide +kernel
set_option maxRecDepth 20000 in
theorem ggX9_isInRange_X9_areSame : GoodIn wsX9_isInRange wsX9_areSame := goodIn_r _ [9, 10, 11, 12, 13, 14, 15, 16, 17, 18, 19, 20, 21] (by decide +kernel) (by decide +kernel)
set_option maxRecDepth 20000 in
theorem gX9_isInRange_X9_areSame : GoodIn wsX9_isInRange (va_wsS RX9 104 yX9_areSame wsX9_areSame) := goodIn_app (goodIn_of _ (by decide +kernel)) ggX9_isInRange_X9_areSame
theorem dX9_isInRange_0 : decode cX9_isInRange 0 = .ok (.iload_n 0, 1) := by decide +kernel
theorem dX9_isInRange_1 : decode cX9_isInRange 1 = .ok (.ifCond .ne 7, 3) := by decide +kernel
theorem dX9_isInRange_4 : decode cX9_isInRange 4 = .ok (.dconst 0, 1) := by decide +kernel
theorem dX9_isInRange_5 : decode cX9_isInRange 5 = .ok (.goto 17, 3) := by decide +kernel
theorem dX9_isInRange_8 : decode cX9_isInRange 8 = .ok (.iload_n 0, 1) := by decide +kernel
theorem dX9_isInRange_9 : decode cX9_isInRange 9 = .ok (.iconst 1, 1) := by decide +kernel
theorem dX9_isInRange_10 : decode cX9_isInRange 10 = .ok (.if_icmp .ne 9, 3) := by decide +kernel
theorem dX9_isInRange_13 : decode cX9_isInRange 13 = .ok (.ldc2_w 184, 3) := by decide +kernel
theorem dX9_isInRange_16 : decode cX9_isInRange 16 = .ok (.goto 6, 3) := by decide +kernel
theorem dX9_isInRange_19 : decode cX9_isInRange 19 = .ok (.ldc2_w 186, 3) := by decide +kernel
theorem dX9_isInRange_22 : decode cX9_isInRange 22 = .ok (.dstore_n 3, 1) := by decide +kernel
theorem dX9_isInRange_23 : decode cX9_isInRange 23 = .ok (.iload_n 0, 1) := by decide +kernel
theorem dX9_isInRange_24 : decode cX9_isInRange 24 = .ok (.ifCond .ne 7, 3) := by decide +kernel
theorem dX9_isInRange_27 : decode cX9_isInRange 27 = .ok (.dconst 1, 1) := by decide +kernel
theorem dX9_isInRange_28 : decode cX9_isInRange 28 = .ok (.goto 17, 3) := by decide +kernel
theorem dX9_isInRange_31 : decode cX9_isInRange 31 = .ok (.iload_n 0, 1) := by decide +kernel
theorem dX9_isInRange_32 : decode cX9_isInRange 32 = .ok (.iconst 1, 1) := by decide +kernel
theorem dX9_isInRange_33 : decode cX9_isInRange 33 = .ok (.if_icmp .ne 9, 3) := by decide +kernel
theorem dX9_isInRange_36 : decode cX9_isInRange 36 = .ok (.ldc2_w 188, 3) := by decide +kernel
theorem dX9_isInRange_39 : decode cX9_isInRange 39 = .ok (.goto 6, 3) := by decide +kernel
theorem dX9_isInRange_42 : decode cX9_isInRange 42 = .ok (.ldc2_w 190, 3) := by decide +kernel
theorem dX9_isInRange_45 : decode cX9_isInRange 45 = .ok (.dstore 5, 2) := by decide +kernel
theorem dX9_isInRange_47 : decode cX9_isInRange 47 = .ok (.dload_n 1, 1) := by decide +kernel
theorem dX9_isInRange_48 : decode cX9_isInRange 48 = .ok (.dload_n 3, 1) := by decide +kernel
theorem dX9_isInRange_49 : decode cX9_isInRange 49 = .ok (.dcmp .l, 1) := by decide +kernel
theorem dX9_isInRange_50 : decode cX9_isInRange 50 = .ok (.ifCond .lt 24, 3) := by decide +kernel
theorem dX9_isInRange_53 : decode cX9_isInRange 53 = .ok (.dload_n 1, 1) := by decide +kernel
theorem dX9_isInRange_54 : decode cX9_isInRange 54 = .ok (.dload 5, 2) := by decide +kernel
theorem dX9_isInRange_56 : decode cX9_isInRange 56 = .ok (.dcmp .g, 1) := by decide +kernel
theorem dX9_isInRange_57 : decode cX9_isInRange 57 = .ok (.ifCond .gt 17, 3) := by decide +kernel
theorem dX9_isInRange_60 : decode cX9_isInRange 60 = .ok (.dload_n 1, 1) := by decide +kernel
theorem dX9_isInRange_61 : decode cX9_isInRange 61 = .ok (.ldc2_w 192, 3) := by decide +kernel
theorem dX9_isInRange_64 : decode cX9_isInRange 64 = .ok (.invokestatic 104, 3) := by decide +kernel
theorem dX9_isInRange_67 : decode cX9_isInRange 67 = .ok (.ifCond .ne 7, 3) := by decide +kernel
theorem dX9_isInRange_70 : decode cX9_isInRange 70 = .ok (.iconst 1, 1) := by decide +kernel
theorem dX9_isInRange_71 : decode cX9_isInRange 71 = .ok (.goto 4, 3) := by decide +kernel
theorem dX9_isInRange_74 : decode cX9_isInRange 74 = .ok (.iconst 0, 1) := by decide +kernel
theorem dX9_isInRange_75 : decode cX9_isInRange 75 = .ok (.ireturn, 1) := by decide +kernel
set_option maxRecDepth 20000 in
theorem ggX9_setting_X9_areOfNone : GoodIn wsX9_setting wsX9_areOfNone := goodIn_r _ [9, 10, 11] (by decide +kernel) (by decide +kernel)
set_option maxRecDepth 20000 in
theorem gX9_setting_X9_areOfNone : GoodIn wsX9_setting (va_wsS RX9 92 yX9_areOfNone wsX9_areOfNone) := goodIn_app (goodIn_of _ (by decide +kernel)) ggX9_setting_X9_areOfNone
set_option maxRecDepth 20000 in
theorem ggX9_setting_X9_in : GoodIn wsX9_setting wsX9_in := goodIn_r _ [14] (by decide +kernel) (by decide +kernel)
set_option maxRecDepth 20000 in
theorem gX9_setting_X9_in : GoodIn wsX9_setting (va_wsS RX9 39 yX9_in wsX9_in) := goodIn_app (goodIn_of _ (by decide +kernel)) ggX9_setting_X9_in
set_option maxRecDepth 20000 in
theorem ggX9_setting_X9_isInRange : GoodIn wsX9_setting wsX9_isInRange := goodIn_r _ [17, 18, 19, 20, 21, 22, 23, 24, 8, 25, 26, 27, 28, 29, 30, 31, 32, 4, 33, 34, 35, 36] (by decide +kernel) (by decide +kernel)
set_option maxRecDepth 20000 in
theorem gX9_setting_X9_isInRange : GoodIn wsX9_setting (va_wsS RX9 194 yX9_isInRange wsX9_isInRange) := goodIn_app (goodIn_of _ (by decide +kernel)) ggX9_setting_X9_isInRange
set_option maxRecDepth 20000 in
theorem ggX9_setting_X9_records : GoodIn wsX9_setting wsX9_records := goodIn_r _ [40, 41, 42, 5, 43, 44, 45, 46, 47, 48, 49, 50, 51, 52, 53, 54, 55, 56, 57, 58, 59, 60, 61] (by decide +kernel) (by decide +kernel)
set_option maxRecDepth 20000 in
theorem gX9_setting_X9_records : GoodIn wsX9_setting (wsV RX9 83 RX9 yX9_records wsX9_records) := goodIn_app (goodIn_of _ (by decide +kernel)) ggX9_setting_X9_records
theorem dX9_setting_0 : decode cX9_setting 0 = .ok (.lload_n 2, 1) := by decide +kernel
theorem dX9_setting_1 : decode cX9_setting 1 = .ok (.invokestatic 92, 3) := by decide +kernel
theorem dX9_setting_4 : decode cX9_setting 4 = .ok (.ifCond .eq 6, 3) := by decide +kernel
theorem dX9_setting_7 : decode cX9_setting 7 = .ok (.bipush (-2), 2) := by decide +kernel
theorem dX9_setting_9 : decode cX9_setting 9 = .ok (.ireturn, 1) := by decide +kernel
theorem dX9_setting_10 : decode cX9_setting 10 = .ok (.lload_n 2, 1) := by decide +kernel
theorem dX9_setting_11 : decode cX9_setting 11 = .ok (.invokestatic 96, 3) := by decide +kernel
theorem dX9_setting_14 : decode cX9_setting 14 = .ok (.dstore 4, 2) := by decide +kernel
theorem dX9_setting_16 : decode cX9_setting 16 = .ok (.iload_n 1, 1) := by decide +kernel
theorem dX9_setting_17 : decode cX9_setting 17 = .ok (.iconst 0, 1) := by decide +kernel
theorem dX9_setting_18 : decode cX9_setting 18 = .ok (.iconst 2, 1) := by decide +kernel
theorem dX9_setting_19 : decode cX9_setting 19 = .ok (.invokestatic 39, 3) := by decide +kernel
theorem dX9_setting_22 : decode cX9_setting 22 = .ok (.ifCond .eq 12, 3) := by decide +kernel
theorem dX9_setting_25 : decode cX9_setting 25 = .ok (.iload_n 1, 1) := by decide +kernel
theorem dX9_setting_26 : decode cX9_setting 26 = .ok (.dload 4, 2) := by decide +kernel
theorem dX9_setting_28 : decode cX9_setting 28 = .ok (.invokestatic 194, 3) := by decide +kernel
theorem dX9_setting_31 : decode cX9_setting 31 = .ok (.ifCond .ne 6, 3) := by decide +kernel
theorem dX9_setting_34 : decode cX9_setting 34 = .ok (.bipush (-2), 2) := by decide +kernel
theorem dX9_setting_36 : decode cX9_setting 36 = .ok (.ireturn, 1) := by decide +kernel
theorem dX9_setting_37 : decode cX9_setting 37 = .ok (.dload 4, 2) := by decide +kernel
theorem dX9_setting_39 : decode cX9_setting 39 = .ok (.aload_n 0, 1) := by decide +kernel
theorem dX9_setting_40 : decode cX9_setting 40 = .ok (.getfield 7, 3) := by decide +kernel
theorem dX9_setting_43 : decode cX9_setting 43 = .ok (.bipush 34, 2) := by decide +kernel
theorem dX9_setting_45 : decode cX9_setting 45 = .ok (.iload_n 1, 1) := by decide +kernel
theorem dX9_setting_46 : decode cX9_setting 46 = .ok (.iadd, 1) := by decide +kernel
theorem dX9_setting_47 : decode cX9_setting 47 = .ok (.daload, 1) := by decide +kernel
theorem dX9_setting_48 : decode cX9_setting 48 = .ok (.dcmp .l, 1) := by decide +kernel
theorem dX9_setting_49 : decode cX9_setting 49 = .ok (.ifCond .ne 6, 3) := by decide +kernel
theorem dX9_setting_52 : decode cX9_setting 52 = .ok (.bipush (-5), 2) := by decide +kernel
theorem dX9_setting_54 : decode cX9_setting 54 = .ok (.ireturn, 1) := by decide +kernel
theorem dX9_setting_55 : decode cX9_setting 55 = .ok (.aload_n 0, 1) := by decide +kernel
theorem dX9_setting_56 : decode cX9_setting 56 = .ok (.invokevirtual 83, 3) := by decide +kernel
theorem dX9_setting_59 : decode cX9_setting 59 = .ok (.aload_n 0, 1) := by decide +kernel
theorem dX9_setting_60 : decode cX9_setting 60 = .ok (.getfield 7, 3) := by decide +kernel
theorem dX9_setting_63 : decode cX9_setting 63 = .ok (.bipush 34, 2) := by decide +kernel
theorem dX9_setting_65 : decode cX9_setting 65 = .ok (.iload_n 1, 1) := by decide +kernel
theorem dX9_setting_66 : decode cX9_setting 66 = .ok (.iadd, 1) := by decide +kernel
theorem dX9_setting_67 : decode cX9_setting 67 = .ok (.dload 4, 2) := by decide +kernel
theorem dX9_setting_69 : decode cX9_setting 69 = .ok (.dastore, 1) := by decide +kernel
theorem dX9_setting_70 : decode cX9_setting 70 = .ok (.iload_n 1, 1) := by decide +kernel
theorem dX9_setting_71 : decode cX9_setting 71 = .ok (.ireturn, 1) := by decide +kernel
set_option maxRecDepth 20000 in
theorem ggX9_bridge_X9_records : GoodIn wsX9_bridge wsX9_records := goodIn_r _ [6, 7, 8, 1, 73, 74, 75, 76, 77, 78, 79, 80, 81, 82, 83, 84, 85, 86, 87, 88, 89, 90, 91] (by decide +kernel) (by decide +kernel)
set_option maxRecDepth 20000 in
theorem gX9_bridge_X9_records : GoodIn wsX9_bridge (wsV RX9 83 RX9 yX9_records wsX9_records) := goodIn_app (goodIn_of _ (by decide +kernel)) ggX9_bridge_X9_records
set_option maxRecDepth 20000 in
theorem ggX9_bridge_X9_brokenOnes : GoodIn wsX9_bridge wsX9_brokenOnes := goodIn_r _ [12, 13, 14, 15, 5, 16, 1, 17, 18, 19, 20, 21, 22, 23, 24, 25, 26, 27, 28, 29, 30, 31, 32, 33, 34, 35, 36, 37, 38, 39, 40, 41, 42, 43, 44, 45, 46, 47, 48, 49, 50, 51, 52, 53, 54, 55, 56, 57, 58, 59, 60, 61, 62, 63, 64, 65, 66, 67, 68, 69, 70, 71, 72, 73, 74, 75, 76, 77, 78, 79, 80, 81, 82, 83, 84, 85, 86, 87, 88, 89, 90, 91] (by decide +kernel) (by decide +kernel)
set_option maxRecDepth 20000 in
theorem gX9_bridge_X9_brokenOnes : GoodIn wsX9_bridge (wsV RX9 198 RX9 yX9_brokenOnes wsX9_brokenOnes) := goodIn_app (goodIn_of _ (by decide +kernel)) ggX9_bridge_X9_brokenOnes
theorem dX9_bridge_0 : decode cX9_bridge 0 = .ok (.iload_n 1, 1) := by decide +kernel
theorem dX9_bridge_1 : decode cX9_bridge 1 = .ok (.ifCond .eq 7, 3) := by decide +kernel
theorem dX9_bridge_4 : decode cX9_bridge 4 = .ok (.dconst 1, 1) := by decide +kernel
theorem dX9_bridge_5 : decode cX9_bridge 5 = .ok (.goto 4, 3) := by decide +kernel
theorem dX9_bridge_8 : decode cX9_bridge 8 = .ok (.dconst 0, 1) := by decide +kernel
theorem dX9_bridge_9 : decode cX9_bridge 9 = .ok (.dstore_n 2, 1) := by decide +kernel
theorem dX9_bridge_10 : decode cX9_bridge 10 = .ok (.aload_n 0, 1) := by decide +kernel
theorem dX9_bridge_11 : decode cX9_bridge 11 = .ok (.getfield 7, 3) := by decide +kernel
theorem dX9_bridge_14 : decode cX9_bridge 14 = .ok (.bipush 37, 2) := by decide +kernel
theorem dX9_bridge_16 : decode cX9_bridge 16 = .ok (.daload, 1) := by decide +kernel
theorem dX9_bridge_17 : decode cX9_bridge 17 = .ok (.dload_n 2, 1) := by decide +kernel
theorem dX9_bridge_18 : decode cX9_bridge 18 = .ok (.dcmp .l, 1) := by decide +kernel
theorem dX9_bridge_19 : decode cX9_bridge 19 = .ok (.ifCond .ne 6, 3) := by decide +kernel
theorem dX9_bridge_22 : decode cX9_bridge 22 = .ok (.bipush (-5), 2) := by decide +kernel
theorem dX9_bridge_24 : decode cX9_bridge 24 = .ok (.ireturn, 1) := by decide +kernel
theorem dX9_bridge_25 : decode cX9_bridge 25 = .ok (.aload_n 0, 1) := by decide +kernel
theorem dX9_bridge_26 : decode cX9_bridge 26 = .ok (.invokevirtual 83, 3) := by decide +kernel
theorem dX9_bridge_29 : decode cX9_bridge 29 = .ok (.aload_n 0, 1) := by decide +kernel
theorem dX9_bridge_30 : decode cX9_bridge 30 = .ok (.getfield 7, 3) := by decide +kernel
theorem dX9_bridge_33 : decode cX9_bridge 33 = .ok (.bipush 37, 2) := by decide +kernel
theorem dX9_bridge_35 : decode cX9_bridge 35 = .ok (.dload_n 2, 1) := by decide +kernel
theorem dX9_bridge_36 : decode cX9_bridge 36 = .ok (.dastore, 1) := by decide +kernel
theorem dX9_bridge_37 : decode cX9_bridge 37 = .ok (.aload_n 0, 1) := by decide +kernel
theorem dX9_bridge_38 : decode cX9_bridge 38 = .ok (.invokevirtual 198, 3) := by decide +kernel
theorem dX9_bridge_41 : decode cX9_bridge 41 = .ok (.ireturn, 1) := by decide +kernel
theorem dX9_type_0 : decode cX9_type 0 = .ok (.aload_n 0, 1) := by decide +kernel
theorem dX9_type_1 : decode cX9_type 1 = .ok (.getfield 202, 3) := by decide +kernel
theorem dX9_type_4 : decode cX9_type 4 = .ok (.bipush 60, 2) := by decide +kernel
theorem dX9_type_6 : decode cX9_type 6 = .ok (.if_icmp .ne 6, 3) := by decide +kernel
theorem dX9_type_9 : decode cX9_type 9 = .ok (.bipush (-3), 2) := by decide +kernel
theorem dX9_type_11 : decode cX9_type 11 = .ok (.ireturn, 1) := by decide +kernel
theorem dX9_type_12 : decode cX9_type 12 = .ok (.aload_n 0, 1) := by decide +kernel
theorem dX9_type_13 : decode cX9_type 13 = .ok (.getfield 19, 3) := by decide +kernel
theorem dX9_type_16 : decode cX9_type 16 = .ok (.aload_n 0, 1) := by decide +kernel
theorem dX9_type_17 : decode cX9_type 17 = .ok (.getfield 202, 3) := by decide +kernel
theorem dX9_type_20 : decode cX9_type 20 = .ok (.iload_n 1, 1) := by decide +kernel
theorem dX9_type_21 : decode cX9_type 21 = .ok (.castore, 1) := by decide +kernel
theorem dX9_type_22 : decode cX9_type 22 = .ok (.aload_n 0, 1) := by decide +kernel
theorem dX9_type_23 : decode cX9_type 23 = .ok (.dup, 1) := by decide +kernel
theorem dX9_type_24 : decode cX9_type 24 = .ok (.getfield 202, 3) := by decide +kernel
theorem dX9_type_27 : decode cX9_type 27 = .ok (.iconst 1, 1) := by decide +kernel
theorem dX9_type_28 : decode cX9_type 28 = .ok (.iadd, 1) := by decide +kernel
theorem dX9_type_29 : decode cX9_type 29 = .ok (.putfield 202, 3) := by decide +kernel
theorem dX9_type_32 : decode cX9_type 32 = .ok (.aload_n 0, 1) := by decide +kernel
theorem dX9_type_33 : decode cX9_type 33 = .ok (.getfield 202, 3) := by decide +kernel
theorem dX9_type_36 : decode cX9_type 36 = .ok (.ireturn, 1) := by decide +kernel
theorem dX9_clearText_0 : decode cX9_clearText 0 = .ok (.aload_n 0, 1) := by decide +kernel
theorem dX9_clearText_1 : decode cX9_clearText 1 = .ok (.getfield 202, 3) := by decide +kernel
theorem dX9_clearText_4 : decode cX9_clearText 4 = .ok (.istore_n 1, 1) := by decide +kernel
theorem dX9_clearText_5 : decode cX9_clearText 5 = .ok (.aload_n 0, 1) := by decide +kernel
theorem dX9_clearText_6 : decode cX9_clearText 6 = .ok (.iconst 0, 1) := by decide +kernel
theorem dX9_clearText_7 : decode cX9_clearText 7 = .ok (.putfield 202, 3) := by decide +kernel
theorem dX9_clearText_10 : decode cX9_clearText 10 = .ok (.iload_n 1, 1) := by decide +kernel
theorem dX9_clearText_11 : decode cX9_clearText 11 = .ok (.ireturn, 1) := by decide +kernel
set_option maxRecDepth 20000 in
theorem ggX9_takes_X9_in : GoodIn wsX9_takes wsX9_in := goodIn_r _ [7] (by decide +kernel) (by decide +kernel)
set_option maxRecDepth 20000 in
theorem gX9_takes_X9_in : GoodIn wsX9_takes (va_wsS RX9 39 yX9_in wsX9_in) := goodIn_app (goodIn_of _ (by decide +kernel)) ggX9_takes_X9_in
theorem dX9_takes_0 : decode cX9_takes 0 = .ok (.aload_n 0, 1) := by decide +kernel
theorem dX9_takes_1 : decode cX9_takes 1 = .ok (.getfield 205, 3) := by decide +kernel
theorem dX9_takes_4 : decode cX9_takes 4 = .ok (.aload_n 0, 1) := by decide +kernel
theorem dX9_takes_5 : decode cX9_takes 5 = .ok (.getfield 202, 3) := by decide +kernel
theorem dX9_takes_8 : decode cX9_takes 8 = .ok (.if_icmp .ge 24, 3) := by decide +kernel
theorem dX9_takes_11 : decode cX9_takes 11 = .ok (.aload_n 0, 1) := by decide +kernel
theorem dX9_takes_12 : decode cX9_takes 12 = .ok (.getfield 19, 3) := by decide +kernel
theorem dX9_takes_15 : decode cX9_takes 15 = .ok (.aload_n 0, 1) := by decide +kernel
theorem dX9_takes_16 : decode cX9_takes 16 = .ok (.getfield 205, 3) := by decide +kernel
theorem dX9_takes_19 : decode cX9_takes 19 = .ok (.caload, 1) := by decide +kernel
theorem dX9_takes_20 : decode cX9_takes 20 = .ok (.iload_n 1, 1) := by decide +kernel
theorem dX9_takes_21 : decode cX9_takes 21 = .ok (.iload_n 2, 1) := by decide +kernel
theorem dX9_takes_22 : decode cX9_takes 22 = .ok (.invokestatic 39, 3) := by decide +kernel
theorem dX9_takes_25 : decode cX9_takes 25 = .ok (.ifCond .eq 7, 3) := by decide +kernel
theorem dX9_takes_28 : decode cX9_takes 28 = .ok (.iconst 1, 1) := by decide +kernel
theorem dX9_takes_29 : decode cX9_takes 29 = .ok (.goto 4, 3) := by decide +kernel
theorem dX9_takes_32 : decode cX9_takes 32 = .ok (.iconst 0, 1) := by decide +kernel
theorem dX9_takes_33 : decode cX9_takes 33 = .ok (.istore_n 3, 1) := by decide +kernel
theorem dX9_takes_34 : decode cX9_takes 34 = .ok (.aload_n 0, 1) := by decide +kernel
theorem dX9_takes_35 : decode cX9_takes 35 = .ok (.dup, 1) := by decide +kernel
theorem dX9_takes_36 : decode cX9_takes 36 = .ok (.getfield 205, 3) := by decide +kernel
theorem dX9_takes_39 : decode cX9_takes 39 = .ok (.iload_n 3, 1) := by decide +kernel
theorem dX9_takes_40 : decode cX9_takes 40 = .ok (.ifCond .eq 7, 3) := by decide +kernel
theorem dX9_takes_43 : decode cX9_takes 43 = .ok (.iconst 1, 1) := by decide +kernel
theorem dX9_takes_44 : decode cX9_takes 44 = .ok (.goto 4, 3) := by decide +kernel
theorem dX9_takes_47 : decode cX9_takes 47 = .ok (.iconst 0, 1) := by decide +kernel
theorem dX9_takes_48 : decode cX9_takes 48 = .ok (.iadd, 1) := by decide +kernel
theorem dX9_takes_49 : decode cX9_takes 49 = .ok (.putfield 205, 3) := by decide +kernel
theorem dX9_takes_52 : decode cX9_takes 52 = .ok (.iload_n 3, 1) := by decide +kernel
theorem dX9_takes_53 : decode cX9_takes 53 = .ok (.ireturn, 1) := by decide +kernel
set_option maxRecDepth 20000 in
theorem ggX9_takesDigits_X9_takes : GoodIn wsX9_takesDigits wsX9_takes := goodIn_r _ [11, 4, 12, 3, 13, 14, 10, 15, 16, 17, 18, 19, 20, 21, 22, 23, 24, 25, 26, 27, 28, 29, 30, 31, 32, 33, 34] (by decide +kernel) (by decide +kernel)
set_option maxRecDepth 20000 in
theorem gX9_takesDigits_X9_takes : GoodIn wsX9_takesDigits (wsV RX9 208 RX9 yX9_takes wsX9_takes) := goodIn_app (goodIn_of _ (by decide +kernel)) ggX9_takesDigits_X9_takes
theorem dX9_takesDigits_0 : decode cX9_takesDigits 0 = .ok (.iconst 0, 1) := by decide +kernel
theorem dX9_takesDigits_1 : decode cX9_takesDigits 1 = .ok (.istore_n 3, 1) := by decide +kernel
theorem dX9_takesDigits_2 : decode cX9_takesDigits 2 = .ok (.iload_n 3, 1) := by decide +kernel
theorem dX9_takesDigits_3 : decode cX9_takesDigits 3 = .ok (.iload_n 1, 1) := by decide +kernel
theorem dX9_takesDigits_4 : decode cX9_takesDigits 4 = .ok (.if_icmp .ge 72, 3) := by decide +kernel
theorem dX9_takesDigits_7 : decode cX9_takesDigits 7 = .ok (.aload_n 0, 1) := by decide +kernel
theorem dX9_takesDigits_8 : decode cX9_takesDigits 8 = .ok (.bipush 48, 2) := by decide +kernel
theorem dX9_takesDigits_10 : decode cX9_takesDigits 10 = .ok (.bipush 57, 2) := by decide +kernel
theorem dX9_takesDigits_12 : decode cX9_takesDigits 12 = .ok (.invokevirtual 208, 3) := by decide +kernel
theorem dX9_takesDigits_15 : decode cX9_takesDigits 15 = .ok (.ifCond .eq 61, 3) := by decide +kernel
theorem dX9_takesDigits_18 : decode cX9_takesDigits 18 = .ok (.aload_n 0, 1) := by decide +kernel
theorem dX9_takesDigits_19 : decode cX9_takesDigits 19 = .ok (.ldc2_w 211, 3) := by decide +kernel
theorem dX9_takesDigits_22 : decode cX9_takesDigits 22 = .ok (.aload_n 0, 1) := by decide +kernel
theorem dX9_takesDigits_23 : decode cX9_takesDigits 23 = .ok (.getfield 213, 3) := by decide +kernel
theorem dX9_takesDigits_26 : decode cX9_takesDigits 26 = .ok (.lmul, 1) := by decide +kernel
theorem dX9_takesDigits_27 : decode cX9_takesDigits 27 = .ok (.aload_n 0, 1) := by decide +kernel
theorem dX9_takesDigits_28 : decode cX9_takesDigits 28 = .ok (.getfield 19, 3) := by decide +kernel
theorem dX9_takesDigits_31 : decode cX9_takesDigits 31 = .ok (.aload_n 0, 1) := by decide +kernel
theorem dX9_takesDigits_32 : decode cX9_takesDigits 32 = .ok (.getfield 205, 3) := by decide +kernel
theorem dX9_takesDigits_35 : decode cX9_takesDigits 35 = .ok (.iconst 1, 1) := by decide +kernel
theorem dX9_takesDigits_36 : decode cX9_takesDigits 36 = .ok (.isub, 1) := by decide +kernel
theorem dX9_takesDigits_37 : decode cX9_takesDigits 37 = .ok (.caload, 1) := by decide +kernel
theorem dX9_takesDigits_38 : decode cX9_takesDigits 38 = .ok (.i2l, 1) := by decide +kernel
theorem dX9_takesDigits_39 : decode cX9_takesDigits 39 = .ok (.ladd, 1) := by decide +kernel
theorem dX9_takesDigits_40 : decode cX9_takesDigits 40 = .ok (.ldc2_w 217, 3) := by decide +kernel
theorem dX9_takesDigits_43 : decode cX9_takesDigits 43 = .ok (.lsub, 1) := by decide +kernel
theorem dX9_takesDigits_44 : decode cX9_takesDigits 44 = .ok (.putfield 213, 3) := by decide +kernel
theorem dX9_takesDigits_47 : decode cX9_takesDigits 47 = .ok (.aload_n 0, 1) := by decide +kernel
theorem dX9_takesDigits_48 : decode cX9_takesDigits 48 = .ok (.iload_n 2, 1) := by decide +kernel
theorem dX9_takesDigits_49 : decode cX9_takesDigits 49 = .ok (.ifCond .eq 14, 3) := by decide +kernel
theorem dX9_takesDigits_52 : decode cX9_takesDigits 52 = .ok (.ldc2_w 211, 3) := by decide +kernel
theorem dX9_takesDigits_55 : decode cX9_takesDigits 55 = .ok (.aload_n 0, 1) := by decide +kernel
theorem dX9_takesDigits_56 : decode cX9_takesDigits 56 = .ok (.getfield 219, 3) := by decide +kernel
theorem dX9_takesDigits_59 : decode cX9_takesDigits 59 = .ok (.lmul, 1) := by decide +kernel
theorem dX9_takesDigits_60 : decode cX9_takesDigits 60 = .ok (.goto 7, 3) := by decide +kernel
theorem dX9_takesDigits_63 : decode cX9_takesDigits 63 = .ok (.aload_n 0, 1) := by decide +kernel
theorem dX9_takesDigits_64 : decode cX9_takesDigits 64 = .ok (.getfield 219, 3) := by decide +kernel
theorem dX9_takesDigits_67 : decode cX9_takesDigits 67 = .ok (.putfield 219, 3) := by decide +kernel
theorem dX9_takesDigits_70 : decode cX9_takesDigits 70 = .ok (.iinc 3 1, 3) := by decide +kernel
theorem dX9_takesDigits_73 : decode cX9_takesDigits 73 = .ok (.goto (-71), 3) := by decide +kernel
theorem dX9_takesDigits_76 : decode cX9_takesDigits 76 = .ok (.iload_n 3, 1) := by decide +kernel
theorem dX9_takesDigits_77 : decode cX9_takesDigits 77 = .ok (.ireturn, 1) := by decide +kernel
set_option maxRecDepth 20000 in
theorem ggX9_takesNumber_X9_takes : GoodIn wsX9_takesNumber wsX9_takes := goodIn_r _ [7, 8, 9, 10, 11, 12, 6, 13, 26, 27, 28, 29, 30, 31, 32, 33, 34, 35, 36, 37, 38, 39, 40, 41, 42, 43, 44] (by decide +kernel) (by decide +kernel)
set_option maxRecDepth 20000 in
theorem gX9_takesNumber_X9_takes : GoodIn wsX9_takesNumber (wsV RX9 208 RX9 yX9_takes wsX9_takes) := goodIn_app (goodIn_of _ (by decide +kernel)) ggX9_takesNumber_X9_takes
set_option maxRecDepth 20000 in
theorem ggX9_takesNumber_X9_takesDigits : GoodIn wsX9_takesNumber wsX9_takesDigits := goodIn_r _ [17, 18, 1, 10, 8, 19, 2, 3, 4, 5, 6, 7, 9, 11, 12, 13, 26, 27, 28, 29, 30, 31, 32, 33, 34, 35, 36, 37, 38, 39, 40, 41, 42, 43, 44] (by decide +kernel) (by decide +kernel)
set_option maxRecDepth 20000 in
theorem gX9_takesNumber_X9_takesDigits : GoodIn wsX9_takesNumber (wsV RX9 222 RX9 yX9_takesDigits wsX9_takesDigits) := goodIn_app (goodIn_of _ (by decide +kernel)) ggX9_takesNumber_X9_takesDigits
set_option maxRecDepth 20000 in
theorem ggX9_takesNumber_X9_lays : GoodIn wsX9_takesNumber wsX9_lays := goodIn_r _ [23, 24, 25, 26, 27, 28, 29, 30, 31, 32, 33, 34, 35, 36, 37, 38, 39, 40, 41, 42, 43, 44] (by decide +kernel) (by decide +kernel)
set_option maxRecDepth 20000 in
theorem gX9_takesNumber_X9_lays : GoodIn wsX9_takesNumber (wsV RX9 112 RX9 yX9_lays wsX9_lays) := goodIn_app (goodIn_of _ (by decide +kernel)) ggX9_takesNumber_X9_lays
theorem dX9_takesNumber_0 : decode cX9_takesNumber 0 = .ok (.aload_n 0, 1) := by decide +kernel
theorem dX9_takesNumber_1 : decode cX9_takesNumber 1 = .ok (.bipush 45, 2) := by decide +kernel
theorem dX9_takesNumber_3 : decode cX9_takesNumber 3 = .ok (.bipush 45, 2) := by decide +kernel
theorem dX9_takesNumber_5 : decode cX9_takesNumber 5 = .ok (.invokevirtual 208, 3) := by decide +kernel
theorem dX9_takesNumber_8 : decode cX9_takesNumber 8 = .ok (.istore_n 1, 1) := by decide +kernel
theorem dX9_takesNumber_9 : decode cX9_takesNumber 9 = .ok (.aload_n 0, 1) := by decide +kernel
theorem dX9_takesNumber_10 : decode cX9_takesNumber 10 = .ok (.lconst 0, 1) := by decide +kernel
theorem dX9_takesNumber_11 : decode cX9_takesNumber 11 = .ok (.putfield 213, 3) := by decide +kernel
theorem dX9_takesNumber_14 : decode cX9_takesNumber 14 = .ok (.aload_n 0, 1) := by decide +kernel
theorem dX9_takesNumber_15 : decode cX9_takesNumber 15 = .ok (.lconst 1, 1) := by decide +kernel
theorem dX9_takesNumber_16 : decode cX9_takesNumber 16 = .ok (.putfield 219, 3) := by decide +kernel
theorem dX9_takesNumber_19 : decode cX9_takesNumber 19 = .ok (.aload_n 0, 1) := by decide +kernel
theorem dX9_takesNumber_20 : decode cX9_takesNumber 20 = .ok (.bipush 48, 2) := by decide +kernel
theorem dX9_takesNumber_22 : decode cX9_takesNumber 22 = .ok (.bipush 48, 2) := by decide +kernel
theorem dX9_takesNumber_24 : decode cX9_takesNumber 24 = .ok (.invokevirtual 208, 3) := by decide +kernel
theorem dX9_takesNumber_27 : decode cX9_takesNumber 27 = .ok (.istore_n 2, 1) := by decide +kernel
theorem dX9_takesNumber_28 : decode cX9_takesNumber 28 = .ok (.iload_n 2, 1) := by decide +kernel
theorem dX9_takesNumber_29 : decode cX9_takesNumber 29 = .ok (.ifCond .ne 15, 3) := by decide +kernel
theorem dX9_takesNumber_32 : decode cX9_takesNumber 32 = .ok (.aload_n 0, 1) := by decide +kernel
theorem dX9_takesNumber_33 : decode cX9_takesNumber 33 = .ok (.bipush 6, 2) := by decide +kernel
theorem dX9_takesNumber_35 : decode cX9_takesNumber 35 = .ok (.iconst 0, 1) := by decide +kernel
theorem dX9_takesNumber_36 : decode cX9_takesNumber 36 = .ok (.invokevirtual 222, 3) := by decide +kernel
theorem dX9_takesNumber_39 : decode cX9_takesNumber 39 = .ok (.ifCond .ne 5, 3) := by decide +kernel
theorem dX9_takesNumber_42 : decode cX9_takesNumber 42 = .ok (.iconst 0, 1) := by decide +kernel
theorem dX9_takesNumber_43 : decode cX9_takesNumber 43 = .ok (.ireturn, 1) := by decide +kernel
