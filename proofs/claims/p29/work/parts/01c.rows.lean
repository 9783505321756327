theorem dX2_remember_17 : decode cX2_remember 17 = .ok (.putfield 15, 3) := by decide +kernel
theorem dX2_remember_20 : decode cX2_remember 20 = .ok (.aload_n 0, 1) := by decide +kernel
theorem dX2_remember_21 : decode cX2_remember 21 = .ok (.dup, 1) := by decide +kernel
theorem dX2_remember_22 : decode cX2_remember 22 = .ok (.getfield 19, 3) := by decide +kernel
theorem dX2_remember_25 : decode cX2_remember 25 = .ok (.iconst 1, 1) := by decide +kernel
theorem dX2_remember_26 : decode cX2_remember 26 = .ok (.isub, 1) := by decide +kernel
theorem dX2_remember_27 : decode cX2_remember 27 = .ok (.putfield 19, 3) := by decide +kernel
theorem dX2_remember_30 : decode cX2_remember 30 = .ok (.aload_n 0, 1) := by decide +kernel
theorem dX2_remember_31 : decode cX2_remember 31 = .ok (.getfield 11, 3) := by decide +kernel
theorem dX2_remember_34 : decode cX2_remember 34 = .ok (.aload_n 0, 1) := by decide +kernel
theorem dX2_remember_35 : decode cX2_remember 35 = .ok (.getfield 15, 3) := by decide +kernel
theorem dX2_remember_38 : decode cX2_remember 38 = .ok (.aload_n 0, 1) := by decide +kernel
theorem dX2_remember_39 : decode cX2_remember 39 = .ok (.getfield 19, 3) := by decide +kernel
theorem dX2_remember_42 : decode cX2_remember 42 = .ok (.iadd, 1) := by decide +kernel
theorem dX2_remember_43 : decode cX2_remember 43 = .ok (.iconst 4, 1) := by decide +kernel
theorem dX2_remember_44 : decode cX2_remember 44 = .ok (.irem, 1) := by decide +kernel
theorem dX2_remember_45 : decode cX2_remember 45 = .ok (.aaload, 1) := by decide +kernel
theorem dX2_remember_46 : decode cX2_remember 46 = .ok (.aload_n 1, 1) := by decide +kernel
theorem dX2_remember_47 : decode cX2_remember 47 = .ok (.invokevirtual 23, 3) := by decide +kernel
theorem dX2_remember_50 : decode cX2_remember 50 = .ok (.aload_n 0, 1) := by decide +kernel
theorem dX2_remember_51 : decode cX2_remember 51 = .ok (.dup, 1) := by decide +kernel
theorem dX2_remember_52 : decode cX2_remember 52 = .ok (.getfield 19, 3) := by decide +kernel
theorem dX2_remember_55 : decode cX2_remember 55 = .ok (.iconst 1, 1) := by decide +kernel
theorem dX2_remember_56 : decode cX2_remember 56 = .ok (.iadd, 1) := by decide +kernel
theorem dX2_remember_57 : decode cX2_remember 57 = .ok (.putfield 19, 3) := by decide +kernel
theorem dX2_remember_60 : decode cX2_remember 60 = .ok (.return_, 1) := by decide +kernel
set_option maxRecDepth 20000 in
theorem ggX2_bringBack_X5_copyFrom : GoodIn wsX2_bringBack wsX5_copyFrom := goodIn_r _ [8, 9, 10, 11, 12, 13, 14, 15, 16, 17, 18, 19, 20, 21, 22, 23, 24, 28, 29, 30, 31, 32, 33] (by decide +kernel) (by decide +kernel)
set_option maxRecDepth 20000 in
theorem gX2_bringBack_X5_copyFrom : GoodIn wsX2_bringBack (wsV RX2 23 RX5 yX5_copyFrom wsX5_copyFrom) := goodIn_app (goodIn_of _ (by decide +kernel)) ggX2_bringBack_X5_copyFrom
theorem dX2_bringBack_0 : decode cX2_bringBack 0 = .ok (.aload_n 0, 1) := by decide +kernel
theorem dX2_bringBack_1 : decode cX2_bringBack 1 = .ok (.dup, 1) := by decide +kernel
theorem dX2_bringBack_2 : decode cX2_bringBack 2 = .ok (.getfield 19, 3) := by decide +kernel
theorem dX2_bringBack_5 : decode cX2_bringBack 5 = .ok (.iconst 1, 1) := by decide +kernel
theorem dX2_bringBack_6 : decode cX2_bringBack 6 = .ok (.isub, 1) := by decide +kernel
theorem dX2_bringBack_7 : decode cX2_bringBack 7 = .ok (.putfield 19, 3) := by decide +kernel
theorem dX2_bringBack_10 : decode cX2_bringBack 10 = .ok (.aload_n 1, 1) := by decide +kernel
theorem dX2_bringBack_11 : decode cX2_bringBack 11 = .ok (.aload_n 0, 1) := by decide +kernel
theorem dX2_bringBack_12 : decode cX2_bringBack 12 = .ok (.getfield 11, 3) := by decide +kernel
theorem dX2_bringBack_15 : decode cX2_bringBack 15 = .ok (.aload_n 0, 1) := by decide +kernel
theorem dX2_bringBack_16 : decode cX2_bringBack 16 = .ok (.getfield 15, 3) := by decide +kernel
theorem dX2_bringBack_19 : decode cX2_bringBack 19 = .ok (.aload_n 0, 1) := by decide +kernel
theorem dX2_bringBack_20 : decode cX2_bringBack 20 = .ok (.getfield 19, 3) := by decide +kernel
theorem dX2_bringBack_23 : decode cX2_bringBack 23 = .ok (.iadd, 1) := by decide +kernel
theorem dX2_bringBack_24 : decode cX2_bringBack 24 = .ok (.iconst 4, 1) := by decide +kernel
theorem dX2_bringBack_25 : decode cX2_bringBack 25 = .ok (.irem, 1) := by decide +kernel
theorem dX2_bringBack_26 : decode cX2_bringBack 26 = .ok (.aaload, 1) := by decide +kernel
theorem dX2_bringBack_27 : decode cX2_bringBack 27 = .ok (.invokevirtual 23, 3) := by decide +kernel
theorem dX2_bringBack_30 : decode cX2_bringBack 30 = .ok (.return_, 1) := by decide +kernel
theorem dX3_isFinite_0 : decode cX3_isFinite 0 = .ok (.dload_n 0, 1) := by decide +kernel
theorem dX3_isFinite_1 : decode cX3_isFinite 1 = .ok (.ldc2_w 7, 3) := by decide +kernel
theorem dX3_isFinite_4 : decode cX3_isFinite 4 = .ok (.dcmp .l, 1) := by decide +kernel
theorem dX3_isFinite_5 : decode cX3_isFinite 5 = .ok (.ifCond .lt 15, 3) := by decide +kernel
theorem dX3_isFinite_8 : decode cX3_isFinite 8 = .ok (.dload_n 0, 1) := by decide +kernel
theorem dX3_isFinite_9 : decode cX3_isFinite 9 = .ok (.ldc2_w 9, 3) := by decide +kernel
theorem dX3_isFinite_12 : decode cX3_isFinite 12 = .ok (.dcmp .g, 1) := by decide +kernel
theorem dX3_isFinite_13 : decode cX3_isFinite 13 = .ok (.ifCond .gt 7, 3) := by decide +kernel
theorem dX3_isFinite_16 : decode cX3_isFinite 16 = .ok (.iconst 1, 1) := by decide +kernel
theorem dX3_isFinite_17 : decode cX3_isFinite 17 = .ok (.goto 4, 3) := by decide +kernel
theorem dX3_isFinite_20 : decode cX3_isFinite 20 = .ok (.iconst 0, 1) := by decide +kernel
theorem dX3_isFinite_21 : decode cX3_isFinite 21 = .ok (.ireturn, 1) := by decide +kernel
theorem dX3_fitsRow_0 : decode cX3_fitsRow 0 = .ok (.dload_n 0, 1) := by decide +kernel
theorem dX3_fitsRow_1 : decode cX3_fitsRow 1 = .ok (.ldc2_w 11, 3) := by decide +kernel
theorem dX3_fitsRow_4 : decode cX3_fitsRow 4 = .ok (.dcmp .l, 1) := by decide +kernel
theorem dX3_fitsRow_5 : decode cX3_fitsRow 5 = .ok (.ifCond .lt 15, 3) := by decide +kernel
theorem dX3_fitsRow_8 : decode cX3_fitsRow 8 = .ok (.dload_n 0, 1) := by decide +kernel
theorem dX3_fitsRow_9 : decode cX3_fitsRow 9 = .ok (.ldc2_w 13, 3) := by decide +kernel
theorem dX3_fitsRow_12 : decode cX3_fitsRow 12 = .ok (.dcmp .g, 1) := by decide +kernel
theorem dX3_fitsRow_13 : decode cX3_fitsRow 13 = .ok (.ifCond .gt 7, 3) := by decide +kernel
theorem dX3_fitsRow_16 : decode cX3_fitsRow 16 = .ok (.iconst 1, 1) := by decide +kernel
theorem dX3_fitsRow_17 : decode cX3_fitsRow 17 = .ok (.goto 4, 3) := by decide +kernel
theorem dX3_fitsRow_20 : decode cX3_fitsRow 20 = .ok (.iconst 0, 1) := by decide +kernel
theorem dX3_fitsRow_21 : decode cX3_fitsRow 21 = .ok (.ireturn, 1) := by decide +kernel
theorem dX3_sizeOf_0 : decode cX3_sizeOf 0 = .ok (.dload_n 0, 1) := by decide +kernel
theorem dX3_sizeOf_1 : decode cX3_sizeOf 1 = .ok (.dconst 0, 1) := by decide +kernel
theorem dX3_sizeOf_2 : decode cX3_sizeOf 2 = .ok (.dcmp .g, 1) := by decide +kernel
theorem dX3_sizeOf_3 : decode cX3_sizeOf 3 = .ok (.ifCond .gt 9, 3) := by decide +kernel
theorem dX3_sizeOf_6 : decode cX3_sizeOf 6 = .ok (.dconst 0, 1) := by decide +kernel
theorem dX3_sizeOf_7 : decode cX3_sizeOf 7 = .ok (.dload_n 0, 1) := by decide +kernel
theorem dX3_sizeOf_8 : decode cX3_sizeOf 8 = .ok (.dsub, 1) := by decide +kernel
theorem dX3_sizeOf_9 : decode cX3_sizeOf 9 = .ok (.goto 4, 3) := by decide +kernel
theorem dX3_sizeOf_12 : decode cX3_sizeOf 12 = .ok (.dload_n 0, 1) := by decide +kernel
theorem dX3_sizeOf_13 : decode cX3_sizeOf 13 = .ok (.dreturn, 1) := by decide +kernel
theorem dX3_sameBits_0 : decode cX3_sameBits 0 = .ok (.dload_n 0, 1) := by decide +kernel
theorem dX3_sameBits_1 : decode cX3_sameBits 1 = .ok (.dload_n 2, 1) := by decide +kernel
theorem dX3_sameBits_2 : decode cX3_sameBits 2 = .ok (.dcmp .l, 1) := by decide +kernel
theorem dX3_sameBits_3 : decode cX3_sameBits 3 = .ok (.ifCond .eq 5, 3) := by decide +kernel
theorem dX3_sameBits_6 : decode cX3_sameBits 6 = .ok (.iconst 0, 1) := by decide +kernel
theorem dX3_sameBits_7 : decode cX3_sameBits 7 = .ok (.ireturn, 1) := by decide +kernel
theorem dX3_sameBits_8 : decode cX3_sameBits 8 = .ok (.dload_n 0, 1) := by decide +kernel
theorem dX3_sameBits_9 : decode cX3_sameBits 9 = .ok (.dconst 0, 1) := by decide +kernel
theorem dX3_sameBits_10 : decode cX3_sameBits 10 = .ok (.dcmp .l, 1) := by decide +kernel
theorem dX3_sameBits_11 : decode cX3_sameBits 11 = .ok (.ifCond .ne 32, 3) := by decide +kernel
theorem dX3_sameBits_14 : decode cX3_sameBits 14 = .ok (.dconst 1, 1) := by decide +kernel
theorem dX3_sameBits_15 : decode cX3_sameBits 15 = .ok (.dload_n 0, 1) := by decide +kernel
theorem dX3_sameBits_16 : decode cX3_sameBits 16 = .ok (.ddiv, 1) := by decide +kernel
theorem dX3_sameBits_17 : decode cX3_sameBits 17 = .ok (.dconst 0, 1) := by decide +kernel
theorem dX3_sameBits_18 : decode cX3_sameBits 18 = .ok (.dcmp .g, 1) := by decide +kernel
theorem dX3_sameBits_19 : decode cX3_sameBits 19 = .ok (.ifCond .ge 7, 3) := by decide +kernel
theorem dX3_sameBits_22 : decode cX3_sameBits 22 = .ok (.iconst 1, 1) := by decide +kernel
theorem dX3_sameBits_23 : decode cX3_sameBits 23 = .ok (.goto 4, 3) := by decide +kernel
theorem dX3_sameBits_26 : decode cX3_sameBits 26 = .ok (.iconst 0, 1) := by decide +kernel
theorem dX3_sameBits_27 : decode cX3_sameBits 27 = .ok (.dconst 1, 1) := by decide +kernel
theorem dX3_sameBits_28 : decode cX3_sameBits 28 = .ok (.dload_n 2, 1) := by decide +kernel
theorem dX3_sameBits_29 : decode cX3_sameBits 29 = .ok (.ddiv, 1) := by decide +kernel
theorem dX3_sameBits_30 : decode cX3_sameBits 30 = .ok (.dconst 0, 1) := by decide +kernel
theorem dX3_sameBits_31 : decode cX3_sameBits 31 = .ok (.dcmp .g, 1) := by decide +kernel
theorem dX3_sameBits_32 : decode cX3_sameBits 32 = .ok (.ifCond .ge 7, 3) := by decide +kernel
theorem dX3_sameBits_35 : decode cX3_sameBits 35 = .ok (.iconst 1, 1) := by decide +kernel
theorem dX3_sameBits_36 : decode cX3_sameBits 36 = .ok (.goto 4, 3) := by decide +kernel
theorem dX3_sameBits_39 : decode cX3_sameBits 39 = .ok (.iconst 0, 1) := by decide +kernel
theorem dX3_sameBits_40 : decode cX3_sameBits 40 = .ok (.if_icmp .ne 7, 3) := by decide +kernel
theorem dX3_sameBits_43 : decode cX3_sameBits 43 = .ok (.iconst 1, 1) := by decide +kernel
theorem dX3_sameBits_44 : decode cX3_sameBits 44 = .ok (.goto 4, 3) := by decide +kernel
theorem dX3_sameBits_47 : decode cX3_sameBits 47 = .ok (.iconst 0, 1) := by decide +kernel
theorem dX3_sameBits_48 : decode cX3_sameBits 48 = .ok (.ireturn, 1) := by decide +kernel
theorem dX4_init_0 : decode cX4_init 0 = .ok (.aload_n 0, 1) := by decide +kernel
theorem dX4_init_1 : decode cX4_init 1 = .ok (.invokespecial 3, 3) := by decide +kernel
theorem dX4_init_4 : decode cX4_init 4 = .ok (.aload_n 0, 1) := by decide +kernel
theorem dX4_init_5 : decode cX4_init 5 = .ok (.bipush 16, 2) := by decide +kernel
theorem dX4_init_7 : decode cX4_init 7 = .ok (.newarray .double, 2) := by decide +kernel
theorem dX4_init_9 : decode cX4_init 9 = .ok (.putfield 9, 3) := by decide +kernel
theorem dX4_init_12 : decode cX4_init 12 = .ok (.aload_n 0, 1) := by decide +kernel
theorem dX4_init_13 : decode cX4_init 13 = .ok (.iconst 0, 1) := by decide +kernel
theorem dX4_init_14 : decode cX4_init 14 = .ok (.putfield 15, 3) := by decide +kernel
theorem dX4_init_17 : decode cX4_init 17 = .ok (.return_, 1) := by decide +kernel
theorem dX4_hasPlace_0 : decode cX4_hasPlace 0 = .ok (.iload_n 1, 1) := by decide +kernel
theorem dX4_hasPlace_1 : decode cX4_hasPlace 1 = .ok (.ifCond .lt 15, 3) := by decide +kernel
theorem dX4_hasPlace_4 : decode cX4_hasPlace 4 = .ok (.iload_n 1, 1) := by decide +kernel
theorem dX4_hasPlace_5 : decode cX4_hasPlace 5 = .ok (.aload_n 0, 1) := by decide +kernel
theorem dX4_hasPlace_6 : decode cX4_hasPlace 6 = .ok (.getfield 15, 3) := by decide +kernel
theorem dX4_hasPlace_9 : decode cX4_hasPlace 9 = .ok (.if_icmp .ge 7, 3) := by decide +kernel
theorem dX4_hasPlace_12 : decode cX4_hasPlace 12 = .ok (.iconst 1, 1) := by decide +kernel
theorem dX4_hasPlace_13 : decode cX4_hasPlace 13 = .ok (.goto 4, 3) := by decide +kernel
theorem dX4_hasPlace_16 : decode cX4_hasPlace 16 = .ok (.iconst 0, 1) := by decide +kernel
theorem dX4_hasPlace_17 : decode cX4_hasPlace 17 = .ok (.ireturn, 1) := by decide +kernel
theorem dX4_append_0 : decode cX4_append 0 = .ok (.aload_n 0, 1) := by decide +kernel
theorem dX4_append_1 : decode cX4_append 1 = .ok (.getfield 15, 3) := by decide +kernel
theorem dX4_append_4 : decode cX4_append 4 = .ok (.bipush 16, 2) := by decide +kernel
theorem dX4_append_6 : decode cX4_append 6 = .ok (.if_icmp .ge 23, 3) := by decide +kernel
theorem dX4_append_9 : decode cX4_append 9 = .ok (.aload_n 0, 1) := by decide +kernel
theorem dX4_append_10 : decode cX4_append 10 = .ok (.getfield 9, 3) := by decide +kernel
theorem dX4_append_13 : decode cX4_append 13 = .ok (.aload_n 0, 1) := by decide +kernel
theorem dX4_append_14 : decode cX4_append 14 = .ok (.getfield 15, 3) := by decide +kernel
theorem dX4_append_17 : decode cX4_append 17 = .ok (.dload_n 1, 1) := by decide +kernel
theorem dX4_append_18 : decode cX4_append 18 = .ok (.dastore, 1) := by decide +kernel
theorem dX4_append_19 : decode cX4_append 19 = .ok (.aload_n 0, 1) := by decide +kernel
theorem dX4_append_20 : decode cX4_append 20 = .ok (.dup, 1) := by decide +kernel
theorem dX4_append_21 : decode cX4_append 21 = .ok (.getfield 15, 3) := by decide +kernel
theorem dX4_append_24 : decode cX4_append 24 = .ok (.iconst 1, 1) := by decide +kernel
theorem dX4_append_25 : decode cX4_append 25 = .ok (.iadd, 1) := by decide +kernel
theorem dX4_append_26 : decode cX4_append 26 = .ok (.putfield 15, 3) := by decide +kernel
theorem dX4_append_29 : decode cX4_append 29 = .ok (.return_, 1) := by decide +kernel
theorem dX4_copyFrom_0 : decode cX4_copyFrom 0 = .ok (.aload_n 1, 1) := by decide +kernel
theorem dX4_copyFrom_1 : decode cX4_copyFrom 1 = .ok (.getfield 9, 3) := by decide +kernel
theorem dX4_copyFrom_4 : decode cX4_copyFrom 4 = .ok (.iconst 0, 1) := by decide +kernel
theorem dX4_copyFrom_5 : decode cX4_copyFrom 5 = .ok (.aload_n 0, 1) := by decide +kernel
theorem dX4_copyFrom_6 : decode cX4_copyFrom 6 = .ok (.getfield 9, 3) := by decide +kernel
theorem dX4_copyFrom_9 : decode cX4_copyFrom 9 = .ok (.iconst 0, 1) := by decide +kernel
theorem dX4_copyFrom_10 : decode cX4_copyFrom 10 = .ok (.bipush 16, 2) := by decide +kernel
theorem dX4_copyFrom_12 : decode cX4_copyFrom 12 = .ok (.invokestatic 19, 3) := by decide +kernel
theorem dX4_copyFrom_15 : decode cX4_copyFrom 15 = .ok (.aload_n 0, 1) := by decide +kernel
theorem dX4_copyFrom_16 : decode cX4_copyFrom 16 = .ok (.aload_n 1, 1) := by decide +kernel
theorem dX4_copyFrom_17 : decode cX4_copyFrom 17 = .ok (.getfield 15, 3) := by decide +kernel
theorem dX4_copyFrom_20 : decode cX4_copyFrom 20 = .ok (.putfield 15, 3) := by decide +kernel
theorem dX4_copyFrom_23 : decode cX4_copyFrom 23 = .ok (.return_, 1) := by decide +kernel
set_option maxRecDepth 20000 in
theorem ggX5_init_X4_init : GoodIn wsX5_init wsX4_init := goodIn_r _ [16, 17, 2, 3, 9, 18, 19, 20, 21] (by decide +kernel) (by decide +kernel)
set_option maxRecDepth 20000 in
theorem gX5_init_X4_init_n9 : GoodIn wsX5_init (wsX4_init) := ggX5_init_X4_init
theorem dX5_init_0 : decode cX5_init 0 = .ok (.aload_n 0, 1) := by decide +kernel
theorem dX5_init_1 : decode cX5_init 1 = .ok (.invokespecial 1, 3) := by decide +kernel
theorem dX5_init_4 : decode cX5_init 4 = .ok (.aload_n 0, 1) := by decide +kernel
theorem dX5_init_5 : decode cX5_init 5 = .ok (.new 7, 3) := by decide +kernel
theorem dX5_init_8 : decode cX5_init 8 = .ok (.dup, 1) := by decide +kernel
theorem dX5_init_9 : decode cX5_init 9 = .ok (.invokespecial 9, 3) := by decide +kernel
theorem dX5_init_12 : decode cX5_init 12 = .ok (.putfield 10, 3) := by decide +kernel
theorem dX5_init_15 : decode cX5_init 15 = .ok (.aload_n 0, 1) := by decide +kernel
theorem dX5_init_16 : decode cX5_init 16 = .ok (.new 7, 3) := by decide +kernel
theorem dX5_init_19 : decode cX5_init 19 = .ok (.dup, 1) := by decide +kernel
theorem dX5_init_20 : decode cX5_init 20 = .ok (.invokespecial 9, 3) := by decide +kernel
theorem dX5_init_23 : decode cX5_init 23 = .ok (.putfield 16, 3) := by decide +kernel
theorem dX5_init_26 : decode cX5_init 26 = .ok (.aload_n 0, 1) := by decide +kernel
theorem dX5_init_27 : decode cX5_init 27 = .ok (.iconst 3, 1) := by decide +kernel
theorem dX5_init_28 : decode cX5_init 28 = .ok (.newarray .double, 2) := by decide +kernel
theorem dX5_init_30 : decode cX5_init 30 = .ok (.putfield 19, 3) := by decide +kernel
theorem dX5_init_33 : decode cX5_init 33 = .ok (.aload_n 0, 1) := by decide +kernel
theorem dX5_init_34 : decode cX5_init 34 = .ok (.iconst 0, 1) := by decide +kernel
theorem dX5_init_35 : decode cX5_init 35 = .ok (.putfield 23, 3) := by decide +kernel
theorem dX5_init_38 : decode cX5_init 38 = .ok (.aload_n 0, 1) := by decide +kernel
theorem dX5_init_39 : decode cX5_init 39 = .ok (.getfield 19, 3) := by decide +kernel
theorem dX5_init_42 : decode cX5_init 42 = .ok (.iconst 0, 1) := by decide +kernel
theorem dX5_init_43 : decode cX5_init 43 = .ok (.ldc2_w 27, 3) := by decide +kernel
theorem dX5_init_46 : decode cX5_init 46 = .ok (.dastore, 1) := by decide +kernel
theorem dX5_init_47 : decode cX5_init 47 = .ok (.aload_n 0, 1) := by decide +kernel
theorem dX5_init_48 : decode cX5_init 48 = .ok (.getfield 19, 3) := by decide +kernel
theorem dX5_init_51 : decode cX5_init 51 = .ok (.iconst 1, 1) := by decide +kernel
theorem dX5_init_52 : decode cX5_init 52 = .ok (.ldc2_w 29, 3) := by decide +kernel
theorem dX5_init_55 : decode cX5_init 55 = .ok (.dastore, 1) := by decide +kernel
theorem dX5_init_56 : decode cX5_init 56 = .ok (.aload_n 0, 1) := by decide +kernel
theorem dX5_init_57 : decode cX5_init 57 = .ok (.getfield 19, 3) := by decide +kernel
theorem dX5_init_60 : decode cX5_init 60 = .ok (.iconst 2, 1) := by decide +kernel
theorem dX5_init_61 : decode cX5_init 61 = .ok (.ldc2_w 31, 3) := by decide +kernel
theorem dX5_init_64 : decode cX5_init 64 = .ok (.dastore, 1) := by decide +kernel
theorem dX5_init_65 : decode cX5_init 65 = .ok (.return_, 1) := by decide +kernel
theorem dX5_isSetting_0 : decode cX5_isSetting 0 = .ok (.iload_n 0, 1) := by decide +kernel
theorem dX5_isSetting_1 : decode cX5_isSetting 1 = .ok (.ifCond .lt 12, 3) := by decide +kernel
theorem dX5_isSetting_4 : decode cX5_isSetting 4 = .ok (.iload_n 0, 1) := by decide +kernel
theorem dX5_isSetting_5 : decode cX5_isSetting 5 = .ok (.iconst 3, 1) := by decide +kernel
theorem dX5_isSetting_6 : decode cX5_isSetting 6 = .ok (.if_icmp .ge 7, 3) := by decide +kernel
theorem dX5_isSetting_9 : decode cX5_isSetting 9 = .ok (.iconst 1, 1) := by decide +kernel
theorem dX5_isSetting_10 : decode cX5_isSetting 10 = .ok (.goto 4, 3) := by decide +kernel
theorem dX5_isSetting_13 : decode cX5_isSetting 13 = .ok (.iconst 0, 1) := by decide +kernel
theorem dX5_isSetting_14 : decode cX5_isSetting 14 = .ok (.ireturn, 1) := by decide +kernel
theorem dX5_inRange_0 : decode cX5_inRange 0 = .ok (.iload_n 0, 1) := by decide +kernel
theorem dX5_inRange_1 : decode cX5_inRange 1 = .ok (.lookupswitch 67 #[(0, 27), (1, 45)], 27) := by decide +kernel
theorem dX5_inRange_28 : decode cX5_inRange 28 = .ok (.dload_n 1, 1) := by decide +kernel
theorem dX5_inRange_29 : decode cX5_inRange 29 = .ok (.dconst 0, 1) := by decide +kernel
theorem dX5_inRange_30 : decode cX5_inRange 30 = .ok (.dcmp .l, 1) := by decide +kernel
theorem dX5_inRange_31 : decode cX5_inRange 31 = .ok (.ifCond .lt 13, 3) := by decide +kernel
theorem dX5_inRange_34 : decode cX5_inRange 34 = .ok (.dload_n 1, 1) := by decide +kernel
theorem dX5_inRange_35 : decode cX5_inRange 35 = .ok (.dconst 1, 1) := by decide +kernel
theorem dX5_inRange_36 : decode cX5_inRange 36 = .ok (.dcmp .g, 1) := by decide +kernel
theorem dX5_inRange_37 : decode cX5_inRange 37 = .ok (.ifCond .gt 7, 3) := by decide +kernel
theorem dX5_inRange_40 : decode cX5_inRange 40 = .ok (.iconst 1, 1) := by decide +kernel
theorem dX5_inRange_41 : decode cX5_inRange 41 = .ok (.goto 4, 3) := by decide +kernel
theorem dX5_inRange_44 : decode cX5_inRange 44 = .ok (.iconst 0, 1) := by decide +kernel
theorem dX5_inRange_45 : decode cX5_inRange 45 = .ok (.ireturn, 1) := by decide +kernel
theorem dX5_inRange_46 : decode cX5_inRange 46 = .ok (.dload_n 1, 1) := by decide +kernel
theorem dX5_inRange_47 : decode cX5_inRange 47 = .ok (.ldc2_w 33, 3) := by decide +kernel
theorem dX5_inRange_50 : decode cX5_inRange 50 = .ok (.dcmp .l, 1) := by decide +kernel
theorem dX5_inRange_51 : decode cX5_inRange 51 = .ok (.ifCond .lt 15, 3) := by decide +kernel
theorem dX5_inRange_54 : decode cX5_inRange 54 = .ok (.dload_n 1, 1) := by decide +kernel
theorem dX5_inRange_55 : decode cX5_inRange 55 = .ok (.ldc2_w 35, 3) := by decide +kernel
theorem dX5_inRange_58 : decode cX5_inRange 58 = .ok (.dcmp .g, 1) := by decide +kernel
theorem dX5_inRange_59 : decode cX5_inRange 59 = .ok (.ifCond .gt 7, 3) := by decide +kernel
theorem dX5_inRange_62 : decode cX5_inRange 62 = .ok (.iconst 1, 1) := by decide +kernel
theorem dX5_inRange_63 : decode cX5_inRange 63 = .ok (.goto 4, 3) := by decide +kernel
theorem dX5_inRange_66 : decode cX5_inRange 66 = .ok (.iconst 0, 1) := by decide +kernel
theorem dX5_inRange_67 : decode cX5_inRange 67 = .ok (.ireturn, 1) := by decide +kernel
theorem dX5_inRange_68 : decode cX5_inRange 68 = .ok (.dload_n 1, 1) := by decide +kernel
theorem dX5_inRange_69 : decode cX5_inRange 69 = .ok (.ldc2_w 37, 3) := by decide +kernel
theorem dX5_inRange_72 : decode cX5_inRange 72 = .ok (.dcmp .l, 1) := by decide +kernel
theorem dX5_inRange_73 : decode cX5_inRange 73 = .ok (.ifCond .lt 15, 3) := by decide +kernel
theorem dX5_inRange_76 : decode cX5_inRange 76 = .ok (.dload_n 1, 1) := by decide +kernel
theorem dX5_inRange_77 : decode cX5_inRange 77 = .ok (.ldc2_w 39, 3) := by decide +kernel
theorem dX5_inRange_80 : decode cX5_inRange 80 = .ok (.dcmp .g, 1) := by decide +kernel
theorem dX5_inRange_81 : decode cX5_inRange 81 = .ok (.ifCond .gt 7, 3) := by decide +kernel
theorem dX5_inRange_84 : decode cX5_inRange 84 = .ok (.iconst 1, 1) := by decide +kernel
theorem dX5_inRange_85 : decode cX5_inRange 85 = .ok (.goto 4, 3) := by decide +kernel
theorem dX5_inRange_88 : decode cX5_inRange 88 = .ok (.iconst 0, 1) := by decide +kernel
theorem dX5_inRange_89 : decode cX5_inRange 89 = .ok (.ireturn, 1) := by decide +kernel
theorem dX5_rowAt_0 : decode cX5_rowAt 0 = .ok (.iload_n 1, 1) := by decide +kernel
theorem dX5_rowAt_1 : decode cX5_rowAt 1 = .ok (.ifCond .ne 10, 3) := by decide +kernel
theorem dX5_rowAt_4 : decode cX5_rowAt 4 = .ok (.aload_n 0, 1) := by decide +kernel
theorem dX5_rowAt_5 : decode cX5_rowAt 5 = .ok (.getfield 10, 3) := by decide +kernel
theorem dX5_rowAt_8 : decode cX5_rowAt 8 = .ok (.goto 7, 3) := by decide +kernel
theorem dX5_rowAt_11 : decode cX5_rowAt 11 = .ok (.aload_n 0, 1) := by decide +kernel
theorem dX5_rowAt_12 : decode cX5_rowAt 12 = .ok (.getfield 16, 3) := by decide +kernel
theorem dX5_rowAt_15 : decode cX5_rowAt 15 = .ok (.areturn, 1) := by decide +kernel
theorem dX5_manyNumbers_0 : decode cX5_manyNumbers 0 = .ok (.aload_n 0, 1) := by decide +kernel
theorem dX5_manyNumbers_1 : decode cX5_manyNumbers 1 = .ok (.getfield 10, 3) := by decide +kernel
theorem dX5_manyNumbers_4 : decode cX5_manyNumbers 4 = .ok (.getfield 41, 3) := by decide +kernel
theorem dX5_manyNumbers_7 : decode cX5_manyNumbers 7 = .ok (.aload_n 0, 1) := by decide +kernel
theorem dX5_manyNumbers_8 : decode cX5_manyNumbers 8 = .ok (.getfield 16, 3) := by decide +kernel
theorem dX5_manyNumbers_11 : decode cX5_manyNumbers 11 = .ok (.getfield 41, 3) := by decide +kernel
theorem dX5_manyNumbers_14 : decode cX5_manyNumbers 14 = .ok (.iadd, 1) := by decide +kernel
theorem dX5_manyNumbers_15 : decode cX5_manyNumbers 15 = .ok (.ireturn, 1) := by decide +kernel
set_option maxRecDepth 20000 in
theorem ggX5_copyFrom_X4_copyFrom : GoodIn wsX5_copyFrom wsX4_copyFrom := goodIn_r _ [13, 14, 15, 5, 6, 7, 16, 21, 22] (by decide +kernel) (by decide +kernel)
set_option maxRecDepth 20000 in
theorem gX5_copyFrom_X4_copyFrom : GoodIn wsX5_copyFrom (wsV RX5 45 RX4 yX4_copyFrom wsX4_copyFrom) := goodIn_app (goodIn_of _ (by decide +kernel)) ggX5_copyFrom_X4_copyFrom
theorem dX5_copyFrom_0 : decode cX5_copyFrom 0 = .ok (.aload_n 0, 1) := by decide +kernel
theorem dX5_copyFrom_1 : decode cX5_copyFrom 1 = .ok (.getfield 10, 3) := by decide +kernel
theorem dX5_copyFrom_4 : decode cX5_copyFrom 4 = .ok (.aload_n 1, 1) := by decide +kernel
theorem dX5_copyFrom_5 : decode cX5_copyFrom 5 = .ok (.getfield 10, 3) := by decide +kernel
theorem dX5_copyFrom_8 : decode cX5_copyFrom 8 = .ok (.invokevirtual 45, 3) := by decide +kernel
theorem dX5_copyFrom_11 : decode cX5_copyFrom 11 = .ok (.aload_n 0, 1) := by decide +kernel
theorem dX5_copyFrom_12 : decode cX5_copyFrom 12 = .ok (.getfield 16, 3) := by decide +kernel
theorem dX5_copyFrom_15 : decode cX5_copyFrom 15 = .ok (.aload_n 1, 1) := by decide +kernel
theorem dX5_copyFrom_16 : decode cX5_copyFrom 16 = .ok (.getfield 16, 3) := by decide +kernel
theorem dX5_copyFrom_19 : decode cX5_copyFrom 19 = .ok (.invokevirtual 45, 3) := by decide +kernel
theorem dX5_copyFrom_22 : decode cX5_copyFrom 22 = .ok (.aload_n 1, 1) := by decide +kernel
theorem dX5_copyFrom_23 : decode cX5_copyFrom 23 = .ok (.getfield 19, 3) := by decide +kernel
theorem dX5_copyFrom_26 : decode cX5_copyFrom 26 = .ok (.iconst 0, 1) := by decide +kernel
theorem dX5_copyFrom_27 : decode cX5_copyFrom 27 = .ok (.aload_n 0, 1) := by decide +kernel
theorem dX5_copyFrom_28 : decode cX5_copyFrom 28 = .ok (.getfield 19, 3) := by decide +kernel
theorem dX5_copyFrom_31 : decode cX5_copyFrom 31 = .ok (.iconst 0, 1) := by decide +kernel
theorem dX5_copyFrom_32 : decode cX5_copyFrom 32 = .ok (.iconst 3, 1) := by decide +kernel
theorem dX5_copyFrom_33 : decode cX5_copyFrom 33 = .ok (.invokestatic 49, 3) := by decide +kernel
theorem dX5_copyFrom_36 : decode cX5_copyFrom 36 = .ok (.aload_n 0, 1) := by decide +kernel
theorem dX5_copyFrom_37 : decode cX5_copyFrom 37 = .ok (.aload_n 1, 1) := by decide +kernel
theorem dX5_copyFrom_38 : decode cX5_copyFrom 38 = .ok (.getfield 23, 3) := by decide +kernel
theorem dX5_copyFrom_41 : decode cX5_copyFrom 41 = .ok (.putfield 23, 3) := by decide +kernel
theorem dX5_copyFrom_44 : decode cX5_copyFrom 44 = .ok (.return_, 1) := by decide +kernel
set_option maxRecDepth 20000 in
theorem ggX6_fillSeries_X6_termOf : GoodIn wsX6_fillSeries wsX6_termOf := goodIn_r _ [5, 6] (by decide +kernel) (by decide +kernel)
set_option maxRecDepth 20000 in
theorem gX6_fillSeries_X6_termOf : GoodIn wsX6_fillSeries (va_wsS RX6 13 yX6_termOf wsX6_termOf) := goodIn_app (goodIn_of _ (by decide +kernel)) ggX6_fillSeries_X6_termOf
set_option maxRecDepth 20000 in
theorem ggX6_fillSeries_X4_append : GoodIn wsX6_fillSeries wsX4_append := goodIn_r _ [11, 12, 13, 14, 15] (by decide +kernel) (by decide +kernel)
set_option maxRecDepth 20000 in
theorem gX6_fillSeries_X4_append : GoodIn wsX6_fillSeries (wsV RX6 19 RX4 yX4_append wsX4_append) := goodIn_app (goodIn_of _ (by decide +kernel)) ggX6_fillSeries_X4_append
theorem dX6_fillSeries_0 : decode cX6_fillSeries 0 = .ok (.aload_n 0, 1) := by decide +kernel
theorem dX6_fillSeries_1 : decode cX6_fillSeries 1 = .ok (.iconst 0, 1) := by decide +kernel
theorem dX6_fillSeries_2 : decode cX6_fillSeries 2 = .ok (.putfield 7, 3) := by decide +kernel
theorem dX6_fillSeries_5 : decode cX6_fillSeries 5 = .ok (.dconst 0, 1) := by decide +kernel
theorem dX6_fillSeries_6 : decode cX6_fillSeries 6 = .ok (.dstore 5, 2) := by decide +kernel
theorem dX6_fillSeries_8 : decode cX6_fillSeries 8 = .ok (.dconst 1, 1) := by decide +kernel
theorem dX6_fillSeries_9 : decode cX6_fillSeries 9 = .ok (.dstore 7, 2) := by decide +kernel
theorem dX6_fillSeries_11 : decode cX6_fillSeries 11 = .ok (.iconst 1, 1) := by decide +kernel
theorem dX6_fillSeries_12 : decode cX6_fillSeries 12 = .ok (.istore 9, 2) := by decide +kernel
theorem dX6_fillSeries_14 : decode cX6_fillSeries 14 = .ok (.iload 9, 2) := by decide +kernel
theorem dX6_fillSeries_16 : decode cX6_fillSeries 16 = .ok (.iload_n 2, 1) := by decide +kernel
theorem dX6_fillSeries_17 : decode cX6_fillSeries 17 = .ok (.if_icmp .gt 75, 3) := by decide +kernel
theorem dX6_fillSeries_20 : decode cX6_fillSeries 20 = .ok (.iload_n 1, 1) := by decide +kernel
theorem dX6_fillSeries_21 : decode cX6_fillSeries 21 = .ok (.iload 9, 2) := by decide +kernel
theorem dX6_fillSeries_23 : decode cX6_fillSeries 23 = .ok (.dload 7, 2) := by decide +kernel
theorem dX6_fillSeries_25 : decode cX6_fillSeries 25 = .ok (.invokestatic 13, 3) := by decide +kernel
theorem dX6_fillSeries_28 : decode cX6_fillSeries 28 = .ok (.dstore 10, 2) := by decide +kernel
theorem dX6_fillSeries_30 : decode cX6_fillSeries 30 = .ok (.iload_n 1, 1) := by decide +kernel
theorem dX6_fillSeries_31 : decode cX6_fillSeries 31 = .ok (.iconst 1, 1) := by decide +kernel
theorem dX6_fillSeries_32 : decode cX6_fillSeries 32 = .ok (.if_icmp .eq 8, 3) := by decide +kernel
theorem dX6_fillSeries_35 : decode cX6_fillSeries 35 = .ok (.iload_n 1, 1) := by decide +kernel
theorem dX6_fillSeries_36 : decode cX6_fillSeries 36 = .ok (.iconst 2, 1) := by decide +kernel
theorem dX6_fillSeries_37 : decode cX6_fillSeries 37 = .ok (.if_icmp .ne 14, 3) := by decide +kernel
theorem dX6_fillSeries_40 : decode cX6_fillSeries 40 = .ok (.iload 9, 2) := by decide +kernel
theorem dX6_fillSeries_42 : decode cX6_fillSeries 42 = .ok (.iconst 2, 1) := by decide +kernel
theorem dX6_fillSeries_43 : decode cX6_fillSeries 43 = .ok (.irem, 1) := by decide +kernel
theorem dX6_fillSeries_44 : decode cX6_fillSeries 44 = .ok (.ifCond .ne 7, 3) := by decide +kernel
theorem dX6_fillSeries_47 : decode cX6_fillSeries 47 = .ok (.iconst 1, 1) := by decide +kernel
theorem dX6_fillSeries_48 : decode cX6_fillSeries 48 = .ok (.goto 4, 3) := by decide +kernel
theorem dX6_fillSeries_51 : decode cX6_fillSeries 51 = .ok (.iconst 0, 1) := by decide +kernel
theorem dX6_fillSeries_52 : decode cX6_fillSeries 52 = .ok (.istore 12, 2) := by decide +kernel
theorem dX6_fillSeries_54 : decode cX6_fillSeries 54 = .ok (.iload 12, 2) := by decide +kernel
theorem dX6_fillSeries_56 : decode cX6_fillSeries 56 = .ok (.ifCond .eq 11, 3) := by decide +kernel
theorem dX6_fillSeries_59 : decode cX6_fillSeries 59 = .ok (.dload 5, 2) := by decide +kernel
theorem dX6_fillSeries_61 : decode cX6_fillSeries 61 = .ok (.dload 10, 2) := by decide +kernel
theorem dX6_fillSeries_63 : decode cX6_fillSeries 63 = .ok (.dsub, 1) := by decide +kernel
theorem dX6_fillSeries_64 : decode cX6_fillSeries 64 = .ok (.goto 8, 3) := by decide +kernel
theorem dX6_fillSeries_67 : decode cX6_fillSeries 67 = .ok (.dload 5, 2) := by decide +kernel
theorem dX6_fillSeries_69 : decode cX6_fillSeries 69 = .ok (.dload 10, 2) := by decide +kernel
theorem dX6_fillSeries_71 : decode cX6_fillSeries 71 = .ok (.dadd, 1) := by decide +kernel
theorem dX6_fillSeries_72 : decode cX6_fillSeries 72 = .ok (.dstore 5, 2) := by decide +kernel
theorem dX6_fillSeries_74 : decode cX6_fillSeries 74 = .ok (.aload_n 0, 1) := by decide +kernel
theorem dX6_fillSeries_75 : decode cX6_fillSeries 75 = .ok (.dload 5, 2) := by decide +kernel
theorem dX6_fillSeries_77 : decode cX6_fillSeries 77 = .ok (.invokevirtual 19, 3) := by decide +kernel
theorem dX6_fillSeries_80 : decode cX6_fillSeries 80 = .ok (.dload 7, 2) := by decide +kernel
theorem dX6_fillSeries_82 : decode cX6_fillSeries 82 = .ok (.dload_n 3, 1) := by decide +kernel
theorem dX6_fillSeries_83 : decode cX6_fillSeries 83 = .ok (.dmul, 1) := by decide +kernel
theorem dX6_fillSeries_84 : decode cX6_fillSeries 84 = .ok (.dstore 7, 2) := by decide +kernel
theorem dX6_fillSeries_86 : decode cX6_fillSeries 86 = .ok (.iinc 9 1, 3) := by decide +kernel
theorem dX6_fillSeries_89 : decode cX6_fillSeries 89 = .ok (.goto (-75), 3) := by decide +kernel
theorem dX6_fillSeries_92 : decode cX6_fillSeries 92 = .ok (.return_, 1) := by decide +kernel
theorem dX6_termOf_0 : decode cX6_termOf 0 = .ok (.iload_n 1, 1) := by decide +kernel
theorem dX6_termOf_1 : decode cX6_termOf 1 = .ok (.i2d, 1) := by decide +kernel
theorem dX6_termOf_2 : decode cX6_termOf 2 = .ok (.dstore 4, 2) := by decide +kernel
theorem dX6_termOf_4 : decode cX6_termOf 4 = .ok (.iload_n 0, 1) := by decide +kernel
theorem dX6_termOf_5 : decode cX6_termOf 5 = .ok (.tableswitch 57 0 3 #[31, 39, 44, 55], 31) := by decide +kernel
theorem dX6_termOf_36 : decode cX6_termOf 36 = .ok (.dconst 1, 1) := by decide +kernel
theorem dX6_termOf_37 : decode cX6_termOf 37 = .ok (.dload 4, 2) := by decide +kernel
theorem dX6_termOf_39 : decode cX6_termOf 39 = .ok (.dload 4, 2) := by decide +kernel
theorem dX6_termOf_41 : decode cX6_termOf 41 = .ok (.dmul, 1) := by decide +kernel
theorem dX6_termOf_42 : decode cX6_termOf 42 = .ok (.ddiv, 1) := by decide +kernel
theorem dX6_termOf_43 : decode cX6_termOf 43 = .ok (.dreturn, 1) := by decide +kernel
theorem dX6_termOf_44 : decode cX6_termOf 44 = .ok (.dconst 1, 1) := by decide +kernel
theorem dX6_termOf_45 : decode cX6_termOf 45 = .ok (.dload 4, 2) := by decide +kernel
theorem dX6_termOf_47 : decode cX6_termOf 47 = .ok (.ddiv, 1) := by decide +kernel
theorem dX6_termOf_48 : decode cX6_termOf 48 = .ok (.dreturn, 1) := by decide +kernel
theorem dX6_termOf_49 : decode cX6_termOf 49 = .ok (.dconst 1, 1) := by decide +kernel
theorem dX6_termOf_50 : decode cX6_termOf 50 = .ok (.ldc2_w 23, 3) := by decide +kernel
theorem dX6_termOf_53 : decode cX6_termOf 53 = .ok (.dload 4, 2) := by decide +kernel
theorem dX6_termOf_55 : decode cX6_termOf 55 = .ok (.dmul, 1) := by decide +kernel
theorem dX6_termOf_56 : decode cX6_termOf 56 = .ok (.dconst 1, 1) := by decide +kernel
theorem dX6_termOf_57 : decode cX6_termOf 57 = .ok (.dsub, 1) := by decide +kernel
theorem dX6_termOf_58 : decode cX6_termOf 58 = .ok (.ddiv, 1) := by decide +kernel
theorem dX6_termOf_59 : decode cX6_termOf 59 = .ok (.dreturn, 1) := by decide +kernel
theorem dX6_termOf_60 : decode cX6_termOf 60 = .ok (.dload_n 2, 1) := by decide +kernel
theorem dX6_termOf_61 : decode cX6_termOf 61 = .ok (.dreturn, 1) := by decide +kernel
theorem dX6_termOf_62 : decode cX6_termOf 62 = .ok (.dload_n 2, 1) := by decide +kernel
theorem dX6_termOf_63 : decode cX6_termOf 63 = .ok (.dload 4, 2) := by decide +kernel
theorem dX6_termOf_65 : decode cX6_termOf 65 = .ok (.ddiv, 1) := by decide +kernel
theorem dX6_termOf_66 : decode cX6_termOf 66 = .ok (.dreturn, 1) := by decide +kernel
set_option maxRecDepth 20000 in
theorem ggX6_sumUp_X3_fitsRow : GoodIn wsX6_sumUp wsX3_fitsRow := goodIn_r _ [6, 7, 8] (by decide +kernel) (by decide +kernel)
set_option maxRecDepth 20000 in
theorem gX6_sumUp_X3_fitsRow : GoodIn wsX6_sumUp (va_wsS RX6 29 yX3_fitsRow wsX3_fitsRow) := goodIn_app (goodIn_of _ (by decide +kernel)) ggX6_sumUp_X3_fitsRow
set_option maxRecDepth 20000 in
theorem ggX6_sumUp_X4_append : GoodIn wsX6_sumUp wsX4_append := goodIn_r _ [13, 14, 15, 16, 17] (by decide +kernel) (by decide +kernel)
set_option maxRecDepth 20000 in
theorem gX6_sumUp_X4_append : GoodIn wsX6_sumUp (wsV RX6 19 RX4 yX4_append wsX4_append) := goodIn_app (goodIn_of _ (by decide +kernel)) ggX6_sumUp_X4_append
theorem dX6_sumUp_0 : decode cX6_sumUp 0 = .ok (.aload_n 1, 1) := by decide +kernel
theorem dX6_sumUp_1 : decode cX6_sumUp 1 = .ok (.iconst 0, 1) := by decide +kernel
theorem dX6_sumUp_2 : decode cX6_sumUp 2 = .ok (.putfield 7, 3) := by decide +kernel
theorem dX6_sumUp_5 : decode cX6_sumUp 5 = .ok (.dconst 0, 1) := by decide +kernel
theorem dX6_sumUp_6 : decode cX6_sumUp 6 = .ok (.dstore_n 2, 1) := by decide +kernel
theorem dX6_sumUp_7 : decode cX6_sumUp 7 = .ok (.iconst 0, 1) := by decide +kernel
theorem dX6_sumUp_8 : decode cX6_sumUp 8 = .ok (.istore 4, 2) := by decide +kernel
theorem dX6_sumUp_10 : decode cX6_sumUp 10 = .ok (.iload 4, 2) := by decide +kernel
theorem dX6_sumUp_12 : decode cX6_sumUp 12 = .ok (.aload_n 0, 1) := by decide +kernel
theorem dX6_sumUp_13 : decode cX6_sumUp 13 = .ok (.getfield 7, 3) := by decide +kernel
theorem dX6_sumUp_16 : decode cX6_sumUp 16 = .ok (.if_icmp .ge 33, 3) := by decide +kernel
theorem dX6_sumUp_19 : decode cX6_sumUp 19 = .ok (.dload_n 2, 1) := by decide +kernel
theorem dX6_sumUp_20 : decode cX6_sumUp 20 = .ok (.aload_n 0, 1) := by decide +kernel
theorem dX6_sumUp_21 : decode cX6_sumUp 21 = .ok (.getfield 25, 3) := by decide +kernel
theorem dX6_sumUp_24 : decode cX6_sumUp 24 = .ok (.iload 4, 2) := by decide +kernel
theorem dX6_sumUp_26 : decode cX6_sumUp 26 = .ok (.daload, 1) := by decide +kernel
theorem dX6_sumUp_27 : decode cX6_sumUp 27 = .ok (.dadd, 1) := by decide +kernel
theorem dX6_sumUp_28 : decode cX6_sumUp 28 = .ok (.dstore_n 2, 1) := by decide +kernel
theorem dX6_sumUp_29 : decode cX6_sumUp 29 = .ok (.dload_n 2, 1) := by decide +kernel
theorem dX6_sumUp_30 : decode cX6_sumUp 30 = .ok (.invokestatic 29, 3) := by decide +kernel
theorem dX6_sumUp_33 : decode cX6_sumUp 33 = .ok (.ifCond .ne 5, 3) := by decide +kernel
theorem dX6_sumUp_36 : decode cX6_sumUp 36 = .ok (.iconst 0, 1) := by decide +kernel
theorem dX6_sumUp_37 : decode cX6_sumUp 37 = .ok (.ireturn, 1) := by decide +kernel
theorem dX6_sumUp_38 : decode cX6_sumUp 38 = .ok (.aload_n 1, 1) := by decide +kernel
theorem dX6_sumUp_39 : decode cX6_sumUp 39 = .ok (.dload_n 2, 1) := by decide +kernel
theorem dX6_sumUp_40 : decode cX6_sumUp 40 = .ok (.invokevirtual 19, 3) := by decide +kernel
theorem dX6_sumUp_43 : decode cX6_sumUp 43 = .ok (.iinc 4 1, 3) := by decide +kernel
theorem dX6_sumUp_46 : decode cX6_sumUp 46 = .ok (.goto (-36), 3) := by decide +kernel
theorem dX6_sumUp_49 : decode cX6_sumUp 49 = .ok (.iconst 1, 1) := by decide +kernel
theorem dX6_sumUp_50 : decode cX6_sumUp 50 = .ok (.ireturn, 1) := by decide +kernel
set_option maxRecDepth 20000 in
theorem ggX6_takeDifferences_X3_fitsRow : GoodIn wsX6_takeDifferences wsX3_fitsRow := goodIn_r _ [6, 7, 8] (by decide +kernel) (by decide +kernel)
set_option maxRecDepth 20000 in
theorem gX6_takeDifferences_X3_fitsRow : GoodIn wsX6_takeDifferences (va_wsS RX6 29 yX3_fitsRow wsX3_fitsRow) := goodIn_app (goodIn_of _ (by decide +kernel)) ggX6_takeDifferences_X3_fitsRow
set_option maxRecDepth 20000 in
theorem ggX6_takeDifferences_X4_append : GoodIn wsX6_takeDifferences wsX4_append := goodIn_r _ [13, 14, 15, 16, 17] (by decide +kernel) (by decide +kernel)
set_option maxRecDepth 20000 in
theorem gX6_takeDifferences_X4_append : GoodIn wsX6_takeDifferences (wsV RX6 19 RX4 yX4_append wsX4_append) := goodIn_app (goodIn_of _ (by decide +kernel)) ggX6_takeDifferences_X4_append
theorem dX6_takeDifferences_0 : decode cX6_takeDifferences 0 = .ok (.aload_n 1, 1) := by decide +kernel
theorem dX6_takeDifferences_1 : decode cX6_takeDifferences 1 = .ok (.iconst 0, 1) := by decide +kernel
theorem dX6_takeDifferences_2 : decode cX6_takeDifferences 2 = .ok (.putfield 7, 3) := by decide +kernel
theorem dX6_takeDifferences_5 : decode cX6_takeDifferences 5 = .ok (.iconst 0, 1) := by decide +kernel
theorem dX6_takeDifferences_6 : decode cX6_takeDifferences 6 = .ok (.istore_n 2, 1) := by decide +kernel
theorem dX6_takeDifferences_7 : decode cX6_takeDifferences 7 = .ok (.iload_n 2, 1) := by decide +kernel
theorem dX6_takeDifferences_8 : decode cX6_takeDifferences 8 = .ok (.aload_n 0, 1) := by decide +kernel
theorem dX6_takeDifferences_9 : decode cX6_takeDifferences 9 = .ok (.getfield 7, 3) := by decide +kernel
theorem dX6_takeDifferences_12 : decode cX6_takeDifferences 12 = .ok (.if_icmp .ge 45, 3) := by decide +kernel
theorem dX6_takeDifferences_15 : decode cX6_takeDifferences 15 = .ok (.aload_n 0, 1) := by decide +kernel
theorem dX6_takeDifferences_16 : decode cX6_takeDifferences 16 = .ok (.getfield 25, 3) := by decide +kernel
theorem dX6_takeDifferences_19 : decode cX6_takeDifferences 19 = .ok (.iload_n 2, 1) := by decide +kernel
theorem dX6_takeDifferences_20 : decode cX6_takeDifferences 20 = .ok (.daload, 1) := by decide +kernel
theorem dX6_takeDifferences_21 : decode cX6_takeDifferences 21 = .ok (.dstore_n 3, 1) := by decide +kernel
theorem dX6_takeDifferences_22 : decode cX6_takeDifferences 22 = .ok (.iload_n 2, 1) := by decide +kernel
theorem dX6_takeDifferences_23 : decode cX6_takeDifferences 23 = .ok (.ifCond .le 14, 3) := by decide +kernel
theorem dX6_takeDifferences_26 : decode cX6_takeDifferences 26 = .ok (.dload_n 3, 1) := by decide +kernel
theorem dX6_takeDifferences_27 : decode cX6_takeDifferences 27 = .ok (.aload_n 0, 1) := by decide +kernel
theorem dX6_takeDifferences_28 : decode cX6_takeDifferences 28 = .ok (.getfield 25, 3) := by decide +kernel
theorem dX6_takeDifferences_31 : decode cX6_takeDifferences 31 = .ok (.iload_n 2, 1) := by decide +kernel
theorem dX6_takeDifferences_32 : decode cX6_takeDifferences 32 = .ok (.iconst 1, 1) := by decide +kernel
theorem dX6_takeDifferences_33 : decode cX6_takeDifferences 33 = .ok (.isub, 1) := by decide +kernel
theorem dX6_takeDifferences_34 : decode cX6_takeDifferences 34 = .ok (.daload, 1) := by decide +kernel
theorem dX6_takeDifferences_35 : decode cX6_takeDifferences 35 = .ok (.dsub, 1) := by decide +kernel
theorem dX6_takeDifferences_36 : decode cX6_takeDifferences 36 = .ok (.dstore_n 3, 1) := by decide +kernel
theorem dX6_takeDifferences_37 : decode cX6_takeDifferences 37 = .ok (.dload_n 3, 1) := by decide +kernel
theorem dX6_takeDifferences_38 : decode cX6_takeDifferences 38 = .ok (.invokestatic 29, 3) := by decide +kernel
theorem dX6_takeDifferences_41 : decode cX6_takeDifferences 41 = .ok (.ifCond .ne 5, 3) := by decide +kernel
theorem dX6_takeDifferences_44 : decode cX6_takeDifferences 44 = .ok (.iconst 0, 1) := by decide +kernel
theorem dX6_takeDifferences_45 : decode cX6_takeDifferences 45 = .ok (.ireturn, 1) := by decide +kernel
theorem dX6_takeDifferences_46 : decode cX6_takeDifferences 46 = .ok (.aload_n 1, 1) := by decide +kernel
theorem dX6_takeDifferences_47 : decode cX6_takeDifferences 47 = .ok (.dload_n 3, 1) := by decide +kernel
theorem dX6_takeDifferences_48 : decode cX6_takeDifferences 48 = .ok (.invokevirtual 19, 3) := by decide +kernel
theorem dX6_takeDifferences_51 : decode cX6_takeDifferences 51 = .ok (.iinc 2 1, 3) := by decide +kernel
theorem dX6_takeDifferences_54 : decode cX6_takeDifferences 54 = .ok (.goto (-47), 3) := by decide +kernel
theorem dX6_takeDifferences_57 : decode cX6_takeDifferences 57 = .ok (.iconst 1, 1) := by decide +kernel
theorem dX6_takeDifferences_58 : decode cX6_takeDifferences 58 = .ok (.ireturn, 1) := by decide +kernel
theorem dX7_init_0 : decode cX7_init 0 = .ok (.aload_n 0, 1) := by decide +kernel
theorem dX7_init_1 : decode cX7_init 1 = .ok (.invokespecial 1, 3) := by decide +kernel
theorem dX7_init_4 : decode cX7_init 4 = .ok (.aload_n 0, 1) := by decide +kernel
theorem dX7_init_5 : decode cX7_init 5 = .ok (.bipush 60, 2) := by decide +kernel
theorem dX7_init_7 : decode cX7_init 7 = .ok (.newarray .char, 2) := by decide +kernel
theorem dX7_init_9 : decode cX7_init 9 = .ok (.putfield 9, 3) := by decide +kernel
theorem dX7_init_12 : decode cX7_init 12 = .ok (.aload_n 0, 1) := by decide +kernel
theorem dX7_init_13 : decode cX7_init 13 = .ok (.iconst 0, 1) := by decide +kernel
theorem dX7_init_14 : decode cX7_init 14 = .ok (.putfield 13, 3) := by decide +kernel
theorem dX7_init_17 : decode cX7_init 17 = .ok (.aload_n 0, 1) := by decide +kernel
theorem dX7_init_18 : decode cX7_init 18 = .ok (.iconst 0, 1) := by decide +kernel
theorem dX7_init_19 : decode cX7_init 19 = .ok (.putfield 17, 3) := by decide +kernel
theorem dX7_init_22 : decode cX7_init 22 = .ok (.aload_n 0, 1) := by decide +kernel
theorem dX7_init_23 : decode cX7_init 23 = .ok (.lconst 0, 1) := by decide +kernel
theorem dX7_init_24 : decode cX7_init 24 = .ok (.putfield 20, 3) := by decide +kernel
theorem dX7_init_27 : decode cX7_init 27 = .ok (.return_, 1) := by decide +kernel
theorem dX7_append_0 : decode cX7_append 0 = .ok (.aload_n 0, 1) := by decide +kernel
theorem dX7_append_1 : decode cX7_append 1 = .ok (.getfield 13, 3) := by decide +kernel
theorem dX7_append_4 : decode cX7_append 4 = .ok (.bipush 60, 2) := by decide +kernel
theorem dX7_append_6 : decode cX7_append 6 = .ok (.if_icmp .ge 23, 3) := by decide +kernel
theorem dX7_append_9 : decode cX7_append 9 = .ok (.aload_n 0, 1) := by decide +kernel
theorem dX7_append_10 : decode cX7_append 10 = .ok (.getfield 9, 3) := by decide +kernel
theorem dX7_append_13 : decode cX7_append 13 = .ok (.aload_n 0, 1) := by decide +kernel
theorem dX7_append_14 : decode cX7_append 14 = .ok (.getfield 13, 3) := by decide +kernel
theorem dX7_append_17 : decode cX7_append 17 = .ok (.iload_n 1, 1) := by decide +kernel
theorem dX7_append_18 : decode cX7_append 18 = .ok (.castore, 1) := by decide +kernel
theorem dX7_append_19 : decode cX7_append 19 = .ok (.aload_n 0, 1) := by decide +kernel
theorem dX7_append_20 : decode cX7_append 20 = .ok (.dup, 1) := by decide +kernel
theorem dX7_append_21 : decode cX7_append 21 = .ok (.getfield 13, 3) := by decide +kernel
theorem dX7_append_24 : decode cX7_append 24 = .ok (.iconst 1, 1) := by decide +kernel
theorem dX7_append_25 : decode cX7_append 25 = .ok (.iadd, 1) := by decide +kernel
theorem dX7_append_26 : decode cX7_append 26 = .ok (.putfield 13, 3) := by decide +kernel
theorem dX7_append_29 : decode cX7_append 29 = .ok (.return_, 1) := by decide +kernel
set_option maxRecDepth 20000 in
theorem ggX7_parseInto_X7_parseNumber : GoodIn wsX7_parseInto wsX7_parseNumber := goodIn_r _ [8, 9, 1, 10, 11, 12, 7, 13, 3, 14, 15, 16, 17, 18, 19, 20, 21, 22, 23, 24, 25, 26, 27, 28, 29, 30, 31, 32, 33, 34, 35, 36, 37, 38, 39] (by decide +kernel) (by decide +kernel)
set_option maxRecDepth 20000 in
theorem gX7_parseInto_X7_parseNumber : GoodIn wsX7_parseInto (wsV RX7 27 RX7 yX7_parseNumber wsX7_parseNumber) := goodIn_app (goodIn_of _ (by decide +kernel)) ggX7_parseInto_X7_parseNumber
set_option maxRecDepth 20000 in
theorem ggX7_parseInto_X7_isHere : GoodIn wsX7_parseInto wsX7_isHere := goodIn_r _ [13, 1, 3, 14, 34, 35, 36, 37] (by decide +kernel) (by decide +kernel)
set_option maxRecDepth 20000 in
theorem gX7_parseInto_X7_isHere : GoodIn wsX7_parseInto (wsV RX7 31 RX7 yX7_isHere wsX7_isHere) := goodIn_app (goodIn_of _ (by decide +kernel)) ggX7_parseInto_X7_isHere
theorem dX7_parseInto_0 : decode cX7_parseInto 0 = .ok (.aload_n 0, 1) := by decide +kernel
theorem dX7_parseInto_1 : decode cX7_parseInto 1 = .ok (.iconst 0, 1) := by decide +kernel
theorem dX7_parseInto_2 : decode cX7_parseInto 2 = .ok (.putfield 17, 3) := by decide +kernel
theorem dX7_parseInto_5 : decode cX7_parseInto 5 = .ok (.aload_n 1, 1) := by decide +kernel
theorem dX7_parseInto_6 : decode cX7_parseInto 6 = .ok (.iconst 0, 1) := by decide +kernel
theorem dX7_parseInto_7 : decode cX7_parseInto 7 = .ok (.putfield 24, 3) := by decide +kernel
theorem dX7_parseInto_10 : decode cX7_parseInto 10 = .ok (.iconst 1, 1) := by decide +kernel
theorem dX7_parseInto_11 : decode cX7_parseInto 11 = .ok (.istore_n 2, 1) := by decide +kernel
theorem dX7_parseInto_12 : decode cX7_parseInto 12 = .ok (.iload_n 2, 1) := by decide +kernel
theorem dX7_parseInto_13 : decode cX7_parseInto 13 = .ok (.bipush 60, 2) := by decide +kernel
theorem dX7_parseInto_15 : decode cX7_parseInto 15 = .ok (.if_icmp .gt 65, 3) := by decide +kernel
theorem dX7_parseInto_18 : decode cX7_parseInto 18 = .ok (.aload_n 0, 1) := by decide +kernel
theorem dX7_parseInto_19 : decode cX7_parseInto 19 = .ok (.aload_n 1, 1) := by decide +kernel
theorem dX7_parseInto_20 : decode cX7_parseInto 20 = .ok (.invokevirtual 27, 3) := by decide +kernel
theorem dX7_parseInto_23 : decode cX7_parseInto 23 = .ok (.ifCond .ne 11, 3) := by decide +kernel
theorem dX7_parseInto_26 : decode cX7_parseInto 26 = .ok (.bipush (-100), 2) := by decide +kernel
theorem dX7_parseInto_28 : decode cX7_parseInto 28 = .ok (.aload_n 0, 1) := by decide +kernel
theorem dX7_parseInto_29 : decode cX7_parseInto 29 = .ok (.getfield 17, 3) := by decide +kernel
theorem dX7_parseInto_32 : decode cX7_parseInto 32 = .ok (.isub, 1) := by decide +kernel
theorem dX7_parseInto_33 : decode cX7_parseInto 33 = .ok (.ireturn, 1) := by decide +kernel
theorem dX7_parseInto_34 : decode cX7_parseInto 34 = .ok (.aload_n 0, 1) := by decide +kernel
theorem dX7_parseInto_35 : decode cX7_parseInto 35 = .ok (.getfield 17, 3) := by decide +kernel
theorem dX7_parseInto_38 : decode cX7_parseInto 38 = .ok (.aload_n 0, 1) := by decide +kernel
theorem dX7_parseInto_39 : decode cX7_parseInto 39 = .ok (.getfield 13, 3) := by decide +kernel
theorem dX7_parseInto_42 : decode cX7_parseInto 42 = .ok (.if_icmp .ne 5, 3) := by decide +kernel
theorem dX7_parseInto_45 : decode cX7_parseInto 45 = .ok (.iload_n 2, 1) := by decide +kernel
theorem dX7_parseInto_46 : decode cX7_parseInto 46 = .ok (.ireturn, 1) := by decide +kernel
theorem dX7_parseInto_47 : decode cX7_parseInto 47 = .ok (.aload_n 0, 1) := by decide +kernel
theorem dX7_parseInto_48 : decode cX7_parseInto 48 = .ok (.bipush 44, 2) := by decide +kernel
theorem dX7_parseInto_50 : decode cX7_parseInto 50 = .ok (.invokevirtual 31, 3) := by decide +kernel
theorem dX7_parseInto_53 : decode cX7_parseInto 53 = .ok (.ifCond .ne 11, 3) := by decide +kernel
theorem dX7_parseInto_56 : decode cX7_parseInto 56 = .ok (.bipush (-100), 2) := by decide +kernel
theorem dX7_parseInto_58 : decode cX7_parseInto 58 = .ok (.aload_n 0, 1) := by decide +kernel
theorem dX7_parseInto_59 : decode cX7_parseInto 59 = .ok (.getfield 17, 3) := by decide +kernel
theorem dX7_parseInto_62 : decode cX7_parseInto 62 = .ok (.isub, 1) := by decide +kernel
theorem dX7_parseInto_63 : decode cX7_parseInto 63 = .ok (.ireturn, 1) := by decide +kernel
theorem dX7_parseInto_64 : decode cX7_parseInto 64 = .ok (.aload_n 0, 1) := by decide +kernel
theorem dX7_parseInto_65 : decode cX7_parseInto 65 = .ok (.dup, 1) := by decide +kernel
theorem dX7_parseInto_66 : decode cX7_parseInto 66 = .ok (.getfield 17, 3) := by decide +kernel
theorem dX7_parseInto_69 : decode cX7_parseInto 69 = .ok (.iconst 1, 1) := by decide +kernel
theorem dX7_parseInto_70 : decode cX7_parseInto 70 = .ok (.iadd, 1) := by decide +kernel
theorem dX7_parseInto_71 : decode cX7_parseInto 71 = .ok (.putfield 17, 3) := by decide +kernel
theorem dX7_parseInto_74 : decode cX7_parseInto 74 = .ok (.iinc 2 1, 3) := by decide +kernel
theorem dX7_parseInto_77 : decode cX7_parseInto 77 = .ok (.goto (-65), 3) := by decide +kernel
theorem dX7_parseInto_80 : decode cX7_parseInto 80 = .ok (.bipush (-100), 2) := by decide +kernel
theorem dX7_parseInto_82 : decode cX7_parseInto 82 = .ok (.aload_n 0, 1) := by decide +kernel
theorem dX7_parseInto_83 : decode cX7_parseInto 83 = .ok (.getfield 17, 3) := by decide +kernel
theorem dX7_parseInto_86 : decode cX7_parseInto 86 = .ok (.isub, 1) := by decide +kernel
theorem dX7_parseInto_87 : decode cX7_parseInto 87 = .ok (.ireturn, 1) := by decide +kernel
theorem dX7_isHere_0 : decode cX7_isHere 0 = .ok (.aload_n 0, 1) := by decide +kernel
theorem dX7_isHere_1 : decode cX7_isHere 1 = .ok (.getfield 17, 3) := by decide +kernel
theorem dX7_isHere_4 : decode cX7_isHere 4 = .ok (.aload_n 0, 1) := by decide +kernel
theorem dX7_isHere_5 : decode cX7_isHere 5 = .ok (.getfield 13, 3) := by decide +kernel
theorem dX7_isHere_8 : decode cX7_isHere 8 = .ok (.if_icmp .ge 20, 3) := by decide +kernel
theorem dX7_isHere_11 : decode cX7_isHere 11 = .ok (.aload_n 0, 1) := by decide +kernel
theorem dX7_isHere_12 : decode cX7_isHere 12 = .ok (.getfield 9, 3) := by decide +kernel
theorem dX7_isHere_15 : decode cX7_isHere 15 = .ok (.aload_n 0, 1) := by decide +kernel
theorem dX7_isHere_16 : decode cX7_isHere 16 = .ok (.getfield 17, 3) := by decide +kernel
theorem dX7_isHere_19 : decode cX7_isHere 19 = .ok (.caload, 1) := by decide +kernel
theorem dX7_isHere_20 : decode cX7_isHere 20 = .ok (.iload_n 1, 1) := by decide +kernel
theorem dX7_isHere_21 : decode cX7_isHere 21 = .ok (.if_icmp .ne 7, 3) := by decide +kernel
theorem dX7_isHere_24 : decode cX7_isHere 24 = .ok (.iconst 1, 1) := by decide +kernel
theorem dX7_isHere_25 : decode cX7_isHere 25 = .ok (.goto 4, 3) := by decide +kernel
theorem dX7_isHere_28 : decode cX7_isHere 28 = .ok (.iconst 0, 1) := by decide +kernel
theorem dX7_isHere_29 : decode cX7_isHere 29 = .ok (.ireturn, 1) := by decide +kernel
theorem dX7_isDigitHere_0 : decode cX7_isDigitHere 0 = .ok (.aload_n 0, 1) := by decide +kernel
theorem dX7_isDigitHere_1 : decode cX7_isDigitHere 1 = .ok (.getfield 17, 3) := by decide +kernel
theorem dX7_isDigitHere_4 : decode cX7_isDigitHere 4 = .ok (.aload_n 0, 1) := by decide +kernel
theorem dX7_isDigitHere_5 : decode cX7_isDigitHere 5 = .ok (.getfield 13, 3) := by decide +kernel
theorem dX7_isDigitHere_8 : decode cX7_isDigitHere 8 = .ok (.if_icmp .ge 35, 3) := by decide +kernel
theorem dX7_isDigitHere_11 : decode cX7_isDigitHere 11 = .ok (.aload_n 0, 1) := by decide +kernel
theorem dX7_isDigitHere_12 : decode cX7_isDigitHere 12 = .ok (.getfield 9, 3) := by decide +kernel
theorem dX7_isDigitHere_15 : decode cX7_isDigitHere 15 = .ok (.aload_n 0, 1) := by decide +kernel
theorem dX7_isDigitHere_16 : decode cX7_isDigitHere 16 = .ok (.getfield 17, 3) := by decide +kernel
theorem dX7_isDigitHere_19 : decode cX7_isDigitHere 19 = .ok (.caload, 1) := by decide +kernel
theorem dX7_isDigitHere_20 : decode cX7_isDigitHere 20 = .ok (.bipush 48, 2) := by decide +kernel
theorem dX7_isDigitHere_22 : decode cX7_isDigitHere 22 = .ok (.if_icmp .lt 21, 3) := by decide +kernel
theorem dX7_isDigitHere_25 : decode cX7_isDigitHere 25 = .ok (.aload_n 0, 1) := by decide +kernel
theorem dX7_isDigitHere_26 : decode cX7_isDigitHere 26 = .ok (.getfield 9, 3) := by decide +kernel
theorem dX7_isDigitHere_29 : decode cX7_isDigitHere 29 = .ok (.aload_n 0, 1) := by decide +kernel
theorem dX7_isDigitHere_30 : decode cX7_isDigitHere 30 = .ok (.getfield 17, 3) := by decide +kernel
theorem dX7_isDigitHere_33 : decode cX7_isDigitHere 33 = .ok (.caload, 1) := by decide +kernel
theorem dX7_isDigitHere_34 : decode cX7_isDigitHere 34 = .ok (.bipush 57, 2) := by decide +kernel
theorem dX7_isDigitHere_36 : decode cX7_isDigitHere 36 = .ok (.if_icmp .gt 7, 3) := by decide +kernel
theorem dX7_isDigitHere_39 : decode cX7_isDigitHere 39 = .ok (.iconst 1, 1) := by decide +kernel
theorem dX7_isDigitHere_40 : decode cX7_isDigitHere 40 = .ok (.goto 4, 3) := by decide +kernel
theorem dX7_isDigitHere_43 : decode cX7_isDigitHere 43 = .ok (.iconst 0, 1) := by decide +kernel
theorem dX7_isDigitHere_44 : decode cX7_isDigitHere 44 = .ok (.ireturn, 1) := by decide +kernel
set_option maxRecDepth 20000 in
theorem ggX7_parseNumber_X7_isHere : GoodIn wsX7_parseNumber wsX7_isHere := goodIn_r _ [7, 2, 8, 9, 29, 30, 31, 32] (by decide +kernel) (by decide +kernel)
set_option maxRecDepth 20000 in
theorem gX7_parseNumber_X7_isHere : GoodIn wsX7_parseNumber (wsV RX7 31 RX7 yX7_isHere wsX7_isHere) := goodIn_app (goodIn_of _ (by decide +kernel)) ggX7_parseNumber_X7_isHere
set_option maxRecDepth 20000 in
theorem ggX7_parseNumber_X7_parseDigits : GoodIn wsX7_parseNumber wsX7_parseDigits := goodIn_r _ [13, 2, 1, 14, 9, 15, 16, 17, 6, 18, 8, 29, 30, 31, 32] (by decide +kernel) (by decide +kernel)
set_option maxRecDepth 20000 in
theorem gX7_parseNumber_X7_parseDigits : GoodIn wsX7_parseNumber (wsV RX7 35 RX7 yX7_parseDigits wsX7_parseDigits) := goodIn_app (goodIn_of _ (by decide +kernel)) ggX7_parseNumber_X7_parseDigits
set_option maxRecDepth 20000 in
theorem ggX7_parseNumber_X7_tenToThe : GoodIn wsX7_parseNumber wsX7_tenToThe := goodIn_r _ [21, 14] (by decide +kernel) (by decide +kernel)
set_option maxRecDepth 20000 in
theorem gX7_parseNumber_X7_tenToThe : GoodIn wsX7_parseNumber (va_wsS RX7 39 yX7_tenToThe wsX7_tenToThe) := goodIn_app (goodIn_of _ (by decide +kernel)) ggX7_parseNumber_X7_tenToThe
set_option maxRecDepth 20000 in
theorem ggX7_parseNumber_X4_append : GoodIn wsX7_parseNumber wsX4_append := goodIn_r _ [26, 27, 28, 33, 34] (by decide +kernel) (by decide +kernel)
set_option maxRecDepth 20000 in
theorem gX7_parseNumber_X4_append : GoodIn wsX7_parseNumber (wsV RX7 43 RX4 yX4_append wsX4_append) := goodIn_app (goodIn_of _ (by decide +kernel)) ggX7_parseNumber_X4_append
theorem dX7_parseNumber_0 : decode cX7_parseNumber 0 = .ok (.aload_n 0, 1) := by decide +kernel
theorem dX7_parseNumber_1 : decode cX7_parseNumber 1 = .ok (.lconst 0, 1) := by decide +kernel
theorem dX7_parseNumber_2 : decode cX7_parseNumber 2 = .ok (.putfield 20, 3) := by decide +kernel
theorem dX7_parseNumber_5 : decode cX7_parseNumber 5 = .ok (.aload_n 0, 1) := by decide +kernel
theorem dX7_parseNumber_6 : decode cX7_parseNumber 6 = .ok (.bipush 45, 2) := by decide +kernel
theorem dX7_parseNumber_8 : decode cX7_parseNumber 8 = .ok (.invokevirtual 31, 3) := by decide +kernel
theorem dX7_parseNumber_11 : decode cX7_parseNumber 11 = .ok (.istore_n 2, 1) := by decide +kernel
theorem dX7_parseNumber_12 : decode cX7_parseNumber 12 = .ok (.iload_n 2, 1) := by decide +kernel
theorem dX7_parseNumber_13 : decode cX7_parseNumber 13 = .ok (.ifCond .eq 13, 3) := by decide +kernel
theorem dX7_parseNumber_16 : decode cX7_parseNumber 16 = .ok (.aload_n 0, 1) := by decide +kernel
theorem dX7_parseNumber_17 : decode cX7_parseNumber 17 = .ok (.dup, 1) := by decide +kernel
theorem dX7_parseNumber_18 : decode cX7_parseNumber 18 = .ok (.getfield 17, 3) := by decide +kernel
theorem dX7_parseNumber_21 : decode cX7_parseNumber 21 = .ok (.iconst 1, 1) := by decide +kernel
theorem dX7_parseNumber_22 : decode cX7_parseNumber 22 = .ok (.iadd, 1) := by decide +kernel
theorem dX7_parseNumber_23 : decode cX7_parseNumber 23 = .ok (.putfield 17, 3) := by decide +kernel
theorem dX7_parseNumber_26 : decode cX7_parseNumber 26 = .ok (.aload_n 0, 1) := by decide +kernel
theorem dX7_parseNumber_27 : decode cX7_parseNumber 27 = .ok (.aload_n 0, 1) := by decide +kernel
theorem dX7_parseNumber_28 : decode cX7_parseNumber 28 = .ok (.bipush 48, 2) := by decide +kernel
theorem dX7_parseNumber_30 : decode cX7_parseNumber 30 = .ok (.invokevirtual 31, 3) := by decide +kernel
theorem dX7_parseNumber_33 : decode cX7_parseNumber 33 = .ok (.ifCond .eq 7, 3) := by decide +kernel
theorem dX7_parseNumber_36 : decode cX7_parseNumber 36 = .ok (.iconst 1, 1) := by decide +kernel
theorem dX7_parseNumber_37 : decode cX7_parseNumber 37 = .ok (.goto 5, 3) := by decide +kernel
theorem dX7_parseNumber_40 : decode cX7_parseNumber 40 = .ok (.bipush 6, 2) := by decide +kernel
theorem dX7_parseNumber_42 : decode cX7_parseNumber 42 = .ok (.invokevirtual 35, 3) := by decide +kernel
theorem dX7_parseNumber_45 : decode cX7_parseNumber 45 = .ok (.ifCond .ne 5, 3) := by decide +kernel
theorem dX7_parseNumber_48 : decode cX7_parseNumber 48 = .ok (.iconst 0, 1) := by decide +kernel
theorem dX7_parseNumber_49 : decode cX7_parseNumber 49 = .ok (.ireturn, 1) := by decide +kernel
theorem dX7_parseNumber_50 : decode cX7_parseNumber 50 = .ok (.aload_n 0, 1) := by decide +kernel
theorem dX7_parseNumber_51 : decode cX7_parseNumber 51 = .ok (.getfield 17, 3) := by decide +kernel
theorem dX7_parseNumber_54 : decode cX7_parseNumber 54 = .ok (.istore_n 3, 1) := by decide +kernel
theorem dX7_parseNumber_55 : decode cX7_parseNumber 55 = .ok (.aload_n 0, 1) := by decide +kernel
theorem dX7_parseNumber_56 : decode cX7_parseNumber 56 = .ok (.bipush 46, 2) := by decide +kernel
theorem dX7_parseNumber_58 : decode cX7_parseNumber 58 = .ok (.invokevirtual 31, 3) := by decide +kernel
theorem dX7_parseNumber_61 : decode cX7_parseNumber 61 = .ok (.ifCond .eq 29, 3) := by decide +kernel
theorem dX7_parseNumber_64 : decode cX7_parseNumber 64 = .ok (.aload_n 0, 1) := by decide +kernel
theorem dX7_parseNumber_65 : decode cX7_parseNumber 65 = .ok (.dup, 1) := by decide +kernel
theorem dX7_parseNumber_66 : decode cX7_parseNumber 66 = .ok (.getfield 17, 3) := by decide +kernel
theorem dX7_parseNumber_69 : decode cX7_parseNumber 69 = .ok (.iconst 1, 1) := by decide +kernel
theorem dX7_parseNumber_70 : decode cX7_parseNumber 70 = .ok (.iadd, 1) := by decide +kernel
theorem dX7_parseNumber_71 : decode cX7_parseNumber 71 = .ok (.putfield 17, 3) := by decide +kernel
theorem dX7_parseNumber_74 : decode cX7_parseNumber 74 = .ok (.aload_n 0, 1) := by decide +kernel
theorem dX7_parseNumber_75 : decode cX7_parseNumber 75 = .ok (.getfield 17, 3) := by decide +kernel
theorem dX7_parseNumber_78 : decode cX7_parseNumber 78 = .ok (.istore_n 3, 1) := by decide +kernel
theorem dX7_parseNumber_79 : decode cX7_parseNumber 79 = .ok (.aload_n 0, 1) := by decide +kernel
theorem dX7_parseNumber_80 : decode cX7_parseNumber 80 = .ok (.bipush 6, 2) := by decide +kernel
theorem dX7_parseNumber_82 : decode cX7_parseNumber 82 = .ok (.invokevirtual 35, 3) := by decide +kernel
theorem dX7_parseNumber_85 : decode cX7_parseNumber 85 = .ok (.ifCond .ne 5, 3) := by decide +kernel
theorem dX7_parseNumber_88 : decode cX7_parseNumber 88 = .ok (.iconst 0, 1) := by decide +kernel
theorem dX7_parseNumber_89 : decode cX7_parseNumber 89 = .ok (.ireturn, 1) := by decide +kernel
theorem dX7_parseNumber_90 : decode cX7_parseNumber 90 = .ok (.aload_n 0, 1) := by decide +kernel
theorem dX7_parseNumber_91 : decode cX7_parseNumber 91 = .ok (.getfield 20, 3) := by decide +kernel
theorem dX7_parseNumber_94 : decode cX7_parseNumber 94 = .ok (.l2d, 1) := by decide +kernel
theorem dX7_parseNumber_95 : decode cX7_parseNumber 95 = .ok (.aload_n 0, 1) := by decide +kernel
theorem dX7_parseNumber_96 : decode cX7_parseNumber 96 = .ok (.getfield 17, 3) := by decide +kernel
theorem dX7_parseNumber_99 : decode cX7_parseNumber 99 = .ok (.iload_n 3, 1) := by decide +kernel
theorem dX7_parseNumber_100 : decode cX7_parseNumber 100 = .ok (.isub, 1) := by decide +kernel
theorem dX7_parseNumber_101 : decode cX7_parseNumber 101 = .ok (.invokestatic 39, 3) := by decide +kernel
theorem dX7_parseNumber_104 : decode cX7_parseNumber 104 = .ok (.l2d, 1) := by decide +kernel
theorem dX7_parseNumber_105 : decode cX7_parseNumber 105 = .ok (.ddiv, 1) := by decide +kernel
theorem dX7_parseNumber_106 : decode cX7_parseNumber 106 = .ok (.dstore 4, 2) := by decide +kernel
theorem dX7_parseNumber_108 : decode cX7_parseNumber 108 = .ok (.aload_n 1, 1) := by decide +kernel
theorem dX7_parseNumber_109 : decode cX7_parseNumber 109 = .ok (.iload_n 2, 1) := by decide +kernel
theorem dX7_parseNumber_110 : decode cX7_parseNumber 110 = .ok (.ifCond .eq 10, 3) := by decide +kernel
theorem dX7_parseNumber_113 : decode cX7_parseNumber 113 = .ok (.dconst 0, 1) := by decide +kernel
theorem dX7_parseNumber_114 : decode cX7_parseNumber 114 = .ok (.dload 4, 2) := by decide +kernel
theorem dX7_parseNumber_116 : decode cX7_parseNumber 116 = .ok (.dsub, 1) := by decide +kernel
theorem dX7_parseNumber_117 : decode cX7_parseNumber 117 = .ok (.goto 5, 3) := by decide +kernel
theorem dX7_parseNumber_120 : decode cX7_parseNumber 120 = .ok (.dload 4, 2) := by decide +kernel
theorem dX7_parseNumber_122 : decode cX7_parseNumber 122 = .ok (.invokevirtual 43, 3) := by decide +kernel
theorem dX7_parseNumber_125 : decode cX7_parseNumber 125 = .ok (.iconst 1, 1) := by decide +kernel
theorem dX7_parseNumber_126 : decode cX7_parseNumber 126 = .ok (.ireturn, 1) := by decide +kernel
set_option maxRecDepth 20000 in
theorem ggX7_parseDigits_X7_isDigitHere : GoodIn wsX7_parseDigits wsX7_isDigitHere := goodIn_r _ [9, 1, 10, 4, 11, 12, 13, 14] (by decide +kernel) (by decide +kernel)
set_option maxRecDepth 20000 in
theorem gX7_parseDigits_X7_isDigitHere : GoodIn wsX7_parseDigits (wsV RX7 47 RX7 yX7_isDigitHere wsX7_isDigitHere) := goodIn_app (goodIn_of _ (by decide +kernel)) ggX7_parseDigits_X7_isDigitHere
theorem dX7_parseDigits_0 : decode cX7_parseDigits 0 = .ok (.aload_n 0, 1) := by decide +kernel
theorem dX7_parseDigits_1 : decode cX7_parseDigits 1 = .ok (.getfield 17, 3) := by decide +kernel
theorem dX7_parseDigits_4 : decode cX7_parseDigits 4 = .ok (.istore_n 2, 1) := by decide +kernel
theorem dX7_parseDigits_5 : decode cX7_parseDigits 5 = .ok (.iconst 0, 1) := by decide +kernel
theorem dX7_parseDigits_6 : decode cX7_parseDigits 6 = .ok (.istore_n 3, 1) := by decide +kernel
theorem dX7_parseDigits_7 : decode cX7_parseDigits 7 = .ok (.iload_n 3, 1) := by decide +kernel
theorem dX7_parseDigits_8 : decode cX7_parseDigits 8 = .ok (.iload_n 1, 1) := by decide +kernel
theorem dX7_parseDigits_9 : decode cX7_parseDigits 9 = .ok (.if_icmp .ge 52, 3) := by decide +kernel
theorem dX7_parseDigits_12 : decode cX7_parseDigits 12 = .ok (.aload_n 0, 1) := by decide +kernel
theorem dX7_parseDigits_13 : decode cX7_parseDigits 13 = .ok (.invokevirtual 47, 3) := by decide +kernel
theorem dX7_parseDigits_16 : decode cX7_parseDigits 16 = .ok (.ifCond .eq 45, 3) := by decide +kernel
theorem dX7_parseDigits_19 : decode cX7_parseDigits 19 = .ok (.aload_n 0, 1) := by decide +kernel
theorem dX7_parseDigits_20 : decode cX7_parseDigits 20 = .ok (.aload_n 0, 1) := by decide +kernel
theorem dX7_parseDigits_21 : decode cX7_parseDigits 21 = .ok (.getfield 20, 3) := by decide +kernel
theorem dX7_parseDigits_24 : decode cX7_parseDigits 24 = .ok (.ldc2_w 51, 3) := by decide +kernel
theorem dX7_parseDigits_27 : decode cX7_parseDigits 27 = .ok (.lmul, 1) := by decide +kernel
theorem dX7_parseDigits_28 : decode cX7_parseDigits 28 = .ok (.aload_n 0, 1) := by decide +kernel
theorem dX7_parseDigits_29 : decode cX7_parseDigits 29 = .ok (.getfield 9, 3) := by decide +kernel
theorem dX7_parseDigits_32 : decode cX7_parseDigits 32 = .ok (.aload_n 0, 1) := by decide +kernel
theorem dX7_parseDigits_33 : decode cX7_parseDigits 33 = .ok (.getfield 17, 3) := by decide +kernel
theorem dX7_parseDigits_36 : decode cX7_parseDigits 36 = .ok (.caload, 1) := by decide +kernel
theorem dX7_parseDigits_37 : decode cX7_parseDigits 37 = .ok (.bipush 48, 2) := by decide +kernel
theorem dX7_parseDigits_39 : decode cX7_parseDigits 39 = .ok (.isub, 1) := by decide +kernel
theorem dX7_parseDigits_40 : decode cX7_parseDigits 40 = .ok (.i2l, 1) := by decide +kernel
theorem dX7_parseDigits_41 : decode cX7_parseDigits 41 = .ok (.ladd, 1) := by decide +kernel
theorem dX7_parseDigits_42 : decode cX7_parseDigits 42 = .ok (.putfield 20, 3) := by decide +kernel
theorem dX7_parseDigits_45 : decode cX7_parseDigits 45 = .ok (.aload_n 0, 1) := by decide +kernel
theorem dX7_parseDigits_46 : decode cX7_parseDigits 46 = .ok (.dup, 1) := by decide +kernel
theorem dX7_parseDigits_47 : decode cX7_parseDigits 47 = .ok (.getfield 17, 3) := by decide +kernel
theorem dX7_parseDigits_50 : decode cX7_parseDigits 50 = .ok (.iconst 1, 1) := by decide +kernel
theorem dX7_parseDigits_51 : decode cX7_parseDigits 51 = .ok (.iadd, 1) := by decide +kernel
theorem dX7_parseDigits_52 : decode cX7_parseDigits 52 = .ok (.putfield 17, 3) := by decide +kernel
theorem dX7_parseDigits_55 : decode cX7_parseDigits 55 = .ok (.iinc 3 1, 3) := by decide +kernel
theorem dX7_parseDigits_58 : decode cX7_parseDigits 58 = .ok (.goto (-51), 3) := by decide +kernel
theorem dX7_parseDigits_61 : decode cX7_parseDigits 61 = .ok (.aload_n 0, 1) := by decide +kernel
theorem dX7_parseDigits_62 : decode cX7_parseDigits 62 = .ok (.getfield 17, 3) := by decide +kernel
theorem dX7_parseDigits_65 : decode cX7_parseDigits 65 = .ok (.iload_n 2, 1) := by decide +kernel
theorem dX7_parseDigits_66 : decode cX7_parseDigits 66 = .ok (.if_icmp .le 7, 3) := by decide +kernel
theorem dX7_parseDigits_69 : decode cX7_parseDigits 69 = .ok (.iconst 1, 1) := by decide +kernel
theorem dX7_parseDigits_70 : decode cX7_parseDigits 70 = .ok (.goto 4, 3) := by decide +kernel
theorem dX7_parseDigits_73 : decode cX7_parseDigits 73 = .ok (.iconst 0, 1) := by decide +kernel
theorem dX7_parseDigits_74 : decode cX7_parseDigits 74 = .ok (.ireturn, 1) := by decide +kernel
theorem dX7_tenToThe_0 : decode cX7_tenToThe 0 = .ok (.lconst 1, 1) := by decide +kernel
theorem dX7_tenToThe_1 : decode cX7_tenToThe 1 = .ok (.lstore_n 1, 1) := by decide +kernel
theorem dX7_tenToThe_2 : decode cX7_tenToThe 2 = .ok (.iconst 0, 1) := by decide +kernel
theorem dX7_tenToThe_3 : decode cX7_tenToThe 3 = .ok (.istore_n 3, 1) := by decide +kernel
theorem dX7_tenToThe_4 : decode cX7_tenToThe 4 = .ok (.iload_n 3, 1) := by decide +kernel
theorem dX7_tenToThe_5 : decode cX7_tenToThe 5 = .ok (.iload_n 0, 1) := by decide +kernel
theorem dX7_tenToThe_6 : decode cX7_tenToThe 6 = .ok (.if_icmp .ge 15, 3) := by decide +kernel
theorem dX7_tenToThe_9 : decode cX7_tenToThe 9 = .ok (.lload_n 1, 1) := by decide +kernel
theorem dX7_tenToThe_10 : decode cX7_tenToThe 10 = .ok (.ldc2_w 51, 3) := by decide +kernel
theorem dX7_tenToThe_13 : decode cX7_tenToThe 13 = .ok (.lmul, 1) := by decide +kernel
theorem dX7_tenToThe_14 : decode cX7_tenToThe 14 = .ok (.lstore_n 1, 1) := by decide +kernel
theorem dX7_tenToThe_15 : decode cX7_tenToThe 15 = .ok (.iinc 3 1, 3) := by decide +kernel
theorem dX7_tenToThe_18 : decode cX7_tenToThe 18 = .ok (.goto (-14), 3) := by decide +kernel
theorem dX7_tenToThe_21 : decode cX7_tenToThe 21 = .ok (.lload_n 1, 1) := by decide +kernel
theorem dX7_tenToThe_22 : decode cX7_tenToThe 22 = .ok (.lreturn, 1) := by decide +kernel
set_option maxRecDepth 20000 in
theorem ggX8_init_X5_init : GoodIn wsX8_init wsX5_init := goodIn_r _ [28, 29, 2, 3, 30, 23, 24, 31, 32, 33, 34, 35, 36, 37, 38, 39, 40, 41, 42, 43, 103, 104, 75, 76, 77, 78] (by decide +kernel) (by decide +kernel)
set_option maxRecDepth 20000 in
theorem gX8_init_X5_init : GoodIn wsX8_init (wsX5_init) := ggX8_init_X5_init
set_option maxRecDepth 20000 in
theorem ggX8_init_X2_init : GoodIn wsX8_init wsX2_init := goodIn_r _ [46, 47, 2, 3, 48, 49, 50, 51, 5, 6, 52, 27, 28, 29, 30, 23, 24, 31, 32, 33, 34, 35, 36, 37, 38, 39, 40, 41, 42, 43, 86, 87, 88, 75, 76, 77, 78, 103, 104] (by decide +kernel) (by decide +kernel)
set_option maxRecDepth 20000 in
theorem gX8_init_X2_init : GoodIn wsX8_init (wsX2_init) := ggX8_init_X2_init
set_option maxRecDepth 20000 in
theorem ggX8_init_X7_init : GoodIn wsX8_init wsX7_init := goodIn_r _ [54, 55, 2, 3, 56, 57, 58, 59, 60, 89, 90, 91, 92] (by decide +kernel) (by decide +kernel)
set_option maxRecDepth 20000 in
theorem gX8_init_X7_init_n32 : GoodIn wsX8_init (wsX7_init) := ggX8_init_X7_init
set_option maxRecDepth 20000 in
theorem ggX8_init_X1_init : GoodIn wsX8_init wsX1_init := goodIn_r _ [62, 63, 2, 3, 33, 64, 65, 66, 67, 68, 69, 70, 71, 72, 73, 74, 93, 94, 95, 96, 97, 98, 99, 100, 101, 102] (by decide +kernel) (by decide +kernel)
set_option maxRecDepth 20000 in
theorem gX8_init_X1_init_n39 : GoodIn wsX8_init (wsX1_init) := ggX8_init_X1_init
set_option maxRecDepth 20000 in
theorem ggX8_init_X4_init : GoodIn wsX8_init wsX4_init := goodIn_r _ [40, 41, 2, 3, 33, 42, 43, 103, 104] (by decide +kernel) (by decide +kernel)
set_option maxRecDepth 20000 in
theorem gX8_init_X4_init_n46 : GoodIn wsX8_init (wsX4_init) := ggX8_init_X4_init
theorem dX8_init_0 : decode cX8_init 0 = .ok (.aload_n 0, 1) := by decide +kernel
theorem dX8_init_1 : decode cX8_init 1 = .ok (.invokespecial 1, 3) := by decide +kernel
theorem dX8_init_4 : decode cX8_init 4 = .ok (.aload_n 0, 1) := by decide +kernel
theorem dX8_init_5 : decode cX8_init 5 = .ok (.new 7, 3) := by decide +kernel
theorem dX8_init_8 : decode cX8_init 8 = .ok (.dup, 1) := by decide +kernel
theorem dX8_init_9 : decode cX8_init 9 = .ok (.invokespecial 9, 3) := by decide +kernel
theorem dX8_init_12 : decode cX8_init 12 = .ok (.putfield 10, 3) := by decide +kernel
theorem dX8_init_15 : decode cX8_init 15 = .ok (.aload_n 0, 1) := by decide +kernel
theorem dX8_init_16 : decode cX8_init 16 = .ok (.new 7, 3) := by decide +kernel
theorem dX8_init_19 : decode cX8_init 19 = .ok (.dup, 1) := by decide +kernel
theorem dX8_init_20 : decode cX8_init 20 = .ok (.invokespecial 9, 3) := by decide +kernel
theorem dX8_init_23 : decode cX8_init 23 = .ok (.putfield 16, 3) := by decide +kernel
theorem dX8_init_26 : decode cX8_init 26 = .ok (.aload_n 0, 1) := by decide +kernel
theorem dX8_init_27 : decode cX8_init 27 = .ok (.iconst 0, 1) := by decide +kernel
theorem dX8_init_28 : decode cX8_init 28 = .ok (.putfield 19, 3) := by decide +kernel
theorem dX8_init_31 : decode cX8_init 31 = .ok (.aload_n 0, 1) := by decide +kernel
theorem dX8_init_32 : decode cX8_init 32 = .ok (.new 23, 3) := by decide +kernel
theorem dX8_init_35 : decode cX8_init 35 = .ok (.dup, 1) := by decide +kernel
theorem dX8_init_36 : decode cX8_init 36 = .ok (.invokespecial 25, 3) := by decide +kernel
theorem dX8_init_39 : decode cX8_init 39 = .ok (.putfield 26, 3) := by decide +kernel
theorem dX8_init_42 : decode cX8_init 42 = .ok (.aload_n 0, 1) := by decide +kernel
theorem dX8_init_43 : decode cX8_init 43 = .ok (.new 30, 3) := by decide +kernel
theorem dX8_init_46 : decode cX8_init 46 = .ok (.dup, 1) := by decide +kernel
theorem dX8_init_47 : decode cX8_init 47 = .ok (.invokespecial 32, 3) := by decide +kernel
theorem dX8_init_50 : decode cX8_init 50 = .ok (.putfield 33, 3) := by decide +kernel
theorem dX8_init_53 : decode cX8_init 53 = .ok (.aload_n 0, 1) := by decide +kernel
theorem dX8_init_54 : decode cX8_init 54 = .ok (.new 37, 3) := by decide +kernel
theorem dX8_init_57 : decode cX8_init 57 = .ok (.dup, 1) := by decide +kernel
theorem dX8_init_58 : decode cX8_init 58 = .ok (.invokespecial 39, 3) := by decide +kernel
theorem dX8_init_61 : decode cX8_init 61 = .ok (.putfield 40, 3) := by decide +kernel
theorem dX8_init_64 : decode cX8_init 64 = .ok (.aload_n 0, 1) := by decide +kernel
theorem dX8_init_65 : decode cX8_init 65 = .ok (.new 44, 3) := by decide +kernel
theorem dX8_init_68 : decode cX8_init 68 = .ok (.dup, 1) := by decide +kernel
theorem dX8_init_69 : decode cX8_init 69 = .ok (.invokespecial 46, 3) := by decide +kernel
theorem dX8_init_72 : decode cX8_init 72 = .ok (.putfield 47, 3) := by decide +kernel
theorem dX8_init_75 : decode cX8_init 75 = .ok (.return_, 1) := by decide +kernel
set_option maxRecDepth 20000 in
theorem ggX8_add_X8_isRow : GoodIn wsX8_add wsX8_isRow := goodIn_r _ [7] (by decide +kernel) (by decide +kernel)
set_option maxRecDepth 20000 in
theorem gX8_add_X8_isRow : GoodIn wsX8_add (va_wsS RX8 51 yX8_isRow wsX8_isRow) := goodIn_app (goodIn_of _ (by decide +kernel)) ggX8_add_X8_isRow
set_option maxRecDepth 20000 in
theorem ggX8_add_X0_fitRow : GoodIn wsX8_add wsX0_fitRow := goodIn_r _ [11, 12, 13, 10, 14, 15, 16, 17, 18, 19, 20, 21, 22, 23, 24, 25, 26, 27, 28, 29, 30, 31, 32, 33, 34] (by decide +kernel) (by decide +kernel)
set_option maxRecDepth 20000 in
theorem gX8_add_X0_fitRow : GoodIn wsX8_add (va_wsS RX8 55 yX0_fitRow wsX0_fitRow) := goodIn_app (goodIn_of _ (by decide +kernel)) ggX8_add_X0_fitRow
set_option maxRecDepth 20000 in
theorem ggX8_add_X5_rowAt : GoodIn wsX8_add wsX5_rowAt := goodIn_r _ [39, 40, 41, 82, 83, 84, 85] (by decide +kernel) (by decide +kernel)
set_option maxRecDepth 20000 in
theorem gX8_add_X5_rowAt : GoodIn wsX8_add (wsV RX8 61 RX5 yX5_rowAt wsX5_rowAt) := goodIn_app (goodIn_of _ (by decide +kernel)) ggX8_add_X5_rowAt
set_option maxRecDepth 20000 in
theorem ggX8_add_X2_remember : GoodIn wsX8_add wsX2_remember := goodIn_r _ [46, 47, 48, 49, 50, 51, 52, 38, 53, 40, 41, 54, 55, 56, 57, 58, 59, 60, 61, 62, 63, 64, 65, 66, 67, 86, 87, 88, 82, 83, 84, 85, 80, 81] (by decide +kernel) (by decide +kernel)
set_option maxRecDepth 20000 in
theorem gX8_add_X2_remember : GoodIn wsX8_add (wsV RX8 69 RX2 yX2_remember wsX2_remember) := goodIn_app (goodIn_of _ (by decide +kernel)) ggX8_add_X2_remember
set_option maxRecDepth 20000 in
theorem ggX8_add_X0_decoded : GoodIn wsX8_add wsX0_decoded := goodIn_r _ [22, 15, 23, 16, 17, 10, 18, 19, 24, 25, 26, 27, 28] (by decide +kernel) (by decide +kernel)
set_option maxRecDepth 20000 in
theorem gX8_add_X0_decoded : GoodIn wsX8_add (va_wsS RX8 73 yX0_decoded wsX0_decoded) := goodIn_app (goodIn_of _ (by decide +kernel)) ggX8_add_X0_decoded
set_option maxRecDepth 20000 in
theorem ggX8_add_X4_append : GoodIn wsX8_add wsX4_append := goodIn_r _ [72, 67, 65, 80, 81] (by decide +kernel) (by decide +kernel)
set_option maxRecDepth 20000 in
theorem gX8_add_X4_append : GoodIn wsX8_add (wsV RX8 77 RX4 yX4_append wsX4_append) := goodIn_app (goodIn_of _ (by decide +kernel)) ggX8_add_X4_append
theorem dX8_add_0 : decode cX8_add 0 = .ok (.iload_n 1, 1) := by decide +kernel
theorem dX8_add_1 : decode cX8_add 1 = .ok (.invokestatic 51, 3) := by decide +kernel
theorem dX8_add_4 : decode cX8_add 4 = .ok (.ifCond .ne 5, 3) := by decide +kernel
theorem dX8_add_7 : decode cX8_add 7 = .ok (.iconst (-1), 1) := by decide +kernel
theorem dX8_add_8 : decode cX8_add 8 = .ok (.ireturn, 1) := by decide +kernel
theorem dX8_add_9 : decode cX8_add 9 = .ok (.lload_n 2, 1) := by decide +kernel
theorem dX8_add_10 : decode cX8_add 10 = .ok (.invokestatic 55, 3) := by decide +kernel
theorem dX8_add_13 : decode cX8_add 13 = .ok (.ifCond .ne 6, 3) := by decide +kernel
theorem dX8_add_16 : decode cX8_add 16 = .ok (.bipush (-2), 2) := by decide +kernel
theorem dX8_add_18 : decode cX8_add 18 = .ok (.ireturn, 1) := by decide +kernel
theorem dX8_add_19 : decode cX8_add 19 = .ok (.aload_n 0, 1) := by decide +kernel
theorem dX8_add_20 : decode cX8_add 20 = .ok (.getfield 10, 3) := by decide +kernel
theorem dX8_add_23 : decode cX8_add 23 = .ok (.iload_n 1, 1) := by decide +kernel
theorem dX8_add_24 : decode cX8_add 24 = .ok (.invokevirtual 61, 3) := by decide +kernel
theorem dX8_add_27 : decode cX8_add 27 = .ok (.astore 4, 2) := by decide +kernel
theorem dX8_add_29 : decode cX8_add 29 = .ok (.aload 4, 2) := by decide +kernel
theorem dX8_add_31 : decode cX8_add 31 = .ok (.getfield 65, 3) := by decide +kernel
theorem dX8_add_34 : decode cX8_add 34 = .ok (.bipush 16, 2) := by decide +kernel
theorem dX8_add_36 : decode cX8_add 36 = .ok (.if_icmp .ne 6, 3) := by decide +kernel
theorem dX8_add_39 : decode cX8_add 39 = .ok (.bipush (-3), 2) := by decide +kernel
theorem dX8_add_41 : decode cX8_add 41 = .ok (.ireturn, 1) := by decide +kernel
theorem dX8_add_42 : decode cX8_add 42 = .ok (.aload_n 0, 1) := by decide +kernel
theorem dX8_add_43 : decode cX8_add 43 = .ok (.getfield 26, 3) := by decide +kernel
theorem dX8_add_46 : decode cX8_add 46 = .ok (.aload_n 0, 1) := by decide +kernel
theorem dX8_add_47 : decode cX8_add 47 = .ok (.getfield 10, 3) := by decide +kernel
theorem dX8_add_50 : decode cX8_add 50 = .ok (.invokevirtual 69, 3) := by decide +kernel
theorem dX8_add_53 : decode cX8_add 53 = .ok (.aload 4, 2) := by decide +kernel
theorem dX8_add_55 : decode cX8_add 55 = .ok (.lload_n 2, 1) := by decide +kernel
theorem dX8_add_56 : decode cX8_add 56 = .ok (.invokestatic 73, 3) := by decide +kernel
theorem dX8_add_59 : decode cX8_add 59 = .ok (.invokevirtual 77, 3) := by decide +kernel
theorem dX8_add_62 : decode cX8_add 62 = .ok (.aload 4, 2) := by decide +kernel
theorem dX8_add_64 : decode cX8_add 64 = .ok (.getfield 65, 3) := by decide +kernel
theorem dX8_add_67 : decode cX8_add 67 = .ok (.ireturn, 1) := by decide +kernel
set_option maxRecDepth 20000 in
theorem ggX8_cut_X8_isRow : GoodIn wsX8_cut wsX8_isRow := goodIn_r _ [7] (by decide +kernel) (by decide +kernel)
set_option maxRecDepth 20000 in
theorem gX8_cut_X8_isRow : GoodIn wsX8_cut (va_wsS RX8 51 yX8_isRow wsX8_isRow) := goodIn_app (goodIn_of _ (by decide +kernel)) ggX8_cut_X8_isRow
set_option maxRecDepth 20000 in
theorem ggX8_cut_X5_rowAt : GoodIn wsX8_cut wsX5_rowAt := goodIn_r _ [12, 13, 14, 50, 51, 52, 53] (by decide +kernel) (by decide +kernel)
set_option maxRecDepth 20000 in
theorem gX8_cut_X5_rowAt : GoodIn wsX8_cut (wsV RX8 61 RX5 yX5_rowAt wsX5_rowAt) := goodIn_app (goodIn_of _ (by decide +kernel)) ggX8_cut_X5_rowAt
set_option maxRecDepth 20000 in
theorem ggX8_cut_X2_remember : GoodIn wsX8_cut wsX2_remember := goodIn_r _ [19, 20, 21, 22, 23, 24, 25, 11, 26, 13, 14, 27, 28, 29, 30, 31, 32, 33, 34, 35, 36, 37, 38, 39, 40, 54, 55, 56, 50, 51, 52, 53, 48, 49] (by decide +kernel) (by decide +kernel)
set_option maxRecDepth 20000 in
theorem gX8_cut_X2_remember : GoodIn wsX8_cut (wsV RX8 69 RX2 yX2_remember wsX2_remember) := goodIn_app (goodIn_of _ (by decide +kernel)) ggX8_cut_X2_remember
theorem dX8_cut_0 : decode cX8_cut 0 = .ok (.iload_n 1, 1) := by decide +kernel
theorem dX8_cut_1 : decode cX8_cut 1 = .ok (.invokestatic 51, 3) := by decide +kernel
theorem dX8_cut_4 : decode cX8_cut 4 = .ok (.ifCond .ne 5, 3) := by decide +kernel
theorem dX8_cut_7 : decode cX8_cut 7 = .ok (.iconst (-1), 1) := by decide +kernel
theorem dX8_cut_8 : decode cX8_cut 8 = .ok (.ireturn, 1) := by decide +kernel
theorem dX8_cut_9 : decode cX8_cut 9 = .ok (.iload_n 2, 1) := by decide +kernel
theorem dX8_cut_10 : decode cX8_cut 10 = .ok (.iconst 1, 1) := by decide +kernel
theorem dX8_cut_11 : decode cX8_cut 11 = .ok (.if_icmp .lt 9, 3) := by decide +kernel
theorem dX8_cut_14 : decode cX8_cut 14 = .ok (.iload_n 2, 1) := by decide +kernel
theorem dX8_cut_15 : decode cX8_cut 15 = .ok (.bipush 16, 2) := by decide +kernel
theorem dX8_cut_17 : decode cX8_cut 17 = .ok (.if_icmp .le 6, 3) := by decide +kernel
theorem dX8_cut_20 : decode cX8_cut 20 = .ok (.bipush (-2), 2) := by decide +kernel
theorem dX8_cut_22 : decode cX8_cut 22 = .ok (.ireturn, 1) := by decide +kernel
theorem dX8_cut_23 : decode cX8_cut 23 = .ok (.aload_n 0, 1) := by decide +kernel
theorem dX8_cut_24 : decode cX8_cut 24 = .ok (.getfield 10, 3) := by decide +kernel
theorem dX8_cut_27 : decode cX8_cut 27 = .ok (.iload_n 1, 1) := by decide +kernel
theorem dX8_cut_28 : decode cX8_cut 28 = .ok (.invokevirtual 61, 3) := by decide +kernel
theorem dX8_cut_31 : decode cX8_cut 31 = .ok (.astore_n 3, 1) := by decide +kernel
theorem dX8_cut_32 : decode cX8_cut 32 = .ok (.iload_n 2, 1) := by decide +kernel
theorem dX8_cut_33 : decode cX8_cut 33 = .ok (.aload_n 3, 1) := by decide +kernel
theorem dX8_cut_34 : decode cX8_cut 34 = .ok (.getfield 65, 3) := by decide +kernel
theorem dX8_cut_37 : decode cX8_cut 37 = .ok (.if_icmp .le 6, 3) := by decide +kernel
theorem dX8_cut_40 : decode cX8_cut 40 = .ok (.bipush (-4), 2) := by decide +kernel
theorem dX8_cut_42 : decode cX8_cut 42 = .ok (.ireturn, 1) := by decide +kernel
theorem dX8_cut_43 : decode cX8_cut 43 = .ok (.aload_n 0, 1) := by decide +kernel
theorem dX8_cut_44 : decode cX8_cut 44 = .ok (.getfield 26, 3) := by decide +kernel
theorem dX8_cut_47 : decode cX8_cut 47 = .ok (.aload_n 0, 1) := by decide +kernel
theorem dX8_cut_48 : decode cX8_cut 48 = .ok (.getfield 10, 3) := by decide +kernel
theorem dX8_cut_51 : decode cX8_cut 51 = .ok (.invokevirtual 69, 3) := by decide +kernel
theorem dX8_cut_54 : decode cX8_cut 54 = .ok (.aload_n 3, 1) := by decide +kernel
theorem dX8_cut_55 : decode cX8_cut 55 = .ok (.aload_n 3, 1) := by decide +kernel
theorem dX8_cut_56 : decode cX8_cut 56 = .ok (.getfield 65, 3) := by decide +kernel
theorem dX8_cut_59 : decode cX8_cut 59 = .ok (.iload_n 2, 1) := by decide +kernel
theorem dX8_cut_60 : decode cX8_cut 60 = .ok (.isub, 1) := by decide +kernel
theorem dX8_cut_61 : decode cX8_cut 61 = .ok (.putfield 65, 3) := by decide +kernel
theorem dX8_cut_64 : decode cX8_cut 64 = .ok (.aload_n 3, 1) := by decide +kernel
theorem dX8_cut_65 : decode cX8_cut 65 = .ok (.getfield 65, 3) := by decide +kernel
theorem dX8_cut_68 : decode cX8_cut 68 = .ok (.ireturn, 1) := by decide +kernel
set_option maxRecDepth 20000 in
theorem ggX8_set_X8_isRow : GoodIn wsX8_set wsX8_isRow := goodIn_r _ [7] (by decide +kernel) (by decide +kernel)
set_option maxRecDepth 20000 in
theorem gX8_set_X8_isRow : GoodIn wsX8_set (va_wsS RX8 51 yX8_isRow wsX8_isRow) := goodIn_app (goodIn_of _ (by decide +kernel)) ggX8_set_X8_isRow
set_option maxRecDepth 20000 in
theorem ggX8_set_X5_rowAt : GoodIn wsX8_set wsX5_rowAt := goodIn_r _ [12, 13, 14, 85, 86, 87, 88] (by decide +kernel) (by decide +kernel)
set_option maxRecDepth 20000 in
theorem gX8_set_X5_rowAt : GoodIn wsX8_set (wsV RX8 61 RX5 yX5_rowAt wsX5_rowAt) := goodIn_app (goodIn_of _ (by decide +kernel)) ggX8_set_X5_rowAt
set_option maxRecDepth 20000 in
theorem ggX8_set_X4_hasPlace : GoodIn wsX8_set wsX4_hasPlace := goodIn_r _ [19, 20, 83, 84] (by decide +kernel) (by decide +kernel)
set_option maxRecDepth 20000 in
theorem gX8_set_X4_hasPlace : GoodIn wsX8_set (wsV RX8 81 RX4 yX4_hasPlace wsX4_hasPlace) := goodIn_app (goodIn_of _ (by decide +kernel)) ggX8_set_X4_hasPlace
set_option maxRecDepth 20000 in
theorem ggX8_set_X0_fitRow : GoodIn wsX8_set wsX0_fitRow := goodIn_r _ [24, 25, 26, 23, 27, 28, 29, 30, 31, 32, 33, 34, 35, 36, 37, 38, 39, 40, 41, 42, 43, 44, 45, 46, 47] (by decide +kernel) (by decide +kernel)
set_option maxRecDepth 20000 in
theorem gX8_set_X0_fitRow : GoodIn wsX8_set (va_wsS RX8 55 yX0_fitRow wsX0_fitRow) := goodIn_app (goodIn_of _ (by decide +kernel)) ggX8_set_X0_fitRow
set_option maxRecDepth 20000 in
theorem ggX8_set_X0_decoded : GoodIn wsX8_set wsX0_decoded := goodIn_r _ [35, 28, 36, 29, 30, 23, 31, 32, 37, 38, 39, 40, 41] (by decide +kernel) (by decide +kernel)
set_option maxRecDepth 20000 in
theorem gX8_set_X0_decoded : GoodIn wsX8_set (va_wsS RX8 73 yX0_decoded wsX0_decoded) := goodIn_app (goodIn_of _ (by decide +kernel)) ggX8_set_X0_decoded
set_option maxRecDepth 20000 in
theorem ggX8_set_X3_sameBits : GoodIn wsX8_set wsX3_sameBits := goodIn_r _ [51] (by decide +kernel) (by decide +kernel)
set_option maxRecDepth 20000 in
theorem gX8_set_X3_sameBits : GoodIn wsX8_set (va_wsS RX8 88 yX3_sameBits wsX3_sameBits) := goodIn_app (goodIn_of _ (by decide +kernel)) ggX8_set_X3_sameBits
set_option maxRecDepth 20000 in
theorem ggX8_set_X2_remember : GoodIn wsX8_set wsX2_remember := goodIn_r _ [56, 57, 58, 59, 60, 61, 62, 11, 63, 13, 14, 64, 65, 66, 67, 68, 69, 70, 71, 72, 18, 73, 74, 75, 20, 89, 90, 91, 85, 86, 87, 88, 83, 84] (by decide +kernel) (by decide +kernel)
set_option maxRecDepth 20000 in
theorem gX8_set_X2_remember : GoodIn wsX8_set (wsV RX8 69 RX2 yX2_remember wsX2_remember) := goodIn_app (goodIn_of _ (by decide +kernel)) ggX8_set_X2_remember
theorem dX8_set_0 : decode cX8_set 0 = .ok (.iload_n 1, 1) := by decide +kernel
theorem dX8_set_1 : decode cX8_set 1 = .ok (.invokestatic 51, 3) := by decide +kernel
theorem dX8_set_4 : decode cX8_set 4 = .ok (.ifCond .eq 18, 3) := by decide +kernel
theorem dX8_set_7 : decode cX8_set 7 = .ok (.aload_n 0, 1) := by decide +kernel
theorem dX8_set_8 : decode cX8_set 8 = .ok (.getfield 10, 3) := by decide +kernel
theorem dX8_set_11 : decode cX8_set 11 = .ok (.iload_n 1, 1) := by decide +kernel
theorem dX8_set_12 : decode cX8_set 12 = .ok (.invokevirtual 61, 3) := by decide +kernel
theorem dX8_set_15 : decode cX8_set 15 = .ok (.iload_n 2, 1) := by decide +kernel
theorem dX8_set_16 : decode cX8_set 16 = .ok (.invokevirtual 81, 3) := by decide +kernel
theorem dX8_set_19 : decode cX8_set 19 = .ok (.ifCond .ne 5, 3) := by decide +kernel
theorem dX8_set_22 : decode cX8_set 22 = .ok (.iconst (-1), 1) := by decide +kernel
theorem dX8_set_23 : decode cX8_set 23 = .ok (.ireturn, 1) := by decide +kernel
theorem dX8_set_24 : decode cX8_set 24 = .ok (.lload_n 3, 1) := by decide +kernel
theorem dX8_set_25 : decode cX8_set 25 = .ok (.invokestatic 55, 3) := by decide +kernel
theorem dX8_set_28 : decode cX8_set 28 = .ok (.ifCond .ne 6, 3) := by decide +kernel
theorem dX8_set_31 : decode cX8_set 31 = .ok (.bipush (-2), 2) := by decide +kernel
theorem dX8_set_33 : decode cX8_set 33 = .ok (.ireturn, 1) := by decide +kernel
theorem dX8_set_34 : decode cX8_set 34 = .ok (.aload_n 0, 1) := by decide +kernel
theorem dX8_set_35 : decode cX8_set 35 = .ok (.getfield 10, 3) := by decide +kernel
theorem dX8_set_38 : decode cX8_set 38 = .ok (.iload_n 1, 1) := by decide +kernel
theorem dX8_set_39 : decode cX8_set 39 = .ok (.invokevirtual 61, 3) := by decide +kernel
theorem dX8_set_42 : decode cX8_set 42 = .ok (.astore 5, 2) := by decide +kernel
theorem dX8_set_44 : decode cX8_set 44 = .ok (.lload_n 3, 1) := by decide +kernel
theorem dX8_set_45 : decode cX8_set 45 = .ok (.invokestatic 73, 3) := by decide +kernel
theorem dX8_set_48 : decode cX8_set 48 = .ok (.dstore 6, 2) := by decide +kernel
theorem dX8_set_50 : decode cX8_set 50 = .ok (.aload 5, 2) := by decide +kernel
theorem dX8_set_52 : decode cX8_set 52 = .ok (.getfield 84, 3) := by decide +kernel
theorem dX8_set_55 : decode cX8_set 55 = .ok (.iload_n 2, 1) := by decide +kernel
theorem dX8_set_56 : decode cX8_set 56 = .ok (.daload, 1) := by decide +kernel
theorem dX8_set_57 : decode cX8_set 57 = .ok (.dload 6, 2) := by decide +kernel
theorem dX8_set_59 : decode cX8_set 59 = .ok (.invokestatic 88, 3) := by decide +kernel
theorem dX8_set_62 : decode cX8_set 62 = .ok (.ifCond .eq 6, 3) := by decide +kernel
theorem dX8_set_65 : decode cX8_set 65 = .ok (.bipush (-5), 2) := by decide +kernel
theorem dX8_set_67 : decode cX8_set 67 = .ok (.ireturn, 1) := by decide +kernel
theorem dX8_set_68 : decode cX8_set 68 = .ok (.aload_n 0, 1) := by decide +kernel
theorem dX8_set_69 : decode cX8_set 69 = .ok (.getfield 26, 3) := by decide +kernel
theorem dX8_set_72 : decode cX8_set 72 = .ok (.aload_n 0, 1) := by decide +kernel
theorem dX8_set_73 : decode cX8_set 73 = .ok (.getfield 10, 3) := by decide +kernel
theorem dX8_set_76 : decode cX8_set 76 = .ok (.invokevirtual 69, 3) := by decide +kernel
theorem dX8_set_79 : decode cX8_set 79 = .ok (.aload 5, 2) := by decide +kernel
theorem dX8_set_81 : decode cX8_set 81 = .ok (.getfield 84, 3) := by decide +kernel
theorem dX8_set_84 : decode cX8_set 84 = .ok (.iload_n 2, 1) := by decide +kernel
theorem dX8_set_85 : decode cX8_set 85 = .ok (.dload 6, 2) := by decide +kernel
theorem dX8_set_87 : decode cX8_set 87 = .ok (.dastore, 1) := by decide +kernel
theorem dX8_set_88 : decode cX8_set 88 = .ok (.iload_n 2, 1) := by decide +kernel
theorem dX8_set_89 : decode cX8_set 89 = .ok (.ireturn, 1) := by decide +kernel
set_option maxRecDepth 20000 in
theorem ggX8_read_X8_isRow : GoodIn wsX8_read wsX8_isRow := goodIn_r _ [6] (by decide +kernel) (by decide +kernel)
set_option maxRecDepth 20000 in
theorem gX8_read_X8_isRow : GoodIn wsX8_read (va_wsS RX8 51 yX8_isRow wsX8_isRow) := goodIn_app (goodIn_of _ (by decide +kernel)) ggX8_read_X8_isRow
set_option maxRecDepth 20000 in
theorem ggX8_read_X7_parseInto : GoodIn wsX8_read wsX7_parseInto := goodIn_r _ [11, 12, 13, 14, 15, 16, 17, 10, 18, 19, 20, 21, 22, 23, 24, 25, 26, 27, 28, 29, 30, 31, 32, 33, 34, 35, 36, 37, 38, 39, 40, 41, 42, 43, 89, 90, 91, 92, 93, 94] (by decide +kernel) (by decide +kernel)
set_option maxRecDepth 20000 in
theorem gX8_read_X7_parseInto : GoodIn wsX8_read (wsV RX8 94 RX7 yX7_parseInto wsX7_parseInto) := goodIn_app (goodIn_of _ (by decide +kernel)) ggX8_read_X7_parseInto
set_option maxRecDepth 20000 in
theorem ggX8_read_X8_putDraft : GoodIn wsX8_read wsX8_putDraft := goodIn_r _ [47, 48, 49, 2, 50, 51, 52, 53, 54, 55, 56, 57, 58, 59, 60, 61, 62, 63, 64, 65, 66, 67, 68, 69, 70, 71, 72, 73, 74, 40, 75, 43, 76, 42, 77, 78, 79, 80, 81, 82, 83, 84, 85, 86, 87, 88, 93, 94, 95, 96, 97, 98, 99, 100, 101] (by decide +kernel) (by decide +kernel)
set_option maxRecDepth 20000 in
theorem gX8_read_X8_putDraft : GoodIn wsX8_read (wsV RX8 98 RX8 yX8_putDraft wsX8_putDraft) := goodIn_app (goodIn_of _ (by decide +kernel)) ggX8_read_X8_putDraft
theorem dX8_read_0 : decode cX8_read 0 = .ok (.iload_n 1, 1) := by decide +kernel
theorem dX8_read_1 : decode cX8_read 1 = .ok (.invokestatic 51, 3) := by decide +kernel
theorem dX8_read_4 : decode cX8_read 4 = .ok (.ifCond .ne 5, 3) := by decide +kernel
theorem dX8_read_7 : decode cX8_read 7 = .ok (.iconst (-1), 1) := by decide +kernel
theorem dX8_read_8 : decode cX8_read 8 = .ok (.ireturn, 1) := by decide +kernel
theorem dX8_read_9 : decode cX8_read 9 = .ok (.aload_n 0, 1) := by decide +kernel
theorem dX8_read_10 : decode cX8_read 10 = .ok (.getfield 33, 3) := by decide +kernel
theorem dX8_read_13 : decode cX8_read 13 = .ok (.aload_n 0, 1) := by decide +kernel
theorem dX8_read_14 : decode cX8_read 14 = .ok (.getfield 47, 3) := by decide +kernel
theorem dX8_read_17 : decode cX8_read 17 = .ok (.invokevirtual 94, 3) := by decide +kernel
theorem dX8_read_20 : decode cX8_read 20 = .ok (.istore_n 2, 1) := by decide +kernel
theorem dX8_read_21 : decode cX8_read 21 = .ok (.iload_n 2, 1) := by decide +kernel
theorem dX8_read_22 : decode cX8_read 22 = .ok (.ifCond .ge 5, 3) := by decide +kernel
theorem dX8_read_25 : decode cX8_read 25 = .ok (.iload_n 2, 1) := by decide +kernel
theorem dX8_read_26 : decode cX8_read 26 = .ok (.ireturn, 1) := by decide +kernel
theorem dX8_read_27 : decode cX8_read 27 = .ok (.iload_n 2, 1) := by decide +kernel
theorem dX8_read_28 : decode cX8_read 28 = .ok (.bipush 16, 2) := by decide +kernel
theorem dX8_read_30 : decode cX8_read 30 = .ok (.if_icmp .le 6, 3) := by decide +kernel
theorem dX8_read_33 : decode cX8_read 33 = .ok (.bipush (-3), 2) := by decide +kernel
theorem dX8_read_35 : decode cX8_read 35 = .ok (.ireturn, 1) := by decide +kernel
theorem dX8_read_36 : decode cX8_read 36 = .ok (.aload_n 0, 1) := by decide +kernel
theorem dX8_read_37 : decode cX8_read 37 = .ok (.iload_n 1, 1) := by decide +kernel
theorem dX8_read_38 : decode cX8_read 38 = .ok (.invokevirtual 98, 3) := by decide +kernel
theorem dX8_read_41 : decode cX8_read 41 = .ok (.ireturn, 1) := by decide +kernel
set_option maxRecDepth 20000 in
theorem ggX8_fill_X8_isRow : GoodIn wsX8_fill wsX8_isRow := goodIn_r _ [7] (by decide +kernel) (by decide +kernel)
set_option maxRecDepth 20000 in
theorem gX8_fill_X8_isRow : GoodIn wsX8_fill (va_wsS RX8 51 yX8_isRow wsX8_isRow) := goodIn_app (goodIn_of _ (by decide +kernel)) ggX8_fill_X8_isRow
set_option maxRecDepth 20000 in
theorem ggX8_fill_X6_fillSeries : GoodIn wsX8_fill wsX6_fillSeries := goodIn_r _ [11, 12, 13, 14, 10, 15, 16, 17, 18, 19, 20, 21, 22, 23, 72, 73] (by decide +kernel) (by decide +kernel)
set_option maxRecDepth 20000 in
theorem gX8_fill_X6_fillSeries : GoodIn wsX8_fill (va_wsS RX8 105 yX6_fillSeries wsX6_fillSeries) := goodIn_app (goodIn_of _ (by decide +kernel)) ggX8_fill_X6_fillSeries
set_option maxRecDepth 20000 in
theorem ggX8_fill_X8_putDraft : GoodIn wsX8_fill wsX8_putDraft := goodIn_r _ [27, 28, 2, 1, 29, 30, 31, 32, 33, 34, 35, 36, 37, 38, 39, 40, 41, 42, 43, 44, 45, 46, 47, 48, 49, 50, 51, 52, 53, 20, 54, 23, 55, 22, 56, 57, 58, 59, 60, 61, 62, 63, 64, 65, 66, 67, 72, 73, 74, 75, 76, 68, 69, 70, 71] (by decide +kernel) (by decide +kernel)
set_option maxRecDepth 20000 in
theorem gX8_fill_X8_putDraft : GoodIn wsX8_fill (wsV RX8 98 RX8 yX8_putDraft wsX8_putDraft) := goodIn_app (goodIn_of _ (by decide +kernel)) ggX8_fill_X8_putDraft
theorem dX8_fill_0 : decode cX8_fill 0 = .ok (.iload_n 1, 1) := by decide +kernel
theorem dX8_fill_1 : decode cX8_fill 1 = .ok (.invokestatic 51, 3) := by decide +kernel
theorem dX8_fill_4 : decode cX8_fill 4 = .ok (.ifCond .ne 5, 3) := by decide +kernel
theorem dX8_fill_7 : decode cX8_fill 7 = .ok (.iconst (-1), 1) := by decide +kernel
theorem dX8_fill_8 : decode cX8_fill 8 = .ok (.ireturn, 1) := by decide +kernel
theorem dX8_fill_9 : decode cX8_fill 9 = .ok (.iload_n 2, 1) := by decide +kernel
theorem dX8_fill_10 : decode cX8_fill 10 = .ok (.ifCond .lt 19, 3) := by decide +kernel
theorem dX8_fill_13 : decode cX8_fill 13 = .ok (.iload_n 2, 1) := by decide +kernel
theorem dX8_fill_14 : decode cX8_fill 14 = .ok (.iconst 5, 1) := by decide +kernel
theorem dX8_fill_15 : decode cX8_fill 15 = .ok (.if_icmp .ge 14, 3) := by decide +kernel
theorem dX8_fill_18 : decode cX8_fill 18 = .ok (.iload_n 3, 1) := by decide +kernel
theorem dX8_fill_19 : decode cX8_fill 19 = .ok (.iconst 1, 1) := by decide +kernel
theorem dX8_fill_20 : decode cX8_fill 20 = .ok (.if_icmp .lt 9, 3) := by decide +kernel
theorem dX8_fill_23 : decode cX8_fill 23 = .ok (.iload_n 3, 1) := by decide +kernel
theorem dX8_fill_24 : decode cX8_fill 24 = .ok (.bipush 16, 2) := by decide +kernel
theorem dX8_fill_26 : decode cX8_fill 26 = .ok (.if_icmp .le 6, 3) := by decide +kernel
theorem dX8_fill_29 : decode cX8_fill 29 = .ok (.bipush (-2), 2) := by decide +kernel
theorem dX8_fill_31 : decode cX8_fill 31 = .ok (.ireturn, 1) := by decide +kernel
theorem dX8_fill_32 : decode cX8_fill 32 = .ok (.aload_n 0, 1) := by decide +kernel
theorem dX8_fill_33 : decode cX8_fill 33 = .ok (.getfield 47, 3) := by decide +kernel
theorem dX8_fill_36 : decode cX8_fill 36 = .ok (.iload_n 2, 1) := by decide +kernel
theorem dX8_fill_37 : decode cX8_fill 37 = .ok (.iload_n 3, 1) := by decide +kernel
theorem dX8_fill_38 : decode cX8_fill 38 = .ok (.aload_n 0, 1) := by decide +kernel
theorem dX8_fill_39 : decode cX8_fill 39 = .ok (.getfield 10, 3) := by decide +kernel
theorem dX8_fill_42 : decode cX8_fill 42 = .ok (.getfield 102, 3) := by decide +kernel
theorem dX8_fill_45 : decode cX8_fill 45 = .ok (.iconst 2, 1) := by decide +kernel
theorem dX8_fill_46 : decode cX8_fill 46 = .ok (.daload, 1) := by decide +kernel
theorem dX8_fill_47 : decode cX8_fill 47 = .ok (.invokestatic 105, 3) := by decide +kernel
theorem dX8_fill_50 : decode cX8_fill 50 = .ok (.aload_n 0, 1) := by decide +kernel
theorem dX8_fill_51 : decode cX8_fill 51 = .ok (.iload_n 1, 1) := by decide +kernel
theorem dX8_fill_52 : decode cX8_fill 52 = .ok (.invokevirtual 98, 3) := by decide +kernel
theorem dX8_fill_55 : decode cX8_fill 55 = .ok (.ireturn, 1) := by decide +kernel
set_option maxRecDepth 20000 in
theorem ggX8_sum_X8_isRow : GoodIn wsX8_sum wsX8_isRow := goodIn_r _ [7] (by decide +kernel) (by decide +kernel)
set_option maxRecDepth 20000 in
theorem gX8_sum_X8_isRow : GoodIn wsX8_sum (va_wsS RX8 51 yX8_isRow wsX8_isRow) := goodIn_app (goodIn_of _ (by decide +kernel)) ggX8_sum_X8_isRow
set_option maxRecDepth 20000 in
theorem ggX8_sum_X5_rowAt : GoodIn wsX8_sum wsX5_rowAt := goodIn_r _ [12, 13, 14, 72, 73, 74, 75] (by decide +kernel) (by decide +kernel)
set_option maxRecDepth 20000 in
theorem gX8_sum_X5_rowAt : GoodIn wsX8_sum (wsV RX8 61 RX5 yX5_rowAt wsX5_rowAt) := goodIn_app (goodIn_of _ (by decide +kernel)) ggX8_sum_X5_rowAt
set_option maxRecDepth 20000 in
theorem ggX8_sum_X6_sumUp : GoodIn wsX8_sum wsX6_sumUp := goodIn_r _ [18, 19, 20, 21, 22, 23, 24, 25, 26, 27, 28, 29, 30, 31, 32, 33, 70, 71] (by decide +kernel) (by decide +kernel)
set_option maxRecDepth 20000 in
theorem gX8_sum_X6_sumUp : GoodIn wsX8_sum (va_wsS RX8 111 yX6_sumUp wsX6_sumUp) := goodIn_app (goodIn_of _ (by decide +kernel)) ggX8_sum_X6_sumUp
set_option maxRecDepth 20000 in
theorem ggX8_sum_X8_putDraft : GoodIn wsX8_sum wsX8_putDraft := goodIn_r _ [37, 38, 1, 3, 2, 39, 40, 41, 42, 43, 44, 45, 46, 47, 48, 49, 11, 50, 13, 14, 51, 52, 53, 54, 55, 56, 57, 58, 59, 30, 60, 33, 61, 32, 8, 9, 10, 12, 62, 63, 64, 65, 66, 67, 68, 69, 70, 71, 76, 77, 78, 72, 73, 74, 75] (by decide +kernel) (by decide +kernel)
set_option maxRecDepth 20000 in
theorem gX8_sum_X8_putDraft : GoodIn wsX8_sum (wsV RX8 98 RX8 yX8_putDraft wsX8_putDraft) := goodIn_app (goodIn_of _ (by decide +kernel)) ggX8_sum_X8_putDraft
theorem dX8_sum_0 : decode cX8_sum 0 = .ok (.iload_n 1, 1) := by decide +kernel
theorem dX8_sum_1 : decode cX8_sum 1 = .ok (.invokestatic 51, 3) := by decide +kernel
theorem dX8_sum_4 : decode cX8_sum 4 = .ok (.ifCond .ne 5, 3) := by decide +kernel
theorem dX8_sum_7 : decode cX8_sum 7 = .ok (.iconst (-1), 1) := by decide +kernel
theorem dX8_sum_8 : decode cX8_sum 8 = .ok (.ireturn, 1) := by decide +kernel
theorem dX8_sum_9 : decode cX8_sum 9 = .ok (.aload_n 0, 1) := by decide +kernel
theorem dX8_sum_10 : decode cX8_sum 10 = .ok (.getfield 10, 3) := by decide +kernel
theorem dX8_sum_13 : decode cX8_sum 13 = .ok (.iload_n 1, 1) := by decide +kernel
theorem dX8_sum_14 : decode cX8_sum 14 = .ok (.invokevirtual 61, 3) := by decide +kernel
theorem dX8_sum_17 : decode cX8_sum 17 = .ok (.astore_n 2, 1) := by decide +kernel
theorem dX8_sum_18 : decode cX8_sum 18 = .ok (.aload_n 2, 1) := by decide +kernel
theorem dX8_sum_19 : decode cX8_sum 19 = .ok (.getfield 65, 3) := by decide +kernel
theorem dX8_sum_22 : decode cX8_sum 22 = .ok (.ifCond .ne 6, 3) := by decide +kernel
theorem dX8_sum_25 : decode cX8_sum 25 = .ok (.bipush (-5), 2) := by decide +kernel
theorem dX8_sum_27 : decode cX8_sum 27 = .ok (.ireturn, 1) := by decide +kernel
theorem dX8_sum_28 : decode cX8_sum 28 = .ok (.aload_n 2, 1) := by decide +kernel
theorem dX8_sum_29 : decode cX8_sum 29 = .ok (.aload_n 0, 1) := by decide +kernel
theorem dX8_sum_30 : decode cX8_sum 30 = .ok (.getfield 47, 3) := by decide +kernel
theorem dX8_sum_33 : decode cX8_sum 33 = .ok (.invokestatic 111, 3) := by decide +kernel
theorem dX8_sum_36 : decode cX8_sum 36 = .ok (.ifCond .ne 6, 3) := by decide +kernel
theorem dX8_sum_39 : decode cX8_sum 39 = .ok (.bipush (-4), 2) := by decide +kernel
theorem dX8_sum_41 : decode cX8_sum 41 = .ok (.ireturn, 1) := by decide +kernel
theorem dX8_sum_42 : decode cX8_sum 42 = .ok (.aload_n 0, 1) := by decide +kernel
theorem dX8_sum_43 : decode cX8_sum 43 = .ok (.iload_n 1, 1) := by decide +kernel
theorem dX8_sum_44 : decode cX8_sum 44 = .ok (.invokevirtual 98, 3) := by decide +kernel
theorem dX8_sum_47 : decode cX8_sum 47 = .ok (.ireturn, 1) := by decide +kernel
set_option maxRecDepth 20000 in
theorem ggX8_differences_X8_isRow : GoodIn wsX8_differences wsX8_isRow := goodIn_r _ [7] (by decide +kernel) (by decide +kernel)
set_option maxRecDepth 20000 in
theorem gX8_differences_X8_isRow : GoodIn wsX8_differences (va_wsS RX8 51 yX8_isRow wsX8_isRow) := goodIn_app (goodIn_of _ (by decide +kernel)) ggX8_differences_X8_isRow
set_option maxRecDepth 20000 in
theorem ggX8_differences_X5_rowAt : GoodIn wsX8_differences wsX5_rowAt := goodIn_r _ [12, 13, 14, 72, 73, 74, 75] (by decide +kernel) (by decide +kernel)
set_option maxRecDepth 20000 in
theorem gX8_differences_X5_rowAt : GoodIn wsX8_differences (wsV RX8 61 RX5 yX5_rowAt wsX5_rowAt) := goodIn_app (goodIn_of _ (by decide +kernel)) ggX8_differences_X5_rowAt
set_option maxRecDepth 20000 in
theorem ggX8_differences_X6_takeDifferences : GoodIn wsX8_differences wsX6_takeDifferences := goodIn_r _ [18, 19, 20, 21, 22, 23, 24, 25, 26, 27, 28, 29, 30, 31, 32, 33, 70, 71] (by decide +kernel) (by decide +kernel)
set_option maxRecDepth 20000 in
theorem gX8_differences_X6_takeDifferences : GoodIn wsX8_differences (va_wsS RX8 115 yX6_takeDifferences wsX6_takeDifferences) := goodIn_app (goodIn_of _ (by decide +kernel)) ggX8_differences_X6_takeDifferences
set_option maxRecDepth 20000 in
theorem ggX8_differences_X8_putDraft : GoodIn wsX8_differences wsX8_putDraft := goodIn_r _ [37, 38, 1, 3, 2, 39, 40, 41, 42, 43, 44, 45, 46, 47, 48, 49, 11, 50, 13, 14, 51, 52, 53, 54, 55, 56, 57, 58, 59, 30, 60, 33, 61, 32, 8, 9, 10, 12, 62, 63, 64, 65, 66, 67, 68, 69, 70, 71, 76, 77, 78, 72, 73, 74, 75] (by decide +kernel) (by decide +kernel)
set_option maxRecDepth 20000 in
theorem gX8_differences_X8_putDraft : GoodIn wsX8_differences (wsV RX8 98 RX8 yX8_putDraft wsX8_putDraft) := goodIn_app (goodIn_of _ (by decide +kernel)) ggX8_differences_X8_putDraft
