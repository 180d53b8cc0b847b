theorem dX1_turnsUntilMended_0 : decode cX1_turnsUntilMended 0 = .ok (.iload_n 1, 1) := by decide +kernel
theorem dX1_turnsUntilMended_1 : decode cX1_turnsUntilMended 1 = .ok (.invokestatic 137, 3) := by decide +kernel
theorem dX1_turnsUntilMended_4 : decode cX1_turnsUntilMended 4 = .ok (.istore_n 2, 1) := by decide +kernel
theorem dX1_turnsUntilMended_5 : decode cX1_turnsUntilMended 5 = .ok (.iload_n 2, 1) := by decide +kernel
theorem dX1_turnsUntilMended_6 : decode cX1_turnsUntilMended 6 = .ok (.bipush (-6), 2) := by decide +kernel
theorem dX1_turnsUntilMended_8 : decode cX1_turnsUntilMended 8 = .ok (.if_icmp .eq 25, 3) := by decide +kernel
theorem dX1_turnsUntilMended_11 : decode cX1_turnsUntilMended 11 = .ok (.aload_n 0, 1) := by decide +kernel
theorem dX1_turnsUntilMended_12 : decode cX1_turnsUntilMended 12 = .ok (.getfield 12, 3) := by decide +kernel
theorem dX1_turnsUntilMended_15 : decode cX1_turnsUntilMended 15 = .ok (.getfield 140, 3) := by decide +kernel
theorem dX1_turnsUntilMended_18 : decode cX1_turnsUntilMended 18 = .ok (.iload_n 2, 1) := by decide +kernel
theorem dX1_turnsUntilMended_19 : decode cX1_turnsUntilMended 19 = .ok (.iaload, 1) := by decide +kernel
theorem dX1_turnsUntilMended_20 : decode cX1_turnsUntilMended 20 = .ok (.iconst 3, 1) := by decide +kernel
theorem dX1_turnsUntilMended_21 : decode cX1_turnsUntilMended 21 = .ok (.if_icmp .ne 12, 3) := by decide +kernel
theorem dX1_turnsUntilMended_24 : decode cX1_turnsUntilMended 24 = .ok (.aload_n 0, 1) := by decide +kernel
theorem dX1_turnsUntilMended_25 : decode cX1_turnsUntilMended 25 = .ok (.getfield 18, 3) := by decide +kernel
theorem dX1_turnsUntilMended_28 : decode cX1_turnsUntilMended 28 = .ok (.iconst 1, 1) := by decide +kernel
theorem dX1_turnsUntilMended_29 : decode cX1_turnsUntilMended 29 = .ok (.iaload, 1) := by decide +kernel
theorem dX1_turnsUntilMended_30 : decode cX1_turnsUntilMended 30 = .ok (.ifCond .ne 6, 3) := by decide +kernel
theorem dX1_turnsUntilMended_33 : decode cX1_turnsUntilMended 33 = .ok (.bipush (-6), 2) := by decide +kernel
theorem dX1_turnsUntilMended_35 : decode cX1_turnsUntilMended 35 = .ok (.ireturn, 1) := by decide +kernel
theorem dX1_turnsUntilMended_36 : decode cX1_turnsUntilMended 36 = .ok (.iconst 1, 1) := by decide +kernel
theorem dX1_turnsUntilMended_37 : decode cX1_turnsUntilMended 37 = .ok (.aload_n 0, 1) := by decide +kernel
theorem dX1_turnsUntilMended_38 : decode cX1_turnsUntilMended 38 = .ok (.getfield 18, 3) := by decide +kernel
theorem dX1_turnsUntilMended_41 : decode cX1_turnsUntilMended 41 = .ok (.iconst 1, 1) := by decide +kernel
theorem dX1_turnsUntilMended_42 : decode cX1_turnsUntilMended 42 = .ok (.iaload, 1) := by decide +kernel
theorem dX1_turnsUntilMended_43 : decode cX1_turnsUntilMended 43 = .ok (.aload_n 0, 1) := by decide +kernel
theorem dX1_turnsUntilMended_44 : decode cX1_turnsUntilMended 44 = .ok (.getfield 32, 3) := by decide +kernel
theorem dX1_turnsUntilMended_47 : decode cX1_turnsUntilMended 47 = .ok (.aload_n 0, 1) := by decide +kernel
theorem dX1_turnsUntilMended_48 : decode cX1_turnsUntilMended 48 = .ok (.getfield 12, 3) := by decide +kernel
theorem dX1_turnsUntilMended_51 : decode cX1_turnsUntilMended 51 = .ok (.getfield 143, 3) := by decide +kernel
theorem dX1_turnsUntilMended_54 : decode cX1_turnsUntilMended 54 = .ok (.iload_n 2, 1) := by decide +kernel
theorem dX1_turnsUntilMended_55 : decode cX1_turnsUntilMended 55 = .ok (.iaload, 1) := by decide +kernel
theorem dX1_turnsUntilMended_56 : decode cX1_turnsUntilMended 56 = .ok (.isub, 1) := by decide +kernel
theorem dX1_turnsUntilMended_57 : decode cX1_turnsUntilMended 57 = .ok (.isub, 1) := by decide +kernel
theorem dX1_turnsUntilMended_58 : decode cX1_turnsUntilMended 58 = .ok (.invokestatic 146, 3) := by decide +kernel
theorem dX1_turnsUntilMended_61 : decode cX1_turnsUntilMended 61 = .ok (.ireturn, 1) := by decide +kernel
theorem dX2_init_0 : decode cX2_init 0 = .ok (.aload_n 0, 1) := by decide +kernel
theorem dX2_init_1 : decode cX2_init 1 = .ok (.invokespecial 3, 3) := by decide +kernel
theorem dX2_init_4 : decode cX2_init 4 = .ok (.aload_n 0, 1) := by decide +kernel
theorem dX2_init_5 : decode cX2_init 5 = .ok (.bipush 6, 2) := by decide +kernel
theorem dX2_init_7 : decode cX2_init 7 = .ok (.anewarray 9, 3) := by decide +kernel
theorem dX2_init_10 : decode cX2_init 10 = .ok (.putfield 11, 3) := by decide +kernel
theorem dX2_init_13 : decode cX2_init 13 = .ok (.aload_n 0, 1) := by decide +kernel
theorem dX2_init_14 : decode cX2_init 14 = .ok (.iconst 0, 1) := by decide +kernel
theorem dX2_init_15 : decode cX2_init 15 = .ok (.putfield 17, 3) := by decide +kernel
theorem dX2_init_18 : decode cX2_init 18 = .ok (.aload_n 0, 1) := by decide +kernel
theorem dX2_init_19 : decode cX2_init 19 = .ok (.iconst 0, 1) := by decide +kernel
theorem dX2_init_20 : decode cX2_init 20 = .ok (.putfield 21, 3) := by decide +kernel
theorem dX2_init_23 : decode cX2_init 23 = .ok (.return_, 1) := by decide +kernel
set_option maxRecDepth 20000 in
theorem ggX2_remember_X1_init : GoodIn wsX2_remember wsX1_init := goodIn_r _ [12, 13, 14, 15, 16, 17, 18, 19, 20, 21, 22, 23, 24, 25, 26, 27, 28, 29, 30, 31, 32, 33, 34, 35, 36, 37, 38, 56, 57, 58, 59, 60, 49, 50, 51, 52, 53, 54, 55] (by decide +kernel) (by decide +kernel)
set_option maxRecDepth 20000 in
theorem gX2_remember_X1_init_n24 : GoodIn wsX2_remember (wsX1_init) := ggX2_remember_X1_init
set_option maxRecDepth 20000 in
theorem ggX2_remember_X1_copyFrom : GoodIn wsX2_remember wsX1_copyFrom := goodIn_r _ [41, 19, 21, 27, 28, 29, 30, 22, 23, 24, 25, 26, 42, 18, 43, 44, 34, 45, 35, 36, 37, 38, 49, 50, 51, 52, 53, 54, 55, 56, 57, 58, 59, 60] (by decide +kernel) (by decide +kernel)
set_option maxRecDepth 20000 in
theorem gX2_remember_X1_copyFrom_n25 : GoodIn wsX2_remember (wsX1_copyFrom) := ggX2_remember_X1_copyFrom
theorem dX2_remember_0 : decode cX2_remember 0 = .ok (.aload_n 0, 1) := by decide +kernel
theorem dX2_remember_1 : decode cX2_remember 1 = .ok (.getfield 11, 3) := by decide +kernel
theorem dX2_remember_4 : decode cX2_remember 4 = .ok (.aload_n 0, 1) := by decide +kernel
theorem dX2_remember_5 : decode cX2_remember 5 = .ok (.getfield 17, 3) := by decide +kernel
theorem dX2_remember_8 : decode cX2_remember 8 = .ok (.aaload, 1) := by decide +kernel
theorem dX2_remember_9 : decode cX2_remember 9 = .ok (.astore_n 2, 1) := by decide +kernel
theorem dX2_remember_10 : decode cX2_remember 10 = .ok (.aload_n 2, 1) := by decide +kernel
theorem dX2_remember_11 : decode cX2_remember 11 = .ok (.ifnonnull 21, 3) := by decide +kernel
theorem dX2_remember_14 : decode cX2_remember 14 = .ok (.new 9, 3) := by decide +kernel
theorem dX2_remember_17 : decode cX2_remember 17 = .ok (.dup, 1) := by decide +kernel
theorem dX2_remember_18 : decode cX2_remember 18 = .ok (.invokespecial 24, 3) := by decide +kernel
theorem dX2_remember_21 : decode cX2_remember 21 = .ok (.astore_n 2, 1) := by decide +kernel
theorem dX2_remember_22 : decode cX2_remember 22 = .ok (.aload_n 0, 1) := by decide +kernel
theorem dX2_remember_23 : decode cX2_remember 23 = .ok (.getfield 11, 3) := by decide +kernel
theorem dX2_remember_26 : decode cX2_remember 26 = .ok (.aload_n 0, 1) := by decide +kernel
theorem dX2_remember_27 : decode cX2_remember 27 = .ok (.getfield 17, 3) := by decide +kernel
theorem dX2_remember_30 : decode cX2_remember 30 = .ok (.aload_n 2, 1) := by decide +kernel
theorem dX2_remember_31 : decode cX2_remember 31 = .ok (.aastore, 1) := by decide +kernel
theorem dX2_remember_32 : decode cX2_remember 32 = .ok (.aload_n 2, 1) := by decide +kernel
theorem dX2_remember_33 : decode cX2_remember 33 = .ok (.aload_n 1, 1) := by decide +kernel
theorem dX2_remember_34 : decode cX2_remember 34 = .ok (.invokevirtual 25, 3) := by decide +kernel
theorem dX2_remember_37 : decode cX2_remember 37 = .ok (.aload_n 0, 1) := by decide +kernel
theorem dX2_remember_38 : decode cX2_remember 38 = .ok (.aload_n 0, 1) := by decide +kernel
theorem dX2_remember_39 : decode cX2_remember 39 = .ok (.getfield 17, 3) := by decide +kernel
theorem dX2_remember_42 : decode cX2_remember 42 = .ok (.iconst 1, 1) := by decide +kernel
theorem dX2_remember_43 : decode cX2_remember 43 = .ok (.iadd, 1) := by decide +kernel
theorem dX2_remember_44 : decode cX2_remember 44 = .ok (.bipush 6, 2) := by decide +kernel
theorem dX2_remember_46 : decode cX2_remember 46 = .ok (.irem, 1) := by decide +kernel
theorem dX2_remember_47 : decode cX2_remember 47 = .ok (.putfield 17, 3) := by decide +kernel
theorem dX2_remember_50 : decode cX2_remember 50 = .ok (.aload_n 0, 1) := by decide +kernel
theorem dX2_remember_51 : decode cX2_remember 51 = .ok (.aload_n 0, 1) := by decide +kernel
theorem dX2_remember_52 : decode cX2_remember 52 = .ok (.getfield 21, 3) := by decide +kernel
theorem dX2_remember_55 : decode cX2_remember 55 = .ok (.iconst 1, 1) := by decide +kernel
theorem dX2_remember_56 : decode cX2_remember 56 = .ok (.iadd, 1) := by decide +kernel
theorem dX2_remember_57 : decode cX2_remember 57 = .ok (.bipush 6, 2) := by decide +kernel
theorem dX2_remember_59 : decode cX2_remember 59 = .ok (.invokestatic 29, 3) := by decide +kernel
theorem dX2_remember_62 : decode cX2_remember 62 = .ok (.putfield 21, 3) := by decide +kernel
theorem dX2_remember_65 : decode cX2_remember 65 = .ok (.return_, 1) := by decide +kernel
set_option maxRecDepth 20000 in
theorem ggX2_takeBack_X1_copyFrom : GoodIn wsX2_takeBack wsX1_copyFrom := goodIn_r _ [7, 8, 9, 10, 11, 12, 13, 14, 15, 16, 17, 18, 19, 20, 21, 22, 23, 24, 25, 26, 27, 28, 32, 33, 34, 35, 36, 37, 38, 39, 40, 41, 42, 43] (by decide +kernel) (by decide +kernel)
set_option maxRecDepth 20000 in
theorem gX2_takeBack_X1_copyFrom_n25 : GoodIn wsX2_takeBack (wsX1_copyFrom) := ggX2_takeBack_X1_copyFrom
theorem dX2_takeBack_0 : decode cX2_takeBack 0 = .ok (.aload_n 0, 1) := by decide +kernel
theorem dX2_takeBack_1 : decode cX2_takeBack 1 = .ok (.getfield 17, 3) := by decide +kernel
theorem dX2_takeBack_4 : decode cX2_takeBack 4 = .ok (.bipush 6, 2) := by decide +kernel
theorem dX2_takeBack_6 : decode cX2_takeBack 6 = .ok (.iadd, 1) := by decide +kernel
theorem dX2_takeBack_7 : decode cX2_takeBack 7 = .ok (.iconst 1, 1) := by decide +kernel
theorem dX2_takeBack_8 : decode cX2_takeBack 8 = .ok (.isub, 1) := by decide +kernel
theorem dX2_takeBack_9 : decode cX2_takeBack 9 = .ok (.bipush 6, 2) := by decide +kernel
theorem dX2_takeBack_11 : decode cX2_takeBack 11 = .ok (.irem, 1) := by decide +kernel
theorem dX2_takeBack_12 : decode cX2_takeBack 12 = .ok (.istore_n 2, 1) := by decide +kernel
theorem dX2_takeBack_13 : decode cX2_takeBack 13 = .ok (.aload_n 0, 1) := by decide +kernel
theorem dX2_takeBack_14 : decode cX2_takeBack 14 = .ok (.getfield 11, 3) := by decide +kernel
theorem dX2_takeBack_17 : decode cX2_takeBack 17 = .ok (.iload_n 2, 1) := by decide +kernel
theorem dX2_takeBack_18 : decode cX2_takeBack 18 = .ok (.aaload, 1) := by decide +kernel
theorem dX2_takeBack_19 : decode cX2_takeBack 19 = .ok (.astore_n 3, 1) := by decide +kernel
theorem dX2_takeBack_20 : decode cX2_takeBack 20 = .ok (.aload_n 0, 1) := by decide +kernel
theorem dX2_takeBack_21 : decode cX2_takeBack 21 = .ok (.getfield 21, 3) := by decide +kernel
theorem dX2_takeBack_24 : decode cX2_takeBack 24 = .ok (.ifCond .eq 7, 3) := by decide +kernel
theorem dX2_takeBack_27 : decode cX2_takeBack 27 = .ok (.aload_n 3, 1) := by decide +kernel
theorem dX2_takeBack_28 : decode cX2_takeBack 28 = .ok (.ifnonnull 5, 3) := by decide +kernel
theorem dX2_takeBack_31 : decode cX2_takeBack 31 = .ok (.iconst 0, 1) := by decide +kernel
theorem dX2_takeBack_32 : decode cX2_takeBack 32 = .ok (.ireturn, 1) := by decide +kernel
theorem dX2_takeBack_33 : decode cX2_takeBack 33 = .ok (.aload_n 1, 1) := by decide +kernel
theorem dX2_takeBack_34 : decode cX2_takeBack 34 = .ok (.aload_n 3, 1) := by decide +kernel
theorem dX2_takeBack_35 : decode cX2_takeBack 35 = .ok (.invokevirtual 25, 3) := by decide +kernel
theorem dX2_takeBack_38 : decode cX2_takeBack 38 = .ok (.aload_n 0, 1) := by decide +kernel
theorem dX2_takeBack_39 : decode cX2_takeBack 39 = .ok (.iload_n 2, 1) := by decide +kernel
theorem dX2_takeBack_40 : decode cX2_takeBack 40 = .ok (.putfield 17, 3) := by decide +kernel
theorem dX2_takeBack_43 : decode cX2_takeBack 43 = .ok (.aload_n 0, 1) := by decide +kernel
theorem dX2_takeBack_44 : decode cX2_takeBack 44 = .ok (.dup, 1) := by decide +kernel
theorem dX2_takeBack_45 : decode cX2_takeBack 45 = .ok (.getfield 21, 3) := by decide +kernel
theorem dX2_takeBack_48 : decode cX2_takeBack 48 = .ok (.iconst 1, 1) := by decide +kernel
theorem dX2_takeBack_49 : decode cX2_takeBack 49 = .ok (.isub, 1) := by decide +kernel
theorem dX2_takeBack_50 : decode cX2_takeBack 50 = .ok (.putfield 21, 3) := by decide +kernel
theorem dX2_takeBack_53 : decode cX2_takeBack 53 = .ok (.iconst 1, 1) := by decide +kernel
theorem dX2_takeBack_54 : decode cX2_takeBack 54 = .ok (.ireturn, 1) := by decide +kernel
theorem dX3_init_0 : decode cX3_init 0 = .ok (.aload_n 0, 1) := by decide +kernel
theorem dX3_init_1 : decode cX3_init 1 = .ok (.invokespecial 3, 3) := by decide +kernel
theorem dX3_init_4 : decode cX3_init 4 = .ok (.aload_n 0, 1) := by decide +kernel
theorem dX3_init_5 : decode cX3_init 5 = .ok (.bipush 60, 2) := by decide +kernel
theorem dX3_init_7 : decode cX3_init 7 = .ok (.newarray .char, 2) := by decide +kernel
theorem dX3_init_9 : decode cX3_init 9 = .ok (.putfield 9, 3) := by decide +kernel
theorem dX3_init_12 : decode cX3_init 12 = .ok (.aload_n 0, 1) := by decide +kernel
theorem dX3_init_13 : decode cX3_init 13 = .ok (.iconst 0, 1) := by decide +kernel
theorem dX3_init_14 : decode cX3_init 14 = .ok (.putfield 15, 3) := by decide +kernel
theorem dX3_init_17 : decode cX3_init 17 = .ok (.return_, 1) := by decide +kernel
theorem dX3_append_0 : decode cX3_append 0 = .ok (.iload_n 3, 1) := by decide +kernel
theorem dX3_append_1 : decode cX3_append 1 = .ok (.iconst 1, 1) := by decide +kernel
theorem dX3_append_2 : decode cX3_append 2 = .ok (.isub, 1) := by decide +kernel
theorem dX3_append_3 : decode cX3_append 3 = .ok (.istore 4, 2) := by decide +kernel
theorem dX3_append_5 : decode cX3_append 5 = .ok (.iload 4, 2) := by decide +kernel
theorem dX3_append_7 : decode cX3_append 7 = .ok (.ifCond .lt 50, 3) := by decide +kernel
theorem dX3_append_10 : decode cX3_append 10 = .ok (.aload_n 0, 1) := by decide +kernel
theorem dX3_append_11 : decode cX3_append 11 = .ok (.getfield 15, 3) := by decide +kernel
theorem dX3_append_14 : decode cX3_append 14 = .ok (.bipush 60, 2) := by decide +kernel
theorem dX3_append_16 : decode cX3_append 16 = .ok (.if_icmp .ge 41, 3) := by decide +kernel
theorem dX3_append_19 : decode cX3_append 19 = .ok (.aload_n 0, 1) := by decide +kernel
theorem dX3_append_20 : decode cX3_append 20 = .ok (.getfield 9, 3) := by decide +kernel
theorem dX3_append_23 : decode cX3_append 23 = .ok (.aload_n 0, 1) := by decide +kernel
theorem dX3_append_24 : decode cX3_append 24 = .ok (.getfield 15, 3) := by decide +kernel
theorem dX3_append_27 : decode cX3_append 27 = .ok (.lload_n 1, 1) := by decide +kernel
theorem dX3_append_28 : decode cX3_append 28 = .ok (.bipush 8, 2) := by decide +kernel
theorem dX3_append_30 : decode cX3_append 30 = .ok (.iload 4, 2) := by decide +kernel
theorem dX3_append_32 : decode cX3_append 32 = .ok (.imul, 1) := by decide +kernel
theorem dX3_append_33 : decode cX3_append 33 = .ok (.lushr, 1) := by decide +kernel
theorem dX3_append_34 : decode cX3_append 34 = .ok (.ldc2_w 19, 3) := by decide +kernel
theorem dX3_append_37 : decode cX3_append 37 = .ok (.land, 1) := by decide +kernel
theorem dX3_append_38 : decode cX3_append 38 = .ok (.l2i, 1) := by decide +kernel
theorem dX3_append_39 : decode cX3_append 39 = .ok (.i2c, 1) := by decide +kernel
theorem dX3_append_40 : decode cX3_append 40 = .ok (.castore, 1) := by decide +kernel
theorem dX3_append_41 : decode cX3_append 41 = .ok (.aload_n 0, 1) := by decide +kernel
theorem dX3_append_42 : decode cX3_append 42 = .ok (.dup, 1) := by decide +kernel
theorem dX3_append_43 : decode cX3_append 43 = .ok (.getfield 15, 3) := by decide +kernel
theorem dX3_append_46 : decode cX3_append 46 = .ok (.iconst 1, 1) := by decide +kernel
theorem dX3_append_47 : decode cX3_append 47 = .ok (.iadd, 1) := by decide +kernel
theorem dX3_append_48 : decode cX3_append 48 = .ok (.putfield 15, 3) := by decide +kernel
theorem dX3_append_51 : decode cX3_append 51 = .ok (.iinc 4 (-1), 3) := by decide +kernel
theorem dX3_append_54 : decode cX3_append 54 = .ok (.goto (-49), 3) := by decide +kernel
theorem dX3_append_57 : decode cX3_append 57 = .ok (.return_, 1) := by decide +kernel
set_option maxRecDepth 20000 in
theorem ggX3_faultIndex_X3_isCast : GoodIn wsX3_faultIndex wsX3_isCast := goodIn_r _ [6] (by decide +kernel) (by decide +kernel)
set_option maxRecDepth 20000 in
theorem gX3_faultIndex_X3_isCast : GoodIn wsX3_faultIndex (va_wsS RX3 21 yX3_isCast wsX3_isCast) := goodIn_app (goodIn_of _ (by decide +kernel)) ggX3_faultIndex_X3_isCast
set_option maxRecDepth 20000 in
theorem ggX3_faultIndex_X3_isPieceOrPass : GoodIn wsX3_faultIndex wsX3_isPieceOrPass := goodIn_r _ [9] (by decide +kernel) (by decide +kernel)
set_option maxRecDepth 20000 in
theorem gX3_faultIndex_X3_isPieceOrPass : GoodIn wsX3_faultIndex (va_wsS RX3 25 yX3_isPieceOrPass wsX3_isPieceOrPass) := goodIn_app (goodIn_of _ (by decide +kernel)) ggX3_faultIndex_X3_isPieceOrPass
theorem dX3_faultIndex_0 : decode cX3_faultIndex 0 = .ok (.iconst 0, 1) := by decide +kernel
theorem dX3_faultIndex_1 : decode cX3_faultIndex 1 = .ok (.istore_n 1, 1) := by decide +kernel
theorem dX3_faultIndex_2 : decode cX3_faultIndex 2 = .ok (.iload_n 1, 1) := by decide +kernel
theorem dX3_faultIndex_3 : decode cX3_faultIndex 3 = .ok (.aload_n 0, 1) := by decide +kernel
theorem dX3_faultIndex_4 : decode cX3_faultIndex 4 = .ok (.getfield 15, 3) := by decide +kernel
theorem dX3_faultIndex_7 : decode cX3_faultIndex 7 = .ok (.if_icmp .ge 44, 3) := by decide +kernel
theorem dX3_faultIndex_10 : decode cX3_faultIndex 10 = .ok (.iload_n 1, 1) := by decide +kernel
theorem dX3_faultIndex_11 : decode cX3_faultIndex 11 = .ok (.iconst 2, 1) := by decide +kernel
theorem dX3_faultIndex_12 : decode cX3_faultIndex 12 = .ok (.irem, 1) := by decide +kernel
theorem dX3_faultIndex_13 : decode cX3_faultIndex 13 = .ok (.ifCond .ne 18, 3) := by decide +kernel
theorem dX3_faultIndex_16 : decode cX3_faultIndex 16 = .ok (.aload_n 0, 1) := by decide +kernel
theorem dX3_faultIndex_17 : decode cX3_faultIndex 17 = .ok (.getfield 9, 3) := by decide +kernel
theorem dX3_faultIndex_20 : decode cX3_faultIndex 20 = .ok (.iload_n 1, 1) := by decide +kernel
theorem dX3_faultIndex_21 : decode cX3_faultIndex 21 = .ok (.caload, 1) := by decide +kernel
theorem dX3_faultIndex_22 : decode cX3_faultIndex 22 = .ok (.invokestatic 21, 3) := by decide +kernel
theorem dX3_faultIndex_25 : decode cX3_faultIndex 25 = .ok (.ifCond .eq 18, 3) := by decide +kernel
theorem dX3_faultIndex_28 : decode cX3_faultIndex 28 = .ok (.goto 17, 3) := by decide +kernel
theorem dX3_faultIndex_31 : decode cX3_faultIndex 31 = .ok (.aload_n 0, 1) := by decide +kernel
theorem dX3_faultIndex_32 : decode cX3_faultIndex 32 = .ok (.getfield 9, 3) := by decide +kernel
theorem dX3_faultIndex_35 : decode cX3_faultIndex 35 = .ok (.iload_n 1, 1) := by decide +kernel
theorem dX3_faultIndex_36 : decode cX3_faultIndex 36 = .ok (.caload, 1) := by decide +kernel
theorem dX3_faultIndex_37 : decode cX3_faultIndex 37 = .ok (.invokestatic 25, 3) := by decide +kernel
theorem dX3_faultIndex_40 : decode cX3_faultIndex 40 = .ok (.ifCond .ne 5, 3) := by decide +kernel
theorem dX3_faultIndex_43 : decode cX3_faultIndex 43 = .ok (.iload_n 1, 1) := by decide +kernel
theorem dX3_faultIndex_44 : decode cX3_faultIndex 44 = .ok (.ireturn, 1) := by decide +kernel
theorem dX3_faultIndex_45 : decode cX3_faultIndex 45 = .ok (.iinc 1 1, 3) := by decide +kernel
theorem dX3_faultIndex_48 : decode cX3_faultIndex 48 = .ok (.goto (-46), 3) := by decide +kernel
theorem dX3_faultIndex_51 : decode cX3_faultIndex 51 = .ok (.aload_n 0, 1) := by decide +kernel
theorem dX3_faultIndex_52 : decode cX3_faultIndex 52 = .ok (.getfield 15, 3) := by decide +kernel
theorem dX3_faultIndex_55 : decode cX3_faultIndex 55 = .ok (.ifCond .eq 13, 3) := by decide +kernel
theorem dX3_faultIndex_58 : decode cX3_faultIndex 58 = .ok (.aload_n 0, 1) := by decide +kernel
theorem dX3_faultIndex_59 : decode cX3_faultIndex 59 = .ok (.getfield 15, 3) := by decide +kernel
theorem dX3_faultIndex_62 : decode cX3_faultIndex 62 = .ok (.iconst 2, 1) := by decide +kernel
theorem dX3_faultIndex_63 : decode cX3_faultIndex 63 = .ok (.irem, 1) := by decide +kernel
theorem dX3_faultIndex_64 : decode cX3_faultIndex 64 = .ok (.iconst 1, 1) := by decide +kernel
theorem dX3_faultIndex_65 : decode cX3_faultIndex 65 = .ok (.if_icmp .ne 10, 3) := by decide +kernel
theorem dX3_faultIndex_68 : decode cX3_faultIndex 68 = .ok (.aload_n 0, 1) := by decide +kernel
theorem dX3_faultIndex_69 : decode cX3_faultIndex 69 = .ok (.getfield 15, 3) := by decide +kernel
theorem dX3_faultIndex_72 : decode cX3_faultIndex 72 = .ok (.goto 5, 3) := by decide +kernel
theorem dX3_faultIndex_75 : decode cX3_faultIndex 75 = .ok (.bipush (-6), 2) := by decide +kernel
theorem dX3_faultIndex_77 : decode cX3_faultIndex 77 = .ok (.ireturn, 1) := by decide +kernel
theorem dX3_isCast_0 : decode cX3_isCast 0 = .ok (.iload_n 0, 1) := by decide +kernel
theorem dX3_isCast_1 : decode cX3_isCast 1 = .ok (.bipush 49, 2) := by decide +kernel
theorem dX3_isCast_3 : decode cX3_isCast 3 = .ok (.if_icmp .lt 13, 3) := by decide +kernel
theorem dX3_isCast_6 : decode cX3_isCast 6 = .ok (.iload_n 0, 1) := by decide +kernel
theorem dX3_isCast_7 : decode cX3_isCast 7 = .ok (.bipush 54, 2) := by decide +kernel
theorem dX3_isCast_9 : decode cX3_isCast 9 = .ok (.if_icmp .gt 7, 3) := by decide +kernel
theorem dX3_isCast_12 : decode cX3_isCast 12 = .ok (.iconst 1, 1) := by decide +kernel
theorem dX3_isCast_13 : decode cX3_isCast 13 = .ok (.goto 4, 3) := by decide +kernel
theorem dX3_isCast_16 : decode cX3_isCast 16 = .ok (.iconst 0, 1) := by decide +kernel
theorem dX3_isCast_17 : decode cX3_isCast 17 = .ok (.ireturn, 1) := by decide +kernel
theorem dX3_isPieceOrPass_0 : decode cX3_isPieceOrPass 0 = .ok (.iload_n 0, 1) := by decide +kernel
theorem dX3_isPieceOrPass_1 : decode cX3_isPieceOrPass 1 = .ok (.bipush 97, 2) := by decide +kernel
theorem dX3_isPieceOrPass_3 : decode cX3_isPieceOrPass 3 = .ok (.if_icmp .lt 9, 3) := by decide +kernel
theorem dX3_isPieceOrPass_6 : decode cX3_isPieceOrPass 6 = .ok (.iload_n 0, 1) := by decide +kernel
theorem dX3_isPieceOrPass_7 : decode cX3_isPieceOrPass 7 = .ok (.bipush 99, 2) := by decide +kernel
theorem dX3_isPieceOrPass_9 : decode cX3_isPieceOrPass 9 = .ok (.if_icmp .le 9, 3) := by decide +kernel
theorem dX3_isPieceOrPass_12 : decode cX3_isPieceOrPass 12 = .ok (.iload_n 0, 1) := by decide +kernel
theorem dX3_isPieceOrPass_13 : decode cX3_isPieceOrPass 13 = .ok (.bipush 45, 2) := by decide +kernel
theorem dX3_isPieceOrPass_15 : decode cX3_isPieceOrPass 15 = .ok (.if_icmp .ne 7, 3) := by decide +kernel
theorem dX3_isPieceOrPass_18 : decode cX3_isPieceOrPass 18 = .ok (.iconst 1, 1) := by decide +kernel
theorem dX3_isPieceOrPass_19 : decode cX3_isPieceOrPass 19 = .ok (.goto 4, 3) := by decide +kernel
theorem dX3_isPieceOrPass_22 : decode cX3_isPieceOrPass 22 = .ok (.iconst 0, 1) := by decide +kernel
theorem dX3_isPieceOrPass_23 : decode cX3_isPieceOrPass 23 = .ok (.ireturn, 1) := by decide +kernel
theorem dX3_moves_0 : decode cX3_moves 0 = .ok (.aload_n 0, 1) := by decide +kernel
theorem dX3_moves_1 : decode cX3_moves 1 = .ok (.getfield 15, 3) := by decide +kernel
theorem dX3_moves_4 : decode cX3_moves 4 = .ok (.iconst 2, 1) := by decide +kernel
theorem dX3_moves_5 : decode cX3_moves 5 = .ok (.idiv, 1) := by decide +kernel
theorem dX3_moves_6 : decode cX3_moves 6 = .ok (.ireturn, 1) := by decide +kernel
theorem dX3_castOfMove_0 : decode cX3_castOfMove 0 = .ok (.aload_n 0, 1) := by decide +kernel
theorem dX3_castOfMove_1 : decode cX3_castOfMove 1 = .ok (.getfield 9, 3) := by decide +kernel
theorem dX3_castOfMove_4 : decode cX3_castOfMove 4 = .ok (.iconst 2, 1) := by decide +kernel
theorem dX3_castOfMove_5 : decode cX3_castOfMove 5 = .ok (.iload_n 1, 1) := by decide +kernel
theorem dX3_castOfMove_6 : decode cX3_castOfMove 6 = .ok (.imul, 1) := by decide +kernel
theorem dX3_castOfMove_7 : decode cX3_castOfMove 7 = .ok (.caload, 1) := by decide +kernel
theorem dX3_castOfMove_8 : decode cX3_castOfMove 8 = .ok (.bipush 48, 2) := by decide +kernel
theorem dX3_castOfMove_10 : decode cX3_castOfMove 10 = .ok (.isub, 1) := by decide +kernel
theorem dX3_castOfMove_11 : decode cX3_castOfMove 11 = .ok (.ireturn, 1) := by decide +kernel
theorem dX3_pieceOfMove_0 : decode cX3_pieceOfMove 0 = .ok (.aload_n 0, 1) := by decide +kernel
theorem dX3_pieceOfMove_1 : decode cX3_pieceOfMove 1 = .ok (.getfield 9, 3) := by decide +kernel
theorem dX3_pieceOfMove_4 : decode cX3_pieceOfMove 4 = .ok (.iconst 2, 1) := by decide +kernel
theorem dX3_pieceOfMove_5 : decode cX3_pieceOfMove 5 = .ok (.iload_n 1, 1) := by decide +kernel
theorem dX3_pieceOfMove_6 : decode cX3_pieceOfMove 6 = .ok (.imul, 1) := by decide +kernel
theorem dX3_pieceOfMove_7 : decode cX3_pieceOfMove 7 = .ok (.iconst 1, 1) := by decide +kernel
theorem dX3_pieceOfMove_8 : decode cX3_pieceOfMove 8 = .ok (.iadd, 1) := by decide +kernel
theorem dX3_pieceOfMove_9 : decode cX3_pieceOfMove 9 = .ok (.caload, 1) := by decide +kernel
theorem dX3_pieceOfMove_10 : decode cX3_pieceOfMove 10 = .ok (.istore_n 2, 1) := by decide +kernel
theorem dX3_pieceOfMove_11 : decode cX3_pieceOfMove 11 = .ok (.iload_n 2, 1) := by decide +kernel
theorem dX3_pieceOfMove_12 : decode cX3_pieceOfMove 12 = .ok (.bipush 45, 2) := by decide +kernel
theorem dX3_pieceOfMove_14 : decode cX3_pieceOfMove 14 = .ok (.if_icmp .ne 8, 3) := by decide +kernel
theorem dX3_pieceOfMove_17 : decode cX3_pieceOfMove 17 = .ok (.bipush (-6), 2) := by decide +kernel
theorem dX3_pieceOfMove_19 : decode cX3_pieceOfMove 19 = .ok (.goto 7, 3) := by decide +kernel
theorem dX3_pieceOfMove_22 : decode cX3_pieceOfMove 22 = .ok (.iload_n 2, 1) := by decide +kernel
theorem dX3_pieceOfMove_23 : decode cX3_pieceOfMove 23 = .ok (.bipush 97, 2) := by decide +kernel
theorem dX3_pieceOfMove_25 : decode cX3_pieceOfMove 25 = .ok (.isub, 1) := by decide +kernel
theorem dX3_pieceOfMove_26 : decode cX3_pieceOfMove 26 = .ok (.ireturn, 1) := by decide +kernel
theorem dX4_init_0 : decode cX4_init 0 = .ok (.aload_n 0, 1) := by decide +kernel
theorem dX4_init_1 : decode cX4_init 1 = .ok (.invokespecial 3, 3) := by decide +kernel
theorem dX4_init_4 : decode cX4_init 4 = .ok (.aload_n 0, 1) := by decide +kernel
theorem dX4_init_5 : decode cX4_init 5 = .ok (.bipush 36, 2) := by decide +kernel
theorem dX4_init_7 : decode cX4_init 7 = .ok (.newarray .int, 2) := by decide +kernel
theorem dX4_init_9 : decode cX4_init 9 = .ok (.putfield 9, 3) := by decide +kernel
theorem dX4_init_12 : decode cX4_init 12 = .ok (.return_, 1) := by decide +kernel
set_option maxRecDepth 20000 in
theorem ggX4_fromHomeOn_X0_target : GoodIn wsX4_fromHomeOn wsX0_target := goodIn_r _ [9, 10, 11, 12, 7, 13, 14, 15, 16, 17, 18, 19, 20, 21, 22, 23, 25, 26, 27, 28, 29] (by decide +kernel) (by decide +kernel)
set_option maxRecDepth 20000 in
theorem gX4_fromHomeOn_X0_target_n15 : GoodIn wsX4_fromHomeOn (wsX0_target) := ggX4_fromHomeOn_X0_target
theorem dX4_fromHomeOn_0 : decode cX4_fromHomeOn 0 = .ok (.aload_n 0, 1) := by decide +kernel
theorem dX4_fromHomeOn_1 : decode cX4_fromHomeOn 1 = .ok (.getfield 9, 3) := by decide +kernel
theorem dX4_fromHomeOn_4 : decode cX4_fromHomeOn 4 = .ok (.bipush 35, 2) := by decide +kernel
theorem dX4_fromHomeOn_6 : decode cX4_fromHomeOn 6 = .ok (.iconst 0, 1) := by decide +kernel
theorem dX4_fromHomeOn_7 : decode cX4_fromHomeOn 7 = .ok (.iastore, 1) := by decide +kernel
theorem dX4_fromHomeOn_8 : decode cX4_fromHomeOn 8 = .ok (.bipush 34, 2) := by decide +kernel
theorem dX4_fromHomeOn_10 : decode cX4_fromHomeOn 10 = .ok (.istore 4, 2) := by decide +kernel
theorem dX4_fromHomeOn_12 : decode cX4_fromHomeOn 12 = .ok (.iload 4, 2) := by decide +kernel
theorem dX4_fromHomeOn_14 : decode cX4_fromHomeOn 14 = .ok (.iload_n 3, 1) := by decide +kernel
theorem dX4_fromHomeOn_15 : decode cX4_fromHomeOn 15 = .ok (.if_icmp .lt 72, 3) := by decide +kernel
theorem dX4_fromHomeOn_18 : decode cX4_fromHomeOn 18 = .ok (.bipush 36, 2) := by decide +kernel
theorem dX4_fromHomeOn_20 : decode cX4_fromHomeOn 20 = .ok (.istore 5, 2) := by decide +kernel
theorem dX4_fromHomeOn_22 : decode cX4_fromHomeOn 22 = .ok (.iconst 1, 1) := by decide +kernel
theorem dX4_fromHomeOn_23 : decode cX4_fromHomeOn 23 = .ok (.istore 6, 2) := by decide +kernel
theorem dX4_fromHomeOn_25 : decode cX4_fromHomeOn 25 = .ok (.iload 6, 2) := by decide +kernel
theorem dX4_fromHomeOn_27 : decode cX4_fromHomeOn 27 = .ok (.bipush 6, 2) := by decide +kernel
theorem dX4_fromHomeOn_29 : decode cX4_fromHomeOn 29 = .ok (.if_icmp .gt 43, 3) := by decide +kernel
theorem dX4_fromHomeOn_32 : decode cX4_fromHomeOn 32 = .ok (.aload_n 1, 1) := by decide +kernel
theorem dX4_fromHomeOn_33 : decode cX4_fromHomeOn 33 = .ok (.iload_n 2, 1) := by decide +kernel
theorem dX4_fromHomeOn_34 : decode cX4_fromHomeOn 34 = .ok (.iload 4, 2) := by decide +kernel
theorem dX4_fromHomeOn_36 : decode cX4_fromHomeOn 36 = .ok (.iload 6, 2) := by decide +kernel
theorem dX4_fromHomeOn_38 : decode cX4_fromHomeOn 38 = .ok (.invokevirtual 15, 3) := by decide +kernel
theorem dX4_fromHomeOn_41 : decode cX4_fromHomeOn 41 = .ok (.istore 7, 2) := by decide +kernel
theorem dX4_fromHomeOn_43 : decode cX4_fromHomeOn 43 = .ok (.iload 7, 2) := by decide +kernel
theorem dX4_fromHomeOn_45 : decode cX4_fromHomeOn 45 = .ok (.bipush (-6), 2) := by decide +kernel
theorem dX4_fromHomeOn_47 : decode cX4_fromHomeOn 47 = .ok (.if_icmp .eq 19, 3) := by decide +kernel
theorem dX4_fromHomeOn_50 : decode cX4_fromHomeOn 50 = .ok (.iload 5, 2) := by decide +kernel
theorem dX4_fromHomeOn_52 : decode cX4_fromHomeOn 52 = .ok (.aload_n 0, 1) := by decide +kernel
theorem dX4_fromHomeOn_53 : decode cX4_fromHomeOn 53 = .ok (.getfield 9, 3) := by decide +kernel
theorem dX4_fromHomeOn_56 : decode cX4_fromHomeOn 56 = .ok (.iload 7, 2) := by decide +kernel
theorem dX4_fromHomeOn_58 : decode cX4_fromHomeOn 58 = .ok (.iaload, 1) := by decide +kernel
theorem dX4_fromHomeOn_59 : decode cX4_fromHomeOn 59 = .ok (.iconst 1, 1) := by decide +kernel
theorem dX4_fromHomeOn_60 : decode cX4_fromHomeOn 60 = .ok (.iadd, 1) := by decide +kernel
theorem dX4_fromHomeOn_61 : decode cX4_fromHomeOn 61 = .ok (.invokestatic 21, 3) := by decide +kernel
theorem dX4_fromHomeOn_64 : decode cX4_fromHomeOn 64 = .ok (.istore 5, 2) := by decide +kernel
theorem dX4_fromHomeOn_66 : decode cX4_fromHomeOn 66 = .ok (.iinc 6 1, 3) := by decide +kernel
theorem dX4_fromHomeOn_69 : decode cX4_fromHomeOn 69 = .ok (.goto (-44), 3) := by decide +kernel
theorem dX4_fromHomeOn_72 : decode cX4_fromHomeOn 72 = .ok (.aload_n 0, 1) := by decide +kernel
theorem dX4_fromHomeOn_73 : decode cX4_fromHomeOn 73 = .ok (.getfield 9, 3) := by decide +kernel
theorem dX4_fromHomeOn_76 : decode cX4_fromHomeOn 76 = .ok (.iload 4, 2) := by decide +kernel
theorem dX4_fromHomeOn_78 : decode cX4_fromHomeOn 78 = .ok (.iload 5, 2) := by decide +kernel
theorem dX4_fromHomeOn_80 : decode cX4_fromHomeOn 80 = .ok (.iastore, 1) := by decide +kernel
theorem dX4_fromHomeOn_81 : decode cX4_fromHomeOn 81 = .ok (.iinc 4 (-1), 3) := by decide +kernel
theorem dX4_fromHomeOn_84 : decode cX4_fromHomeOn 84 = .ok (.goto (-72), 3) := by decide +kernel
theorem dX4_fromHomeOn_87 : decode cX4_fromHomeOn 87 = .ok (.aload_n 0, 1) := by decide +kernel
theorem dX4_fromHomeOn_88 : decode cX4_fromHomeOn 88 = .ok (.getfield 9, 3) := by decide +kernel
theorem dX4_fromHomeOn_91 : decode cX4_fromHomeOn 91 = .ok (.iload_n 3, 1) := by decide +kernel
theorem dX4_fromHomeOn_92 : decode cX4_fromHomeOn 92 = .ok (.iaload, 1) := by decide +kernel
theorem dX4_fromHomeOn_93 : decode cX4_fromHomeOn 93 = .ok (.ireturn, 1) := by decide +kernel
set_option maxRecDepth 20000 in
theorem ggX4_goingWide_X4_widen : GoodIn wsX4_goingWide wsX4_widen := goodIn_r _ [6, 1, 7, 8, 9, 10, 11, 12, 13, 14, 15, 16, 17, 18, 19, 20, 21, 22, 23, 24, 25, 26, 27, 28, 29, 30] (by decide +kernel) (by decide +kernel)
set_option maxRecDepth 20000 in
theorem gX4_goingWide_X4_widen : GoodIn wsX4_goingWide (wsV RX4 27 RX4 yX4_widen wsX4_widen) := goodIn_app (goodIn_of _ (by decide +kernel)) ggX4_goingWide_X4_widen
theorem dX4_goingWide_0 : decode cX4_goingWide 0 = .ok (.iconst 0, 1) := by decide +kernel
theorem dX4_goingWide_1 : decode cX4_goingWide 1 = .ok (.istore 4, 2) := by decide +kernel
theorem dX4_goingWide_3 : decode cX4_goingWide 3 = .ok (.iload 4, 2) := by decide +kernel
theorem dX4_goingWide_5 : decode cX4_goingWide 5 = .ok (.bipush 35, 2) := by decide +kernel
theorem dX4_goingWide_7 : decode cX4_goingWide 7 = .ok (.if_icmp .gt 18, 3) := by decide +kernel
theorem dX4_goingWide_10 : decode cX4_goingWide 10 = .ok (.aload_n 0, 1) := by decide +kernel
theorem dX4_goingWide_11 : decode cX4_goingWide 11 = .ok (.getfield 9, 3) := by decide +kernel
theorem dX4_goingWide_14 : decode cX4_goingWide 14 = .ok (.iload 4, 2) := by decide +kernel
theorem dX4_goingWide_16 : decode cX4_goingWide 16 = .ok (.bipush (-6), 2) := by decide +kernel
theorem dX4_goingWide_18 : decode cX4_goingWide 18 = .ok (.iastore, 1) := by decide +kernel
theorem dX4_goingWide_19 : decode cX4_goingWide 19 = .ok (.iinc 4 1, 3) := by decide +kernel
theorem dX4_goingWide_22 : decode cX4_goingWide 22 = .ok (.goto (-19), 3) := by decide +kernel
theorem dX4_goingWide_25 : decode cX4_goingWide 25 = .ok (.aload_n 0, 1) := by decide +kernel
theorem dX4_goingWide_26 : decode cX4_goingWide 26 = .ok (.getfield 9, 3) := by decide +kernel
theorem dX4_goingWide_29 : decode cX4_goingWide 29 = .ok (.iload_n 3, 1) := by decide +kernel
theorem dX4_goingWide_30 : decode cX4_goingWide 30 = .ok (.iconst 0, 1) := by decide +kernel
theorem dX4_goingWide_31 : decode cX4_goingWide 31 = .ok (.iastore, 1) := by decide +kernel
theorem dX4_goingWide_32 : decode cX4_goingWide 32 = .ok (.iconst 0, 1) := by decide +kernel
theorem dX4_goingWide_33 : decode cX4_goingWide 33 = .ok (.istore 4, 2) := by decide +kernel
theorem dX4_goingWide_35 : decode cX4_goingWide 35 = .ok (.iload 4, 2) := by decide +kernel
theorem dX4_goingWide_37 : decode cX4_goingWide 37 = .ok (.bipush 35, 2) := by decide +kernel
theorem dX4_goingWide_39 : decode cX4_goingWide 39 = .ok (.if_icmp .gt 29, 3) := by decide +kernel
theorem dX4_goingWide_42 : decode cX4_goingWide 42 = .ok (.aload_n 0, 1) := by decide +kernel
theorem dX4_goingWide_43 : decode cX4_goingWide 43 = .ok (.getfield 9, 3) := by decide +kernel
theorem dX4_goingWide_46 : decode cX4_goingWide 46 = .ok (.bipush 35, 2) := by decide +kernel
theorem dX4_goingWide_48 : decode cX4_goingWide 48 = .ok (.iaload, 1) := by decide +kernel
theorem dX4_goingWide_49 : decode cX4_goingWide 49 = .ok (.bipush (-6), 2) := by decide +kernel
theorem dX4_goingWide_51 : decode cX4_goingWide 51 = .ok (.if_icmp .ne 17, 3) := by decide +kernel
theorem dX4_goingWide_54 : decode cX4_goingWide 54 = .ok (.aload_n 0, 1) := by decide +kernel
theorem dX4_goingWide_55 : decode cX4_goingWide 55 = .ok (.aload_n 1, 1) := by decide +kernel
theorem dX4_goingWide_56 : decode cX4_goingWide 56 = .ok (.iload_n 2, 1) := by decide +kernel
theorem dX4_goingWide_57 : decode cX4_goingWide 57 = .ok (.iload 4, 2) := by decide +kernel
theorem dX4_goingWide_59 : decode cX4_goingWide 59 = .ok (.invokevirtual 27, 3) := by decide +kernel
theorem dX4_goingWide_62 : decode cX4_goingWide 62 = .ok (.iinc 4 1, 3) := by decide +kernel
theorem dX4_goingWide_65 : decode cX4_goingWide 65 = .ok (.goto (-30), 3) := by decide +kernel
theorem dX4_goingWide_68 : decode cX4_goingWide 68 = .ok (.aload_n 0, 1) := by decide +kernel
theorem dX4_goingWide_69 : decode cX4_goingWide 69 = .ok (.getfield 9, 3) := by decide +kernel
theorem dX4_goingWide_72 : decode cX4_goingWide 72 = .ok (.bipush 35, 2) := by decide +kernel
theorem dX4_goingWide_74 : decode cX4_goingWide 74 = .ok (.iaload, 1) := by decide +kernel
theorem dX4_goingWide_75 : decode cX4_goingWide 75 = .ok (.ireturn, 1) := by decide +kernel
set_option maxRecDepth 20000 in
theorem ggX4_widen_X0_target : GoodIn wsX4_widen wsX0_target := goodIn_r _ [5, 6, 7, 8, 3, 9, 10, 11, 12, 13, 14, 15, 16, 17, 18, 19, 21, 22, 23, 24, 25] (by decide +kernel) (by decide +kernel)
set_option maxRecDepth 20000 in
theorem gX4_widen_X0_target_n15 : GoodIn wsX4_widen (wsX0_target) := ggX4_widen_X0_target
theorem dX4_widen_0 : decode cX4_widen 0 = .ok (.iconst 0, 1) := by decide +kernel
theorem dX4_widen_1 : decode cX4_widen 1 = .ok (.istore 4, 2) := by decide +kernel
theorem dX4_widen_3 : decode cX4_widen 3 = .ok (.iload 4, 2) := by decide +kernel
theorem dX4_widen_5 : decode cX4_widen 5 = .ok (.bipush 35, 2) := by decide +kernel
theorem dX4_widen_7 : decode cX4_widen 7 = .ok (.if_icmp .ge 76, 3) := by decide +kernel
theorem dX4_widen_10 : decode cX4_widen 10 = .ok (.iconst 1, 1) := by decide +kernel
theorem dX4_widen_11 : decode cX4_widen 11 = .ok (.istore 5, 2) := by decide +kernel
theorem dX4_widen_13 : decode cX4_widen 13 = .ok (.iload 5, 2) := by decide +kernel
theorem dX4_widen_15 : decode cX4_widen 15 = .ok (.bipush 6, 2) := by decide +kernel
theorem dX4_widen_17 : decode cX4_widen 17 = .ok (.if_icmp .gt 60, 3) := by decide +kernel
theorem dX4_widen_20 : decode cX4_widen 20 = .ok (.aload_n 0, 1) := by decide +kernel
theorem dX4_widen_21 : decode cX4_widen 21 = .ok (.getfield 9, 3) := by decide +kernel
theorem dX4_widen_24 : decode cX4_widen 24 = .ok (.iload 4, 2) := by decide +kernel
theorem dX4_widen_26 : decode cX4_widen 26 = .ok (.iaload, 1) := by decide +kernel
theorem dX4_widen_27 : decode cX4_widen 27 = .ok (.iload_n 3, 1) := by decide +kernel
theorem dX4_widen_28 : decode cX4_widen 28 = .ok (.if_icmp .ne 49, 3) := by decide +kernel
theorem dX4_widen_31 : decode cX4_widen 31 = .ok (.aload_n 1, 1) := by decide +kernel
theorem dX4_widen_32 : decode cX4_widen 32 = .ok (.iload_n 2, 1) := by decide +kernel
theorem dX4_widen_33 : decode cX4_widen 33 = .ok (.iload 4, 2) := by decide +kernel
theorem dX4_widen_35 : decode cX4_widen 35 = .ok (.iload 5, 2) := by decide +kernel
theorem dX4_widen_37 : decode cX4_widen 37 = .ok (.invokevirtual 15, 3) := by decide +kernel
theorem dX4_widen_40 : decode cX4_widen 40 = .ok (.istore 6, 2) := by decide +kernel
theorem dX4_widen_42 : decode cX4_widen 42 = .ok (.iload 6, 2) := by decide +kernel
theorem dX4_widen_44 : decode cX4_widen 44 = .ok (.bipush (-6), 2) := by decide +kernel
theorem dX4_widen_46 : decode cX4_widen 46 = .ok (.if_icmp .eq 25, 3) := by decide +kernel
theorem dX4_widen_49 : decode cX4_widen 49 = .ok (.aload_n 0, 1) := by decide +kernel
theorem dX4_widen_50 : decode cX4_widen 50 = .ok (.getfield 9, 3) := by decide +kernel
theorem dX4_widen_53 : decode cX4_widen 53 = .ok (.iload 6, 2) := by decide +kernel
theorem dX4_widen_55 : decode cX4_widen 55 = .ok (.iaload, 1) := by decide +kernel
theorem dX4_widen_56 : decode cX4_widen 56 = .ok (.bipush (-6), 2) := by decide +kernel
theorem dX4_widen_58 : decode cX4_widen 58 = .ok (.if_icmp .ne 13, 3) := by decide +kernel
theorem dX4_widen_61 : decode cX4_widen 61 = .ok (.aload_n 0, 1) := by decide +kernel
theorem dX4_widen_62 : decode cX4_widen 62 = .ok (.getfield 9, 3) := by decide +kernel
theorem dX4_widen_65 : decode cX4_widen 65 = .ok (.iload 6, 2) := by decide +kernel
theorem dX4_widen_67 : decode cX4_widen 67 = .ok (.iload_n 3, 1) := by decide +kernel
theorem dX4_widen_68 : decode cX4_widen 68 = .ok (.iconst 1, 1) := by decide +kernel
theorem dX4_widen_69 : decode cX4_widen 69 = .ok (.iadd, 1) := by decide +kernel
theorem dX4_widen_70 : decode cX4_widen 70 = .ok (.iastore, 1) := by decide +kernel
theorem dX4_widen_71 : decode cX4_widen 71 = .ok (.iinc 5 1, 3) := by decide +kernel
theorem dX4_widen_74 : decode cX4_widen 74 = .ok (.goto (-61), 3) := by decide +kernel
theorem dX4_widen_77 : decode cX4_widen 77 = .ok (.iinc 4 1, 3) := by decide +kernel
theorem dX4_widen_80 : decode cX4_widen 80 = .ok (.goto (-77), 3) := by decide +kernel
theorem dX4_widen_83 : decode cX4_widen 83 = .ok (.return_, 1) := by decide +kernel
set_option maxRecDepth 20000 in
theorem ggX5_init_X1_init : GoodIn wsX5_init wsX1_init := goodIn_r _ [23, 24, 2, 3, 25, 26, 27, 28, 29, 30, 31, 32, 33, 34, 35, 36, 37, 38, 39, 40, 41, 42, 43, 44, 45, 46, 47, 84, 85, 86, 87, 88, 65, 66, 67, 68, 69, 70, 71] (by decide +kernel) (by decide +kernel)
set_option maxRecDepth 20000 in
theorem gX5_init_X1_init_n11 : GoodIn wsX5_init (wsX1_init) := ggX5_init_X1_init
set_option maxRecDepth 20000 in
theorem ggX5_init_X4_init : GoodIn wsX5_init wsX4_init := goodIn_r _ [49, 50, 2, 3, 29, 51, 78] (by decide +kernel) (by decide +kernel)
set_option maxRecDepth 20000 in
theorem gX5_init_X4_init_n21 : GoodIn wsX5_init (wsX4_init) := ggX5_init_X4_init
set_option maxRecDepth 20000 in
theorem ggX5_init_X3_init : GoodIn wsX5_init wsX3_init := goodIn_r _ [53, 54, 2, 3, 55, 56, 57, 79, 80] (by decide +kernel) (by decide +kernel)
set_option maxRecDepth 20000 in
theorem gX5_init_X3_init_n28 : GoodIn wsX5_init (wsX3_init) := ggX5_init_X3_init
set_option maxRecDepth 20000 in
theorem ggX5_init_X2_init : GoodIn wsX5_init wsX2_init := goodIn_r _ [59, 60, 2, 3, 61, 62, 63, 64, 81, 82, 83] (by decide +kernel) (by decide +kernel)
set_option maxRecDepth 20000 in
theorem gX5_init_X2_init_n35 : GoodIn wsX5_init (wsX2_init) := ggX5_init_X2_init
theorem dX5_init_0 : decode cX5_init 0 = .ok (.aload_n 0, 1) := by decide +kernel
theorem dX5_init_1 : decode cX5_init 1 = .ok (.invokespecial 3, 3) := by decide +kernel
theorem dX5_init_4 : decode cX5_init 4 = .ok (.aload_n 0, 1) := by decide +kernel
theorem dX5_init_5 : decode cX5_init 5 = .ok (.new 9, 3) := by decide +kernel
theorem dX5_init_8 : decode cX5_init 8 = .ok (.dup, 1) := by decide +kernel
theorem dX5_init_9 : decode cX5_init 9 = .ok (.invokespecial 11, 3) := by decide +kernel
theorem dX5_init_12 : decode cX5_init 12 = .ok (.putfield 12, 3) := by decide +kernel
theorem dX5_init_15 : decode cX5_init 15 = .ok (.aload_n 0, 1) := by decide +kernel
theorem dX5_init_16 : decode cX5_init 16 = .ok (.new 9, 3) := by decide +kernel
theorem dX5_init_19 : decode cX5_init 19 = .ok (.dup, 1) := by decide +kernel
theorem dX5_init_20 : decode cX5_init 20 = .ok (.invokespecial 11, 3) := by decide +kernel
theorem dX5_init_23 : decode cX5_init 23 = .ok (.putfield 16, 3) := by decide +kernel
theorem dX5_init_26 : decode cX5_init 26 = .ok (.aload_n 0, 1) := by decide +kernel
theorem dX5_init_27 : decode cX5_init 27 = .ok (.new 19, 3) := by decide +kernel
theorem dX5_init_30 : decode cX5_init 30 = .ok (.dup, 1) := by decide +kernel
theorem dX5_init_31 : decode cX5_init 31 = .ok (.invokespecial 21, 3) := by decide +kernel
theorem dX5_init_34 : decode cX5_init 34 = .ok (.putfield 22, 3) := by decide +kernel
theorem dX5_init_37 : decode cX5_init 37 = .ok (.aload_n 0, 1) := by decide +kernel
theorem dX5_init_38 : decode cX5_init 38 = .ok (.new 26, 3) := by decide +kernel
theorem dX5_init_41 : decode cX5_init 41 = .ok (.dup, 1) := by decide +kernel
theorem dX5_init_42 : decode cX5_init 42 = .ok (.invokespecial 28, 3) := by decide +kernel
theorem dX5_init_45 : decode cX5_init 45 = .ok (.putfield 29, 3) := by decide +kernel
theorem dX5_init_48 : decode cX5_init 48 = .ok (.aload_n 0, 1) := by decide +kernel
theorem dX5_init_49 : decode cX5_init 49 = .ok (.new 33, 3) := by decide +kernel
theorem dX5_init_52 : decode cX5_init 52 = .ok (.dup, 1) := by decide +kernel
theorem dX5_init_53 : decode cX5_init 53 = .ok (.invokespecial 35, 3) := by decide +kernel
theorem dX5_init_56 : decode cX5_init 56 = .ok (.putfield 36, 3) := by decide +kernel
theorem dX5_init_59 : decode cX5_init 59 = .ok (.aload_n 0, 1) := by decide +kernel
theorem dX5_init_60 : decode cX5_init 60 = .ok (.iconst 2, 1) := by decide +kernel
theorem dX5_init_61 : decode cX5_init 61 = .ok (.anewarray 9, 3) := by decide +kernel
theorem dX5_init_64 : decode cX5_init 64 = .ok (.putfield 40, 3) := by decide +kernel
theorem dX5_init_67 : decode cX5_init 67 = .ok (.return_, 1) := by decide +kernel
set_option maxRecDepth 20000 in
theorem ggX5_set_X2_remember : GoodIn wsX5_set wsX2_remember := goodIn_r _ [8, 9, 10, 11, 12, 13, 14, 15, 16, 17, 18, 19, 20, 21, 22, 23, 24, 25, 26, 27, 28, 29, 30, 31, 32, 33, 34, 35, 36, 37, 38, 39, 40, 41, 42, 43, 44, 45, 46, 47, 48, 49, 50, 51, 52, 53, 67, 68, 69, 60, 61, 62, 63, 64, 65, 66, 70, 71, 72, 73, 74] (by decide +kernel) (by decide +kernel)
set_option maxRecDepth 20000 in
theorem gX5_set_X2_remember_n51 : GoodIn wsX5_set (wsX2_remember) := ggX5_set_X2_remember
theorem dX5_set_0 : decode cX5_set 0 = .ok (.iload_n 1, 1) := by decide +kernel
theorem dX5_set_1 : decode cX5_set 1 = .ok (.ifCond .lt 8, 3) := by decide +kernel
theorem dX5_set_4 : decode cX5_set 4 = .ok (.iload_n 1, 1) := by decide +kernel
theorem dX5_set_5 : decode cX5_set 5 = .ok (.iconst 3, 1) := by decide +kernel
theorem dX5_set_6 : decode cX5_set 6 = .ok (.if_icmp .lt 6, 3) := by decide +kernel
theorem dX5_set_9 : decode cX5_set 9 = .ok (.bipush (-2), 2) := by decide +kernel
theorem dX5_set_11 : decode cX5_set 11 = .ok (.ireturn, 1) := by decide +kernel
theorem dX5_set_12 : decode cX5_set 12 = .ok (.iload_n 2, 1) := by decide +kernel
theorem dX5_set_13 : decode cX5_set 13 = .ok (.getstatic 44, 3) := by decide +kernel
theorem dX5_set_16 : decode cX5_set 16 = .ok (.iload_n 1, 1) := by decide +kernel
theorem dX5_set_17 : decode cX5_set 17 = .ok (.iaload, 1) := by decide +kernel
theorem dX5_set_18 : decode cX5_set 18 = .ok (.if_icmp .lt 12, 3) := by decide +kernel
theorem dX5_set_21 : decode cX5_set 21 = .ok (.iload_n 2, 1) := by decide +kernel
theorem dX5_set_22 : decode cX5_set 22 = .ok (.getstatic 48, 3) := by decide +kernel
theorem dX5_set_25 : decode cX5_set 25 = .ok (.iload_n 1, 1) := by decide +kernel
theorem dX5_set_26 : decode cX5_set 26 = .ok (.iaload, 1) := by decide +kernel
theorem dX5_set_27 : decode cX5_set 27 = .ok (.if_icmp .le 6, 3) := by decide +kernel
theorem dX5_set_30 : decode cX5_set 30 = .ok (.bipush (-2), 2) := by decide +kernel
theorem dX5_set_32 : decode cX5_set 32 = .ok (.ireturn, 1) := by decide +kernel
theorem dX5_set_33 : decode cX5_set 33 = .ok (.aload_n 0, 1) := by decide +kernel
theorem dX5_set_34 : decode cX5_set 34 = .ok (.getfield 36, 3) := by decide +kernel
theorem dX5_set_37 : decode cX5_set 37 = .ok (.aload_n 0, 1) := by decide +kernel
theorem dX5_set_38 : decode cX5_set 38 = .ok (.getfield 12, 3) := by decide +kernel
theorem dX5_set_41 : decode cX5_set 41 = .ok (.invokevirtual 51, 3) := by decide +kernel
theorem dX5_set_44 : decode cX5_set 44 = .ok (.aload_n 0, 1) := by decide +kernel
theorem dX5_set_45 : decode cX5_set 45 = .ok (.getfield 12, 3) := by decide +kernel
theorem dX5_set_48 : decode cX5_set 48 = .ok (.getfield 55, 3) := by decide +kernel
theorem dX5_set_51 : decode cX5_set 51 = .ok (.iload_n 1, 1) := by decide +kernel
theorem dX5_set_52 : decode cX5_set 52 = .ok (.iaload, 1) := by decide +kernel
theorem dX5_set_53 : decode cX5_set 53 = .ok (.istore_n 3, 1) := by decide +kernel
theorem dX5_set_54 : decode cX5_set 54 = .ok (.aload_n 0, 1) := by decide +kernel
theorem dX5_set_55 : decode cX5_set 55 = .ok (.getfield 12, 3) := by decide +kernel
theorem dX5_set_58 : decode cX5_set 58 = .ok (.getfield 55, 3) := by decide +kernel
theorem dX5_set_61 : decode cX5_set 61 = .ok (.iload_n 1, 1) := by decide +kernel
theorem dX5_set_62 : decode cX5_set 62 = .ok (.iload_n 2, 1) := by decide +kernel
theorem dX5_set_63 : decode cX5_set 63 = .ok (.iastore, 1) := by decide +kernel
theorem dX5_set_64 : decode cX5_set 64 = .ok (.iload_n 3, 1) := by decide +kernel
theorem dX5_set_65 : decode cX5_set 65 = .ok (.ireturn, 1) := by decide +kernel
set_option maxRecDepth 20000 in
theorem ggX5_seed_X2_remember : GoodIn wsX5_seed wsX2_remember := goodIn_r _ [6, 7, 8, 9, 10, 11, 12, 13, 14, 15, 16, 17, 18, 19, 20, 21, 22, 23, 24, 25, 26, 27, 28, 29, 30, 31, 32, 33, 34, 35, 36, 37, 38, 39, 40, 41, 42, 43, 44, 45, 46, 47, 48, 49, 50, 51, 65, 66, 67, 58, 59, 60, 61, 62, 63, 64, 68, 69, 70, 71, 72] (by decide +kernel) (by decide +kernel)
set_option maxRecDepth 20000 in
theorem gX5_seed_X2_remember_n51 : GoodIn wsX5_seed (wsX2_remember) := ggX5_seed_X2_remember
theorem dX5_seed_0 : decode cX5_seed 0 = .ok (.iload_n 1, 1) := by decide +kernel
theorem dX5_seed_1 : decode cX5_seed 1 = .ok (.ifCond .ge 6, 3) := by decide +kernel
theorem dX5_seed_4 : decode cX5_seed 4 = .ok (.bipush (-2), 2) := by decide +kernel
theorem dX5_seed_6 : decode cX5_seed 6 = .ok (.ireturn, 1) := by decide +kernel
theorem dX5_seed_7 : decode cX5_seed 7 = .ok (.aload_n 0, 1) := by decide +kernel
theorem dX5_seed_8 : decode cX5_seed 8 = .ok (.getfield 36, 3) := by decide +kernel
theorem dX5_seed_11 : decode cX5_seed 11 = .ok (.aload_n 0, 1) := by decide +kernel
theorem dX5_seed_12 : decode cX5_seed 12 = .ok (.getfield 12, 3) := by decide +kernel
theorem dX5_seed_15 : decode cX5_seed 15 = .ok (.invokevirtual 51, 3) := by decide +kernel
theorem dX5_seed_18 : decode cX5_seed 18 = .ok (.aload_n 0, 1) := by decide +kernel
theorem dX5_seed_19 : decode cX5_seed 19 = .ok (.getfield 12, 3) := by decide +kernel
theorem dX5_seed_22 : decode cX5_seed 22 = .ok (.getfield 58, 3) := by decide +kernel
theorem dX5_seed_25 : decode cX5_seed 25 = .ok (.istore_n 2, 1) := by decide +kernel
theorem dX5_seed_26 : decode cX5_seed 26 = .ok (.aload_n 0, 1) := by decide +kernel
theorem dX5_seed_27 : decode cX5_seed 27 = .ok (.getfield 12, 3) := by decide +kernel
theorem dX5_seed_30 : decode cX5_seed 30 = .ok (.iload_n 1, 1) := by decide +kernel
theorem dX5_seed_31 : decode cX5_seed 31 = .ok (.putfield 58, 3) := by decide +kernel
theorem dX5_seed_34 : decode cX5_seed 34 = .ok (.iload_n 2, 1) := by decide +kernel
theorem dX5_seed_35 : decode cX5_seed 35 = .ok (.ireturn, 1) := by decide +kernel
set_option maxRecDepth 20000 in
theorem ggX5_cast_X1_isOver : GoodIn wsX5_cast wsX1_isOver := goodIn_r _ [6, 7, 8, 9, 10, 11, 12, 13, 14, 15, 16, 87, 88, 89, 90, 91, 92, 93, 94, 95, 96, 97, 98] (by decide +kernel) (by decide +kernel)
set_option maxRecDepth 20000 in
theorem gX5_cast_X1_isOver_n62 : GoodIn wsX5_cast (wsX1_isOver) := ggX5_cast_X1_isOver
set_option maxRecDepth 20000 in
theorem ggX5_cast_X1_hasThrow : GoodIn wsX5_cast wsX1_hasThrow := goodIn_r _ [19, 20, 87, 88, 89, 90, 91, 92, 93] (by decide +kernel) (by decide +kernel)
set_option maxRecDepth 20000 in
theorem gX5_cast_X1_hasThrow_n66 : GoodIn wsX5_cast (wsX1_hasThrow) := ggX5_cast_X1_hasThrow
set_option maxRecDepth 20000 in
theorem ggX5_cast_X2_remember : GoodIn wsX5_cast wsX2_remember := goodIn_r _ [24, 25, 26, 27, 28, 4, 29, 30, 31, 32, 33, 34, 35, 36, 37, 38, 39, 40, 9, 7, 41, 42, 43, 44, 20, 45, 46, 47, 48, 49, 50, 51, 52, 53, 16, 54, 55, 56, 57, 58, 59, 60, 61, 62, 63, 64, 99, 100, 101, 87, 88, 89, 90, 91, 92, 93, 94, 95, 96, 97, 98] (by decide +kernel) (by decide +kernel)
set_option maxRecDepth 20000 in
theorem gX5_cast_X2_remember_n51 : GoodIn wsX5_cast (wsX2_remember) := ggX5_cast_X2_remember
set_option maxRecDepth 20000 in
theorem ggX5_cast_X1_throwByX : GoodIn wsX5_cast wsX1_throwByX := goodIn_r _ [67, 43, 68, 69, 70, 71, 72, 73, 74, 75, 76, 77, 78, 79, 4, 80, 20, 46, 87, 88, 89, 90, 91, 92, 93] (by decide +kernel) (by decide +kernel)
set_option maxRecDepth 20000 in
theorem gX5_cast_X1_throwByX_n69 : GoodIn wsX5_cast (wsX1_throwByX) := ggX5_cast_X1_throwByX
theorem dX5_cast_0 : decode cX5_cast 0 = .ok (.aload_n 0, 1) := by decide +kernel
theorem dX5_cast_1 : decode cX5_cast 1 = .ok (.getfield 12, 3) := by decide +kernel
theorem dX5_cast_4 : decode cX5_cast 4 = .ok (.invokevirtual 62, 3) := by decide +kernel
theorem dX5_cast_7 : decode cX5_cast 7 = .ok (.ifCond .ne 13, 3) := by decide +kernel
theorem dX5_cast_10 : decode cX5_cast 10 = .ok (.aload_n 0, 1) := by decide +kernel
theorem dX5_cast_11 : decode cX5_cast 11 = .ok (.getfield 12, 3) := by decide +kernel
theorem dX5_cast_14 : decode cX5_cast 14 = .ok (.invokevirtual 66, 3) := by decide +kernel
theorem dX5_cast_17 : decode cX5_cast 17 = .ok (.ifCond .eq 6, 3) := by decide +kernel
theorem dX5_cast_20 : decode cX5_cast 20 = .ok (.bipush (-5), 2) := by decide +kernel
theorem dX5_cast_22 : decode cX5_cast 22 = .ok (.ireturn, 1) := by decide +kernel
theorem dX5_cast_23 : decode cX5_cast 23 = .ok (.aload_n 0, 1) := by decide +kernel
theorem dX5_cast_24 : decode cX5_cast 24 = .ok (.getfield 36, 3) := by decide +kernel
theorem dX5_cast_27 : decode cX5_cast 27 = .ok (.aload_n 0, 1) := by decide +kernel
theorem dX5_cast_28 : decode cX5_cast 28 = .ok (.getfield 12, 3) := by decide +kernel
theorem dX5_cast_31 : decode cX5_cast 31 = .ok (.invokevirtual 51, 3) := by decide +kernel
theorem dX5_cast_34 : decode cX5_cast 34 = .ok (.aload_n 0, 1) := by decide +kernel
theorem dX5_cast_35 : decode cX5_cast 35 = .ok (.getfield 12, 3) := by decide +kernel
theorem dX5_cast_38 : decode cX5_cast 38 = .ok (.invokevirtual 69, 3) := by decide +kernel
theorem dX5_cast_41 : decode cX5_cast 41 = .ok (.aload_n 0, 1) := by decide +kernel
theorem dX5_cast_42 : decode cX5_cast 42 = .ok (.getfield 12, 3) := by decide +kernel
theorem dX5_cast_45 : decode cX5_cast 45 = .ok (.getfield 72, 3) := by decide +kernel
theorem dX5_cast_48 : decode cX5_cast 48 = .ok (.ireturn, 1) := by decide +kernel
set_option maxRecDepth 20000 in
theorem ggX5_move_X1_hasThrow : GoodIn wsX5_move wsX1_hasThrow := goodIn_r _ [6, 7, 135, 136, 137, 138, 139, 140, 141] (by decide +kernel) (by decide +kernel)
set_option maxRecDepth 20000 in
theorem gX5_move_X1_hasThrow_n66 : GoodIn wsX5_move (wsX1_hasThrow) := ggX5_move_X1_hasThrow
set_option maxRecDepth 20000 in
theorem ggX5_move_X1_reason : GoodIn wsX5_move wsX1_reason := goodIn_r _ [10, 11, 12, 13, 14, 15, 16, 17, 18, 19, 20, 21, 22, 23, 24, 25, 26, 27, 28, 29, 30, 31, 32, 33, 34, 35, 36, 37, 38, 39, 40, 41, 42, 43, 44, 45, 46, 47, 135, 136, 137, 138, 139, 140, 141, 142, 143, 144, 145, 146] (by decide +kernel) (by decide +kernel)
set_option maxRecDepth 20000 in
theorem gX5_move_X1_reason_n78 : GoodIn wsX5_move (wsX1_reason) := ggX5_move_X1_reason
set_option maxRecDepth 20000 in
theorem ggX5_move_X2_remember : GoodIn wsX5_move wsX2_remember := goodIn_r _ [51, 52, 53, 54, 55, 4, 56, 57, 58, 59, 60, 61, 62, 63, 64, 65, 66, 67, 14, 11, 68, 12, 69, 70, 7, 71, 72, 73, 74, 75, 76, 77, 78, 79, 38, 80, 28, 81, 82, 83, 84, 85, 86, 87, 88, 89, 147, 148, 149, 135, 136, 137, 138, 139, 140, 141, 142, 143, 144, 145, 146] (by decide +kernel) (by decide +kernel)
set_option maxRecDepth 20000 in
theorem gX5_move_X2_remember_n51 : GoodIn wsX5_move (wsX2_remember) := ggX5_move_X2_remember
set_option maxRecDepth 20000 in
theorem ggX5_move_X1_moveByThrow : GoodIn wsX5_move wsX1_moveByThrow := goodIn_r _ [92, 11, 70, 7, 71, 13, 14, 15, 16, 17, 18, 19, 20, 21, 22, 23, 24, 25, 26, 27, 28, 29, 30, 93, 94, 95, 38, 80, 96, 97, 98, 99, 100, 101, 102, 81, 82, 103, 104, 105, 106, 107, 108, 109, 4, 110, 72, 12, 111, 112, 113, 114, 115, 116, 117, 118, 119, 120, 121, 122, 123, 124, 125, 126, 127, 128, 135, 136, 137, 138, 139, 140, 141, 142, 143, 144, 145, 146] (by decide +kernel) (by decide +kernel)
set_option maxRecDepth 20000 in
theorem gX5_move_X1_moveByThrow_n82 : GoodIn wsX5_move (wsX1_moveByThrow) := ggX5_move_X1_moveByThrow
theorem dX5_move_0 : decode cX5_move 0 = .ok (.iload_n 1, 1) := by decide +kernel
theorem dX5_move_1 : decode cX5_move 1 = .ok (.ifCond .lt 8, 3) := by decide +kernel
theorem dX5_move_4 : decode cX5_move 4 = .ok (.iload_n 1, 1) := by decide +kernel
theorem dX5_move_5 : decode cX5_move 5 = .ok (.iconst 3, 1) := by decide +kernel
theorem dX5_move_6 : decode cX5_move 6 = .ok (.if_icmp .lt 5, 3) := by decide +kernel
theorem dX5_move_9 : decode cX5_move 9 = .ok (.iconst (-1), 1) := by decide +kernel
theorem dX5_move_10 : decode cX5_move 10 = .ok (.ireturn, 1) := by decide +kernel
theorem dX5_move_11 : decode cX5_move 11 = .ok (.aload_n 0, 1) := by decide +kernel
theorem dX5_move_12 : decode cX5_move 12 = .ok (.getfield 12, 3) := by decide +kernel
theorem dX5_move_15 : decode cX5_move 15 = .ok (.getfield 75, 3) := by decide +kernel
theorem dX5_move_18 : decode cX5_move 18 = .ok (.iconst 3, 1) := by decide +kernel
theorem dX5_move_19 : decode cX5_move 19 = .ok (.imul, 1) := by decide +kernel
theorem dX5_move_20 : decode cX5_move 20 = .ok (.iload_n 1, 1) := by decide +kernel
theorem dX5_move_21 : decode cX5_move 21 = .ok (.iadd, 1) := by decide +kernel
theorem dX5_move_22 : decode cX5_move 22 = .ok (.istore_n 2, 1) := by decide +kernel
theorem dX5_move_23 : decode cX5_move 23 = .ok (.aload_n 0, 1) := by decide +kernel
theorem dX5_move_24 : decode cX5_move 24 = .ok (.getfield 12, 3) := by decide +kernel
theorem dX5_move_27 : decode cX5_move 27 = .ok (.invokevirtual 66, 3) := by decide +kernel
theorem dX5_move_30 : decode cX5_move 30 = .ok (.ifCond .eq 21, 3) := by decide +kernel
theorem dX5_move_33 : decode cX5_move 33 = .ok (.aload_n 0, 1) := by decide +kernel
theorem dX5_move_34 : decode cX5_move 34 = .ok (.getfield 12, 3) := by decide +kernel
theorem dX5_move_37 : decode cX5_move 37 = .ok (.iload_n 2, 1) := by decide +kernel
theorem dX5_move_38 : decode cX5_move 38 = .ok (.aload_n 0, 1) := by decide +kernel
theorem dX5_move_39 : decode cX5_move 39 = .ok (.getfield 12, 3) := by decide +kernel
theorem dX5_move_42 : decode cX5_move 42 = .ok (.getfield 72, 3) := by decide +kernel
theorem dX5_move_45 : decode cX5_move 45 = .ok (.invokevirtual 78, 3) := by decide +kernel
theorem dX5_move_48 : decode cX5_move 48 = .ok (.ifCond .eq 6, 3) := by decide +kernel
theorem dX5_move_51 : decode cX5_move 51 = .ok (.bipush (-5), 2) := by decide +kernel
theorem dX5_move_53 : decode cX5_move 53 = .ok (.ireturn, 1) := by decide +kernel
theorem dX5_move_54 : decode cX5_move 54 = .ok (.aload_n 0, 1) := by decide +kernel
theorem dX5_move_55 : decode cX5_move 55 = .ok (.getfield 36, 3) := by decide +kernel
theorem dX5_move_58 : decode cX5_move 58 = .ok (.aload_n 0, 1) := by decide +kernel
theorem dX5_move_59 : decode cX5_move 59 = .ok (.getfield 12, 3) := by decide +kernel
theorem dX5_move_62 : decode cX5_move 62 = .ok (.invokevirtual 51, 3) := by decide +kernel
theorem dX5_move_65 : decode cX5_move 65 = .ok (.aload_n 0, 1) := by decide +kernel
theorem dX5_move_66 : decode cX5_move 66 = .ok (.getfield 12, 3) := by decide +kernel
theorem dX5_move_69 : decode cX5_move 69 = .ok (.iload_n 2, 1) := by decide +kernel
theorem dX5_move_70 : decode cX5_move 70 = .ok (.invokevirtual 82, 3) := by decide +kernel
theorem dX5_move_73 : decode cX5_move 73 = .ok (.ireturn, 1) := by decide +kernel
set_option maxRecDepth 20000 in
theorem ggX5_skip_X1_hasThrow : GoodIn wsX5_skip wsX1_hasThrow := goodIn_r _ [6, 7, 121, 122, 123, 124, 125, 126, 127] (by decide +kernel) (by decide +kernel)
set_option maxRecDepth 20000 in
theorem gX5_skip_X1_hasThrow_n66 : GoodIn wsX5_skip (wsX1_hasThrow) := ggX5_skip_X1_hasThrow
set_option maxRecDepth 20000 in
theorem ggX5_skip_X1_canMoveBy : GoodIn wsX5_skip wsX1_canMoveBy := goodIn_r _ [10, 11, 12, 13, 14, 4, 15, 16, 17, 18, 19, 20, 21, 22, 23, 24, 25, 26, 27, 28, 29, 30, 31, 32, 33, 34, 35, 36, 37, 38, 39, 40, 41, 42, 43, 44, 45, 46, 47, 48, 49, 50, 51, 52, 121, 122, 123, 124, 125, 126, 127, 128, 129, 130, 131, 132] (by decide +kernel) (by decide +kernel)
set_option maxRecDepth 20000 in
theorem gX5_skip_X1_canMoveBy_n86 : GoodIn wsX5_skip (wsX1_canMoveBy) := ggX5_skip_X1_canMoveBy
set_option maxRecDepth 20000 in
theorem ggX5_skip_X2_remember : GoodIn wsX5_skip wsX2_remember := goodIn_r _ [56, 57, 58, 59, 60, 4, 61, 62, 63, 64, 65, 66, 67, 68, 69, 70, 71, 72, 19, 16, 73, 17, 74, 11, 7, 75, 76, 77, 78, 79, 80, 81, 82, 83, 43, 84, 33, 85, 86, 87, 88, 89, 90, 91, 92, 93, 133, 134, 135, 121, 122, 123, 124, 125, 126, 127, 128, 129, 130, 131, 132] (by decide +kernel) (by decide +kernel)
set_option maxRecDepth 20000 in
theorem gX5_skip_X2_remember_n51 : GoodIn wsX5_skip (wsX2_remember) := ggX5_skip_X2_remember
set_option maxRecDepth 20000 in
theorem ggX5_skip_X1_endThrow : GoodIn wsX5_skip wsX1_endThrow := goodIn_r _ [96, 7, 76, 17, 97, 98, 99, 4, 100, 16, 101, 19, 102, 103, 104, 105, 106, 107, 43, 108, 109, 110, 111, 11, 75, 112, 113, 114, 33, 85, 121, 122, 123, 124, 125, 126, 127, 128, 129, 130, 131, 132] (by decide +kernel) (by decide +kernel)
set_option maxRecDepth 20000 in
theorem gX5_skip_X1_endThrow_n90 : GoodIn wsX5_skip (wsX1_endThrow) := ggX5_skip_X1_endThrow
theorem dX5_skip_0 : decode cX5_skip 0 = .ok (.aload_n 0, 1) := by decide +kernel
theorem dX5_skip_1 : decode cX5_skip 1 = .ok (.getfield 12, 3) := by decide +kernel
theorem dX5_skip_4 : decode cX5_skip 4 = .ok (.invokevirtual 66, 3) := by decide +kernel
theorem dX5_skip_7 : decode cX5_skip 7 = .ok (.ifCond .eq 20, 3) := by decide +kernel
theorem dX5_skip_10 : decode cX5_skip 10 = .ok (.aload_n 0, 1) := by decide +kernel
theorem dX5_skip_11 : decode cX5_skip 11 = .ok (.getfield 12, 3) := by decide +kernel
theorem dX5_skip_14 : decode cX5_skip 14 = .ok (.aload_n 0, 1) := by decide +kernel
theorem dX5_skip_15 : decode cX5_skip 15 = .ok (.getfield 12, 3) := by decide +kernel
theorem dX5_skip_18 : decode cX5_skip 18 = .ok (.getfield 72, 3) := by decide +kernel
theorem dX5_skip_21 : decode cX5_skip 21 = .ok (.invokevirtual 86, 3) := by decide +kernel
theorem dX5_skip_24 : decode cX5_skip 24 = .ok (.ifCond .eq 6, 3) := by decide +kernel
theorem dX5_skip_27 : decode cX5_skip 27 = .ok (.bipush (-5), 2) := by decide +kernel
theorem dX5_skip_29 : decode cX5_skip 29 = .ok (.ireturn, 1) := by decide +kernel
theorem dX5_skip_30 : decode cX5_skip 30 = .ok (.aload_n 0, 1) := by decide +kernel
theorem dX5_skip_31 : decode cX5_skip 31 = .ok (.getfield 36, 3) := by decide +kernel
theorem dX5_skip_34 : decode cX5_skip 34 = .ok (.aload_n 0, 1) := by decide +kernel
theorem dX5_skip_35 : decode cX5_skip 35 = .ok (.getfield 12, 3) := by decide +kernel
theorem dX5_skip_38 : decode cX5_skip 38 = .ok (.invokevirtual 51, 3) := by decide +kernel
theorem dX5_skip_41 : decode cX5_skip 41 = .ok (.aload_n 0, 1) := by decide +kernel
theorem dX5_skip_42 : decode cX5_skip 42 = .ok (.getfield 12, 3) := by decide +kernel
theorem dX5_skip_45 : decode cX5_skip 45 = .ok (.invokevirtual 90, 3) := by decide +kernel
theorem dX5_skip_48 : decode cX5_skip 48 = .ok (.aload_n 0, 1) := by decide +kernel
theorem dX5_skip_49 : decode cX5_skip 49 = .ok (.getfield 12, 3) := by decide +kernel
theorem dX5_skip_52 : decode cX5_skip 52 = .ok (.getfield 75, 3) := by decide +kernel
theorem dX5_skip_55 : decode cX5_skip 55 = .ok (.ireturn, 1) := by decide +kernel
set_option maxRecDepth 20000 in
theorem ggX5_play_X1_isOver : GoodIn wsX5_play wsX1_isOver := goodIn_r _ [6, 7, 8, 9, 10, 11, 12, 13, 14, 15, 16, 166, 167, 168, 169, 170, 171, 172, 173, 174, 175, 176, 177] (by decide +kernel) (by decide +kernel)
set_option maxRecDepth 20000 in
theorem gX5_play_X1_isOver_n62 : GoodIn wsX5_play (wsX1_isOver) := ggX5_play_X1_isOver
set_option maxRecDepth 20000 in
theorem ggX5_play_X1_hasThrow : GoodIn wsX5_play wsX1_hasThrow := goodIn_r _ [19, 20, 166, 167, 168, 169, 170, 171, 172] (by decide +kernel) (by decide +kernel)
set_option maxRecDepth 20000 in
theorem gX5_play_X1_hasThrow_n66 : GoodIn wsX5_play (wsX1_hasThrow) := ggX5_play_X1_hasThrow
set_option maxRecDepth 20000 in
theorem ggX5_play_X2_remember : GoodIn wsX5_play wsX2_remember := goodIn_r _ [24, 25, 26, 27, 28, 4, 29, 30, 31, 32, 33, 34, 35, 36, 37, 38, 39, 40, 9, 7, 41, 42, 43, 44, 20, 45, 46, 47, 48, 49, 50, 51, 52, 53, 16, 54, 55, 56, 57, 58, 59, 60, 61, 62, 63, 64, 178, 179, 180, 166, 167, 168, 169, 170, 171, 172, 173, 174, 175, 176, 177] (by decide +kernel) (by decide +kernel)
set_option maxRecDepth 20000 in
theorem gX5_play_X2_remember_n51 : GoodIn wsX5_play (wsX2_remember) := ggX5_play_X2_remember
set_option maxRecDepth 20000 in
theorem ggX5_play_X1_playOn : GoodIn wsX5_play wsX1_playOn := goodIn_r _ [67, 68, 3, 5, 4, 6, 7, 8, 9, 10, 11, 12, 13, 14, 15, 16, 69, 70, 71, 72, 43, 73, 74, 75, 76, 77, 78, 79, 80, 81, 82, 83, 84, 85, 20, 46, 86, 87, 88, 89, 44, 90, 91, 92, 93, 42, 94, 95, 96, 97, 98, 99, 100, 101, 102, 103, 104, 105, 106, 55, 107, 108, 109, 110, 111, 112, 113, 114, 115, 116, 117, 118, 119, 120, 121, 122, 123, 124, 125, 126, 127, 128, 129, 130, 131, 132, 133, 134, 135, 136, 137, 138, 45, 139, 140, 141, 56, 142, 143, 144, 145, 146, 147, 148, 54, 149, 150, 151, 152, 153, 154, 155, 57, 156, 157, 158, 159, 166, 167, 168, 169, 170, 171, 172, 173, 174, 175, 176, 177] (by decide +kernel) (by decide +kernel)
set_option maxRecDepth 20000 in
theorem gX5_play_X1_playOn_n93 : GoodIn wsX5_play (wsX1_playOn) := ggX5_play_X1_playOn
theorem dX5_play_0 : decode cX5_play 0 = .ok (.iload_n 1, 1) := by decide +kernel
theorem dX5_play_1 : decode cX5_play 1 = .ok (.iconst 1, 1) := by decide +kernel
theorem dX5_play_2 : decode cX5_play 2 = .ok (.if_icmp .lt 9, 3) := by decide +kernel
theorem dX5_play_5 : decode cX5_play 5 = .ok (.iload_n 1, 1) := by decide +kernel
theorem dX5_play_6 : decode cX5_play 6 = .ok (.bipush 100, 2) := by decide +kernel
theorem dX5_play_8 : decode cX5_play 8 = .ok (.if_icmp .le 6, 3) := by decide +kernel
theorem dX5_play_11 : decode cX5_play 11 = .ok (.bipush (-2), 2) := by decide +kernel
theorem dX5_play_13 : decode cX5_play 13 = .ok (.ireturn, 1) := by decide +kernel
theorem dX5_play_14 : decode cX5_play 14 = .ok (.aload_n 0, 1) := by decide +kernel
theorem dX5_play_15 : decode cX5_play 15 = .ok (.getfield 12, 3) := by decide +kernel
theorem dX5_play_18 : decode cX5_play 18 = .ok (.invokevirtual 62, 3) := by decide +kernel
theorem dX5_play_21 : decode cX5_play 21 = .ok (.ifCond .ne 13, 3) := by decide +kernel
theorem dX5_play_24 : decode cX5_play 24 = .ok (.aload_n 0, 1) := by decide +kernel
theorem dX5_play_25 : decode cX5_play 25 = .ok (.getfield 12, 3) := by decide +kernel
theorem dX5_play_28 : decode cX5_play 28 = .ok (.invokevirtual 66, 3) := by decide +kernel
theorem dX5_play_31 : decode cX5_play 31 = .ok (.ifCond .eq 6, 3) := by decide +kernel
theorem dX5_play_34 : decode cX5_play 34 = .ok (.bipush (-5), 2) := by decide +kernel
theorem dX5_play_36 : decode cX5_play 36 = .ok (.ireturn, 1) := by decide +kernel
theorem dX5_play_37 : decode cX5_play 37 = .ok (.aload_n 0, 1) := by decide +kernel
theorem dX5_play_38 : decode cX5_play 38 = .ok (.getfield 36, 3) := by decide +kernel
theorem dX5_play_41 : decode cX5_play 41 = .ok (.aload_n 0, 1) := by decide +kernel
theorem dX5_play_42 : decode cX5_play 42 = .ok (.getfield 12, 3) := by decide +kernel
theorem dX5_play_45 : decode cX5_play 45 = .ok (.invokevirtual 51, 3) := by decide +kernel
theorem dX5_play_48 : decode cX5_play 48 = .ok (.aload_n 0, 1) := by decide +kernel
theorem dX5_play_49 : decode cX5_play 49 = .ok (.getfield 12, 3) := by decide +kernel
theorem dX5_play_52 : decode cX5_play 52 = .ok (.iload_n 1, 1) := by decide +kernel
theorem dX5_play_53 : decode cX5_play 53 = .ok (.invokevirtual 93, 3) := by decide +kernel
theorem dX5_play_56 : decode cX5_play 56 = .ok (.ireturn, 1) := by decide +kernel
set_option maxRecDepth 20000 in
theorem ggX5_read_X3_faultIndex : GoodIn wsX5_read wsX3_faultIndex := goodIn_r _ [7, 8, 9, 10, 11, 5, 12, 13, 14, 15, 170, 171] (by decide +kernel) (by decide +kernel)
set_option maxRecDepth 20000 in
theorem gX5_read_X3_faultIndex_n96 : GoodIn wsX5_read (wsX3_faultIndex) := ggX5_read_X3_faultIndex
set_option maxRecDepth 20000 in
theorem ggX5_read_X1_hasThrow : GoodIn wsX5_read wsX1_hasThrow := goodIn_r _ [19, 20, 172, 173, 174, 175, 176, 177, 178] (by decide +kernel) (by decide +kernel)
set_option maxRecDepth 20000 in
theorem gX5_read_X1_hasThrow_n66 : GoodIn wsX5_read (wsX1_hasThrow) := ggX5_read_X1_hasThrow
set_option maxRecDepth 20000 in
theorem ggX5_read_X2_remember : GoodIn wsX5_read wsX2_remember := goodIn_r _ [24, 25, 26, 27, 28, 17, 29, 30, 31, 32, 33, 34, 35, 36, 37, 38, 39, 40, 41, 42, 43, 44, 45, 46, 20, 47, 48, 49, 50, 51, 52, 53, 54, 55, 56, 57, 58, 59, 60, 61, 62, 63, 64, 65, 66, 67, 179, 180, 181, 172, 173, 174, 175, 176, 177, 178, 182, 183, 184, 185, 186] (by decide +kernel) (by decide +kernel)
set_option maxRecDepth 20000 in
theorem gX5_read_X2_remember_n51 : GoodIn wsX5_read (wsX2_remember) := ggX5_read_X2_remember
set_option maxRecDepth 20000 in
theorem ggX5_read_X3_moves : GoodIn wsX5_read wsX3_moves := goodIn_r _ [70, 8, 170, 171] (by decide +kernel) (by decide +kernel)
set_option maxRecDepth 20000 in
theorem gX5_read_X3_moves_n100 : GoodIn wsX5_read (wsX3_moves) := ggX5_read_X3_moves
set_option maxRecDepth 20000 in
theorem ggX5_read_X1_isOver : GoodIn wsX5_read wsX1_isOver := goodIn_r _ [73, 42, 74, 41, 75, 76, 77, 78, 79, 80, 56, 172, 173, 174, 175, 176, 177, 178, 182, 183, 184, 185, 186] (by decide +kernel) (by decide +kernel)
set_option maxRecDepth 20000 in
theorem gX5_read_X1_isOver_n62 : GoodIn wsX5_read (wsX1_isOver) := ggX5_read_X1_isOver
set_option maxRecDepth 20000 in
theorem ggX5_read_X3_castOfMove : GoodIn wsX5_read wsX3_castOfMove := goodIn_r _ [83, 9, 170, 171] (by decide +kernel) (by decide +kernel)
set_option maxRecDepth 20000 in
theorem gX5_read_X3_castOfMove_n103 : GoodIn wsX5_read (wsX3_castOfMove) := ggX5_read_X3_castOfMove
set_option maxRecDepth 20000 in
theorem ggX5_read_X3_pieceOfMove : GoodIn wsX5_read wsX3_pieceOfMove := goodIn_r _ [86, 9, 170, 171] (by decide +kernel) (by decide +kernel)
set_option maxRecDepth 20000 in
theorem gX5_read_X3_pieceOfMove_n106 : GoodIn wsX5_read (wsX3_pieceOfMove) := ggX5_read_X3_pieceOfMove
set_option maxRecDepth 20000 in
theorem ggX5_read_X1_makeMove : GoodIn wsX5_read wsX1_makeMove := goodIn_r _ [89, 46, 90, 91, 92, 17, 93, 94, 95, 96, 97, 42, 44, 98, 41, 99, 100, 101, 102, 103, 104, 105, 106, 107, 108, 109, 110, 111, 58, 112, 113, 114, 115, 116, 117, 118, 119, 120, 56, 121, 122, 123, 124, 125, 126, 127, 128, 129, 130, 131, 132, 133, 20, 48, 134, 135, 136, 137, 138, 71, 72, 73, 74, 75, 76, 77, 78, 79, 80, 139, 140, 141, 142, 47, 143, 144, 145, 59, 146, 147, 148, 149, 150, 151, 152, 57, 153, 154, 155, 156, 157, 158, 159, 60, 160, 161, 162, 163, 172, 173, 174, 175, 176, 177, 178, 182, 183, 184, 185, 186] (by decide +kernel) (by decide +kernel)
set_option maxRecDepth 20000 in
theorem gX5_read_X1_makeMove_n109 : GoodIn wsX5_read (wsX1_makeMove) := ggX5_read_X1_makeMove
theorem dX5_read_0 : decode cX5_read 0 = .ok (.aload_n 0, 1) := by decide +kernel
theorem dX5_read_1 : decode cX5_read 1 = .ok (.getfield 29, 3) := by decide +kernel
theorem dX5_read_4 : decode cX5_read 4 = .ok (.invokevirtual 96, 3) := by decide +kernel
theorem dX5_read_7 : decode cX5_read 7 = .ok (.bipush (-6), 2) := by decide +kernel
theorem dX5_read_9 : decode cX5_read 9 = .ok (.if_icmp .eq 6, 3) := by decide +kernel
theorem dX5_read_12 : decode cX5_read 12 = .ok (.bipush (-3), 2) := by decide +kernel
theorem dX5_read_14 : decode cX5_read 14 = .ok (.ireturn, 1) := by decide +kernel
theorem dX5_read_15 : decode cX5_read 15 = .ok (.aload_n 0, 1) := by decide +kernel
theorem dX5_read_16 : decode cX5_read 16 = .ok (.getfield 12, 3) := by decide +kernel
theorem dX5_read_19 : decode cX5_read 19 = .ok (.invokevirtual 66, 3) := by decide +kernel
theorem dX5_read_22 : decode cX5_read 22 = .ok (.ifCond .eq 6, 3) := by decide +kernel
theorem dX5_read_25 : decode cX5_read 25 = .ok (.bipush (-5), 2) := by decide +kernel
theorem dX5_read_27 : decode cX5_read 27 = .ok (.ireturn, 1) := by decide +kernel
theorem dX5_read_28 : decode cX5_read 28 = .ok (.aload_n 0, 1) := by decide +kernel
theorem dX5_read_29 : decode cX5_read 29 = .ok (.getfield 36, 3) := by decide +kernel
theorem dX5_read_32 : decode cX5_read 32 = .ok (.aload_n 0, 1) := by decide +kernel
theorem dX5_read_33 : decode cX5_read 33 = .ok (.getfield 12, 3) := by decide +kernel
theorem dX5_read_36 : decode cX5_read 36 = .ok (.invokevirtual 51, 3) := by decide +kernel
theorem dX5_read_39 : decode cX5_read 39 = .ok (.iconst 0, 1) := by decide +kernel
theorem dX5_read_40 : decode cX5_read 40 = .ok (.istore_n 1, 1) := by decide +kernel
theorem dX5_read_41 : decode cX5_read 41 = .ok (.iload_n 1, 1) := by decide +kernel
theorem dX5_read_42 : decode cX5_read 42 = .ok (.aload_n 0, 1) := by decide +kernel
theorem dX5_read_43 : decode cX5_read 43 = .ok (.getfield 29, 3) := by decide +kernel
theorem dX5_read_46 : decode cX5_read 46 = .ok (.invokevirtual 100, 3) := by decide +kernel
theorem dX5_read_49 : decode cX5_read 49 = .ok (.if_icmp .ge 45, 3) := by decide +kernel
theorem dX5_read_52 : decode cX5_read 52 = .ok (.aload_n 0, 1) := by decide +kernel
theorem dX5_read_53 : decode cX5_read 53 = .ok (.getfield 12, 3) := by decide +kernel
theorem dX5_read_56 : decode cX5_read 56 = .ok (.invokevirtual 62, 3) := by decide +kernel
theorem dX5_read_59 : decode cX5_read 59 = .ok (.ifCond .ne 35, 3) := by decide +kernel
theorem dX5_read_62 : decode cX5_read 62 = .ok (.aload_n 0, 1) := by decide +kernel
theorem dX5_read_63 : decode cX5_read 63 = .ok (.getfield 12, 3) := by decide +kernel
theorem dX5_read_66 : decode cX5_read 66 = .ok (.aload_n 0, 1) := by decide +kernel
theorem dX5_read_67 : decode cX5_read 67 = .ok (.getfield 29, 3) := by decide +kernel
theorem dX5_read_70 : decode cX5_read 70 = .ok (.iload_n 1, 1) := by decide +kernel
theorem dX5_read_71 : decode cX5_read 71 = .ok (.invokevirtual 103, 3) := by decide +kernel
theorem dX5_read_74 : decode cX5_read 74 = .ok (.aload_n 0, 1) := by decide +kernel
theorem dX5_read_75 : decode cX5_read 75 = .ok (.getfield 29, 3) := by decide +kernel
theorem dX5_read_78 : decode cX5_read 78 = .ok (.iload_n 1, 1) := by decide +kernel
theorem dX5_read_79 : decode cX5_read 79 = .ok (.invokevirtual 106, 3) := by decide +kernel
theorem dX5_read_82 : decode cX5_read 82 = .ok (.invokevirtual 109, 3) := by decide +kernel
theorem dX5_read_85 : decode cX5_read 85 = .ok (.ifCond .eq 9, 3) := by decide +kernel
theorem dX5_read_88 : decode cX5_read 88 = .ok (.iinc 1 1, 3) := by decide +kernel
theorem dX5_read_91 : decode cX5_read 91 = .ok (.goto (-50), 3) := by decide +kernel
theorem dX5_read_94 : decode cX5_read 94 = .ok (.aload_n 0, 1) := by decide +kernel
theorem dX5_read_95 : decode cX5_read 95 = .ok (.getfield 29, 3) := by decide +kernel
theorem dX5_read_98 : decode cX5_read 98 = .ok (.iconst 0, 1) := by decide +kernel
theorem dX5_read_99 : decode cX5_read 99 = .ok (.putfield 113, 3) := by decide +kernel
theorem dX5_read_102 : decode cX5_read 102 = .ok (.iload_n 1, 1) := by decide +kernel
theorem dX5_read_103 : decode cX5_read 103 = .ok (.ireturn, 1) := by decide +kernel
set_option maxRecDepth 20000 in
theorem ggX5_lay_X5_isNoPiece : GoodIn wsX5_lay wsX5_isNoPiece := goodIn_r _ [6] (by decide +kernel) (by decide +kernel)
set_option maxRecDepth 20000 in
theorem gX5_lay_X5_isNoPiece : GoodIn wsX5_lay (va_wsS RX5 116 yX5_isNoPiece wsX5_isNoPiece) := goodIn_app (goodIn_of _ (by decide +kernel)) ggX5_lay_X5_isNoPiece
set_option maxRecDepth 20000 in
theorem ggX5_lay_X0_hasRoomFor : GoodIn wsX5_lay wsX0_hasRoomFor := goodIn_r _ [10, 11, 12, 13, 8, 14, 15, 16, 5, 17, 18, 19, 20, 21, 22, 23, 24, 25, 26, 27, 28, 29, 30, 31, 32, 33, 34, 35, 36, 107, 108, 109, 110, 111] (by decide +kernel) (by decide +kernel)
set_option maxRecDepth 20000 in
theorem gX5_lay_X0_hasRoomFor_n123 : GoodIn wsX5_lay (wsX0_hasRoomFor) := ggX5_lay_X0_hasRoomFor
set_option maxRecDepth 20000 in
theorem ggX5_lay_X2_remember : GoodIn wsX5_lay wsX2_remember := goodIn_r _ [40, 41, 42, 43, 44, 45, 46, 47, 48, 49, 50, 51, 52, 53, 54, 55, 56, 57, 8, 58, 59, 60, 61, 62, 63, 64, 65, 66, 67, 68, 69, 70, 71, 72, 15, 73, 34, 74, 75, 76, 77, 78, 79, 80, 81, 82, 112, 113, 114, 100, 101, 102, 103, 104, 105, 106, 107, 108, 109, 110, 111] (by decide +kernel) (by decide +kernel)
set_option maxRecDepth 20000 in
theorem gX5_lay_X2_remember_n51 : GoodIn wsX5_lay (wsX2_remember) := ggX5_lay_X2_remember
set_option maxRecDepth 20000 in
theorem ggX5_lay_X0_place : GoodIn wsX5_lay wsX0_place := goodIn_r _ [85, 15, 86, 87, 88, 8, 89, 34, 74, 75, 90, 91, 92, 93, 16, 5, 17, 107, 108, 109, 110, 111] (by decide +kernel) (by decide +kernel)
set_option maxRecDepth 20000 in
theorem gX5_lay_X0_place_n134 : GoodIn wsX5_lay (wsX0_place) := ggX5_lay_X0_place
theorem dX5_lay_0 : decode cX5_lay 0 = .ok (.iload_n 1, 1) := by decide +kernel
theorem dX5_lay_1 : decode cX5_lay 1 = .ok (.invokestatic 116, 3) := by decide +kernel
theorem dX5_lay_4 : decode cX5_lay 4 = .ok (.ifCond .eq 5, 3) := by decide +kernel
theorem dX5_lay_7 : decode cX5_lay 7 = .ok (.iconst (-1), 1) := by decide +kernel
theorem dX5_lay_8 : decode cX5_lay 8 = .ok (.ireturn, 1) := by decide +kernel
theorem dX5_lay_9 : decode cX5_lay 9 = .ok (.iload_n 2, 1) := by decide +kernel
theorem dX5_lay_10 : decode cX5_lay 10 = .ok (.bipush (-6), 2) := by decide +kernel
theorem dX5_lay_12 : decode cX5_lay 12 = .ok (.if_icmp .eq 16, 3) := by decide +kernel
theorem dX5_lay_15 : decode cX5_lay 15 = .ok (.iload_n 2, 1) := by decide +kernel
theorem dX5_lay_16 : decode cX5_lay 16 = .ok (.ifCond .lt 9, 3) := by decide +kernel
theorem dX5_lay_19 : decode cX5_lay 19 = .ok (.iload_n 2, 1) := by decide +kernel
theorem dX5_lay_20 : decode cX5_lay 20 = .ok (.bipush 35, 2) := by decide +kernel
theorem dX5_lay_22 : decode cX5_lay 22 = .ok (.if_icmp .le 6, 3) := by decide +kernel
theorem dX5_lay_25 : decode cX5_lay 25 = .ok (.bipush (-2), 2) := by decide +kernel
theorem dX5_lay_27 : decode cX5_lay 27 = .ok (.ireturn, 1) := by decide +kernel
theorem dX5_lay_28 : decode cX5_lay 28 = .ok (.aload_n 0, 1) := by decide +kernel
theorem dX5_lay_29 : decode cX5_lay 29 = .ok (.getfield 12, 3) := by decide +kernel
theorem dX5_lay_32 : decode cX5_lay 32 = .ok (.getfield 119, 3) := by decide +kernel
theorem dX5_lay_35 : decode cX5_lay 35 = .ok (.iload_n 1, 1) := by decide +kernel
theorem dX5_lay_36 : decode cX5_lay 36 = .ok (.iload_n 2, 1) := by decide +kernel
theorem dX5_lay_37 : decode cX5_lay 37 = .ok (.invokevirtual 123, 3) := by decide +kernel
theorem dX5_lay_40 : decode cX5_lay 40 = .ok (.ifCond .ne 6, 3) := by decide +kernel
theorem dX5_lay_43 : decode cX5_lay 43 = .ok (.bipush (-5), 2) := by decide +kernel
theorem dX5_lay_45 : decode cX5_lay 45 = .ok (.ireturn, 1) := by decide +kernel
theorem dX5_lay_46 : decode cX5_lay 46 = .ok (.aload_n 0, 1) := by decide +kernel
theorem dX5_lay_47 : decode cX5_lay 47 = .ok (.getfield 36, 3) := by decide +kernel
theorem dX5_lay_50 : decode cX5_lay 50 = .ok (.aload_n 0, 1) := by decide +kernel
theorem dX5_lay_51 : decode cX5_lay 51 = .ok (.getfield 12, 3) := by decide +kernel
theorem dX5_lay_54 : decode cX5_lay 54 = .ok (.invokevirtual 51, 3) := by decide +kernel
theorem dX5_lay_57 : decode cX5_lay 57 = .ok (.aload_n 0, 1) := by decide +kernel
theorem dX5_lay_58 : decode cX5_lay 58 = .ok (.getfield 12, 3) := by decide +kernel
theorem dX5_lay_61 : decode cX5_lay 61 = .ok (.getfield 119, 3) := by decide +kernel
theorem dX5_lay_64 : decode cX5_lay 64 = .ok (.getfield 128, 3) := by decide +kernel
theorem dX5_lay_67 : decode cX5_lay 67 = .ok (.iload_n 1, 1) := by decide +kernel
theorem dX5_lay_68 : decode cX5_lay 68 = .ok (.iaload, 1) := by decide +kernel
theorem dX5_lay_69 : decode cX5_lay 69 = .ok (.istore_n 3, 1) := by decide +kernel
theorem dX5_lay_70 : decode cX5_lay 70 = .ok (.aload_n 0, 1) := by decide +kernel
theorem dX5_lay_71 : decode cX5_lay 71 = .ok (.getfield 12, 3) := by decide +kernel
theorem dX5_lay_74 : decode cX5_lay 74 = .ok (.getfield 119, 3) := by decide +kernel
theorem dX5_lay_77 : decode cX5_lay 77 = .ok (.iload_n 1, 1) := by decide +kernel
theorem dX5_lay_78 : decode cX5_lay 78 = .ok (.iload_n 2, 1) := by decide +kernel
theorem dX5_lay_79 : decode cX5_lay 79 = .ok (.aload_n 0, 1) := by decide +kernel
theorem dX5_lay_80 : decode cX5_lay 80 = .ok (.getfield 12, 3) := by decide +kernel
theorem dX5_lay_83 : decode cX5_lay 83 = .ok (.getfield 131, 3) := by decide +kernel
theorem dX5_lay_86 : decode cX5_lay 86 = .ok (.invokevirtual 134, 3) := by decide +kernel
theorem dX5_lay_89 : decode cX5_lay 89 = .ok (.iload_n 3, 1) := by decide +kernel
theorem dX5_lay_90 : decode cX5_lay 90 = .ok (.ireturn, 1) := by decide +kernel
set_option maxRecDepth 20000 in
theorem ggX5_piece_X5_isNoPiece : GoodIn wsX5_piece wsX5_isNoPiece := goodIn_r _ [5] (by decide +kernel) (by decide +kernel)
set_option maxRecDepth 20000 in
theorem gX5_piece_X5_isNoPiece : GoodIn wsX5_piece (va_wsS RX5 116 yX5_isNoPiece wsX5_isNoPiece) := goodIn_app (goodIn_of _ (by decide +kernel)) ggX5_piece_X5_isNoPiece
set_option maxRecDepth 20000 in
theorem ggX5_piece_X0_fieldOf : GoodIn wsX5_piece wsX0_fieldOf := goodIn_r _ [9, 10, 11, 4, 12, 35, 36, 37, 38, 39] (by decide +kernel) (by decide +kernel)
set_option maxRecDepth 20000 in
theorem gX5_piece_X0_fieldOf_n138 : GoodIn wsX5_piece (wsX0_fieldOf) := ggX5_piece_X0_fieldOf
set_option maxRecDepth 20000 in
theorem ggX5_piece_X0_isInPair : GoodIn wsX5_piece wsX0_isInPair := goodIn_r _ [15, 10, 16, 4, 17, 18, 19, 20, 7, 21, 35, 36, 37, 38, 39] (by decide +kernel) (by decide +kernel)
set_option maxRecDepth 20000 in
theorem gX5_piece_X0_isInPair_n141 : GoodIn wsX5_piece (wsX0_isInPair) := ggX5_piece_X0_isInPair
theorem dX5_piece_0 : decode cX5_piece 0 = .ok (.iload_n 1, 1) := by decide +kernel
theorem dX5_piece_1 : decode cX5_piece 1 = .ok (.invokestatic 116, 3) := by decide +kernel
theorem dX5_piece_4 : decode cX5_piece 4 = .ok (.ifCond .eq 5, 3) := by decide +kernel
theorem dX5_piece_7 : decode cX5_piece 7 = .ok (.iconst (-1), 1) := by decide +kernel
theorem dX5_piece_8 : decode cX5_piece 8 = .ok (.ireturn, 1) := by decide +kernel
theorem dX5_piece_9 : decode cX5_piece 9 = .ok (.iload_n 2, 1) := by decide +kernel
theorem dX5_piece_10 : decode cX5_piece 10 = .ok (.tableswitch 88 0 3 #[30, 43, 55, 75], 30) := by decide +kernel
theorem dX5_piece_40 : decode cX5_piece 40 = .ok (.aload_n 0, 1) := by decide +kernel
theorem dX5_piece_41 : decode cX5_piece 41 = .ok (.getfield 12, 3) := by decide +kernel
theorem dX5_piece_44 : decode cX5_piece 44 = .ok (.getfield 119, 3) := by decide +kernel
theorem dX5_piece_47 : decode cX5_piece 47 = .ok (.getfield 128, 3) := by decide +kernel
theorem dX5_piece_50 : decode cX5_piece 50 = .ok (.iload_n 1, 1) := by decide +kernel
theorem dX5_piece_51 : decode cX5_piece 51 = .ok (.iaload, 1) := by decide +kernel
theorem dX5_piece_52 : decode cX5_piece 52 = .ok (.ireturn, 1) := by decide +kernel
theorem dX5_piece_53 : decode cX5_piece 53 = .ok (.aload_n 0, 1) := by decide +kernel
theorem dX5_piece_54 : decode cX5_piece 54 = .ok (.getfield 12, 3) := by decide +kernel
theorem dX5_piece_57 : decode cX5_piece 57 = .ok (.getfield 119, 3) := by decide +kernel
theorem dX5_piece_60 : decode cX5_piece 60 = .ok (.iload_n 1, 1) := by decide +kernel
theorem dX5_piece_61 : decode cX5_piece 61 = .ok (.invokevirtual 138, 3) := by decide +kernel
theorem dX5_piece_64 : decode cX5_piece 64 = .ok (.ireturn, 1) := by decide +kernel
theorem dX5_piece_65 : decode cX5_piece 65 = .ok (.aload_n 0, 1) := by decide +kernel
theorem dX5_piece_66 : decode cX5_piece 66 = .ok (.getfield 12, 3) := by decide +kernel
theorem dX5_piece_69 : decode cX5_piece 69 = .ok (.getfield 119, 3) := by decide +kernel
theorem dX5_piece_72 : decode cX5_piece 72 = .ok (.iload_n 1, 1) := by decide +kernel
theorem dX5_piece_73 : decode cX5_piece 73 = .ok (.invokevirtual 141, 3) := by decide +kernel
theorem dX5_piece_76 : decode cX5_piece 76 = .ok (.ifCond .eq 7, 3) := by decide +kernel
theorem dX5_piece_79 : decode cX5_piece 79 = .ok (.iconst 1, 1) := by decide +kernel
theorem dX5_piece_80 : decode cX5_piece 80 = .ok (.goto 4, 3) := by decide +kernel
theorem dX5_piece_83 : decode cX5_piece 83 = .ok (.iconst 0, 1) := by decide +kernel
theorem dX5_piece_84 : decode cX5_piece 84 = .ok (.ireturn, 1) := by decide +kernel
theorem dX5_piece_85 : decode cX5_piece 85 = .ok (.aload_n 0, 1) := by decide +kernel
theorem dX5_piece_86 : decode cX5_piece 86 = .ok (.getfield 12, 3) := by decide +kernel
theorem dX5_piece_89 : decode cX5_piece 89 = .ok (.getfield 119, 3) := by decide +kernel
theorem dX5_piece_92 : decode cX5_piece 92 = .ok (.getfield 144, 3) := by decide +kernel
theorem dX5_piece_95 : decode cX5_piece 95 = .ok (.iload_n 1, 1) := by decide +kernel
theorem dX5_piece_96 : decode cX5_piece 96 = .ok (.iaload, 1) := by decide +kernel
theorem dX5_piece_97 : decode cX5_piece 97 = .ok (.ireturn, 1) := by decide +kernel
theorem dX5_piece_98 : decode cX5_piece 98 = .ok (.bipush (-2), 2) := by decide +kernel
theorem dX5_piece_100 : decode cX5_piece 100 = .ok (.ireturn, 1) := by decide +kernel
set_option maxRecDepth 20000 in
theorem ggX5_field_X0_piecesOn : GoodIn wsX5_field wsX0_piecesOn := goodIn_r _ [5, 6, 7, 8, 9, 46, 47, 48, 49, 50] (by decide +kernel) (by decide +kernel)
set_option maxRecDepth 20000 in
theorem gX5_field_X0_piecesOn_n147 : GoodIn wsX5_field (wsX0_piecesOn) := ggX5_field_X0_piecesOn
set_option maxRecDepth 20000 in
theorem ggX5_field_X0_lowestOn : GoodIn wsX5_field wsX0_lowestOn := goodIn_r _ [12, 6, 7, 8, 9, 46, 47, 48, 49, 50] (by decide +kernel) (by decide +kernel)
set_option maxRecDepth 20000 in
theorem gX5_field_X0_lowestOn_n150 : GoodIn wsX5_field (wsX0_lowestOn) := ggX5_field_X0_lowestOn
set_option maxRecDepth 20000 in
theorem ggX5_field_X5_isSafe : GoodIn wsX5_field wsX5_isSafe := goodIn_r _ [15] (by decide +kernel) (by decide +kernel)
set_option maxRecDepth 20000 in
theorem gX5_field_X5_isSafe : GoodIn wsX5_field (va_wsS RX5 153 yX5_isSafe wsX5_isSafe) := goodIn_app (goodIn_of _ (by decide +kernel)) ggX5_field_X5_isSafe
set_option maxRecDepth 20000 in
theorem ggX5_field_X0_bridgeState : GoodIn wsX5_field wsX0_bridgeState := goodIn_r _ [18, 19, 20, 8, 21, 46, 47, 48, 49, 50] (by decide +kernel) (by decide +kernel)
set_option maxRecDepth 20000 in
theorem gX5_field_X0_bridgeState_n156 : GoodIn wsX5_field (wsX0_bridgeState) := ggX5_field_X0_bridgeState
set_option maxRecDepth 20000 in
theorem ggX5_field_X1_turnsUntilMended : GoodIn wsX5_field wsX1_turnsUntilMended := goodIn_r _ [25, 26, 27, 28, 29, 30, 31, 32, 20, 8, 21, 39, 40, 41, 42, 43, 44, 45, 46, 47, 48, 49, 50] (by decide +kernel) (by decide +kernel)
set_option maxRecDepth 20000 in
theorem gX5_field_X1_turnsUntilMended_n159 : GoodIn wsX5_field (wsX1_turnsUntilMended) := ggX5_field_X1_turnsUntilMended
theorem dX5_field_0 : decode cX5_field 0 = .ok (.iload_n 1, 1) := by decide +kernel
theorem dX5_field_1 : decode cX5_field 1 = .ok (.ifCond .lt 9, 3) := by decide +kernel
theorem dX5_field_4 : decode cX5_field 4 = .ok (.iload_n 1, 1) := by decide +kernel
theorem dX5_field_5 : decode cX5_field 5 = .ok (.bipush 32, 2) := by decide +kernel
theorem dX5_field_7 : decode cX5_field 7 = .ok (.if_icmp .lt 5, 3) := by decide +kernel
theorem dX5_field_10 : decode cX5_field 10 = .ok (.iconst (-1), 1) := by decide +kernel
theorem dX5_field_11 : decode cX5_field 11 = .ok (.ireturn, 1) := by decide +kernel
theorem dX5_field_12 : decode cX5_field 12 = .ok (.iload_n 2, 1) := by decide +kernel
theorem dX5_field_13 : decode cX5_field 13 = .ok (.tableswitch 93 0 4 #[35, 47, 59, 72, 84], 35) := by decide +kernel
theorem dX5_field_48 : decode cX5_field 48 = .ok (.aload_n 0, 1) := by decide +kernel
theorem dX5_field_49 : decode cX5_field 49 = .ok (.getfield 12, 3) := by decide +kernel
theorem dX5_field_52 : decode cX5_field 52 = .ok (.getfield 119, 3) := by decide +kernel
theorem dX5_field_55 : decode cX5_field 55 = .ok (.iload_n 1, 1) := by decide +kernel
theorem dX5_field_56 : decode cX5_field 56 = .ok (.invokevirtual 147, 3) := by decide +kernel
theorem dX5_field_59 : decode cX5_field 59 = .ok (.ireturn, 1) := by decide +kernel
theorem dX5_field_60 : decode cX5_field 60 = .ok (.aload_n 0, 1) := by decide +kernel
theorem dX5_field_61 : decode cX5_field 61 = .ok (.getfield 12, 3) := by decide +kernel
theorem dX5_field_64 : decode cX5_field 64 = .ok (.getfield 119, 3) := by decide +kernel
theorem dX5_field_67 : decode cX5_field 67 = .ok (.iload_n 1, 1) := by decide +kernel
theorem dX5_field_68 : decode cX5_field 68 = .ok (.invokevirtual 150, 3) := by decide +kernel
theorem dX5_field_71 : decode cX5_field 71 = .ok (.ireturn, 1) := by decide +kernel
theorem dX5_field_72 : decode cX5_field 72 = .ok (.iload_n 1, 1) := by decide +kernel
theorem dX5_field_73 : decode cX5_field 73 = .ok (.invokestatic 153, 3) := by decide +kernel
theorem dX5_field_76 : decode cX5_field 76 = .ok (.ifCond .eq 7, 3) := by decide +kernel
theorem dX5_field_79 : decode cX5_field 79 = .ok (.iconst 1, 1) := by decide +kernel
theorem dX5_field_80 : decode cX5_field 80 = .ok (.goto 4, 3) := by decide +kernel
theorem dX5_field_83 : decode cX5_field 83 = .ok (.iconst 0, 1) := by decide +kernel
theorem dX5_field_84 : decode cX5_field 84 = .ok (.ireturn, 1) := by decide +kernel
theorem dX5_field_85 : decode cX5_field 85 = .ok (.aload_n 0, 1) := by decide +kernel
theorem dX5_field_86 : decode cX5_field 86 = .ok (.getfield 12, 3) := by decide +kernel
theorem dX5_field_89 : decode cX5_field 89 = .ok (.getfield 119, 3) := by decide +kernel
theorem dX5_field_92 : decode cX5_field 92 = .ok (.iload_n 1, 1) := by decide +kernel
theorem dX5_field_93 : decode cX5_field 93 = .ok (.invokevirtual 156, 3) := by decide +kernel
theorem dX5_field_96 : decode cX5_field 96 = .ok (.ireturn, 1) := by decide +kernel
theorem dX5_field_97 : decode cX5_field 97 = .ok (.aload_n 0, 1) := by decide +kernel
theorem dX5_field_98 : decode cX5_field 98 = .ok (.getfield 12, 3) := by decide +kernel
theorem dX5_field_101 : decode cX5_field 101 = .ok (.iload_n 1, 1) := by decide +kernel
theorem dX5_field_102 : decode cX5_field 102 = .ok (.invokevirtual 159, 3) := by decide +kernel
theorem dX5_field_105 : decode cX5_field 105 = .ok (.ireturn, 1) := by decide +kernel
theorem dX5_field_106 : decode cX5_field 106 = .ok (.bipush (-2), 2) := by decide +kernel
theorem dX5_field_108 : decode cX5_field 108 = .ok (.ireturn, 1) := by decide +kernel
set_option maxRecDepth 20000 in
theorem ggX5_why_X5_isNoPiece : GoodIn wsX5_why wsX5_isNoPiece := goodIn_r _ [5] (by decide +kernel) (by decide +kernel)
set_option maxRecDepth 20000 in
theorem gX5_why_X5_isNoPiece : GoodIn wsX5_why (va_wsS RX5 116 yX5_isNoPiece wsX5_isNoPiece) := goodIn_app (goodIn_of _ (by decide +kernel)) ggX5_why_X5_isNoPiece
set_option maxRecDepth 20000 in
theorem ggX5_why_X1_reason : GoodIn wsX5_why wsX1_reason := goodIn_r _ [9, 10, 11, 12, 13, 14, 15, 16, 17, 18, 19, 20, 4, 21, 22, 23, 24, 25, 26, 27, 28, 29, 30, 31, 32, 33, 34, 35, 36, 37, 38, 39, 40, 41, 42, 43, 44, 45, 52, 53, 54, 55, 56, 57, 58, 59, 60, 61, 62, 63] (by decide +kernel) (by decide +kernel)
set_option maxRecDepth 20000 in
theorem gX5_why_X1_reason_n78 : GoodIn wsX5_why (wsX1_reason) := ggX5_why_X1_reason
theorem dX5_why_0 : decode cX5_why 0 = .ok (.iload_n 1, 1) := by decide +kernel
theorem dX5_why_1 : decode cX5_why 1 = .ok (.invokestatic 116, 3) := by decide +kernel
theorem dX5_why_4 : decode cX5_why 4 = .ok (.ifCond .eq 5, 3) := by decide +kernel
theorem dX5_why_7 : decode cX5_why 7 = .ok (.iconst (-1), 1) := by decide +kernel
theorem dX5_why_8 : decode cX5_why 8 = .ok (.ireturn, 1) := by decide +kernel
theorem dX5_why_9 : decode cX5_why 9 = .ok (.iload_n 2, 1) := by decide +kernel
theorem dX5_why_10 : decode cX5_why 10 = .ok (.iconst 1, 1) := by decide +kernel
theorem dX5_why_11 : decode cX5_why 11 = .ok (.if_icmp .lt 9, 3) := by decide +kernel
theorem dX5_why_14 : decode cX5_why 14 = .ok (.iload_n 2, 1) := by decide +kernel
theorem dX5_why_15 : decode cX5_why 15 = .ok (.bipush 6, 2) := by decide +kernel
theorem dX5_why_17 : decode cX5_why 17 = .ok (.if_icmp .le 6, 3) := by decide +kernel
theorem dX5_why_20 : decode cX5_why 20 = .ok (.bipush (-2), 2) := by decide +kernel
theorem dX5_why_22 : decode cX5_why 22 = .ok (.ireturn, 1) := by decide +kernel
