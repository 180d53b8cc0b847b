theorem dX6_save_6 : decode cX6_save 6 = .ok (.ifCond .ne 6, 3) := by decide +kernel
theorem dX6_save_9 : decode cX6_save 9 = .ok (.bipush (-2), 2) := by decide +kernel
theorem dX6_save_11 : decode cX6_save 11 = .ok (.ireturn, 1) := by decide +kernel
theorem dX6_save_12 : decode cX6_save 12 = .ok (.iconst 0, 1) := by decide +kernel
theorem dX6_save_13 : decode cX6_save 13 = .ok (.istore_n 2, 1) := by decide +kernel
theorem dX6_save_14 : decode cX6_save 14 = .ok (.iload_n 2, 1) := by decide +kernel
theorem dX6_save_15 : decode cX6_save 15 = .ok (.bipush 46, 2) := by decide +kernel
theorem dX6_save_17 : decode cX6_save 17 = .ok (.if_icmp .ge 26, 3) := by decide +kernel
theorem dX6_save_20 : decode cX6_save 20 = .ok (.aload_n 0, 1) := by decide +kernel
theorem dX6_save_21 : decode cX6_save 21 = .ok (.getfield 19, 3) := by decide +kernel
theorem dX6_save_24 : decode cX6_save 24 = .ok (.bipush 46, 2) := by decide +kernel
theorem dX6_save_26 : decode cX6_save 26 = .ok (.iload_n 1, 1) := by decide +kernel
theorem dX6_save_27 : decode cX6_save 27 = .ok (.imul, 1) := by decide +kernel
theorem dX6_save_28 : decode cX6_save 28 = .ok (.iload_n 2, 1) := by decide +kernel
theorem dX6_save_29 : decode cX6_save 29 = .ok (.iadd, 1) := by decide +kernel
theorem dX6_save_30 : decode cX6_save 30 = .ok (.aload_n 0, 1) := by decide +kernel
theorem dX6_save_31 : decode cX6_save 31 = .ok (.getfield 7, 3) := by decide +kernel
theorem dX6_save_34 : decode cX6_save 34 = .ok (.iload_n 2, 1) := by decide +kernel
theorem dX6_save_35 : decode cX6_save 35 = .ok (.iaload, 1) := by decide +kernel
theorem dX6_save_36 : decode cX6_save 36 = .ok (.iastore, 1) := by decide +kernel
theorem dX6_save_37 : decode cX6_save 37 = .ok (.iinc 2 1, 3) := by decide +kernel
theorem dX6_save_40 : decode cX6_save 40 = .ok (.goto (-26), 3) := by decide +kernel
theorem dX6_save_43 : decode cX6_save 43 = .ok (.aload_n 0, 1) := by decide +kernel
theorem dX6_save_44 : decode cX6_save 44 = .ok (.getfield 22, 3) := by decide +kernel
theorem dX6_save_47 : decode cX6_save 47 = .ok (.iload_n 1, 1) := by decide +kernel
theorem dX6_save_48 : decode cX6_save 48 = .ok (.iconst 1, 1) := by decide +kernel
theorem dX6_save_49 : decode cX6_save 49 = .ok (.bastore, 1) := by decide +kernel
theorem dX6_save_50 : decode cX6_save 50 = .ok (.aload_n 0, 1) := by decide +kernel
theorem dX6_save_51 : decode cX6_save 51 = .ok (.getfield 7, 3) := by decide +kernel
theorem dX6_save_54 : decode cX6_save 54 = .ok (.bipush 42, 2) := by decide +kernel
theorem dX6_save_56 : decode cX6_save 56 = .ok (.iaload, 1) := by decide +kernel
theorem dX6_save_57 : decode cX6_save 57 = .ok (.ireturn, 1) := by decide +kernel
set_option maxRecDepth 20000 in
theorem ggX6_restore_X6_in : GoodIn wsX6_restore wsX6_in := goodIn_r _ [7] (by decide +kernel) (by decide +kernel)
set_option maxRecDepth 20000 in
theorem gX6_restore_X6_in : GoodIn wsX6_restore (va_wsS RX6 32 yX6_in wsX6_in) := goodIn_app (goodIn_of _ (by decide +kernel)) ggX6_restore_X6_in
set_option maxRecDepth 20000 in
theorem ggX6_restore_X6_record : GoodIn wsX6_restore wsX6_record := goodIn_r _ [11, 12, 13, 2, 14, 15, 16, 17, 18, 19, 20, 21, 22, 23] (by decide +kernel) (by decide +kernel)
set_option maxRecDepth 20000 in
theorem gX6_restore_X6_record : GoodIn wsX6_restore (wsV RX6 68 RX6 yX6_record wsX6_record) := goodIn_app (goodIn_of _ (by decide +kernel)) ggX6_restore_X6_record
theorem dX6_restore_0 : decode cX6_restore 0 = .ok (.iload_n 1, 1) := by decide +kernel
theorem dX6_restore_1 : decode cX6_restore 1 = .ok (.iconst 0, 1) := by decide +kernel
theorem dX6_restore_2 : decode cX6_restore 2 = .ok (.iconst 1, 1) := by decide +kernel
theorem dX6_restore_3 : decode cX6_restore 3 = .ok (.invokestatic 32, 3) := by decide +kernel
theorem dX6_restore_6 : decode cX6_restore 6 = .ok (.ifCond .ne 6, 3) := by decide +kernel
theorem dX6_restore_9 : decode cX6_restore 9 = .ok (.bipush (-2), 2) := by decide +kernel
theorem dX6_restore_11 : decode cX6_restore 11 = .ok (.ireturn, 1) := by decide +kernel
theorem dX6_restore_12 : decode cX6_restore 12 = .ok (.aload_n 0, 1) := by decide +kernel
theorem dX6_restore_13 : decode cX6_restore 13 = .ok (.getfield 22, 3) := by decide +kernel
theorem dX6_restore_16 : decode cX6_restore 16 = .ok (.iload_n 1, 1) := by decide +kernel
theorem dX6_restore_17 : decode cX6_restore 17 = .ok (.baload, 1) := by decide +kernel
theorem dX6_restore_18 : decode cX6_restore 18 = .ok (.ifCond .ne 6, 3) := by decide +kernel
theorem dX6_restore_21 : decode cX6_restore 21 = .ok (.bipush (-5), 2) := by decide +kernel
theorem dX6_restore_23 : decode cX6_restore 23 = .ok (.ireturn, 1) := by decide +kernel
theorem dX6_restore_24 : decode cX6_restore 24 = .ok (.aload_n 0, 1) := by decide +kernel
theorem dX6_restore_25 : decode cX6_restore 25 = .ok (.invokevirtual 68, 3) := by decide +kernel
theorem dX6_restore_28 : decode cX6_restore 28 = .ok (.iconst 0, 1) := by decide +kernel
theorem dX6_restore_29 : decode cX6_restore 29 = .ok (.istore_n 2, 1) := by decide +kernel
theorem dX6_restore_30 : decode cX6_restore 30 = .ok (.iload_n 2, 1) := by decide +kernel
theorem dX6_restore_31 : decode cX6_restore 31 = .ok (.bipush 46, 2) := by decide +kernel
theorem dX6_restore_33 : decode cX6_restore 33 = .ok (.if_icmp .ge 26, 3) := by decide +kernel
theorem dX6_restore_36 : decode cX6_restore 36 = .ok (.aload_n 0, 1) := by decide +kernel
theorem dX6_restore_37 : decode cX6_restore 37 = .ok (.getfield 7, 3) := by decide +kernel
theorem dX6_restore_40 : decode cX6_restore 40 = .ok (.iload_n 2, 1) := by decide +kernel
theorem dX6_restore_41 : decode cX6_restore 41 = .ok (.aload_n 0, 1) := by decide +kernel
theorem dX6_restore_42 : decode cX6_restore 42 = .ok (.getfield 19, 3) := by decide +kernel
theorem dX6_restore_45 : decode cX6_restore 45 = .ok (.bipush 46, 2) := by decide +kernel
theorem dX6_restore_47 : decode cX6_restore 47 = .ok (.iload_n 1, 1) := by decide +kernel
theorem dX6_restore_48 : decode cX6_restore 48 = .ok (.imul, 1) := by decide +kernel
theorem dX6_restore_49 : decode cX6_restore 49 = .ok (.iload_n 2, 1) := by decide +kernel
theorem dX6_restore_50 : decode cX6_restore 50 = .ok (.iadd, 1) := by decide +kernel
theorem dX6_restore_51 : decode cX6_restore 51 = .ok (.iaload, 1) := by decide +kernel
theorem dX6_restore_52 : decode cX6_restore 52 = .ok (.iastore, 1) := by decide +kernel
theorem dX6_restore_53 : decode cX6_restore 53 = .ok (.iinc 2 1, 3) := by decide +kernel
theorem dX6_restore_56 : decode cX6_restore 56 = .ok (.goto (-26), 3) := by decide +kernel
theorem dX6_restore_59 : decode cX6_restore 59 = .ok (.aload_n 0, 1) := by decide +kernel
theorem dX6_restore_60 : decode cX6_restore 60 = .ok (.getfield 7, 3) := by decide +kernel
theorem dX6_restore_63 : decode cX6_restore 63 = .ok (.bipush 42, 2) := by decide +kernel
theorem dX6_restore_65 : decode cX6_restore 65 = .ok (.iaload, 1) := by decide +kernel
theorem dX6_restore_66 : decode cX6_restore 66 = .ok (.ireturn, 1) := by decide +kernel
theorem dX6_putAside_0 : decode cX6_putAside 0 = .ok (.iconst 0, 1) := by decide +kernel
theorem dX6_putAside_1 : decode cX6_putAside 1 = .ok (.istore_n 1, 1) := by decide +kernel
theorem dX6_putAside_2 : decode cX6_putAside 2 = .ok (.iload_n 1, 1) := by decide +kernel
theorem dX6_putAside_3 : decode cX6_putAside 3 = .ok (.bipush 46, 2) := by decide +kernel
theorem dX6_putAside_5 : decode cX6_putAside 5 = .ok (.if_icmp .ge 21, 3) := by decide +kernel
theorem dX6_putAside_8 : decode cX6_putAside 8 = .ok (.aload_n 0, 1) := by decide +kernel
theorem dX6_putAside_9 : decode cX6_putAside 9 = .ok (.getfield 13, 3) := by decide +kernel
theorem dX6_putAside_12 : decode cX6_putAside 12 = .ok (.iload_n 1, 1) := by decide +kernel
theorem dX6_putAside_13 : decode cX6_putAside 13 = .ok (.aload_n 0, 1) := by decide +kernel
theorem dX6_putAside_14 : decode cX6_putAside 14 = .ok (.getfield 7, 3) := by decide +kernel
theorem dX6_putAside_17 : decode cX6_putAside 17 = .ok (.iload_n 1, 1) := by decide +kernel
theorem dX6_putAside_18 : decode cX6_putAside 18 = .ok (.iaload, 1) := by decide +kernel
theorem dX6_putAside_19 : decode cX6_putAside 19 = .ok (.iastore, 1) := by decide +kernel
theorem dX6_putAside_20 : decode cX6_putAside 20 = .ok (.iinc 1 1, 3) := by decide +kernel
theorem dX6_putAside_23 : decode cX6_putAside 23 = .ok (.goto (-21), 3) := by decide +kernel
theorem dX6_putAside_26 : decode cX6_putAside 26 = .ok (.return_, 1) := by decide +kernel
theorem dX6_putBack_0 : decode cX6_putBack 0 = .ok (.iconst 0, 1) := by decide +kernel
theorem dX6_putBack_1 : decode cX6_putBack 1 = .ok (.istore_n 1, 1) := by decide +kernel
theorem dX6_putBack_2 : decode cX6_putBack 2 = .ok (.iload_n 1, 1) := by decide +kernel
theorem dX6_putBack_3 : decode cX6_putBack 3 = .ok (.bipush 46, 2) := by decide +kernel
theorem dX6_putBack_5 : decode cX6_putBack 5 = .ok (.if_icmp .ge 21, 3) := by decide +kernel
theorem dX6_putBack_8 : decode cX6_putBack 8 = .ok (.aload_n 0, 1) := by decide +kernel
theorem dX6_putBack_9 : decode cX6_putBack 9 = .ok (.getfield 7, 3) := by decide +kernel
theorem dX6_putBack_12 : decode cX6_putBack 12 = .ok (.iload_n 1, 1) := by decide +kernel
theorem dX6_putBack_13 : decode cX6_putBack 13 = .ok (.aload_n 0, 1) := by decide +kernel
theorem dX6_putBack_14 : decode cX6_putBack 14 = .ok (.getfield 13, 3) := by decide +kernel
theorem dX6_putBack_17 : decode cX6_putBack 17 = .ok (.iload_n 1, 1) := by decide +kernel
theorem dX6_putBack_18 : decode cX6_putBack 18 = .ok (.iaload, 1) := by decide +kernel
theorem dX6_putBack_19 : decode cX6_putBack 19 = .ok (.iastore, 1) := by decide +kernel
theorem dX6_putBack_20 : decode cX6_putBack 20 = .ok (.iinc 1 1, 3) := by decide +kernel
theorem dX6_putBack_23 : decode cX6_putBack 23 = .ok (.goto (-21), 3) := by decide +kernel
theorem dX6_putBack_26 : decode cX6_putBack 26 = .ok (.return_, 1) := by decide +kernel
set_option maxRecDepth 20000 in
theorem ggX6_isBlocked_X6_piecesOn : GoodIn wsX6_isBlocked wsX6_piecesOn := goodIn_r _ [5, 6, 7, 8, 4, 9, 10, 11, 12, 13, 14, 15, 16, 17, 18, 19, 20, 21, 22, 23, 24, 25, 26] (by decide +kernel) (by decide +kernel)
set_option maxRecDepth 20000 in
theorem gX6_isBlocked_X6_piecesOn : GoodIn wsX6_isBlocked (wsV RX6 48 RX6 yX6_piecesOn wsX6_piecesOn) := goodIn_app (goodIn_of _ (by decide +kernel)) ggX6_isBlocked_X6_piecesOn
theorem dX6_isBlocked_0 : decode cX6_isBlocked 0 = .ok (.iconst 0, 1) := by decide +kernel
theorem dX6_isBlocked_1 : decode cX6_isBlocked 1 = .ok (.istore_n 3, 1) := by decide +kernel
theorem dX6_isBlocked_2 : decode cX6_isBlocked 2 = .ok (.iconst 0, 1) := by decide +kernel
theorem dX6_isBlocked_3 : decode cX6_isBlocked 3 = .ok (.istore 4, 2) := by decide +kernel
theorem dX6_isBlocked_5 : decode cX6_isBlocked 5 = .ok (.iload 4, 2) := by decide +kernel
theorem dX6_isBlocked_7 : decode cX6_isBlocked 7 = .ok (.iconst 4, 1) := by decide +kernel
theorem dX6_isBlocked_8 : decode cX6_isBlocked 8 = .ok (.if_icmp .ge 36, 3) := by decide +kernel
theorem dX6_isBlocked_11 : decode cX6_isBlocked 11 = .ok (.iload_n 3, 1) := by decide +kernel
theorem dX6_isBlocked_12 : decode cX6_isBlocked 12 = .ok (.ifCond .ne 20, 3) := by decide +kernel
theorem dX6_isBlocked_15 : decode cX6_isBlocked 15 = .ok (.iload 4, 2) := by decide +kernel
theorem dX6_isBlocked_17 : decode cX6_isBlocked 17 = .ok (.iload_n 1, 1) := by decide +kernel
theorem dX6_isBlocked_18 : decode cX6_isBlocked 18 = .ok (.if_icmp .eq 18, 3) := by decide +kernel
theorem dX6_isBlocked_21 : decode cX6_isBlocked 21 = .ok (.aload_n 0, 1) := by decide +kernel
theorem dX6_isBlocked_22 : decode cX6_isBlocked 22 = .ok (.iload 4, 2) := by decide +kernel
theorem dX6_isBlocked_24 : decode cX6_isBlocked 24 = .ok (.iload_n 2, 1) := by decide +kernel
theorem dX6_isBlocked_25 : decode cX6_isBlocked 25 = .ok (.invokevirtual 48, 3) := by decide +kernel
theorem dX6_isBlocked_28 : decode cX6_isBlocked 28 = .ok (.iconst 1, 1) := by decide +kernel
theorem dX6_isBlocked_29 : decode cX6_isBlocked 29 = .ok (.if_icmp .le 7, 3) := by decide +kernel
theorem dX6_isBlocked_32 : decode cX6_isBlocked 32 = .ok (.iconst 1, 1) := by decide +kernel
theorem dX6_isBlocked_33 : decode cX6_isBlocked 33 = .ok (.goto 4, 3) := by decide +kernel
theorem dX6_isBlocked_36 : decode cX6_isBlocked 36 = .ok (.iconst 0, 1) := by decide +kernel
theorem dX6_isBlocked_37 : decode cX6_isBlocked 37 = .ok (.istore_n 3, 1) := by decide +kernel
theorem dX6_isBlocked_38 : decode cX6_isBlocked 38 = .ok (.iinc 4 1, 3) := by decide +kernel
theorem dX6_isBlocked_41 : decode cX6_isBlocked 41 = .ok (.goto (-36), 3) := by decide +kernel
theorem dX6_isBlocked_44 : decode cX6_isBlocked 44 = .ok (.iload_n 3, 1) := by decide +kernel
theorem dX6_isBlocked_45 : decode cX6_isBlocked 45 = .ok (.ireturn, 1) := by decide +kernel
set_option maxRecDepth 20000 in
theorem ggX6_stepOn_X6_fieldAt : GoodIn wsX6_stepOn wsX6_fieldAt := goodIn_r _ [4, 5, 6, 3, 7] (by decide +kernel) (by decide +kernel)
set_option maxRecDepth 20000 in
theorem gX6_stepOn_X6_fieldAt : GoodIn wsX6_stepOn (va_wsS RX6 36 yX6_fieldAt wsX6_fieldAt) := goodIn_app (goodIn_of _ (by decide +kernel)) ggX6_stepOn_X6_fieldAt
set_option maxRecDepth 20000 in
theorem ggX6_stepOn_X6_isFallen : GoodIn wsX6_stepOn wsX6_isFallen := goodIn_r _ [11, 12, 13, 14, 3, 15, 16, 17, 18, 19, 20, 21, 22, 23, 24, 25] (by decide +kernel) (by decide +kernel)
set_option maxRecDepth 20000 in
theorem gX6_stepOn_X6_isFallen : GoodIn wsX6_stepOn (wsV RX6 71 RX6 yX6_isFallen wsX6_isFallen) := goodIn_app (goodIn_of _ (by decide +kernel)) ggX6_stepOn_X6_isFallen
theorem dX6_stepOn_0 : decode cX6_stepOn 0 = .ok (.iload_n 2, 1) := by decide +kernel
theorem dX6_stepOn_1 : decode cX6_stepOn 1 = .ok (.istore 4, 2) := by decide +kernel
theorem dX6_stepOn_3 : decode cX6_stepOn 3 = .ok (.iload_n 3, 1) := by decide +kernel
theorem dX6_stepOn_4 : decode cX6_stepOn 4 = .ok (.istore 5, 2) := by decide +kernel
theorem dX6_stepOn_6 : decode cX6_stepOn 6 = .ok (.iconst 1, 1) := by decide +kernel
theorem dX6_stepOn_7 : decode cX6_stepOn 7 = .ok (.istore 6, 2) := by decide +kernel
theorem dX6_stepOn_9 : decode cX6_stepOn 9 = .ok (.iload 5, 2) := by decide +kernel
theorem dX6_stepOn_11 : decode cX6_stepOn 11 = .ok (.ifCond .le 48, 3) := by decide +kernel
theorem dX6_stepOn_14 : decode cX6_stepOn 14 = .ok (.iinc 4 1, 3) := by decide +kernel
theorem dX6_stepOn_17 : decode cX6_stepOn 17 = .ok (.aload_n 0, 1) := by decide +kernel
theorem dX6_stepOn_18 : decode cX6_stepOn 18 = .ok (.iload_n 1, 1) := by decide +kernel
theorem dX6_stepOn_19 : decode cX6_stepOn 19 = .ok (.iload 4, 2) := by decide +kernel
theorem dX6_stepOn_21 : decode cX6_stepOn 21 = .ok (.invokestatic 36, 3) := by decide +kernel
theorem dX6_stepOn_24 : decode cX6_stepOn 24 = .ok (.invokevirtual 71, 3) := by decide +kernel
theorem dX6_stepOn_27 : decode cX6_stepOn 27 = .ok (.istore 7, 2) := by decide +kernel
theorem dX6_stepOn_29 : decode cX6_stepOn 29 = .ok (.iload 5, 2) := by decide +kernel
theorem dX6_stepOn_31 : decode cX6_stepOn 31 = .ok (.iload 7, 2) := by decide +kernel
theorem dX6_stepOn_33 : decode cX6_stepOn 33 = .ok (.ifCond .eq 7, 3) := by decide +kernel
theorem dX6_stepOn_36 : decode cX6_stepOn 36 = .ok (.iconst 2, 1) := by decide +kernel
theorem dX6_stepOn_37 : decode cX6_stepOn 37 = .ok (.goto 4, 3) := by decide +kernel
theorem dX6_stepOn_40 : decode cX6_stepOn 40 = .ok (.iconst 1, 1) := by decide +kernel
theorem dX6_stepOn_41 : decode cX6_stepOn 41 = .ok (.isub, 1) := by decide +kernel
theorem dX6_stepOn_42 : decode cX6_stepOn 42 = .ok (.istore 5, 2) := by decide +kernel
theorem dX6_stepOn_44 : decode cX6_stepOn 44 = .ok (.iload 7, 2) := by decide +kernel
theorem dX6_stepOn_46 : decode cX6_stepOn 46 = .ok (.ifCond .ne 7, 3) := by decide +kernel
theorem dX6_stepOn_49 : decode cX6_stepOn 49 = .ok (.iconst 1, 1) := by decide +kernel
theorem dX6_stepOn_50 : decode cX6_stepOn 50 = .ok (.goto 4, 3) := by decide +kernel
theorem dX6_stepOn_53 : decode cX6_stepOn 53 = .ok (.iconst 0, 1) := by decide +kernel
theorem dX6_stepOn_54 : decode cX6_stepOn 54 = .ok (.istore 6, 2) := by decide +kernel
theorem dX6_stepOn_56 : decode cX6_stepOn 56 = .ok (.goto (-47), 3) := by decide +kernel
theorem dX6_stepOn_59 : decode cX6_stepOn 59 = .ok (.iload 4, 2) := by decide +kernel
theorem dX6_stepOn_61 : decode cX6_stepOn 61 = .ok (.bipush 35, 2) := by decide +kernel
theorem dX6_stepOn_63 : decode cX6_stepOn 63 = .ok (.if_icmp .gt 13, 3) := by decide +kernel
theorem dX6_stepOn_66 : decode cX6_stepOn 66 = .ok (.iload 5, 2) := by decide +kernel
theorem dX6_stepOn_68 : decode cX6_stepOn 68 = .ok (.ifCond .lt 8, 3) := by decide +kernel
theorem dX6_stepOn_71 : decode cX6_stepOn 71 = .ok (.iload 6, 2) := by decide +kernel
theorem dX6_stepOn_73 : decode cX6_stepOn 73 = .ok (.ifCond .ne 8, 3) := by decide +kernel
theorem dX6_stepOn_76 : decode cX6_stepOn 76 = .ok (.bipush (-6), 2) := by decide +kernel
theorem dX6_stepOn_78 : decode cX6_stepOn 78 = .ok (.goto 5, 3) := by decide +kernel
theorem dX6_stepOn_81 : decode cX6_stepOn 81 = .ok (.iload 4, 2) := by decide +kernel
theorem dX6_stepOn_83 : decode cX6_stepOn 83 = .ok (.ireturn, 1) := by decide +kernel
set_option maxRecDepth 20000 in
theorem ggX6_whyNot_X6_stepOn : GoodIn wsX6_whyNot wsX6_stepOn := goodIn_r _ [7, 8, 9, 6, 10, 11, 12, 13, 14, 15, 16, 17, 1, 18, 19, 20, 40, 41, 42, 43, 44, 45, 46, 47, 48, 49] (by decide +kernel) (by decide +kernel)
set_option maxRecDepth 20000 in
theorem gX6_whyNot_X6_stepOn : GoodIn wsX6_whyNot (wsV RX6 74 RX6 yX6_stepOn wsX6_stepOn) := goodIn_app (goodIn_of _ (by decide +kernel)) ggX6_whyNot_X6_stepOn
set_option maxRecDepth 20000 in
theorem ggX6_whyNot_X6_fieldAt : GoodIn wsX6_whyNot wsX6_fieldAt := goodIn_r _ [10, 11, 12, 6, 13] (by decide +kernel) (by decide +kernel)
set_option maxRecDepth 20000 in
theorem gX6_whyNot_X6_fieldAt : GoodIn wsX6_whyNot (va_wsS RX6 36 yX6_fieldAt wsX6_fieldAt) := goodIn_app (goodIn_of _ (by decide +kernel)) ggX6_whyNot_X6_fieldAt
set_option maxRecDepth 20000 in
theorem ggX6_whyNot_X6_isBlocked : GoodIn wsX6_whyNot wsX6_isBlocked := goodIn_r _ [24, 25, 26, 27, 6, 28, 29, 30, 31, 32, 1, 8, 9, 10, 11, 12, 13, 40, 41, 42, 43, 44, 45, 46, 47, 48, 49] (by decide +kernel) (by decide +kernel)
set_option maxRecDepth 20000 in
theorem gX6_whyNot_X6_isBlocked : GoodIn wsX6_whyNot (wsV RX6 81 RX6 yX6_isBlocked wsX6_isBlocked) := goodIn_app (goodIn_of _ (by decide +kernel)) ggX6_whyNot_X6_isBlocked
set_option maxRecDepth 20000 in
theorem ggX6_whyNot_X6_isSafe : GoodIn wsX6_whyNot wsX6_isSafe := goodIn_r _ [35] (by decide +kernel) (by decide +kernel)
set_option maxRecDepth 20000 in
theorem gX6_whyNot_X6_isSafe : GoodIn wsX6_whyNot (va_wsS RX6 85 yX6_isSafe wsX6_isSafe) := goodIn_app (goodIn_of _ (by decide +kernel)) ggX6_whyNot_X6_isSafe
set_option maxRecDepth 20000 in
theorem ggX6_whyNot_X6_allOn : GoodIn wsX6_whyNot wsX6_allOn := goodIn_r _ [39, 25, 26, 27, 6, 28, 29, 30, 31, 32, 1, 8, 9, 10, 11, 12, 13, 40, 41, 42, 43, 44, 45, 46, 47, 48, 49] (by decide +kernel) (by decide +kernel)
set_option maxRecDepth 20000 in
theorem gX6_whyNot_X6_allOn : GoodIn wsX6_whyNot (wsV RX6 61 RX6 yX6_allOn wsX6_allOn) := goodIn_app (goodIn_of _ (by decide +kernel)) ggX6_whyNot_X6_allOn
theorem dX6_whyNot_0 : decode cX6_whyNot 0 = .ok (.iload_n 1, 1) := by decide +kernel
theorem dX6_whyNot_1 : decode cX6_whyNot 1 = .ok (.iconst 3, 1) := by decide +kernel
theorem dX6_whyNot_2 : decode cX6_whyNot 2 = .ok (.idiv, 1) := by decide +kernel
theorem dX6_whyNot_3 : decode cX6_whyNot 3 = .ok (.istore_n 3, 1) := by decide +kernel
theorem dX6_whyNot_4 : decode cX6_whyNot 4 = .ok (.aload_n 0, 1) := by decide +kernel
theorem dX6_whyNot_5 : decode cX6_whyNot 5 = .ok (.getfield 7, 3) := by decide +kernel
theorem dX6_whyNot_8 : decode cX6_whyNot 8 = .ok (.iload_n 1, 1) := by decide +kernel
theorem dX6_whyNot_9 : decode cX6_whyNot 9 = .ok (.iaload, 1) := by decide +kernel
theorem dX6_whyNot_10 : decode cX6_whyNot 10 = .ok (.istore 4, 2) := by decide +kernel
theorem dX6_whyNot_12 : decode cX6_whyNot 12 = .ok (.iload 4, 2) := by decide +kernel
theorem dX6_whyNot_14 : decode cX6_whyNot 14 = .ok (.bipush 35, 2) := by decide +kernel
theorem dX6_whyNot_16 : decode cX6_whyNot 16 = .ok (.if_icmp .ne 5, 3) := by decide +kernel
theorem dX6_whyNot_19 : decode cX6_whyNot 19 = .ok (.iconst 1, 1) := by decide +kernel
theorem dX6_whyNot_20 : decode cX6_whyNot 20 = .ok (.ireturn, 1) := by decide +kernel
theorem dX6_whyNot_21 : decode cX6_whyNot 21 = .ok (.iload 4, 2) := by decide +kernel
theorem dX6_whyNot_23 : decode cX6_whyNot 23 = .ok (.bipush (-6), 2) := by decide +kernel
theorem dX6_whyNot_25 : decode cX6_whyNot 25 = .ok (.if_icmp .ne 16, 3) := by decide +kernel
theorem dX6_whyNot_28 : decode cX6_whyNot 28 = .ok (.iload_n 2, 1) := by decide +kernel
theorem dX6_whyNot_29 : decode cX6_whyNot 29 = .ok (.aload_n 0, 1) := by decide +kernel
theorem dX6_whyNot_30 : decode cX6_whyNot 30 = .ok (.getfield 7, 3) := by decide +kernel
theorem dX6_whyNot_33 : decode cX6_whyNot 33 = .ok (.bipush 36, 2) := by decide +kernel
theorem dX6_whyNot_35 : decode cX6_whyNot 35 = .ok (.iaload, 1) := by decide +kernel
theorem dX6_whyNot_36 : decode cX6_whyNot 36 = .ok (.if_icmp .ge 5, 3) := by decide +kernel
theorem dX6_whyNot_39 : decode cX6_whyNot 39 = .ok (.iconst 2, 1) := by decide +kernel
theorem dX6_whyNot_40 : decode cX6_whyNot 40 = .ok (.ireturn, 1) := by decide +kernel
theorem dX6_whyNot_41 : decode cX6_whyNot 41 = .ok (.aload_n 0, 1) := by decide +kernel
theorem dX6_whyNot_42 : decode cX6_whyNot 42 = .ok (.iload 4, 2) := by decide +kernel
theorem dX6_whyNot_44 : decode cX6_whyNot 44 = .ok (.bipush (-6), 2) := by decide +kernel
theorem dX6_whyNot_46 : decode cX6_whyNot 46 = .ok (.if_icmp .ne 7, 3) := by decide +kernel
theorem dX6_whyNot_49 : decode cX6_whyNot 49 = .ok (.iconst 0, 1) := by decide +kernel
theorem dX6_whyNot_50 : decode cX6_whyNot 50 = .ok (.goto 11, 3) := by decide +kernel
theorem dX6_whyNot_53 : decode cX6_whyNot 53 = .ok (.aload_n 0, 1) := by decide +kernel
theorem dX6_whyNot_54 : decode cX6_whyNot 54 = .ok (.iload_n 3, 1) := by decide +kernel
theorem dX6_whyNot_55 : decode cX6_whyNot 55 = .ok (.iload 4, 2) := by decide +kernel
theorem dX6_whyNot_57 : decode cX6_whyNot 57 = .ok (.iload_n 2, 1) := by decide +kernel
theorem dX6_whyNot_58 : decode cX6_whyNot 58 = .ok (.invokevirtual 74, 3) := by decide +kernel
theorem dX6_whyNot_61 : decode cX6_whyNot 61 = .ok (.putfield 78, 3) := by decide +kernel
theorem dX6_whyNot_64 : decode cX6_whyNot 64 = .ok (.aload_n 0, 1) := by decide +kernel
theorem dX6_whyNot_65 : decode cX6_whyNot 65 = .ok (.getfield 78, 3) := by decide +kernel
theorem dX6_whyNot_68 : decode cX6_whyNot 68 = .ok (.ifCond .ge 5, 3) := by decide +kernel
theorem dX6_whyNot_71 : decode cX6_whyNot 71 = .ok (.iconst 3, 1) := by decide +kernel
theorem dX6_whyNot_72 : decode cX6_whyNot 72 = .ok (.ireturn, 1) := by decide +kernel
theorem dX6_whyNot_73 : decode cX6_whyNot 73 = .ok (.iload 4, 2) := by decide +kernel
theorem dX6_whyNot_75 : decode cX6_whyNot 75 = .ok (.bipush (-6), 2) := by decide +kernel
theorem dX6_whyNot_77 : decode cX6_whyNot 77 = .ok (.if_icmp .ne 7, 3) := by decide +kernel
theorem dX6_whyNot_80 : decode cX6_whyNot 80 = .ok (.iconst 0, 1) := by decide +kernel
theorem dX6_whyNot_81 : decode cX6_whyNot 81 = .ok (.goto 7, 3) := by decide +kernel
theorem dX6_whyNot_84 : decode cX6_whyNot 84 = .ok (.iload 4, 2) := by decide +kernel
theorem dX6_whyNot_86 : decode cX6_whyNot 86 = .ok (.iconst 1, 1) := by decide +kernel
theorem dX6_whyNot_87 : decode cX6_whyNot 87 = .ok (.iadd, 1) := by decide +kernel
theorem dX6_whyNot_88 : decode cX6_whyNot 88 = .ok (.istore 5, 2) := by decide +kernel
theorem dX6_whyNot_90 : decode cX6_whyNot 90 = .ok (.iload 5, 2) := by decide +kernel
theorem dX6_whyNot_92 : decode cX6_whyNot 92 = .ok (.aload_n 0, 1) := by decide +kernel
theorem dX6_whyNot_93 : decode cX6_whyNot 93 = .ok (.getfield 78, 3) := by decide +kernel
theorem dX6_whyNot_96 : decode cX6_whyNot 96 = .ok (.if_icmp .gt 25, 3) := by decide +kernel
theorem dX6_whyNot_99 : decode cX6_whyNot 99 = .ok (.aload_n 0, 1) := by decide +kernel
theorem dX6_whyNot_100 : decode cX6_whyNot 100 = .ok (.iload_n 3, 1) := by decide +kernel
theorem dX6_whyNot_101 : decode cX6_whyNot 101 = .ok (.iload_n 3, 1) := by decide +kernel
theorem dX6_whyNot_102 : decode cX6_whyNot 102 = .ok (.iload 5, 2) := by decide +kernel
theorem dX6_whyNot_104 : decode cX6_whyNot 104 = .ok (.invokestatic 36, 3) := by decide +kernel
theorem dX6_whyNot_107 : decode cX6_whyNot 107 = .ok (.invokevirtual 81, 3) := by decide +kernel
theorem dX6_whyNot_110 : decode cX6_whyNot 110 = .ok (.ifCond .eq 5, 3) := by decide +kernel
theorem dX6_whyNot_113 : decode cX6_whyNot 113 = .ok (.iconst 4, 1) := by decide +kernel
theorem dX6_whyNot_114 : decode cX6_whyNot 114 = .ok (.ireturn, 1) := by decide +kernel
theorem dX6_whyNot_115 : decode cX6_whyNot 115 = .ok (.iinc 5 1, 3) := by decide +kernel
theorem dX6_whyNot_118 : decode cX6_whyNot 118 = .ok (.goto (-28), 3) := by decide +kernel
theorem dX6_whyNot_121 : decode cX6_whyNot 121 = .ok (.iconst 0, 1) := by decide +kernel
theorem dX6_whyNot_122 : decode cX6_whyNot 122 = .ok (.istore 5, 2) := by decide +kernel
theorem dX6_whyNot_124 : decode cX6_whyNot 124 = .ok (.iconst 0, 1) := by decide +kernel
theorem dX6_whyNot_125 : decode cX6_whyNot 125 = .ok (.istore 6, 2) := by decide +kernel
theorem dX6_whyNot_127 : decode cX6_whyNot 127 = .ok (.iload 6, 2) := by decide +kernel
theorem dX6_whyNot_129 : decode cX6_whyNot 129 = .ok (.iconst 3, 1) := by decide +kernel
theorem dX6_whyNot_130 : decode cX6_whyNot 130 = .ok (.if_icmp .ge 46, 3) := by decide +kernel
theorem dX6_whyNot_133 : decode cX6_whyNot 133 = .ok (.iload 5, 2) := by decide +kernel
theorem dX6_whyNot_135 : decode cX6_whyNot 135 = .ok (.aload_n 0, 1) := by decide +kernel
theorem dX6_whyNot_136 : decode cX6_whyNot 136 = .ok (.getfield 7, 3) := by decide +kernel
theorem dX6_whyNot_139 : decode cX6_whyNot 139 = .ok (.iconst 3, 1) := by decide +kernel
theorem dX6_whyNot_140 : decode cX6_whyNot 140 = .ok (.iload_n 3, 1) := by decide +kernel
theorem dX6_whyNot_141 : decode cX6_whyNot 141 = .ok (.imul, 1) := by decide +kernel
theorem dX6_whyNot_142 : decode cX6_whyNot 142 = .ok (.iload 6, 2) := by decide +kernel
theorem dX6_whyNot_144 : decode cX6_whyNot 144 = .ok (.iadd, 1) := by decide +kernel
theorem dX6_whyNot_145 : decode cX6_whyNot 145 = .ok (.iaload, 1) := by decide +kernel
theorem dX6_whyNot_146 : decode cX6_whyNot 146 = .ok (.aload_n 0, 1) := by decide +kernel
theorem dX6_whyNot_147 : decode cX6_whyNot 147 = .ok (.getfield 78, 3) := by decide +kernel
theorem dX6_whyNot_150 : decode cX6_whyNot 150 = .ok (.if_icmp .ne 16, 3) := by decide +kernel
theorem dX6_whyNot_153 : decode cX6_whyNot 153 = .ok (.aload_n 0, 1) := by decide +kernel
theorem dX6_whyNot_154 : decode cX6_whyNot 154 = .ok (.getfield 78, 3) := by decide +kernel
theorem dX6_whyNot_157 : decode cX6_whyNot 157 = .ok (.bipush 35, 2) := by decide +kernel
theorem dX6_whyNot_159 : decode cX6_whyNot 159 = .ok (.if_icmp .ge 7, 3) := by decide +kernel
theorem dX6_whyNot_162 : decode cX6_whyNot 162 = .ok (.iconst 1, 1) := by decide +kernel
theorem dX6_whyNot_163 : decode cX6_whyNot 163 = .ok (.goto 4, 3) := by decide +kernel
theorem dX6_whyNot_166 : decode cX6_whyNot 166 = .ok (.iconst 0, 1) := by decide +kernel
theorem dX6_whyNot_167 : decode cX6_whyNot 167 = .ok (.iadd, 1) := by decide +kernel
theorem dX6_whyNot_168 : decode cX6_whyNot 168 = .ok (.istore 5, 2) := by decide +kernel
theorem dX6_whyNot_170 : decode cX6_whyNot 170 = .ok (.iinc 6 1, 3) := by decide +kernel
theorem dX6_whyNot_173 : decode cX6_whyNot 173 = .ok (.goto (-46), 3) := by decide +kernel
theorem dX6_whyNot_176 : decode cX6_whyNot 176 = .ok (.iload 5, 2) := by decide +kernel
theorem dX6_whyNot_178 : decode cX6_whyNot 178 = .ok (.iconst 1, 1) := by decide +kernel
theorem dX6_whyNot_179 : decode cX6_whyNot 179 = .ok (.if_icmp .le 5, 3) := by decide +kernel
theorem dX6_whyNot_182 : decode cX6_whyNot 182 = .ok (.iconst 5, 1) := by decide +kernel
theorem dX6_whyNot_183 : decode cX6_whyNot 183 = .ok (.ireturn, 1) := by decide +kernel
theorem dX6_whyNot_184 : decode cX6_whyNot 184 = .ok (.iload_n 3, 1) := by decide +kernel
theorem dX6_whyNot_185 : decode cX6_whyNot 185 = .ok (.aload_n 0, 1) := by decide +kernel
theorem dX6_whyNot_186 : decode cX6_whyNot 186 = .ok (.getfield 78, 3) := by decide +kernel
theorem dX6_whyNot_189 : decode cX6_whyNot 189 = .ok (.invokestatic 36, 3) := by decide +kernel
theorem dX6_whyNot_192 : decode cX6_whyNot 192 = .ok (.istore 6, 2) := by decide +kernel
theorem dX6_whyNot_194 : decode cX6_whyNot 194 = .ok (.iload 6, 2) := by decide +kernel
theorem dX6_whyNot_196 : decode cX6_whyNot 196 = .ok (.ifCond .lt 27, 3) := by decide +kernel
theorem dX6_whyNot_199 : decode cX6_whyNot 199 = .ok (.iload 6, 2) := by decide +kernel
theorem dX6_whyNot_201 : decode cX6_whyNot 201 = .ok (.invokestatic 85, 3) := by decide +kernel
theorem dX6_whyNot_204 : decode cX6_whyNot 204 = .ok (.ifCond .eq 19, 3) := by decide +kernel
theorem dX6_whyNot_207 : decode cX6_whyNot 207 = .ok (.aload_n 0, 1) := by decide +kernel
theorem dX6_whyNot_208 : decode cX6_whyNot 208 = .ok (.iload 6, 2) := by decide +kernel
theorem dX6_whyNot_210 : decode cX6_whyNot 210 = .ok (.invokevirtual 61, 3) := by decide +kernel
theorem dX6_whyNot_213 : decode cX6_whyNot 213 = .ok (.iload 5, 2) := by decide +kernel
theorem dX6_whyNot_215 : decode cX6_whyNot 215 = .ok (.if_icmp .le 8, 3) := by decide +kernel
theorem dX6_whyNot_218 : decode cX6_whyNot 218 = .ok (.bipush 6, 2) := by decide +kernel
theorem dX6_whyNot_220 : decode cX6_whyNot 220 = .ok (.goto 4, 3) := by decide +kernel
theorem dX6_whyNot_223 : decode cX6_whyNot 223 = .ok (.iconst 0, 1) := by decide +kernel
theorem dX6_whyNot_224 : decode cX6_whyNot 224 = .ok (.ireturn, 1) := by decide +kernel
set_option maxRecDepth 20000 in
theorem ggX6_otherOn_X6_fieldOf : GoodIn wsX6_otherOn wsX6_fieldOf := goodIn_r _ [5, 6, 7, 8, 4, 9, 10, 11, 12, 13, 14, 15, 16, 17, 18, 19, 20, 21, 22] (by decide +kernel) (by decide +kernel)
set_option maxRecDepth 20000 in
theorem gX6_otherOn_X6_fieldOf : GoodIn wsX6_otherOn (wsV RX6 44 RX6 yX6_fieldOf wsX6_fieldOf) := goodIn_app (goodIn_of _ (by decide +kernel)) ggX6_otherOn_X6_fieldOf
theorem dX6_otherOn_0 : decode cX6_otherOn 0 = .ok (.bipush (-6), 2) := by decide +kernel
theorem dX6_otherOn_2 : decode cX6_otherOn 2 = .ok (.istore_n 3, 1) := by decide +kernel
theorem dX6_otherOn_3 : decode cX6_otherOn 3 = .ok (.iconst 0, 1) := by decide +kernel
theorem dX6_otherOn_4 : decode cX6_otherOn 4 = .ok (.istore 4, 2) := by decide +kernel
theorem dX6_otherOn_6 : decode cX6_otherOn 6 = .ok (.iload 4, 2) := by decide +kernel
theorem dX6_otherOn_8 : decode cX6_otherOn 8 = .ok (.bipush 12, 2) := by decide +kernel
theorem dX6_otherOn_10 : decode cX6_otherOn 10 = .ok (.if_icmp .ge 38, 3) := by decide +kernel
theorem dX6_otherOn_13 : decode cX6_otherOn 13 = .ok (.iload 4, 2) := by decide +kernel
theorem dX6_otherOn_15 : decode cX6_otherOn 15 = .ok (.iconst 3, 1) := by decide +kernel
theorem dX6_otherOn_16 : decode cX6_otherOn 16 = .ok (.idiv, 1) := by decide +kernel
theorem dX6_otherOn_17 : decode cX6_otherOn 17 = .ok (.iload_n 1, 1) := by decide +kernel
theorem dX6_otherOn_18 : decode cX6_otherOn 18 = .ok (.if_icmp .eq 22, 3) := by decide +kernel
theorem dX6_otherOn_21 : decode cX6_otherOn 21 = .ok (.iload_n 2, 1) := by decide +kernel
theorem dX6_otherOn_22 : decode cX6_otherOn 22 = .ok (.ifCond .lt 18, 3) := by decide +kernel
theorem dX6_otherOn_25 : decode cX6_otherOn 25 = .ok (.aload_n 0, 1) := by decide +kernel
theorem dX6_otherOn_26 : decode cX6_otherOn 26 = .ok (.iload 4, 2) := by decide +kernel
theorem dX6_otherOn_28 : decode cX6_otherOn 28 = .ok (.invokevirtual 44, 3) := by decide +kernel
theorem dX6_otherOn_31 : decode cX6_otherOn 31 = .ok (.iload_n 2, 1) := by decide +kernel
theorem dX6_otherOn_32 : decode cX6_otherOn 32 = .ok (.if_icmp .ne 8, 3) := by decide +kernel
theorem dX6_otherOn_35 : decode cX6_otherOn 35 = .ok (.iload 4, 2) := by decide +kernel
theorem dX6_otherOn_37 : decode cX6_otherOn 37 = .ok (.goto 4, 3) := by decide +kernel
theorem dX6_otherOn_40 : decode cX6_otherOn 40 = .ok (.iload_n 3, 1) := by decide +kernel
theorem dX6_otherOn_41 : decode cX6_otherOn 41 = .ok (.istore_n 3, 1) := by decide +kernel
theorem dX6_otherOn_42 : decode cX6_otherOn 42 = .ok (.iinc 4 1, 3) := by decide +kernel
theorem dX6_otherOn_45 : decode cX6_otherOn 45 = .ok (.goto (-39), 3) := by decide +kernel
theorem dX6_otherOn_48 : decode cX6_otherOn 48 = .ok (.iload_n 3, 1) := by decide +kernel
theorem dX6_otherOn_49 : decode cX6_otherOn 49 = .ok (.ireturn, 1) := by decide +kernel
set_option maxRecDepth 20000 in
theorem ggX6_doMove_X6_whyNot : GoodIn wsX6_doMove wsX6_whyNot := goodIn_r _ [7, 2, 1, 8, 9, 10, 6, 11, 12, 13, 14, 15, 16, 17, 18, 19, 20, 21, 22, 23, 24, 25, 26, 27, 28, 29, 30, 31, 32, 33, 34, 35, 36, 37, 38, 39, 40, 41, 42, 43, 56, 57, 58, 59, 60, 61, 62, 63, 64, 65] (by decide +kernel) (by decide +kernel)
set_option maxRecDepth 20000 in
theorem gX6_doMove_X6_whyNot : GoodIn wsX6_doMove (wsV RX6 88 RX6 yX6_whyNot wsX6_whyNot) := goodIn_app (goodIn_of _ (by decide +kernel)) ggX6_doMove_X6_whyNot
set_option maxRecDepth 20000 in
theorem ggX6_doMove_X6_fieldAt : GoodIn wsX6_doMove wsX6_fieldAt := goodIn_r _ [14, 15, 16, 6, 17] (by decide +kernel) (by decide +kernel)
set_option maxRecDepth 20000 in
theorem gX6_doMove_X6_fieldAt : GoodIn wsX6_doMove (va_wsS RX6 36 yX6_fieldAt wsX6_fieldAt) := goodIn_app (goodIn_of _ (by decide +kernel)) ggX6_doMove_X6_fieldAt
set_option maxRecDepth 20000 in
theorem ggX6_doMove_X6_otherOn : GoodIn wsX6_doMove wsX6_otherOn := goodIn_r _ [47, 33, 34, 35, 6, 36, 2, 12, 13, 14, 15, 16, 17, 56, 57, 58, 59, 60, 61, 62, 63, 64, 65] (by decide +kernel) (by decide +kernel)
set_option maxRecDepth 20000 in
theorem gX6_doMove_X6_otherOn : GoodIn wsX6_doMove (wsV RX6 91 RX6 yX6_otherOn wsX6_otherOn) := goodIn_app (goodIn_of _ (by decide +kernel)) ggX6_doMove_X6_otherOn
set_option maxRecDepth 20000 in
theorem ggX6_doMove_X6_lookAtBridges : GoodIn wsX6_doMove wsX6_lookAtBridges := goodIn_r _ [51, 2, 52, 53, 54, 6, 55, 29, 30, 31, 32, 33, 34, 35, 36, 12, 13, 14, 15, 16, 17, 40, 41, 42, 43, 56, 57, 58, 59, 60, 61, 62, 63, 64, 65] (by decide +kernel) (by decide +kernel)
set_option maxRecDepth 20000 in
theorem gX6_doMove_X6_lookAtBridges : GoodIn wsX6_doMove (wsV RX6 94 RX6 yX6_lookAtBridges wsX6_lookAtBridges) := goodIn_app (goodIn_of _ (by decide +kernel)) ggX6_doMove_X6_lookAtBridges
theorem dX6_doMove_0 : decode cX6_doMove 0 = .ok (.aload_n 0, 1) := by decide +kernel
theorem dX6_doMove_1 : decode cX6_doMove 1 = .ok (.iload_n 1, 1) := by decide +kernel
theorem dX6_doMove_2 : decode cX6_doMove 2 = .ok (.iload_n 2, 1) := by decide +kernel
theorem dX6_doMove_3 : decode cX6_doMove 3 = .ok (.invokevirtual 88, 3) := by decide +kernel
theorem dX6_doMove_6 : decode cX6_doMove 6 = .ok (.pop, 1) := by decide +kernel
theorem dX6_doMove_7 : decode cX6_doMove 7 = .ok (.aload_n 0, 1) := by decide +kernel
theorem dX6_doMove_8 : decode cX6_doMove 8 = .ok (.iload_n 1, 1) := by decide +kernel
theorem dX6_doMove_9 : decode cX6_doMove 9 = .ok (.iconst 3, 1) := by decide +kernel
theorem dX6_doMove_10 : decode cX6_doMove 10 = .ok (.idiv, 1) := by decide +kernel
theorem dX6_doMove_11 : decode cX6_doMove 11 = .ok (.iload_n 1, 1) := by decide +kernel
theorem dX6_doMove_12 : decode cX6_doMove 12 = .ok (.iconst 3, 1) := by decide +kernel
theorem dX6_doMove_13 : decode cX6_doMove 13 = .ok (.idiv, 1) := by decide +kernel
theorem dX6_doMove_14 : decode cX6_doMove 14 = .ok (.aload_n 0, 1) := by decide +kernel
theorem dX6_doMove_15 : decode cX6_doMove 15 = .ok (.getfield 78, 3) := by decide +kernel
theorem dX6_doMove_18 : decode cX6_doMove 18 = .ok (.invokestatic 36, 3) := by decide +kernel
theorem dX6_doMove_21 : decode cX6_doMove 21 = .ok (.invokevirtual 91, 3) := by decide +kernel
theorem dX6_doMove_24 : decode cX6_doMove 24 = .ok (.istore_n 3, 1) := by decide +kernel
theorem dX6_doMove_25 : decode cX6_doMove 25 = .ok (.iload_n 3, 1) := by decide +kernel
theorem dX6_doMove_26 : decode cX6_doMove 26 = .ok (.ifCond .lt 35, 3) := by decide +kernel
theorem dX6_doMove_29 : decode cX6_doMove 29 = .ok (.aload_n 0, 1) := by decide +kernel
theorem dX6_doMove_30 : decode cX6_doMove 30 = .ok (.getfield 7, 3) := by decide +kernel
theorem dX6_doMove_33 : decode cX6_doMove 33 = .ok (.iload_n 3, 1) := by decide +kernel
theorem dX6_doMove_34 : decode cX6_doMove 34 = .ok (.bipush (-6), 2) := by decide +kernel
theorem dX6_doMove_36 : decode cX6_doMove 36 = .ok (.iastore, 1) := by decide +kernel
theorem dX6_doMove_37 : decode cX6_doMove 37 = .ok (.aload_n 0, 1) := by decide +kernel
theorem dX6_doMove_38 : decode cX6_doMove 38 = .ok (.getfield 7, 3) := by decide +kernel
theorem dX6_doMove_41 : decode cX6_doMove 41 = .ok (.bipush 12, 2) := by decide +kernel
theorem dX6_doMove_43 : decode cX6_doMove 43 = .ok (.iload_n 3, 1) := by decide +kernel
theorem dX6_doMove_44 : decode cX6_doMove 44 = .ok (.iadd, 1) := by decide +kernel
theorem dX6_doMove_45 : decode cX6_doMove 45 = .ok (.dup2, 1) := by decide +kernel
theorem dX6_doMove_46 : decode cX6_doMove 46 = .ok (.iaload, 1) := by decide +kernel
theorem dX6_doMove_47 : decode cX6_doMove 47 = .ok (.iconst 1, 1) := by decide +kernel
theorem dX6_doMove_48 : decode cX6_doMove 48 = .ok (.iadd, 1) := by decide +kernel
theorem dX6_doMove_49 : decode cX6_doMove 49 = .ok (.iastore, 1) := by decide +kernel
theorem dX6_doMove_50 : decode cX6_doMove 50 = .ok (.aload_n 0, 1) := by decide +kernel
theorem dX6_doMove_51 : decode cX6_doMove 51 = .ok (.getfield 7, 3) := by decide +kernel
theorem dX6_doMove_54 : decode cX6_doMove 54 = .ok (.bipush 44, 2) := by decide +kernel
theorem dX6_doMove_56 : decode cX6_doMove 56 = .ok (.dup2, 1) := by decide +kernel
theorem dX6_doMove_57 : decode cX6_doMove 57 = .ok (.iaload, 1) := by decide +kernel
theorem dX6_doMove_58 : decode cX6_doMove 58 = .ok (.iconst 1, 1) := by decide +kernel
theorem dX6_doMove_59 : decode cX6_doMove 59 = .ok (.iadd, 1) := by decide +kernel
theorem dX6_doMove_60 : decode cX6_doMove 60 = .ok (.iastore, 1) := by decide +kernel
theorem dX6_doMove_61 : decode cX6_doMove 61 = .ok (.aload_n 0, 1) := by decide +kernel
theorem dX6_doMove_62 : decode cX6_doMove 62 = .ok (.getfield 7, 3) := by decide +kernel
theorem dX6_doMove_65 : decode cX6_doMove 65 = .ok (.iload_n 1, 1) := by decide +kernel
theorem dX6_doMove_66 : decode cX6_doMove 66 = .ok (.aload_n 0, 1) := by decide +kernel
theorem dX6_doMove_67 : decode cX6_doMove 67 = .ok (.getfield 78, 3) := by decide +kernel
theorem dX6_doMove_70 : decode cX6_doMove 70 = .ok (.iastore, 1) := by decide +kernel
theorem dX6_doMove_71 : decode cX6_doMove 71 = .ok (.aload_n 0, 1) := by decide +kernel
theorem dX6_doMove_72 : decode cX6_doMove 72 = .ok (.invokevirtual 94, 3) := by decide +kernel
theorem dX6_doMove_75 : decode cX6_doMove 75 = .ok (.return_, 1) := by decide +kernel
set_option maxRecDepth 20000 in
theorem ggX6_canMove_X6_whyNot : GoodIn wsX6_canMove wsX6_whyNot := goodIn_r _ [6, 1, 7, 8, 9, 10, 5, 11, 12, 13, 14, 15, 16, 17, 18, 19, 20, 21, 22, 23, 24, 25, 26, 27, 28, 29, 30, 31, 32, 33, 34, 35, 36, 37, 38, 39, 40, 41, 42, 43, 44, 45, 46, 47, 48, 49, 50, 51, 52, 53] (by decide +kernel) (by decide +kernel)
set_option maxRecDepth 20000 in
theorem gX6_canMove_X6_whyNot : GoodIn wsX6_canMove (wsV RX6 88 RX6 yX6_whyNot wsX6_whyNot) := goodIn_app (goodIn_of _ (by decide +kernel)) ggX6_canMove_X6_whyNot
theorem dX6_canMove_0 : decode cX6_canMove 0 = .ok (.iconst 0, 1) := by decide +kernel
theorem dX6_canMove_1 : decode cX6_canMove 1 = .ok (.istore_n 2, 1) := by decide +kernel
theorem dX6_canMove_2 : decode cX6_canMove 2 = .ok (.iconst 0, 1) := by decide +kernel
theorem dX6_canMove_3 : decode cX6_canMove 3 = .ok (.istore_n 3, 1) := by decide +kernel
theorem dX6_canMove_4 : decode cX6_canMove 4 = .ok (.iload_n 3, 1) := by decide +kernel
theorem dX6_canMove_5 : decode cX6_canMove 5 = .ok (.iconst 3, 1) := by decide +kernel
theorem dX6_canMove_6 : decode cX6_canMove 6 = .ok (.if_icmp .ge 38, 3) := by decide +kernel
theorem dX6_canMove_9 : decode cX6_canMove 9 = .ok (.iload_n 2, 1) := by decide +kernel
theorem dX6_canMove_10 : decode cX6_canMove 10 = .ok (.ifCond .ne 22, 3) := by decide +kernel
theorem dX6_canMove_13 : decode cX6_canMove 13 = .ok (.aload_n 0, 1) := by decide +kernel
theorem dX6_canMove_14 : decode cX6_canMove 14 = .ok (.iconst 3, 1) := by decide +kernel
theorem dX6_canMove_15 : decode cX6_canMove 15 = .ok (.aload_n 0, 1) := by decide +kernel
theorem dX6_canMove_16 : decode cX6_canMove 16 = .ok (.getfield 7, 3) := by decide +kernel
theorem dX6_canMove_19 : decode cX6_canMove 19 = .ok (.bipush 40, 2) := by decide +kernel
theorem dX6_canMove_21 : decode cX6_canMove 21 = .ok (.iaload, 1) := by decide +kernel
theorem dX6_canMove_22 : decode cX6_canMove 22 = .ok (.imul, 1) := by decide +kernel
theorem dX6_canMove_23 : decode cX6_canMove 23 = .ok (.iload_n 3, 1) := by decide +kernel
theorem dX6_canMove_24 : decode cX6_canMove 24 = .ok (.iadd, 1) := by decide +kernel
theorem dX6_canMove_25 : decode cX6_canMove 25 = .ok (.iload_n 1, 1) := by decide +kernel
theorem dX6_canMove_26 : decode cX6_canMove 26 = .ok (.invokevirtual 88, 3) := by decide +kernel
theorem dX6_canMove_29 : decode cX6_canMove 29 = .ok (.ifCond .ne 7, 3) := by decide +kernel
theorem dX6_canMove_32 : decode cX6_canMove 32 = .ok (.iconst 1, 1) := by decide +kernel
theorem dX6_canMove_33 : decode cX6_canMove 33 = .ok (.goto 4, 3) := by decide +kernel
theorem dX6_canMove_36 : decode cX6_canMove 36 = .ok (.iconst 0, 1) := by decide +kernel
theorem dX6_canMove_37 : decode cX6_canMove 37 = .ok (.istore_n 2, 1) := by decide +kernel
theorem dX6_canMove_38 : decode cX6_canMove 38 = .ok (.iinc 3 1, 3) := by decide +kernel
theorem dX6_canMove_41 : decode cX6_canMove 41 = .ok (.goto (-37), 3) := by decide +kernel
theorem dX6_canMove_44 : decode cX6_canMove 44 = .ok (.iload_n 2, 1) := by decide +kernel
theorem dX6_canMove_45 : decode cX6_canMove 45 = .ok (.ireturn, 1) := by decide +kernel
set_option maxRecDepth 20000 in
theorem ggX6_goOn_X6_isOver : GoodIn wsX6_goOn wsX6_isOver := goodIn_r _ [6, 7, 8, 9, 5, 10, 11, 12, 13, 14, 1, 15, 16, 17, 18, 19, 20, 21, 22, 23, 24] (by decide +kernel) (by decide +kernel)
set_option maxRecDepth 20000 in
theorem gX6_goOn_X6_isOver : GoodIn wsX6_goOn (wsV RX6 97 RX6 yX6_isOver wsX6_isOver) := goodIn_app (goodIn_of _ (by decide +kernel)) ggX6_goOn_X6_isOver
theorem dX6_goOn_0 : decode cX6_goOn 0 = .ok (.aload_n 0, 1) := by decide +kernel
theorem dX6_goOn_1 : decode cX6_goOn 1 = .ok (.getfield 7, 3) := by decide +kernel
theorem dX6_goOn_4 : decode cX6_goOn 4 = .ok (.bipush 41, 2) := by decide +kernel
theorem dX6_goOn_6 : decode cX6_goOn 6 = .ok (.iaload, 1) := by decide +kernel
theorem dX6_goOn_7 : decode cX6_goOn 7 = .ok (.bipush 6, 2) := by decide +kernel
theorem dX6_goOn_9 : decode cX6_goOn 9 = .ok (.if_icmp .ne 24, 3) := by decide +kernel
theorem dX6_goOn_12 : decode cX6_goOn 12 = .ok (.aload_n 0, 1) := by decide +kernel
theorem dX6_goOn_13 : decode cX6_goOn 13 = .ok (.getfield 7, 3) := by decide +kernel
theorem dX6_goOn_16 : decode cX6_goOn 16 = .ok (.bipush 43, 2) := by decide +kernel
theorem dX6_goOn_18 : decode cX6_goOn 18 = .ok (.iaload, 1) := by decide +kernel
theorem dX6_goOn_19 : decode cX6_goOn 19 = .ok (.aload_n 0, 1) := by decide +kernel
theorem dX6_goOn_20 : decode cX6_goOn 20 = .ok (.getfield 7, 3) := by decide +kernel
theorem dX6_goOn_23 : decode cX6_goOn 23 = .ok (.bipush 38, 2) := by decide +kernel
theorem dX6_goOn_25 : decode cX6_goOn 25 = .ok (.iaload, 1) := by decide +kernel
theorem dX6_goOn_26 : decode cX6_goOn 26 = .ok (.if_icmp .gt 7, 3) := by decide +kernel
theorem dX6_goOn_29 : decode cX6_goOn 29 = .ok (.iconst 1, 1) := by decide +kernel
theorem dX6_goOn_30 : decode cX6_goOn 30 = .ok (.goto 4, 3) := by decide +kernel
theorem dX6_goOn_33 : decode cX6_goOn 33 = .ok (.iconst 0, 1) := by decide +kernel
theorem dX6_goOn_34 : decode cX6_goOn 34 = .ok (.istore_n 1, 1) := by decide +kernel
theorem dX6_goOn_35 : decode cX6_goOn 35 = .ok (.aload_n 0, 1) := by decide +kernel
theorem dX6_goOn_36 : decode cX6_goOn 36 = .ok (.getfield 7, 3) := by decide +kernel
theorem dX6_goOn_39 : decode cX6_goOn 39 = .ok (.bipush 41, 2) := by decide +kernel
theorem dX6_goOn_41 : decode cX6_goOn 41 = .ok (.bipush (-6), 2) := by decide +kernel
theorem dX6_goOn_43 : decode cX6_goOn 43 = .ok (.iastore, 1) := by decide +kernel
theorem dX6_goOn_44 : decode cX6_goOn 44 = .ok (.aload_n 0, 1) := by decide +kernel
theorem dX6_goOn_45 : decode cX6_goOn 45 = .ok (.invokevirtual 97, 3) := by decide +kernel
theorem dX6_goOn_48 : decode cX6_goOn 48 = .ok (.ifCond .ne 7, 3) := by decide +kernel
theorem dX6_goOn_51 : decode cX6_goOn 51 = .ok (.iload_n 1, 1) := by decide +kernel
theorem dX6_goOn_52 : decode cX6_goOn 52 = .ok (.ifCond .eq 4, 3) := by decide +kernel
theorem dX6_goOn_55 : decode cX6_goOn 55 = .ok (.return_, 1) := by decide +kernel
theorem dX6_goOn_56 : decode cX6_goOn 56 = .ok (.aload_n 0, 1) := by decide +kernel
theorem dX6_goOn_57 : decode cX6_goOn 57 = .ok (.getfield 7, 3) := by decide +kernel
theorem dX6_goOn_60 : decode cX6_goOn 60 = .ok (.bipush 40, 2) := by decide +kernel
theorem dX6_goOn_62 : decode cX6_goOn 62 = .ok (.aload_n 0, 1) := by decide +kernel
theorem dX6_goOn_63 : decode cX6_goOn 63 = .ok (.getfield 7, 3) := by decide +kernel
theorem dX6_goOn_66 : decode cX6_goOn 66 = .ok (.bipush 40, 2) := by decide +kernel
theorem dX6_goOn_68 : decode cX6_goOn 68 = .ok (.iaload, 1) := by decide +kernel
theorem dX6_goOn_69 : decode cX6_goOn 69 = .ok (.iconst 1, 1) := by decide +kernel
theorem dX6_goOn_70 : decode cX6_goOn 70 = .ok (.iadd, 1) := by decide +kernel
theorem dX6_goOn_71 : decode cX6_goOn 71 = .ok (.iconst 4, 1) := by decide +kernel
theorem dX6_goOn_72 : decode cX6_goOn 72 = .ok (.irem, 1) := by decide +kernel
theorem dX6_goOn_73 : decode cX6_goOn 73 = .ok (.iastore, 1) := by decide +kernel
theorem dX6_goOn_74 : decode cX6_goOn 74 = .ok (.aload_n 0, 1) := by decide +kernel
theorem dX6_goOn_75 : decode cX6_goOn 75 = .ok (.getfield 7, 3) := by decide +kernel
theorem dX6_goOn_78 : decode cX6_goOn 78 = .ok (.bipush 42, 2) := by decide +kernel
theorem dX6_goOn_80 : decode cX6_goOn 80 = .ok (.dup2, 1) := by decide +kernel
theorem dX6_goOn_81 : decode cX6_goOn 81 = .ok (.iaload, 1) := by decide +kernel
theorem dX6_goOn_82 : decode cX6_goOn 82 = .ok (.iconst 1, 1) := by decide +kernel
theorem dX6_goOn_83 : decode cX6_goOn 83 = .ok (.iadd, 1) := by decide +kernel
theorem dX6_goOn_84 : decode cX6_goOn 84 = .ok (.iastore, 1) := by decide +kernel
theorem dX6_goOn_85 : decode cX6_goOn 85 = .ok (.aload_n 0, 1) := by decide +kernel
theorem dX6_goOn_86 : decode cX6_goOn 86 = .ok (.getfield 7, 3) := by decide +kernel
theorem dX6_goOn_89 : decode cX6_goOn 89 = .ok (.bipush 43, 2) := by decide +kernel
theorem dX6_goOn_91 : decode cX6_goOn 91 = .ok (.iconst 0, 1) := by decide +kernel
theorem dX6_goOn_92 : decode cX6_goOn 92 = .ok (.iastore, 1) := by decide +kernel
theorem dX6_goOn_93 : decode cX6_goOn 93 = .ok (.iconst 0, 1) := by decide +kernel
theorem dX6_goOn_94 : decode cX6_goOn 94 = .ok (.istore_n 2, 1) := by decide +kernel
theorem dX6_goOn_95 : decode cX6_goOn 95 = .ok (.iload_n 2, 1) := by decide +kernel
theorem dX6_goOn_96 : decode cX6_goOn 96 = .ok (.iconst 4, 1) := by decide +kernel
theorem dX6_goOn_97 : decode cX6_goOn 97 = .ok (.if_icmp .ge 69, 3) := by decide +kernel
theorem dX6_goOn_100 : decode cX6_goOn 100 = .ok (.aload_n 0, 1) := by decide +kernel
theorem dX6_goOn_101 : decode cX6_goOn 101 = .ok (.getfield 7, 3) := by decide +kernel
theorem dX6_goOn_104 : decode cX6_goOn 104 = .ok (.bipush 24, 2) := by decide +kernel
theorem dX6_goOn_106 : decode cX6_goOn 106 = .ok (.iload_n 2, 1) := by decide +kernel
theorem dX6_goOn_107 : decode cX6_goOn 107 = .ok (.iadd, 1) := by decide +kernel
theorem dX6_goOn_108 : decode cX6_goOn 108 = .ok (.iaload, 1) := by decide +kernel
theorem dX6_goOn_109 : decode cX6_goOn 109 = .ok (.iconst 1, 1) := by decide +kernel
theorem dX6_goOn_110 : decode cX6_goOn 110 = .ok (.if_icmp .ne 50, 3) := by decide +kernel
theorem dX6_goOn_113 : decode cX6_goOn 113 = .ok (.aload_n 0, 1) := by decide +kernel
theorem dX6_goOn_114 : decode cX6_goOn 114 = .ok (.getfield 7, 3) := by decide +kernel
theorem dX6_goOn_117 : decode cX6_goOn 117 = .ok (.bipush 37, 2) := by decide +kernel
theorem dX6_goOn_119 : decode cX6_goOn 119 = .ok (.iaload, 1) := by decide +kernel
theorem dX6_goOn_120 : decode cX6_goOn 120 = .ok (.ifCond .le 40, 3) := by decide +kernel
theorem dX6_goOn_123 : decode cX6_goOn 123 = .ok (.aload_n 0, 1) := by decide +kernel
theorem dX6_goOn_124 : decode cX6_goOn 124 = .ok (.getfield 7, 3) := by decide +kernel
theorem dX6_goOn_127 : decode cX6_goOn 127 = .ok (.bipush 42, 2) := by decide +kernel
theorem dX6_goOn_129 : decode cX6_goOn 129 = .ok (.iaload, 1) := by decide +kernel
theorem dX6_goOn_130 : decode cX6_goOn 130 = .ok (.aload_n 0, 1) := by decide +kernel
theorem dX6_goOn_131 : decode cX6_goOn 131 = .ok (.getfield 7, 3) := by decide +kernel
theorem dX6_goOn_134 : decode cX6_goOn 134 = .ok (.bipush 32, 2) := by decide +kernel
theorem dX6_goOn_136 : decode cX6_goOn 136 = .ok (.iload_n 2, 1) := by decide +kernel
theorem dX6_goOn_137 : decode cX6_goOn 137 = .ok (.iadd, 1) := by decide +kernel
theorem dX6_goOn_138 : decode cX6_goOn 138 = .ok (.iaload, 1) := by decide +kernel
theorem dX6_goOn_139 : decode cX6_goOn 139 = .ok (.isub, 1) := by decide +kernel
theorem dX6_goOn_140 : decode cX6_goOn 140 = .ok (.aload_n 0, 1) := by decide +kernel
theorem dX6_goOn_141 : decode cX6_goOn 141 = .ok (.getfield 7, 3) := by decide +kernel
theorem dX6_goOn_144 : decode cX6_goOn 144 = .ok (.bipush 37, 2) := by decide +kernel
theorem dX6_goOn_146 : decode cX6_goOn 146 = .ok (.iaload, 1) := by decide +kernel
theorem dX6_goOn_147 : decode cX6_goOn 147 = .ok (.if_icmp .lt 13, 3) := by decide +kernel
theorem dX6_goOn_150 : decode cX6_goOn 150 = .ok (.aload_n 0, 1) := by decide +kernel
theorem dX6_goOn_151 : decode cX6_goOn 151 = .ok (.getfield 7, 3) := by decide +kernel
theorem dX6_goOn_154 : decode cX6_goOn 154 = .ok (.bipush 24, 2) := by decide +kernel
theorem dX6_goOn_156 : decode cX6_goOn 156 = .ok (.iload_n 2, 1) := by decide +kernel
theorem dX6_goOn_157 : decode cX6_goOn 157 = .ok (.iadd, 1) := by decide +kernel
theorem dX6_goOn_158 : decode cX6_goOn 158 = .ok (.iconst 0, 1) := by decide +kernel
theorem dX6_goOn_159 : decode cX6_goOn 159 = .ok (.iastore, 1) := by decide +kernel
theorem dX6_goOn_160 : decode cX6_goOn 160 = .ok (.iinc 2 1, 3) := by decide +kernel
theorem dX6_goOn_163 : decode cX6_goOn 163 = .ok (.goto (-68), 3) := by decide +kernel
theorem dX6_goOn_166 : decode cX6_goOn 166 = .ok (.return_, 1) := by decide +kernel
theorem dX6_draw_0 : decode cX6_draw 0 = .ok (.aload_n 0, 1) := by decide +kernel
theorem dX6_draw_1 : decode cX6_draw 1 = .ok (.getfield 7, 3) := by decide +kernel
theorem dX6_draw_4 : decode cX6_draw 4 = .ok (.bipush 39, 2) := by decide +kernel
theorem dX6_draw_6 : decode cX6_draw 6 = .ok (.aload_n 0, 1) := by decide +kernel
theorem dX6_draw_7 : decode cX6_draw 7 = .ok (.getfield 7, 3) := by decide +kernel
theorem dX6_draw_10 : decode cX6_draw 10 = .ok (.bipush 39, 2) := by decide +kernel
theorem dX6_draw_12 : decode cX6_draw 12 = .ok (.iaload, 1) := by decide +kernel
theorem dX6_draw_13 : decode cX6_draw 13 = .ok (.i2l, 1) := by decide +kernel
theorem dX6_draw_14 : decode cX6_draw 14 = .ok (.ldc2_w 101, 3) := by decide +kernel
theorem dX6_draw_17 : decode cX6_draw 17 = .ok (.lmul, 1) := by decide +kernel
theorem dX6_draw_18 : decode cX6_draw 18 = .ok (.ldc2_w 103, 3) := by decide +kernel
theorem dX6_draw_21 : decode cX6_draw 21 = .ok (.ladd, 1) := by decide +kernel
theorem dX6_draw_22 : decode cX6_draw 22 = .ok (.ldc2_w 105, 3) := by decide +kernel
theorem dX6_draw_25 : decode cX6_draw 25 = .ok (.lrem, 1) := by decide +kernel
theorem dX6_draw_26 : decode cX6_draw 26 = .ok (.l2i, 1) := by decide +kernel
theorem dX6_draw_27 : decode cX6_draw 27 = .ok (.iastore, 1) := by decide +kernel
theorem dX6_draw_28 : decode cX6_draw 28 = .ok (.iconst 1, 1) := by decide +kernel
theorem dX6_draw_29 : decode cX6_draw 29 = .ok (.aload_n 0, 1) := by decide +kernel
theorem dX6_draw_30 : decode cX6_draw 30 = .ok (.getfield 7, 3) := by decide +kernel
theorem dX6_draw_33 : decode cX6_draw 33 = .ok (.bipush 39, 2) := by decide +kernel
theorem dX6_draw_35 : decode cX6_draw 35 = .ok (.iaload, 1) := by decide +kernel
theorem dX6_draw_36 : decode cX6_draw 36 = .ok (.ldc 107, 2) := by decide +kernel
theorem dX6_draw_38 : decode cX6_draw 38 = .ok (.idiv, 1) := by decide +kernel
theorem dX6_draw_39 : decode cX6_draw 39 = .ok (.bipush 6, 2) := by decide +kernel
theorem dX6_draw_41 : decode cX6_draw 41 = .ok (.irem, 1) := by decide +kernel
theorem dX6_draw_42 : decode cX6_draw 42 = .ok (.iadd, 1) := by decide +kernel
theorem dX6_draw_43 : decode cX6_draw 43 = .ok (.ireturn, 1) := by decide +kernel
theorem dX6_least_0 : decode cX6_least 0 = .ok (.iload_n 0, 1) := by decide +kernel
theorem dX6_least_1 : decode cX6_least 1 = .ok (.ifCond .ne 7, 3) := by decide +kernel
theorem dX6_least_4 : decode cX6_least 4 = .ok (.iconst 1, 1) := by decide +kernel
theorem dX6_least_5 : decode cX6_least 5 = .ok (.goto 4, 3) := by decide +kernel
theorem dX6_least_8 : decode cX6_least 8 = .ok (.iconst 0, 1) := by decide +kernel
theorem dX6_least_9 : decode cX6_least 9 = .ok (.ireturn, 1) := by decide +kernel
theorem dX6_most_0 : decode cX6_most 0 = .ok (.iload_n 0, 1) := by decide +kernel
theorem dX6_most_1 : decode cX6_most 1 = .ok (.ifCond .ne 8, 3) := by decide +kernel
theorem dX6_most_4 : decode cX6_most 4 = .ok (.bipush 6, 2) := by decide +kernel
theorem dX6_most_6 : decode cX6_most 6 = .ok (.goto 14, 3) := by decide +kernel
theorem dX6_most_9 : decode cX6_most 9 = .ok (.iload_n 0, 1) := by decide +kernel
theorem dX6_most_10 : decode cX6_most 10 = .ok (.iconst 1, 1) := by decide +kernel
theorem dX6_most_11 : decode cX6_most 11 = .ok (.if_icmp .ne 8, 3) := by decide +kernel
theorem dX6_most_14 : decode cX6_most 14 = .ok (.bipush 40, 2) := by decide +kernel
theorem dX6_most_16 : decode cX6_most 16 = .ok (.goto 4, 3) := by decide +kernel
theorem dX6_most_19 : decode cX6_most 19 = .ok (.iconst 3, 1) := by decide +kernel
theorem dX6_most_20 : decode cX6_most 20 = .ok (.ireturn, 1) := by decide +kernel
set_option maxRecDepth 20000 in
theorem ggX6_set_X6_in : GoodIn wsX6_set wsX6_in := goodIn_r _ [5] (by decide +kernel) (by decide +kernel)
set_option maxRecDepth 20000 in
theorem gX6_set_X6_in : GoodIn wsX6_set (va_wsS RX6 32 yX6_in wsX6_in) := goodIn_app (goodIn_of _ (by decide +kernel)) ggX6_set_X6_in
set_option maxRecDepth 20000 in
theorem ggX6_set_X6_least : GoodIn wsX6_set wsX6_least := goodIn_r _ [8] (by decide +kernel) (by decide +kernel)
set_option maxRecDepth 20000 in
theorem gX6_set_X6_least : GoodIn wsX6_set (va_wsS RX6 108 yX6_least wsX6_least) := goodIn_app (goodIn_of _ (by decide +kernel)) ggX6_set_X6_least
set_option maxRecDepth 20000 in
theorem ggX6_set_X6_most : GoodIn wsX6_set wsX6_most := goodIn_r _ [11] (by decide +kernel) (by decide +kernel)
set_option maxRecDepth 20000 in
theorem gX6_set_X6_most : GoodIn wsX6_set (va_wsS RX6 111 yX6_most wsX6_most) := goodIn_app (goodIn_of _ (by decide +kernel)) ggX6_set_X6_most
set_option maxRecDepth 20000 in
theorem ggX6_set_X6_record : GoodIn wsX6_set wsX6_record := goodIn_r _ [15, 16, 17, 1, 18, 19, 20, 21, 22, 23, 24, 25, 26, 27] (by decide +kernel) (by decide +kernel)
set_option maxRecDepth 20000 in
theorem gX6_set_X6_record : GoodIn wsX6_set (wsV RX6 68 RX6 yX6_record wsX6_record) := goodIn_app (goodIn_of _ (by decide +kernel)) ggX6_set_X6_record
theorem dX6_set_0 : decode cX6_set 0 = .ok (.iload_n 1, 1) := by decide +kernel
theorem dX6_set_1 : decode cX6_set 1 = .ok (.iconst 0, 1) := by decide +kernel
theorem dX6_set_2 : decode cX6_set 2 = .ok (.iconst 2, 1) := by decide +kernel
theorem dX6_set_3 : decode cX6_set 3 = .ok (.invokestatic 32, 3) := by decide +kernel
theorem dX6_set_6 : decode cX6_set 6 = .ok (.ifCond .eq 18, 3) := by decide +kernel
theorem dX6_set_9 : decode cX6_set 9 = .ok (.iload_n 2, 1) := by decide +kernel
theorem dX6_set_10 : decode cX6_set 10 = .ok (.iload_n 1, 1) := by decide +kernel
theorem dX6_set_11 : decode cX6_set 11 = .ok (.invokestatic 108, 3) := by decide +kernel
theorem dX6_set_14 : decode cX6_set 14 = .ok (.iload_n 1, 1) := by decide +kernel
theorem dX6_set_15 : decode cX6_set 15 = .ok (.invokestatic 111, 3) := by decide +kernel
theorem dX6_set_18 : decode cX6_set 18 = .ok (.invokestatic 32, 3) := by decide +kernel
theorem dX6_set_21 : decode cX6_set 21 = .ok (.ifCond .ne 6, 3) := by decide +kernel
theorem dX6_set_24 : decode cX6_set 24 = .ok (.bipush (-2), 2) := by decide +kernel
theorem dX6_set_26 : decode cX6_set 26 = .ok (.ireturn, 1) := by decide +kernel
theorem dX6_set_27 : decode cX6_set 27 = .ok (.aload_n 0, 1) := by decide +kernel
theorem dX6_set_28 : decode cX6_set 28 = .ok (.invokevirtual 68, 3) := by decide +kernel
theorem dX6_set_31 : decode cX6_set 31 = .ok (.aload_n 0, 1) := by decide +kernel
theorem dX6_set_32 : decode cX6_set 32 = .ok (.getfield 7, 3) := by decide +kernel
theorem dX6_set_35 : decode cX6_set 35 = .ok (.bipush 36, 2) := by decide +kernel
theorem dX6_set_37 : decode cX6_set 37 = .ok (.iload_n 1, 1) := by decide +kernel
theorem dX6_set_38 : decode cX6_set 38 = .ok (.iadd, 1) := by decide +kernel
theorem dX6_set_39 : decode cX6_set 39 = .ok (.iaload, 1) := by decide +kernel
theorem dX6_set_40 : decode cX6_set 40 = .ok (.istore_n 3, 1) := by decide +kernel
theorem dX6_set_41 : decode cX6_set 41 = .ok (.aload_n 0, 1) := by decide +kernel
theorem dX6_set_42 : decode cX6_set 42 = .ok (.getfield 7, 3) := by decide +kernel
theorem dX6_set_45 : decode cX6_set 45 = .ok (.bipush 36, 2) := by decide +kernel
theorem dX6_set_47 : decode cX6_set 47 = .ok (.iload_n 1, 1) := by decide +kernel
theorem dX6_set_48 : decode cX6_set 48 = .ok (.iadd, 1) := by decide +kernel
theorem dX6_set_49 : decode cX6_set 49 = .ok (.iload_n 2, 1) := by decide +kernel
theorem dX6_set_50 : decode cX6_set 50 = .ok (.iastore, 1) := by decide +kernel
theorem dX6_set_51 : decode cX6_set 51 = .ok (.iload_n 3, 1) := by decide +kernel
theorem dX6_set_52 : decode cX6_set 52 = .ok (.ireturn, 1) := by decide +kernel
set_option maxRecDepth 20000 in
theorem ggX6_seed_X6_record : GoodIn wsX6_seed wsX6_record := goodIn_r _ [6, 7, 8, 1, 9, 10, 11, 12, 13, 14, 15, 16, 17, 18] (by decide +kernel) (by decide +kernel)
set_option maxRecDepth 20000 in
theorem gX6_seed_X6_record : GoodIn wsX6_seed (wsV RX6 68 RX6 yX6_record wsX6_record) := goodIn_app (goodIn_of _ (by decide +kernel)) ggX6_seed_X6_record
theorem dX6_seed_0 : decode cX6_seed 0 = .ok (.iload_n 1, 1) := by decide +kernel
theorem dX6_seed_1 : decode cX6_seed 1 = .ok (.ifCond .ge 6, 3) := by decide +kernel
theorem dX6_seed_4 : decode cX6_seed 4 = .ok (.bipush (-2), 2) := by decide +kernel
theorem dX6_seed_6 : decode cX6_seed 6 = .ok (.ireturn, 1) := by decide +kernel
theorem dX6_seed_7 : decode cX6_seed 7 = .ok (.aload_n 0, 1) := by decide +kernel
theorem dX6_seed_8 : decode cX6_seed 8 = .ok (.invokevirtual 68, 3) := by decide +kernel
theorem dX6_seed_11 : decode cX6_seed 11 = .ok (.aload_n 0, 1) := by decide +kernel
theorem dX6_seed_12 : decode cX6_seed 12 = .ok (.getfield 7, 3) := by decide +kernel
theorem dX6_seed_15 : decode cX6_seed 15 = .ok (.bipush 39, 2) := by decide +kernel
theorem dX6_seed_17 : decode cX6_seed 17 = .ok (.iaload, 1) := by decide +kernel
theorem dX6_seed_18 : decode cX6_seed 18 = .ok (.istore_n 2, 1) := by decide +kernel
theorem dX6_seed_19 : decode cX6_seed 19 = .ok (.aload_n 0, 1) := by decide +kernel
theorem dX6_seed_20 : decode cX6_seed 20 = .ok (.getfield 7, 3) := by decide +kernel
theorem dX6_seed_23 : decode cX6_seed 23 = .ok (.bipush 39, 2) := by decide +kernel
theorem dX6_seed_25 : decode cX6_seed 25 = .ok (.iload_n 1, 1) := by decide +kernel
theorem dX6_seed_26 : decode cX6_seed 26 = .ok (.iastore, 1) := by decide +kernel
theorem dX6_seed_27 : decode cX6_seed 27 = .ok (.iload_n 2, 1) := by decide +kernel
theorem dX6_seed_28 : decode cX6_seed 28 = .ok (.ireturn, 1) := by decide +kernel
theorem dX6_hasCast_0 : decode cX6_hasCast 0 = .ok (.aload_n 0, 1) := by decide +kernel
theorem dX6_hasCast_1 : decode cX6_hasCast 1 = .ok (.getfield 7, 3) := by decide +kernel
theorem dX6_hasCast_4 : decode cX6_hasCast 4 = .ok (.bipush 41, 2) := by decide +kernel
theorem dX6_hasCast_6 : decode cX6_hasCast 6 = .ok (.iaload, 1) := by decide +kernel
theorem dX6_hasCast_7 : decode cX6_hasCast 7 = .ok (.bipush (-6), 2) := by decide +kernel
theorem dX6_hasCast_9 : decode cX6_hasCast 9 = .ok (.if_icmp .eq 7, 3) := by decide +kernel
theorem dX6_hasCast_12 : decode cX6_hasCast 12 = .ok (.iconst 1, 1) := by decide +kernel
theorem dX6_hasCast_13 : decode cX6_hasCast 13 = .ok (.goto 4, 3) := by decide +kernel
theorem dX6_hasCast_16 : decode cX6_hasCast 16 = .ok (.iconst 0, 1) := by decide +kernel
theorem dX6_hasCast_17 : decode cX6_hasCast 17 = .ok (.ireturn, 1) := by decide +kernel
theorem dX6_doCast_0 : decode cX6_doCast 0 = .ok (.aload_n 0, 1) := by decide +kernel
theorem dX6_doCast_1 : decode cX6_doCast 1 = .ok (.getfield 7, 3) := by decide +kernel
theorem dX6_doCast_4 : decode cX6_doCast 4 = .ok (.bipush 41, 2) := by decide +kernel
theorem dX6_doCast_6 : decode cX6_doCast 6 = .ok (.iload_n 1, 1) := by decide +kernel
theorem dX6_doCast_7 : decode cX6_doCast 7 = .ok (.iastore, 1) := by decide +kernel
theorem dX6_doCast_8 : decode cX6_doCast 8 = .ok (.aload_n 0, 1) := by decide +kernel
theorem dX6_doCast_9 : decode cX6_doCast 9 = .ok (.getfield 7, 3) := by decide +kernel
theorem dX6_doCast_12 : decode cX6_doCast 12 = .ok (.bipush 43, 2) := by decide +kernel
theorem dX6_doCast_14 : decode cX6_doCast 14 = .ok (.dup2, 1) := by decide +kernel
theorem dX6_doCast_15 : decode cX6_doCast 15 = .ok (.iaload, 1) := by decide +kernel
theorem dX6_doCast_16 : decode cX6_doCast 16 = .ok (.iconst 1, 1) := by decide +kernel
theorem dX6_doCast_17 : decode cX6_doCast 17 = .ok (.iadd, 1) := by decide +kernel
theorem dX6_doCast_18 : decode cX6_doCast 18 = .ok (.iastore, 1) := by decide +kernel
theorem dX6_doCast_19 : decode cX6_doCast 19 = .ok (.return_, 1) := by decide +kernel
set_option maxRecDepth 20000 in
theorem ggX6_cast_X6_isOver : GoodIn wsX6_cast wsX6_isOver := goodIn_r _ [6, 7, 8, 9, 5, 10, 11, 12, 13, 14, 1, 37, 38, 39, 40, 41, 42, 43, 44, 45, 46] (by decide +kernel) (by decide +kernel)
set_option maxRecDepth 20000 in
theorem gX6_cast_X6_isOver : GoodIn wsX6_cast (wsV RX6 97 RX6 yX6_isOver wsX6_isOver) := goodIn_app (goodIn_of _ (by decide +kernel)) ggX6_cast_X6_isOver
set_option maxRecDepth 20000 in
theorem ggX6_cast_X6_hasCast : GoodIn wsX6_cast wsX6_hasCast := goodIn_r _ [18, 1, 37, 38, 39, 40, 41, 42, 43, 44, 45, 46] (by decide +kernel) (by decide +kernel)
set_option maxRecDepth 20000 in
theorem gX6_cast_X6_hasCast : GoodIn wsX6_cast (wsV RX6 114 RX6 yX6_hasCast wsX6_hasCast) := goodIn_app (goodIn_of _ (by decide +kernel)) ggX6_cast_X6_hasCast
set_option maxRecDepth 20000 in
theorem ggX6_cast_X6_record : GoodIn wsX6_cast wsX6_record := goodIn_r _ [22, 23, 24, 1, 37, 38, 39, 40, 41, 42, 43, 44, 45, 46] (by decide +kernel) (by decide +kernel)
set_option maxRecDepth 20000 in
theorem gX6_cast_X6_record : GoodIn wsX6_cast (wsV RX6 68 RX6 yX6_record wsX6_record) := goodIn_app (goodIn_of _ (by decide +kernel)) ggX6_cast_X6_record
set_option maxRecDepth 20000 in
theorem ggX6_cast_X6_draw : GoodIn wsX6_cast wsX6_draw := goodIn_r _ [28, 1, 29, 30, 31, 32, 37, 38, 39, 40, 41, 42, 43, 44, 45, 46] (by decide +kernel) (by decide +kernel)
set_option maxRecDepth 20000 in
theorem gX6_cast_X6_draw : GoodIn wsX6_cast (wsV RX6 117 RX6 yX6_draw wsX6_draw) := goodIn_app (goodIn_of _ (by decide +kernel)) ggX6_cast_X6_draw
set_option maxRecDepth 20000 in
theorem ggX6_cast_X6_doCast : GoodIn wsX6_cast wsX6_doCast := goodIn_r _ [36, 1, 37, 38, 39, 40, 41, 42, 43, 44, 45, 46] (by decide +kernel) (by decide +kernel)
set_option maxRecDepth 20000 in
theorem gX6_cast_X6_doCast : GoodIn wsX6_cast (wsV RX6 120 RX6 yX6_doCast wsX6_doCast) := goodIn_app (goodIn_of _ (by decide +kernel)) ggX6_cast_X6_doCast
theorem dX6_cast_0 : decode cX6_cast 0 = .ok (.aload_n 0, 1) := by decide +kernel
theorem dX6_cast_1 : decode cX6_cast 1 = .ok (.invokevirtual 97, 3) := by decide +kernel
theorem dX6_cast_4 : decode cX6_cast 4 = .ok (.ifCond .ne 10, 3) := by decide +kernel
theorem dX6_cast_7 : decode cX6_cast 7 = .ok (.aload_n 0, 1) := by decide +kernel
theorem dX6_cast_8 : decode cX6_cast 8 = .ok (.invokevirtual 114, 3) := by decide +kernel
theorem dX6_cast_11 : decode cX6_cast 11 = .ok (.ifCond .eq 6, 3) := by decide +kernel
theorem dX6_cast_14 : decode cX6_cast 14 = .ok (.bipush (-5), 2) := by decide +kernel
theorem dX6_cast_16 : decode cX6_cast 16 = .ok (.ireturn, 1) := by decide +kernel
theorem dX6_cast_17 : decode cX6_cast 17 = .ok (.aload_n 0, 1) := by decide +kernel
theorem dX6_cast_18 : decode cX6_cast 18 = .ok (.invokevirtual 68, 3) := by decide +kernel
theorem dX6_cast_21 : decode cX6_cast 21 = .ok (.aload_n 0, 1) := by decide +kernel
theorem dX6_cast_22 : decode cX6_cast 22 = .ok (.aload_n 0, 1) := by decide +kernel
theorem dX6_cast_23 : decode cX6_cast 23 = .ok (.invokevirtual 117, 3) := by decide +kernel
theorem dX6_cast_26 : decode cX6_cast 26 = .ok (.invokevirtual 120, 3) := by decide +kernel
theorem dX6_cast_29 : decode cX6_cast 29 = .ok (.aload_n 0, 1) := by decide +kernel
theorem dX6_cast_30 : decode cX6_cast 30 = .ok (.getfield 7, 3) := by decide +kernel
theorem dX6_cast_33 : decode cX6_cast 33 = .ok (.bipush 41, 2) := by decide +kernel
theorem dX6_cast_35 : decode cX6_cast 35 = .ok (.iaload, 1) := by decide +kernel
theorem dX6_cast_36 : decode cX6_cast 36 = .ok (.ireturn, 1) := by decide +kernel
set_option maxRecDepth 20000 in
theorem ggX6_move_X6_in : GoodIn wsX6_move wsX6_in := goodIn_r _ [5] (by decide +kernel) (by decide +kernel)
set_option maxRecDepth 20000 in
theorem gX6_move_X6_in : GoodIn wsX6_move (va_wsS RX6 32 yX6_in wsX6_in) := goodIn_app (goodIn_of _ (by decide +kernel)) ggX6_move_X6_in
set_option maxRecDepth 20000 in
theorem ggX6_move_X6_hasCast : GoodIn wsX6_move wsX6_hasCast := goodIn_r _ [9, 1, 86, 87, 88, 89, 90, 91, 92, 93, 94, 95] (by decide +kernel) (by decide +kernel)
set_option maxRecDepth 20000 in
theorem gX6_move_X6_hasCast : GoodIn wsX6_move (wsV RX6 114 RX6 yX6_hasCast wsX6_hasCast) := goodIn_app (goodIn_of _ (by decide +kernel)) ggX6_move_X6_hasCast
set_option maxRecDepth 20000 in
theorem ggX6_move_X6_whyNot : GoodIn wsX6_move wsX6_whyNot := goodIn_r _ [13, 1, 14, 15, 16, 17, 4, 18, 19, 20, 21, 2, 3, 5, 22, 23, 24, 25, 26, 27, 28, 29, 30, 31, 32, 33, 34, 35, 36, 37, 38, 39, 40, 41, 42, 43, 44, 45, 46, 47, 86, 87, 88, 89, 90, 91, 92, 93, 94, 95] (by decide +kernel) (by decide +kernel)
set_option maxRecDepth 20000 in
theorem gX6_move_X6_whyNot : GoodIn wsX6_move (wsV RX6 88 RX6 yX6_whyNot wsX6_whyNot) := goodIn_app (goodIn_of _ (by decide +kernel)) ggX6_move_X6_whyNot
set_option maxRecDepth 20000 in
theorem ggX6_move_X6_record : GoodIn wsX6_move wsX6_record := goodIn_r _ [51, 52, 53, 1, 86, 87, 88, 89, 90, 91, 92, 93, 94, 95] (by decide +kernel) (by decide +kernel)
set_option maxRecDepth 20000 in
theorem gX6_move_X6_record : GoodIn wsX6_move (wsV RX6 68 RX6 yX6_record wsX6_record) := goodIn_app (goodIn_of _ (by decide +kernel)) ggX6_move_X6_record
set_option maxRecDepth 20000 in
theorem ggX6_move_X6_doMove : GoodIn wsX6_move wsX6_doMove := goodIn_r _ [57, 14, 1, 10, 11, 12, 4, 13, 15, 16, 17, 18, 19, 20, 21, 2, 3, 5, 22, 23, 24, 25, 26, 27, 28, 29, 30, 31, 32, 33, 34, 35, 36, 37, 38, 39, 40, 41, 42, 43, 44, 45, 46, 47, 58, 59, 60, 61, 62, 63, 64, 65, 66, 67, 68, 69, 86, 87, 88, 89, 90, 91, 92, 93, 94, 95] (by decide +kernel) (by decide +kernel)
set_option maxRecDepth 20000 in
theorem gX6_move_X6_doMove : GoodIn wsX6_move (wsV RX6 124 RX6 yX6_doMove wsX6_doMove) := goodIn_app (goodIn_of _ (by decide +kernel)) ggX6_move_X6_doMove
set_option maxRecDepth 20000 in
theorem ggX6_move_X6_goOn : GoodIn wsX6_move wsX6_goOn := goodIn_r _ [73, 1, 74, 75, 76, 4, 77, 78, 79, 80, 81, 82, 83, 84, 85, 86, 87, 88, 89, 90, 91, 92, 93, 94, 95] (by decide +kernel) (by decide +kernel)
set_option maxRecDepth 20000 in
theorem gX6_move_X6_goOn : GoodIn wsX6_move (wsV RX6 128 RX6 yX6_goOn wsX6_goOn) := goodIn_app (goodIn_of _ (by decide +kernel)) ggX6_move_X6_goOn
theorem dX6_move_0 : decode cX6_move 0 = .ok (.iload_n 1, 1) := by decide +kernel
theorem dX6_move_1 : decode cX6_move 1 = .ok (.iconst 0, 1) := by decide +kernel
theorem dX6_move_2 : decode cX6_move 2 = .ok (.iconst 2, 1) := by decide +kernel
theorem dX6_move_3 : decode cX6_move 3 = .ok (.invokestatic 32, 3) := by decide +kernel
theorem dX6_move_6 : decode cX6_move 6 = .ok (.ifCond .ne 5, 3) := by decide +kernel
theorem dX6_move_9 : decode cX6_move 9 = .ok (.iconst (-1), 1) := by decide +kernel
theorem dX6_move_10 : decode cX6_move 10 = .ok (.ireturn, 1) := by decide +kernel
theorem dX6_move_11 : decode cX6_move 11 = .ok (.iconst 3, 1) := by decide +kernel
theorem dX6_move_12 : decode cX6_move 12 = .ok (.aload_n 0, 1) := by decide +kernel
theorem dX6_move_13 : decode cX6_move 13 = .ok (.getfield 7, 3) := by decide +kernel
theorem dX6_move_16 : decode cX6_move 16 = .ok (.bipush 40, 2) := by decide +kernel
theorem dX6_move_18 : decode cX6_move 18 = .ok (.iaload, 1) := by decide +kernel
theorem dX6_move_19 : decode cX6_move 19 = .ok (.imul, 1) := by decide +kernel
theorem dX6_move_20 : decode cX6_move 20 = .ok (.iload_n 1, 1) := by decide +kernel
theorem dX6_move_21 : decode cX6_move 21 = .ok (.iadd, 1) := by decide +kernel
theorem dX6_move_22 : decode cX6_move 22 = .ok (.istore_n 2, 1) := by decide +kernel
theorem dX6_move_23 : decode cX6_move 23 = .ok (.aload_n 0, 1) := by decide +kernel
theorem dX6_move_24 : decode cX6_move 24 = .ok (.invokevirtual 114, 3) := by decide +kernel
theorem dX6_move_27 : decode cX6_move 27 = .ok (.ifCond .eq 18, 3) := by decide +kernel
theorem dX6_move_30 : decode cX6_move 30 = .ok (.aload_n 0, 1) := by decide +kernel
theorem dX6_move_31 : decode cX6_move 31 = .ok (.iload_n 2, 1) := by decide +kernel
theorem dX6_move_32 : decode cX6_move 32 = .ok (.aload_n 0, 1) := by decide +kernel
theorem dX6_move_33 : decode cX6_move 33 = .ok (.getfield 7, 3) := by decide +kernel
theorem dX6_move_36 : decode cX6_move 36 = .ok (.bipush 41, 2) := by decide +kernel
theorem dX6_move_38 : decode cX6_move 38 = .ok (.iaload, 1) := by decide +kernel
theorem dX6_move_39 : decode cX6_move 39 = .ok (.invokevirtual 88, 3) := by decide +kernel
theorem dX6_move_42 : decode cX6_move 42 = .ok (.ifCond .le 6, 3) := by decide +kernel
theorem dX6_move_45 : decode cX6_move 45 = .ok (.bipush (-5), 2) := by decide +kernel
theorem dX6_move_47 : decode cX6_move 47 = .ok (.ireturn, 1) := by decide +kernel
theorem dX6_move_48 : decode cX6_move 48 = .ok (.aload_n 0, 1) := by decide +kernel
theorem dX6_move_49 : decode cX6_move 49 = .ok (.invokevirtual 68, 3) := by decide +kernel
theorem dX6_move_52 : decode cX6_move 52 = .ok (.aload_n 0, 1) := by decide +kernel
theorem dX6_move_53 : decode cX6_move 53 = .ok (.iload_n 2, 1) := by decide +kernel
theorem dX6_move_54 : decode cX6_move 54 = .ok (.aload_n 0, 1) := by decide +kernel
theorem dX6_move_55 : decode cX6_move 55 = .ok (.getfield 7, 3) := by decide +kernel
theorem dX6_move_58 : decode cX6_move 58 = .ok (.bipush 41, 2) := by decide +kernel
theorem dX6_move_60 : decode cX6_move 60 = .ok (.iaload, 1) := by decide +kernel
theorem dX6_move_61 : decode cX6_move 61 = .ok (.invokevirtual 124, 3) := by decide +kernel
theorem dX6_move_64 : decode cX6_move 64 = .ok (.aload_n 0, 1) := by decide +kernel
theorem dX6_move_65 : decode cX6_move 65 = .ok (.invokevirtual 128, 3) := by decide +kernel
theorem dX6_move_68 : decode cX6_move 68 = .ok (.aload_n 0, 1) := by decide +kernel
theorem dX6_move_69 : decode cX6_move 69 = .ok (.getfield 7, 3) := by decide +kernel
theorem dX6_move_72 : decode cX6_move 72 = .ok (.iload_n 2, 1) := by decide +kernel
theorem dX6_move_73 : decode cX6_move 73 = .ok (.iaload, 1) := by decide +kernel
theorem dX6_move_74 : decode cX6_move 74 = .ok (.ireturn, 1) := by decide +kernel
set_option maxRecDepth 20000 in
theorem ggX6_skip_X6_hasCast : GoodIn wsX6_skip wsX6_hasCast := goodIn_r _ [6, 1, 74, 75, 76, 77, 78, 79, 80, 81, 82, 83] (by decide +kernel) (by decide +kernel)
set_option maxRecDepth 20000 in
theorem gX6_skip_X6_hasCast : GoodIn wsX6_skip (wsV RX6 114 RX6 yX6_hasCast wsX6_hasCast) := goodIn_app (goodIn_of _ (by decide +kernel)) ggX6_skip_X6_hasCast
set_option maxRecDepth 20000 in
theorem ggX6_skip_X6_canMove : GoodIn wsX6_skip wsX6_canMove := goodIn_r _ [10, 1, 11, 12, 13, 5, 14, 15, 16, 17, 18, 19, 20, 21, 22, 23, 24, 25, 26, 27, 28, 29, 30, 31, 32, 33, 34, 35, 36, 37, 38, 39, 40, 41, 42, 43, 44, 45, 46, 47, 48, 49, 50, 51, 74, 75, 76, 77, 78, 79, 80, 81, 82, 83] (by decide +kernel) (by decide +kernel)
set_option maxRecDepth 20000 in
theorem gX6_skip_X6_canMove : GoodIn wsX6_skip (wsV RX6 131 RX6 yX6_canMove wsX6_canMove) := goodIn_app (goodIn_of _ (by decide +kernel)) ggX6_skip_X6_canMove
set_option maxRecDepth 20000 in
theorem ggX6_skip_X6_record : GoodIn wsX6_skip wsX6_record := goodIn_r _ [55, 56, 57, 1, 74, 75, 76, 77, 78, 79, 80, 81, 82, 83] (by decide +kernel) (by decide +kernel)
set_option maxRecDepth 20000 in
theorem gX6_skip_X6_record : GoodIn wsX6_skip (wsV RX6 68 RX6 yX6_record wsX6_record) := goodIn_app (goodIn_of _ (by decide +kernel)) ggX6_skip_X6_record
set_option maxRecDepth 20000 in
theorem ggX6_skip_X6_goOn : GoodIn wsX6_skip wsX6_goOn := goodIn_r _ [61, 1, 62, 63, 64, 5, 65, 66, 67, 68, 69, 70, 71, 72, 73, 74, 75, 76, 77, 78, 79, 80, 81, 82, 83] (by decide +kernel) (by decide +kernel)
set_option maxRecDepth 20000 in
theorem gX6_skip_X6_goOn : GoodIn wsX6_skip (wsV RX6 128 RX6 yX6_goOn wsX6_goOn) := goodIn_app (goodIn_of _ (by decide +kernel)) ggX6_skip_X6_goOn
theorem dX6_skip_0 : decode cX6_skip 0 = .ok (.aload_n 0, 1) := by decide +kernel
theorem dX6_skip_1 : decode cX6_skip 1 = .ok (.invokevirtual 114, 3) := by decide +kernel
theorem dX6_skip_4 : decode cX6_skip 4 = .ok (.ifCond .eq 17, 3) := by decide +kernel
theorem dX6_skip_7 : decode cX6_skip 7 = .ok (.aload_n 0, 1) := by decide +kernel
theorem dX6_skip_8 : decode cX6_skip 8 = .ok (.aload_n 0, 1) := by decide +kernel
theorem dX6_skip_9 : decode cX6_skip 9 = .ok (.getfield 7, 3) := by decide +kernel
theorem dX6_skip_12 : decode cX6_skip 12 = .ok (.bipush 41, 2) := by decide +kernel
theorem dX6_skip_14 : decode cX6_skip 14 = .ok (.iaload, 1) := by decide +kernel
theorem dX6_skip_15 : decode cX6_skip 15 = .ok (.invokevirtual 131, 3) := by decide +kernel
theorem dX6_skip_18 : decode cX6_skip 18 = .ok (.ifCond .eq 6, 3) := by decide +kernel
theorem dX6_skip_21 : decode cX6_skip 21 = .ok (.bipush (-5), 2) := by decide +kernel
theorem dX6_skip_23 : decode cX6_skip 23 = .ok (.ireturn, 1) := by decide +kernel
theorem dX6_skip_24 : decode cX6_skip 24 = .ok (.aload_n 0, 1) := by decide +kernel
theorem dX6_skip_25 : decode cX6_skip 25 = .ok (.invokevirtual 68, 3) := by decide +kernel
theorem dX6_skip_28 : decode cX6_skip 28 = .ok (.aload_n 0, 1) := by decide +kernel
theorem dX6_skip_29 : decode cX6_skip 29 = .ok (.invokevirtual 128, 3) := by decide +kernel
theorem dX6_skip_32 : decode cX6_skip 32 = .ok (.aload_n 0, 1) := by decide +kernel
theorem dX6_skip_33 : decode cX6_skip 33 = .ok (.getfield 7, 3) := by decide +kernel
theorem dX6_skip_36 : decode cX6_skip 36 = .ok (.bipush 40, 2) := by decide +kernel
theorem dX6_skip_38 : decode cX6_skip 38 = .ok (.iaload, 1) := by decide +kernel
theorem dX6_skip_39 : decode cX6_skip 39 = .ok (.ireturn, 1) := by decide +kernel
set_option maxRecDepth 20000 in
theorem ggX6_doPlay_X6_isOver : GoodIn wsX6_doPlay wsX6_isOver := goodIn_r _ [6, 7, 8, 9, 5, 10, 11, 12, 13, 14, 1, 96, 97, 98, 99, 100, 101, 102, 103, 104, 105] (by decide +kernel) (by decide +kernel)
set_option maxRecDepth 20000 in
theorem gX6_doPlay_X6_isOver : GoodIn wsX6_doPlay (wsV RX6 97 RX6 yX6_isOver wsX6_isOver) := goodIn_app (goodIn_of _ (by decide +kernel)) ggX6_doPlay_X6_isOver
set_option maxRecDepth 20000 in
theorem ggX6_doPlay_X6_draw : GoodIn wsX6_doPlay wsX6_draw := goodIn_r _ [18, 1, 19, 20, 21, 22, 96, 97, 98, 99, 100, 101, 102, 103, 104, 105] (by decide +kernel) (by decide +kernel)
set_option maxRecDepth 20000 in
theorem gX6_doPlay_X6_draw : GoodIn wsX6_doPlay (wsV RX6 117 RX6 yX6_draw wsX6_draw) := goodIn_app (goodIn_of _ (by decide +kernel)) ggX6_doPlay_X6_draw
set_option maxRecDepth 20000 in
theorem ggX6_doPlay_X6_doCast : GoodIn wsX6_doPlay wsX6_doCast := goodIn_r _ [26, 1, 96, 97, 98, 99, 100, 101, 102, 103, 104, 105] (by decide +kernel) (by decide +kernel)
set_option maxRecDepth 20000 in
theorem gX6_doPlay_X6_doCast : GoodIn wsX6_doPlay (wsV RX6 120 RX6 yX6_doCast wsX6_doCast) := goodIn_app (goodIn_of _ (by decide +kernel)) ggX6_doPlay_X6_doCast
set_option maxRecDepth 20000 in
theorem ggX6_doPlay_X6_bestPiece : GoodIn wsX6_doPlay wsX6_bestPiece := goodIn_r _ [30, 1, 31, 32, 33, 5, 34, 35, 36, 37, 38, 39, 40, 41, 42, 43, 44, 45, 46, 47, 48, 49, 50, 51, 52, 53, 54, 55, 56, 57, 58, 59, 60, 61, 62, 63, 64, 65, 66, 67, 68, 69, 70, 71, 72, 73, 74, 75, 76, 77, 78, 79, 96, 97, 98, 99, 100, 101, 102, 103, 104, 105] (by decide +kernel) (by decide +kernel)
set_option maxRecDepth 20000 in
theorem gX6_doPlay_X6_bestPiece : GoodIn wsX6_doPlay (wsV RX6 134 RX6 yX6_bestPiece wsX6_bestPiece) := goodIn_app (goodIn_of _ (by decide +kernel)) ggX6_doPlay_X6_bestPiece
set_option maxRecDepth 20000 in
theorem ggX6_doPlay_X6_doMove : GoodIn wsX6_doPlay wsX6_doMove := goodIn_r _ [83, 35, 1, 31, 32, 33, 5, 34, 36, 37, 38, 39, 40, 41, 42, 43, 44, 45, 46, 47, 48, 49, 50, 51, 52, 53, 54, 55, 56, 57, 58, 59, 60, 61, 62, 63, 64, 65, 66, 67, 68, 69, 70, 71, 76, 77, 78, 79, 84, 85, 86, 87, 88, 89, 90, 91, 96, 97, 98, 99, 100, 101, 102, 103, 104, 105] (by decide +kernel) (by decide +kernel)
set_option maxRecDepth 20000 in
theorem gX6_doPlay_X6_doMove : GoodIn wsX6_doPlay (wsV RX6 124 RX6 yX6_doMove wsX6_doMove) := goodIn_app (goodIn_of _ (by decide +kernel)) ggX6_doPlay_X6_doMove
set_option maxRecDepth 20000 in
theorem ggX6_doPlay_X6_goOn : GoodIn wsX6_doPlay wsX6_goOn := goodIn_r _ [95, 1, 2, 3, 4, 5, 6, 7, 8, 9, 10, 11, 12, 13, 14, 96, 97, 98, 99, 100, 101, 102, 103, 104, 105] (by decide +kernel) (by decide +kernel)
set_option maxRecDepth 20000 in
theorem gX6_doPlay_X6_goOn : GoodIn wsX6_doPlay (wsV RX6 128 RX6 yX6_goOn wsX6_goOn) := goodIn_app (goodIn_of _ (by decide +kernel)) ggX6_doPlay_X6_goOn
theorem dX6_doPlay_0 : decode cX6_doPlay 0 = .ok (.iconst 0, 1) := by decide +kernel
theorem dX6_doPlay_1 : decode cX6_doPlay 1 = .ok (.istore_n 2, 1) := by decide +kernel
theorem dX6_doPlay_2 : decode cX6_doPlay 2 = .ok (.iload_n 2, 1) := by decide +kernel
theorem dX6_doPlay_3 : decode cX6_doPlay 3 = .ok (.iload_n 1, 1) := by decide +kernel
theorem dX6_doPlay_4 : decode cX6_doPlay 4 = .ok (.if_icmp .ge 59, 3) := by decide +kernel
theorem dX6_doPlay_7 : decode cX6_doPlay 7 = .ok (.aload_n 0, 1) := by decide +kernel
theorem dX6_doPlay_8 : decode cX6_doPlay 8 = .ok (.invokevirtual 97, 3) := by decide +kernel
theorem dX6_doPlay_11 : decode cX6_doPlay 11 = .ok (.ifCond .ne 52, 3) := by decide +kernel
theorem dX6_doPlay_14 : decode cX6_doPlay 14 = .ok (.aload_n 0, 1) := by decide +kernel
theorem dX6_doPlay_15 : decode cX6_doPlay 15 = .ok (.aload_n 0, 1) := by decide +kernel
theorem dX6_doPlay_16 : decode cX6_doPlay 16 = .ok (.invokevirtual 117, 3) := by decide +kernel
theorem dX6_doPlay_19 : decode cX6_doPlay 19 = .ok (.invokevirtual 120, 3) := by decide +kernel
theorem dX6_doPlay_22 : decode cX6_doPlay 22 = .ok (.aload_n 0, 1) := by decide +kernel
theorem dX6_doPlay_23 : decode cX6_doPlay 23 = .ok (.invokevirtual 134, 3) := by decide +kernel
theorem dX6_doPlay_26 : decode cX6_doPlay 26 = .ok (.istore_n 3, 1) := by decide +kernel
theorem dX6_doPlay_27 : decode cX6_doPlay 27 = .ok (.iload_n 3, 1) := by decide +kernel
theorem dX6_doPlay_28 : decode cX6_doPlay 28 = .ok (.ifCond .lt 25, 3) := by decide +kernel
theorem dX6_doPlay_31 : decode cX6_doPlay 31 = .ok (.aload_n 0, 1) := by decide +kernel
theorem dX6_doPlay_32 : decode cX6_doPlay 32 = .ok (.iconst 3, 1) := by decide +kernel
theorem dX6_doPlay_33 : decode cX6_doPlay 33 = .ok (.aload_n 0, 1) := by decide +kernel
theorem dX6_doPlay_34 : decode cX6_doPlay 34 = .ok (.getfield 7, 3) := by decide +kernel
theorem dX6_doPlay_37 : decode cX6_doPlay 37 = .ok (.bipush 40, 2) := by decide +kernel
theorem dX6_doPlay_39 : decode cX6_doPlay 39 = .ok (.iaload, 1) := by decide +kernel
theorem dX6_doPlay_40 : decode cX6_doPlay 40 = .ok (.imul, 1) := by decide +kernel
theorem dX6_doPlay_41 : decode cX6_doPlay 41 = .ok (.iload_n 3, 1) := by decide +kernel
theorem dX6_doPlay_42 : decode cX6_doPlay 42 = .ok (.iadd, 1) := by decide +kernel
theorem dX6_doPlay_43 : decode cX6_doPlay 43 = .ok (.aload_n 0, 1) := by decide +kernel
theorem dX6_doPlay_44 : decode cX6_doPlay 44 = .ok (.getfield 7, 3) := by decide +kernel
theorem dX6_doPlay_47 : decode cX6_doPlay 47 = .ok (.bipush 41, 2) := by decide +kernel
theorem dX6_doPlay_49 : decode cX6_doPlay 49 = .ok (.iaload, 1) := by decide +kernel
theorem dX6_doPlay_50 : decode cX6_doPlay 50 = .ok (.invokevirtual 124, 3) := by decide +kernel
theorem dX6_doPlay_53 : decode cX6_doPlay 53 = .ok (.aload_n 0, 1) := by decide +kernel
theorem dX6_doPlay_54 : decode cX6_doPlay 54 = .ok (.invokevirtual 128, 3) := by decide +kernel
theorem dX6_doPlay_57 : decode cX6_doPlay 57 = .ok (.iinc 2 1, 3) := by decide +kernel
theorem dX6_doPlay_60 : decode cX6_doPlay 60 = .ok (.goto (-58), 3) := by decide +kernel
theorem dX6_doPlay_63 : decode cX6_doPlay 63 = .ok (.iload_n 2, 1) := by decide +kernel
theorem dX6_doPlay_64 : decode cX6_doPlay 64 = .ok (.ireturn, 1) := by decide +kernel
set_option maxRecDepth 20000 in
theorem ggX6_play_X6_in : GoodIn wsX6_play wsX6_in := goodIn_r _ [4] (by decide +kernel) (by decide +kernel)
set_option maxRecDepth 20000 in
theorem gX6_play_X6_in : GoodIn wsX6_play (va_wsS RX6 32 yX6_in wsX6_in) := goodIn_app (goodIn_of _ (by decide +kernel)) ggX6_play_X6_in
set_option maxRecDepth 20000 in
theorem ggX6_play_X6_isOver : GoodIn wsX6_play wsX6_isOver := goodIn_r _ [8, 9, 10, 11, 3, 12, 13, 14, 15, 16, 17, 110, 111, 112, 113, 114, 115, 116, 117, 118, 119] (by decide +kernel) (by decide +kernel)
set_option maxRecDepth 20000 in
theorem gX6_play_X6_isOver : GoodIn wsX6_play (wsV RX6 97 RX6 yX6_isOver wsX6_isOver) := goodIn_app (goodIn_of _ (by decide +kernel)) ggX6_play_X6_isOver
set_option maxRecDepth 20000 in
theorem ggX6_play_X6_hasCast : GoodIn wsX6_play wsX6_hasCast := goodIn_r _ [21, 17, 110, 111, 112, 113, 114, 115, 116, 117, 118, 119] (by decide +kernel) (by decide +kernel)
set_option maxRecDepth 20000 in
theorem gX6_play_X6_hasCast : GoodIn wsX6_play (wsV RX6 114 RX6 yX6_hasCast wsX6_hasCast) := goodIn_app (goodIn_of _ (by decide +kernel)) ggX6_play_X6_hasCast
set_option maxRecDepth 20000 in
theorem ggX6_play_X6_record : GoodIn wsX6_play wsX6_record := goodIn_r _ [25, 26, 27, 17, 110, 111, 112, 113, 114, 115, 116, 117, 118, 119] (by decide +kernel) (by decide +kernel)
set_option maxRecDepth 20000 in
theorem gX6_play_X6_record : GoodIn wsX6_play (wsV RX6 68 RX6 yX6_record wsX6_record) := goodIn_app (goodIn_of _ (by decide +kernel)) ggX6_play_X6_record
set_option maxRecDepth 20000 in
theorem ggX6_play_X6_doPlay : GoodIn wsX6_play wsX6_doPlay := goodIn_r _ [31, 17, 5, 6, 7, 3, 8, 9, 10, 11, 12, 13, 14, 15, 16, 32, 33, 34, 35, 36, 37, 38, 39, 40, 41, 42, 43, 44, 45, 46, 47, 48, 49, 50, 51, 52, 53, 54, 55, 56, 57, 58, 59, 1, 2, 4, 60, 61, 62, 63, 64, 65, 66, 67, 68, 69, 70, 71, 72, 73, 74, 75, 76, 77, 78, 79, 80, 81, 82, 83, 84, 85, 86, 87, 88, 89, 90, 91, 92, 93, 94, 95, 96, 97, 98, 99, 100, 101, 102, 103, 104, 105, 106, 107, 108, 109, 110, 111, 112, 113, 114, 115, 116, 117, 118, 119] (by decide +kernel) (by decide +kernel)
set_option maxRecDepth 20000 in
theorem gX6_play_X6_doPlay : GoodIn wsX6_play (wsV RX6 137 RX6 yX6_doPlay wsX6_doPlay) := goodIn_app (goodIn_of _ (by decide +kernel)) ggX6_play_X6_doPlay
theorem dX6_play_0 : decode cX6_play 0 = .ok (.iload_n 1, 1) := by decide +kernel
theorem dX6_play_1 : decode cX6_play 1 = .ok (.iconst 1, 1) := by decide +kernel
theorem dX6_play_2 : decode cX6_play 2 = .ok (.bipush 100, 2) := by decide +kernel
theorem dX6_play_4 : decode cX6_play 4 = .ok (.invokestatic 32, 3) := by decide +kernel
theorem dX6_play_7 : decode cX6_play 7 = .ok (.ifCond .ne 6, 3) := by decide +kernel
theorem dX6_play_10 : decode cX6_play 10 = .ok (.bipush (-2), 2) := by decide +kernel
theorem dX6_play_12 : decode cX6_play 12 = .ok (.ireturn, 1) := by decide +kernel
theorem dX6_play_13 : decode cX6_play 13 = .ok (.aload_n 0, 1) := by decide +kernel
theorem dX6_play_14 : decode cX6_play 14 = .ok (.invokevirtual 97, 3) := by decide +kernel
theorem dX6_play_17 : decode cX6_play 17 = .ok (.ifCond .ne 10, 3) := by decide +kernel
theorem dX6_play_20 : decode cX6_play 20 = .ok (.aload_n 0, 1) := by decide +kernel
theorem dX6_play_21 : decode cX6_play 21 = .ok (.invokevirtual 114, 3) := by decide +kernel
theorem dX6_play_24 : decode cX6_play 24 = .ok (.ifCond .eq 6, 3) := by decide +kernel
theorem dX6_play_27 : decode cX6_play 27 = .ok (.bipush (-5), 2) := by decide +kernel
theorem dX6_play_29 : decode cX6_play 29 = .ok (.ireturn, 1) := by decide +kernel
theorem dX6_play_30 : decode cX6_play 30 = .ok (.aload_n 0, 1) := by decide +kernel
theorem dX6_play_31 : decode cX6_play 31 = .ok (.invokevirtual 68, 3) := by decide +kernel
theorem dX6_play_34 : decode cX6_play 34 = .ok (.aload_n 0, 1) := by decide +kernel
theorem dX6_play_35 : decode cX6_play 35 = .ok (.iload_n 1, 1) := by decide +kernel
theorem dX6_play_36 : decode cX6_play 36 = .ok (.invokevirtual 137, 3) := by decide +kernel
theorem dX6_play_39 : decode cX6_play 39 = .ok (.ireturn, 1) := by decide +kernel
set_option maxRecDepth 20000 in
theorem ggX6_read_X6_findFault : GoodIn wsX6_read wsX6_findFault := goodIn_r _ [8, 1, 2, 9, 10, 7, 11, 100, 101, 102, 103, 104, 105, 106, 107, 108, 109] (by decide +kernel) (by decide +kernel)
set_option maxRecDepth 20000 in
theorem gX6_read_X6_findFault : GoodIn wsX6_read (wsV RX6 140 RX6 yX6_findFault wsX6_findFault) := goodIn_app (goodIn_of _ (by decide +kernel)) ggX6_read_X6_findFault
set_option maxRecDepth 20000 in
theorem ggX6_read_X6_hasCast : GoodIn wsX6_read wsX6_hasCast := goodIn_r _ [15, 3, 100, 101, 102, 103, 104, 105, 106, 107, 108, 109] (by decide +kernel) (by decide +kernel)
set_option maxRecDepth 20000 in
theorem gX6_read_X6_hasCast : GoodIn wsX6_read (wsV RX6 114 RX6 yX6_hasCast wsX6_hasCast) := goodIn_app (goodIn_of _ (by decide +kernel)) ggX6_read_X6_hasCast
set_option maxRecDepth 20000 in
theorem ggX6_read_X6_record : GoodIn wsX6_read wsX6_record := goodIn_r _ [19, 20, 21, 3, 100, 101, 102, 103, 104, 105, 106, 107, 108, 109] (by decide +kernel) (by decide +kernel)
set_option maxRecDepth 20000 in
theorem gX6_read_X6_record : GoodIn wsX6_read (wsV RX6 68 RX6 yX6_record wsX6_record) := goodIn_app (goodIn_of _ (by decide +kernel)) ggX6_read_X6_record
set_option maxRecDepth 20000 in
theorem ggX6_read_X6_isOver : GoodIn wsX6_read wsX6_isOver := goodIn_r _ [25, 26, 27, 28, 7, 29, 30, 31, 32, 33, 3, 100, 101, 102, 103, 104, 105, 106, 107, 108, 109] (by decide +kernel) (by decide +kernel)
set_option maxRecDepth 20000 in
theorem gX6_read_X6_isOver : GoodIn wsX6_read (wsV RX6 97 RX6 yX6_isOver wsX6_isOver) := goodIn_app (goodIn_of _ (by decide +kernel)) ggX6_read_X6_isOver
set_option maxRecDepth 20000 in
theorem ggX6_read_X6_canMove : GoodIn wsX6_read wsX6_canMove := goodIn_r _ [37, 3, 38, 39, 40, 7, 41, 42, 43, 44, 45, 46, 47, 48, 49, 9, 10, 11, 50, 51, 52, 53, 54, 55, 56, 57, 58, 59, 60, 61, 62, 63, 64, 65, 66, 67, 68, 69, 70, 71, 72, 73, 74, 75, 100, 101, 102, 103, 104, 105, 106, 107, 108, 109] (by decide +kernel) (by decide +kernel)
set_option maxRecDepth 20000 in
theorem gX6_read_X6_canMove : GoodIn wsX6_read (wsV RX6 131 RX6 yX6_canMove wsX6_canMove) := goodIn_app (goodIn_of _ (by decide +kernel)) ggX6_read_X6_canMove
set_option maxRecDepth 20000 in
theorem ggX6_read_X6_whyNot : GoodIn wsX6_read wsX6_whyNot := goodIn_r _ [41, 3, 42, 43, 44, 45, 7, 46, 47, 48, 49, 9, 10, 11, 50, 51, 52, 53, 54, 55, 56, 57, 58, 59, 60, 61, 62, 63, 64, 65, 66, 67, 68, 69, 70, 71, 72, 73, 74, 75, 100, 101, 102, 103, 104, 105, 106, 107, 108, 109] (by decide +kernel) (by decide +kernel)
set_option maxRecDepth 20000 in
theorem gX6_read_X6_whyNot : GoodIn wsX6_read (wsV RX6 88 RX6 yX6_whyNot wsX6_whyNot) := goodIn_app (goodIn_of _ (by decide +kernel)) ggX6_read_X6_whyNot
set_option maxRecDepth 20000 in
theorem ggX6_read_X6_doCast : GoodIn wsX6_read wsX6_doCast := goodIn_r _ [79, 3, 100, 101, 102, 103, 104, 105, 106, 107, 108, 109] (by decide +kernel) (by decide +kernel)
set_option maxRecDepth 20000 in
theorem gX6_read_X6_doCast : GoodIn wsX6_read (wsV RX6 120 RX6 yX6_doCast wsX6_doCast) := goodIn_app (goodIn_of _ (by decide +kernel)) ggX6_read_X6_doCast
set_option maxRecDepth 20000 in
theorem ggX6_read_X6_doMove : GoodIn wsX6_read wsX6_doMove := goodIn_r _ [83, 42, 3, 38, 39, 40, 7, 41, 43, 44, 45, 46, 47, 48, 49, 9, 10, 11, 50, 51, 52, 53, 54, 55, 56, 57, 58, 59, 60, 61, 62, 63, 64, 65, 66, 67, 68, 69, 70, 71, 72, 73, 74, 75, 84, 85, 86, 87, 88, 89, 90, 91, 92, 93, 94, 95, 100, 101, 102, 103, 104, 105, 106, 107, 108, 109] (by decide +kernel) (by decide +kernel)
set_option maxRecDepth 20000 in
theorem gX6_read_X6_doMove : GoodIn wsX6_read (wsV RX6 124 RX6 yX6_doMove wsX6_doMove) := goodIn_app (goodIn_of _ (by decide +kernel)) ggX6_read_X6_doMove
set_option maxRecDepth 20000 in
theorem ggX6_read_X6_goOn : GoodIn wsX6_read wsX6_goOn := goodIn_r _ [99, 3, 22, 23, 24, 7, 25, 26, 27, 28, 29, 30, 31, 32, 33, 100, 101, 102, 103, 104, 105, 106, 107, 108, 109] (by decide +kernel) (by decide +kernel)
set_option maxRecDepth 20000 in
theorem gX6_read_X6_goOn : GoodIn wsX6_read (wsV RX6 128 RX6 yX6_goOn wsX6_goOn) := goodIn_app (goodIn_of _ (by decide +kernel)) ggX6_read_X6_goOn
theorem dX6_read_0 : decode cX6_read 0 = .ok (.aload_n 0, 1) := by decide +kernel
theorem dX6_read_1 : decode cX6_read 1 = .ok (.invokevirtual 140, 3) := by decide +kernel
theorem dX6_read_4 : decode cX6_read 4 = .ok (.ifCond .lt 6, 3) := by decide +kernel
theorem dX6_read_7 : decode cX6_read 7 = .ok (.bipush (-3), 2) := by decide +kernel
theorem dX6_read_9 : decode cX6_read 9 = .ok (.ireturn, 1) := by decide +kernel
theorem dX6_read_10 : decode cX6_read 10 = .ok (.aload_n 0, 1) := by decide +kernel
theorem dX6_read_11 : decode cX6_read 11 = .ok (.invokevirtual 114, 3) := by decide +kernel
theorem dX6_read_14 : decode cX6_read 14 = .ok (.ifCond .eq 6, 3) := by decide +kernel
theorem dX6_read_17 : decode cX6_read 17 = .ok (.bipush (-5), 2) := by decide +kernel
theorem dX6_read_19 : decode cX6_read 19 = .ok (.ireturn, 1) := by decide +kernel
theorem dX6_read_20 : decode cX6_read 20 = .ok (.aload_n 0, 1) := by decide +kernel
theorem dX6_read_21 : decode cX6_read 21 = .ok (.invokevirtual 68, 3) := by decide +kernel
theorem dX6_read_24 : decode cX6_read 24 = .ok (.iconst 0, 1) := by decide +kernel
theorem dX6_read_25 : decode cX6_read 25 = .ok (.istore_n 1, 1) := by decide +kernel
