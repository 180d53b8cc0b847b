theorem dX3_faultIndex_52 : decode cX3_faultIndex 52 = .ok (.getfield 15, 3) := by decide +kernel
theorem dX3_faultIndex_55 : decode cX3_faultIndex 55 = .ok (.ifCond .eq 13, 3) := by decide +kernel
theorem dX3_faultIndex_58 : decode cX3_faultIndex 58 = .ok (.aload_n 0, 1) := by decide +kernel
theorem dX3_faultIndex_59 : decode cX3_faultIndex 59 = .ok (.getfield 15, 3) := by decide +kernel
theorem dX3_faultIndex_62 : decode cX3_faultIndex 62 = .ok (.iconst 2, 1) := by decide +kernel
theorem dX3_faultIndex_63 : decode cX3_faultIndex 63 = .ok (.irem, 1) := by decide +kernel
theorem dX3_faultIndex_64 : decode cX3_faultIndex 64 = .ok (.iconst 1, 1) := by decide +kernel
theorem dX3_faultIndex_65 : decode cX3_faultIndex 65 = .ok (.if_icmp .ne 10, 3) := by decide +kernel
theorem dX3_faultIndex_68 : decode cX3_faultIndex 68 = .ok (.aload_n 0, 1) := by decide +kernel
theorem dX3_faultIndex_69 : decode cX3_faultIndex 69 = .ok (.getfield 15, 3) := by decide +kernel
theorem dX3_faultIndex_72 : decode cX3_faultIndex 72 = .ok (.goto 5, 3) := by decide +kernel
theorem dX3_faultIndex_75 : decode cX3_faultIndex 75 = .ok (.bipush (-6), 2) := by decide +kernel
theorem dX3_faultIndex_77 : decode cX3_faultIndex 77 = .ok (.ireturn, 1) := by decide +kernel
theorem dX3_isCast_0 : decode cX3_isCast 0 = .ok (.iload_n 0, 1) := by decide +kernel
theorem dX3_isCast_1 : decode cX3_isCast 1 = .ok (.bipush 49, 2) := by decide +kernel
theorem dX3_isCast_3 : decode cX3_isCast 3 = .ok (.if_icmp .lt 13, 3) := by decide +kernel
theorem dX3_isCast_6 : decode cX3_isCast 6 = .ok (.iload_n 0, 1) := by decide +kernel
theorem dX3_isCast_7 : decode cX3_isCast 7 = .ok (.bipush 54, 2) := by decide +kernel
theorem dX3_isCast_9 : decode cX3_isCast 9 = .ok (.if_icmp .gt 7, 3) := by decide +kernel
theorem dX3_isCast_12 : decode cX3_isCast 12 = .ok (.iconst 1, 1) := by decide +kernel
theorem dX3_isCast_13 : decode cX3_isCast 13 = .ok (.goto 4, 3) := by decide +kernel
theorem dX3_isCast_16 : decode cX3_isCast 16 = .ok (.iconst 0, 1) := by decide +kernel
theorem dX3_isCast_17 : decode cX3_isCast 17 = .ok (.ireturn, 1) := by decide +kernel
theorem dX3_isPieceOrPass_0 : decode cX3_isPieceOrPass 0 = .ok (.iload_n 0, 1) := by decide +kernel
theorem dX3_isPieceOrPass_1 : decode cX3_isPieceOrPass 1 = .ok (.bipush 97, 2) := by decide +kernel
theorem dX3_isPieceOrPass_3 : decode cX3_isPieceOrPass 3 = .ok (.if_icmp .lt 9, 3) := by decide +kernel
theorem dX3_isPieceOrPass_6 : decode cX3_isPieceOrPass 6 = .ok (.iload_n 0, 1) := by decide +kernel
theorem dX3_isPieceOrPass_7 : decode cX3_isPieceOrPass 7 = .ok (.bipush 99, 2) := by decide +kernel
theorem dX3_isPieceOrPass_9 : decode cX3_isPieceOrPass 9 = .ok (.if_icmp .le 9, 3) := by decide +kernel
theorem dX3_isPieceOrPass_12 : decode cX3_isPieceOrPass 12 = .ok (.iload_n 0, 1) := by decide +kernel
theorem dX3_isPieceOrPass_13 : decode cX3_isPieceOrPass 13 = .ok (.bipush 45, 2) := by decide +kernel
theorem dX3_isPieceOrPass_15 : decode cX3_isPieceOrPass 15 = .ok (.if_icmp .ne 7, 3) := by decide +kernel
theorem dX3_isPieceOrPass_18 : decode cX3_isPieceOrPass 18 = .ok (.iconst 1, 1) := by decide +kernel
theorem dX3_isPieceOrPass_19 : decode cX3_isPieceOrPass 19 = .ok (.goto 4, 3) := by decide +kernel
theorem dX3_isPieceOrPass_22 : decode cX3_isPieceOrPass 22 = .ok (.iconst 0, 1) := by decide +kernel
theorem dX3_isPieceOrPass_23 : decode cX3_isPieceOrPass 23 = .ok (.ireturn, 1) := by decide +kernel
theorem dX3_moves_0 : decode cX3_moves 0 = .ok (.aload_n 0, 1) := by decide +kernel
theorem dX3_moves_1 : decode cX3_moves 1 = .ok (.getfield 15, 3) := by decide +kernel
theorem dX3_moves_4 : decode cX3_moves 4 = .ok (.iconst 2, 1) := by decide +kernel
theorem dX3_moves_5 : decode cX3_moves 5 = .ok (.idiv, 1) := by decide +kernel
theorem dX3_moves_6 : decode cX3_moves 6 = .ok (.ireturn, 1) := by decide +kernel
theorem dX3_castOfMove_0 : decode cX3_castOfMove 0 = .ok (.aload_n 0, 1) := by decide +kernel
theorem dX3_castOfMove_1 : decode cX3_castOfMove 1 = .ok (.getfield 9, 3) := by decide +kernel
theorem dX3_castOfMove_4 : decode cX3_castOfMove 4 = .ok (.iconst 2, 1) := by decide +kernel
theorem dX3_castOfMove_5 : decode cX3_castOfMove 5 = .ok (.iload_n 1, 1) := by decide +kernel
theorem dX3_castOfMove_6 : decode cX3_castOfMove 6 = .ok (.imul, 1) := by decide +kernel
theorem dX3_castOfMove_7 : decode cX3_castOfMove 7 = .ok (.caload, 1) := by decide +kernel
theorem dX3_castOfMove_8 : decode cX3_castOfMove 8 = .ok (.bipush 48, 2) := by decide +kernel
theorem dX3_castOfMove_10 : decode cX3_castOfMove 10 = .ok (.isub, 1) := by decide +kernel
theorem dX3_castOfMove_11 : decode cX3_castOfMove 11 = .ok (.ireturn, 1) := by decide +kernel
theorem dX3_pieceOfMove_0 : decode cX3_pieceOfMove 0 = .ok (.aload_n 0, 1) := by decide +kernel
theorem dX3_pieceOfMove_1 : decode cX3_pieceOfMove 1 = .ok (.getfield 9, 3) := by decide +kernel
theorem dX3_pieceOfMove_4 : decode cX3_pieceOfMove 4 = .ok (.iconst 2, 1) := by decide +kernel
theorem dX3_pieceOfMove_5 : decode cX3_pieceOfMove 5 = .ok (.iload_n 1, 1) := by decide +kernel
theorem dX3_pieceOfMove_6 : decode cX3_pieceOfMove 6 = .ok (.imul, 1) := by decide +kernel
theorem dX3_pieceOfMove_7 : decode cX3_pieceOfMove 7 = .ok (.iconst 1, 1) := by decide +kernel
theorem dX3_pieceOfMove_8 : decode cX3_pieceOfMove 8 = .ok (.iadd, 1) := by decide +kernel
theorem dX3_pieceOfMove_9 : decode cX3_pieceOfMove 9 = .ok (.caload, 1) := by decide +kernel
theorem dX3_pieceOfMove_10 : decode cX3_pieceOfMove 10 = .ok (.istore_n 2, 1) := by decide +kernel
theorem dX3_pieceOfMove_11 : decode cX3_pieceOfMove 11 = .ok (.iload_n 2, 1) := by decide +kernel
theorem dX3_pieceOfMove_12 : decode cX3_pieceOfMove 12 = .ok (.bipush 45, 2) := by decide +kernel
theorem dX3_pieceOfMove_14 : decode cX3_pieceOfMove 14 = .ok (.if_icmp .ne 8, 3) := by decide +kernel
theorem dX3_pieceOfMove_17 : decode cX3_pieceOfMove 17 = .ok (.bipush (-6), 2) := by decide +kernel
theorem dX3_pieceOfMove_19 : decode cX3_pieceOfMove 19 = .ok (.goto 7, 3) := by decide +kernel
theorem dX3_pieceOfMove_22 : decode cX3_pieceOfMove 22 = .ok (.iload_n 2, 1) := by decide +kernel
theorem dX3_pieceOfMove_23 : decode cX3_pieceOfMove 23 = .ok (.bipush 97, 2) := by decide +kernel
theorem dX3_pieceOfMove_25 : decode cX3_pieceOfMove 25 = .ok (.isub, 1) := by decide +kernel
theorem dX3_pieceOfMove_26 : decode cX3_pieceOfMove 26 = .ok (.ireturn, 1) := by decide +kernel
theorem dX4_init_0 : decode cX4_init 0 = .ok (.aload_n 0, 1) := by decide +kernel
theorem dX4_init_1 : decode cX4_init 1 = .ok (.invokespecial 3, 3) := by decide +kernel
theorem dX4_init_4 : decode cX4_init 4 = .ok (.aload_n 0, 1) := by decide +kernel
theorem dX4_init_5 : decode cX4_init 5 = .ok (.bipush 36, 2) := by decide +kernel
theorem dX4_init_7 : decode cX4_init 7 = .ok (.newarray .int, 2) := by decide +kernel
theorem dX4_init_9 : decode cX4_init 9 = .ok (.putfield 9, 3) := by decide +kernel
theorem dX4_init_12 : decode cX4_init 12 = .ok (.return_, 1) := by decide +kernel
theorem dX4_fromHomeOn_0 : decode cX4_fromHomeOn 0 = .ok (.aload_n 0, 1) := by decide +kernel
theorem dX4_fromHomeOn_1 : decode cX4_fromHomeOn 1 = .ok (.getfield 9, 3) := by decide +kernel
theorem dX4_fromHomeOn_4 : decode cX4_fromHomeOn 4 = .ok (.bipush 35, 2) := by decide +kernel
theorem dX4_fromHomeOn_6 : decode cX4_fromHomeOn 6 = .ok (.iconst 0, 1) := by decide +kernel
theorem dX4_fromHomeOn_7 : decode cX4_fromHomeOn 7 = .ok (.iastore, 1) := by decide +kernel
theorem dX4_fromHomeOn_8 : decode cX4_fromHomeOn 8 = .ok (.bipush 34, 2) := by decide +kernel
theorem dX4_fromHomeOn_10 : decode cX4_fromHomeOn 10 = .ok (.istore 4, 2) := by decide +kernel
theorem dX4_fromHomeOn_12 : decode cX4_fromHomeOn 12 = .ok (.iload 4, 2) := by decide +kernel
theorem dX4_fromHomeOn_14 : decode cX4_fromHomeOn 14 = .ok (.iload_n 3, 1) := by decide +kernel
theorem dX4_fromHomeOn_15 : decode cX4_fromHomeOn 15 = .ok (.if_icmp .lt 72, 3) := by decide +kernel
theorem dX4_fromHomeOn_18 : decode cX4_fromHomeOn 18 = .ok (.bipush 36, 2) := by decide +kernel
theorem dX4_fromHomeOn_20 : decode cX4_fromHomeOn 20 = .ok (.istore 5, 2) := by decide +kernel
theorem dX4_fromHomeOn_22 : decode cX4_fromHomeOn 22 = .ok (.iconst 1, 1) := by decide +kernel
theorem dX4_fromHomeOn_23 : decode cX4_fromHomeOn 23 = .ok (.istore 6, 2) := by decide +kernel
theorem dX4_fromHomeOn_25 : decode cX4_fromHomeOn 25 = .ok (.iload 6, 2) := by decide +kernel
theorem dX4_fromHomeOn_27 : decode cX4_fromHomeOn 27 = .ok (.bipush 6, 2) := by decide +kernel
theorem dX4_fromHomeOn_29 : decode cX4_fromHomeOn 29 = .ok (.if_icmp .gt 43, 3) := by decide +kernel
theorem dX4_fromHomeOn_32 : decode cX4_fromHomeOn 32 = .ok (.aload_n 1, 1) := by decide +kernel
theorem dX4_fromHomeOn_33 : decode cX4_fromHomeOn 33 = .ok (.iload_n 2, 1) := by decide +kernel
theorem dX4_fromHomeOn_34 : decode cX4_fromHomeOn 34 = .ok (.iload 4, 2) := by decide +kernel
theorem dX4_fromHomeOn_36 : decode cX4_fromHomeOn 36 = .ok (.iload 6, 2) := by decide +kernel
theorem dX4_fromHomeOn_38 : decode cX4_fromHomeOn 38 = .ok (.invokevirtual 15, 3) := by decide +kernel
theorem dX4_fromHomeOn_41 : decode cX4_fromHomeOn 41 = .ok (.istore 7, 2) := by decide +kernel
theorem dX4_fromHomeOn_43 : decode cX4_fromHomeOn 43 = .ok (.iload 7, 2) := by decide +kernel
theorem dX4_fromHomeOn_45 : decode cX4_fromHomeOn 45 = .ok (.bipush (-6), 2) := by decide +kernel
theorem dX4_fromHomeOn_47 : decode cX4_fromHomeOn 47 = .ok (.if_icmp .eq 19, 3) := by decide +kernel
theorem dX4_fromHomeOn_50 : decode cX4_fromHomeOn 50 = .ok (.iload 5, 2) := by decide +kernel
theorem dX4_fromHomeOn_52 : decode cX4_fromHomeOn 52 = .ok (.aload_n 0, 1) := by decide +kernel
theorem dX4_fromHomeOn_53 : decode cX4_fromHomeOn 53 = .ok (.getfield 9, 3) := by decide +kernel
theorem dX4_fromHomeOn_56 : decode cX4_fromHomeOn 56 = .ok (.iload 7, 2) := by decide +kernel
theorem dX4_fromHomeOn_58 : decode cX4_fromHomeOn 58 = .ok (.iaload, 1) := by decide +kernel
theorem dX4_fromHomeOn_59 : decode cX4_fromHomeOn 59 = .ok (.iconst 1, 1) := by decide +kernel
theorem dX4_fromHomeOn_60 : decode cX4_fromHomeOn 60 = .ok (.iadd, 1) := by decide +kernel
theorem dX4_fromHomeOn_61 : decode cX4_fromHomeOn 61 = .ok (.invokestatic 21, 3) := by decide +kernel
theorem dX4_fromHomeOn_64 : decode cX4_fromHomeOn 64 = .ok (.istore 5, 2) := by decide +kernel
theorem dX4_fromHomeOn_66 : decode cX4_fromHomeOn 66 = .ok (.iinc 6 1, 3) := by decide +kernel
theorem dX4_fromHomeOn_69 : decode cX4_fromHomeOn 69 = .ok (.goto (-44), 3) := by decide +kernel
theorem dX4_fromHomeOn_72 : decode cX4_fromHomeOn 72 = .ok (.aload_n 0, 1) := by decide +kernel
theorem dX4_fromHomeOn_73 : decode cX4_fromHomeOn 73 = .ok (.getfield 9, 3) := by decide +kernel
theorem dX4_fromHomeOn_76 : decode cX4_fromHomeOn 76 = .ok (.iload 4, 2) := by decide +kernel
theorem dX4_fromHomeOn_78 : decode cX4_fromHomeOn 78 = .ok (.iload 5, 2) := by decide +kernel
theorem dX4_fromHomeOn_80 : decode cX4_fromHomeOn 80 = .ok (.iastore, 1) := by decide +kernel
theorem dX4_fromHomeOn_81 : decode cX4_fromHomeOn 81 = .ok (.iinc 4 (-1), 3) := by decide +kernel
theorem dX4_fromHomeOn_84 : decode cX4_fromHomeOn 84 = .ok (.goto (-72), 3) := by decide +kernel
theorem dX4_fromHomeOn_87 : decode cX4_fromHomeOn 87 = .ok (.aload_n 0, 1) := by decide +kernel
theorem dX4_fromHomeOn_88 : decode cX4_fromHomeOn 88 = .ok (.getfield 9, 3) := by decide +kernel
theorem dX4_fromHomeOn_91 : decode cX4_fromHomeOn 91 = .ok (.iload_n 3, 1) := by decide +kernel
theorem dX4_fromHomeOn_92 : decode cX4_fromHomeOn 92 = .ok (.iaload, 1) := by decide +kernel
theorem dX4_fromHomeOn_93 : decode cX4_fromHomeOn 93 = .ok (.ireturn, 1) := by decide +kernel
theorem dX4_goingWide_0 : decode cX4_goingWide 0 = .ok (.iconst 0, 1) := by decide +kernel
theorem dX4_goingWide_1 : decode cX4_goingWide 1 = .ok (.istore 4, 2) := by decide +kernel
theorem dX4_goingWide_3 : decode cX4_goingWide 3 = .ok (.iload 4, 2) := by decide +kernel
theorem dX4_goingWide_5 : decode cX4_goingWide 5 = .ok (.bipush 35, 2) := by decide +kernel
theorem dX4_goingWide_7 : decode cX4_goingWide 7 = .ok (.if_icmp .gt 18, 3) := by decide +kernel
theorem dX4_goingWide_10 : decode cX4_goingWide 10 = .ok (.aload_n 0, 1) := by decide +kernel
theorem dX4_goingWide_11 : decode cX4_goingWide 11 = .ok (.getfield 9, 3) := by decide +kernel
theorem dX4_goingWide_14 : decode cX4_goingWide 14 = .ok (.iload 4, 2) := by decide +kernel
theorem dX4_goingWide_16 : decode cX4_goingWide 16 = .ok (.bipush (-6), 2) := by decide +kernel
theorem dX4_goingWide_18 : decode cX4_goingWide 18 = .ok (.iastore, 1) := by decide +kernel
theorem dX4_goingWide_19 : decode cX4_goingWide 19 = .ok (.iinc 4 1, 3) := by decide +kernel
theorem dX4_goingWide_22 : decode cX4_goingWide 22 = .ok (.goto (-19), 3) := by decide +kernel
theorem dX4_goingWide_25 : decode cX4_goingWide 25 = .ok (.aload_n 0, 1) := by decide +kernel
theorem dX4_goingWide_26 : decode cX4_goingWide 26 = .ok (.getfield 9, 3) := by decide +kernel
theorem dX4_goingWide_29 : decode cX4_goingWide 29 = .ok (.iload_n 3, 1) := by decide +kernel
theorem dX4_goingWide_30 : decode cX4_goingWide 30 = .ok (.iconst 0, 1) := by decide +kernel
theorem dX4_goingWide_31 : decode cX4_goingWide 31 = .ok (.iastore, 1) := by decide +kernel
theorem dX4_goingWide_32 : decode cX4_goingWide 32 = .ok (.iconst 0, 1) := by decide +kernel
theorem dX4_goingWide_33 : decode cX4_goingWide 33 = .ok (.istore 4, 2) := by decide +kernel
theorem dX4_goingWide_35 : decode cX4_goingWide 35 = .ok (.iload 4, 2) := by decide +kernel
theorem dX4_goingWide_37 : decode cX4_goingWide 37 = .ok (.bipush 35, 2) := by decide +kernel
theorem dX4_goingWide_39 : decode cX4_goingWide 39 = .ok (.if_icmp .gt 29, 3) := by decide +kernel
theorem dX4_goingWide_42 : decode cX4_goingWide 42 = .ok (.aload_n 0, 1) := by decide +kernel
theorem dX4_goingWide_43 : decode cX4_goingWide 43 = .ok (.getfield 9, 3) := by decide +kernel
theorem dX4_goingWide_46 : decode cX4_goingWide 46 = .ok (.bipush 35, 2) := by decide +kernel
theorem dX4_goingWide_48 : decode cX4_goingWide 48 = .ok (.iaload, 1) := by decide +kernel
theorem dX4_goingWide_49 : decode cX4_goingWide 49 = .ok (.bipush (-6), 2) := by decide +kernel
theorem dX4_goingWide_51 : decode cX4_goingWide 51 = .ok (.if_icmp .ne 17, 3) := by decide +kernel
theorem dX4_goingWide_54 : decode cX4_goingWide 54 = .ok (.aload_n 0, 1) := by decide +kernel
theorem dX4_goingWide_55 : decode cX4_goingWide 55 = .ok (.aload_n 1, 1) := by decide +kernel
theorem dX4_goingWide_56 : decode cX4_goingWide 56 = .ok (.iload_n 2, 1) := by decide +kernel
theorem dX4_goingWide_57 : decode cX4_goingWide 57 = .ok (.iload 4, 2) := by decide +kernel
theorem dX4_goingWide_59 : decode cX4_goingWide 59 = .ok (.invokevirtual 27, 3) := by decide +kernel
theorem dX4_goingWide_62 : decode cX4_goingWide 62 = .ok (.iinc 4 1, 3) := by decide +kernel
theorem dX4_goingWide_65 : decode cX4_goingWide 65 = .ok (.goto (-30), 3) := by decide +kernel
theorem dX4_goingWide_68 : decode cX4_goingWide 68 = .ok (.aload_n 0, 1) := by decide +kernel
theorem dX4_goingWide_69 : decode cX4_goingWide 69 = .ok (.getfield 9, 3) := by decide +kernel
theorem dX4_goingWide_72 : decode cX4_goingWide 72 = .ok (.bipush 35, 2) := by decide +kernel
theorem dX4_goingWide_74 : decode cX4_goingWide 74 = .ok (.iaload, 1) := by decide +kernel
theorem dX4_goingWide_75 : decode cX4_goingWide 75 = .ok (.ireturn, 1) := by decide +kernel
theorem dX4_widen_0 : decode cX4_widen 0 = .ok (.iconst 0, 1) := by decide +kernel
theorem dX4_widen_1 : decode cX4_widen 1 = .ok (.istore 4, 2) := by decide +kernel
theorem dX4_widen_3 : decode cX4_widen 3 = .ok (.iload 4, 2) := by decide +kernel
theorem dX4_widen_5 : decode cX4_widen 5 = .ok (.bipush 35, 2) := by decide +kernel
theorem dX4_widen_7 : decode cX4_widen 7 = .ok (.if_icmp .ge 76, 3) := by decide +kernel
theorem dX4_widen_10 : decode cX4_widen 10 = .ok (.iconst 1, 1) := by decide +kernel
theorem dX4_widen_11 : decode cX4_widen 11 = .ok (.istore 5, 2) := by decide +kernel
theorem dX4_widen_13 : decode cX4_widen 13 = .ok (.iload 5, 2) := by decide +kernel
theorem dX4_widen_15 : decode cX4_widen 15 = .ok (.bipush 6, 2) := by decide +kernel
theorem dX4_widen_17 : decode cX4_widen 17 = .ok (.if_icmp .gt 60, 3) := by decide +kernel
theorem dX4_widen_20 : decode cX4_widen 20 = .ok (.aload_n 0, 1) := by decide +kernel
theorem dX4_widen_21 : decode cX4_widen 21 = .ok (.getfield 9, 3) := by decide +kernel
theorem dX4_widen_24 : decode cX4_widen 24 = .ok (.iload 4, 2) := by decide +kernel
theorem dX4_widen_26 : decode cX4_widen 26 = .ok (.iaload, 1) := by decide +kernel
theorem dX4_widen_27 : decode cX4_widen 27 = .ok (.iload_n 3, 1) := by decide +kernel
theorem dX4_widen_28 : decode cX4_widen 28 = .ok (.if_icmp .ne 49, 3) := by decide +kernel
theorem dX4_widen_31 : decode cX4_widen 31 = .ok (.aload_n 1, 1) := by decide +kernel
theorem dX4_widen_32 : decode cX4_widen 32 = .ok (.iload_n 2, 1) := by decide +kernel
theorem dX4_widen_33 : decode cX4_widen 33 = .ok (.iload 4, 2) := by decide +kernel
theorem dX4_widen_35 : decode cX4_widen 35 = .ok (.iload 5, 2) := by decide +kernel
theorem dX4_widen_37 : decode cX4_widen 37 = .ok (.invokevirtual 15, 3) := by decide +kernel
theorem dX4_widen_40 : decode cX4_widen 40 = .ok (.istore 6, 2) := by decide +kernel
theorem dX4_widen_42 : decode cX4_widen 42 = .ok (.iload 6, 2) := by decide +kernel
theorem dX4_widen_44 : decode cX4_widen 44 = .ok (.bipush (-6), 2) := by decide +kernel
theorem dX4_widen_46 : decode cX4_widen 46 = .ok (.if_icmp .eq 25, 3) := by decide +kernel
theorem dX4_widen_49 : decode cX4_widen 49 = .ok (.aload_n 0, 1) := by decide +kernel
theorem dX4_widen_50 : decode cX4_widen 50 = .ok (.getfield 9, 3) := by decide +kernel
theorem dX4_widen_53 : decode cX4_widen 53 = .ok (.iload 6, 2) := by decide +kernel
theorem dX4_widen_55 : decode cX4_widen 55 = .ok (.iaload, 1) := by decide +kernel
theorem dX4_widen_56 : decode cX4_widen 56 = .ok (.bipush (-6), 2) := by decide +kernel
theorem dX4_widen_58 : decode cX4_widen 58 = .ok (.if_icmp .ne 13, 3) := by decide +kernel
theorem dX4_widen_61 : decode cX4_widen 61 = .ok (.aload_n 0, 1) := by decide +kernel
theorem dX4_widen_62 : decode cX4_widen 62 = .ok (.getfield 9, 3) := by decide +kernel
theorem dX4_widen_65 : decode cX4_widen 65 = .ok (.iload 6, 2) := by decide +kernel
theorem dX4_widen_67 : decode cX4_widen 67 = .ok (.iload_n 3, 1) := by decide +kernel
theorem dX4_widen_68 : decode cX4_widen 68 = .ok (.iconst 1, 1) := by decide +kernel
theorem dX4_widen_69 : decode cX4_widen 69 = .ok (.iadd, 1) := by decide +kernel
theorem dX4_widen_70 : decode cX4_widen 70 = .ok (.iastore, 1) := by decide +kernel
theorem dX4_widen_71 : decode cX4_widen 71 = .ok (.iinc 5 1, 3) := by decide +kernel
theorem dX4_widen_74 : decode cX4_widen 74 = .ok (.goto (-61), 3) := by decide +kernel
theorem dX4_widen_77 : decode cX4_widen 77 = .ok (.iinc 4 1, 3) := by decide +kernel
theorem dX4_widen_80 : decode cX4_widen 80 = .ok (.goto (-77), 3) := by decide +kernel
theorem dX4_widen_83 : decode cX4_widen 83 = .ok (.return_, 1) := by decide +kernel
theorem dX5_init_0 : decode cX5_init 0 = .ok (.aload_n 0, 1) := by decide +kernel
theorem dX5_init_1 : decode cX5_init 1 = .ok (.invokespecial 3, 3) := by decide +kernel
theorem dX5_init_4 : decode cX5_init 4 = .ok (.aload_n 0, 1) := by decide +kernel
theorem dX5_init_5 : decode cX5_init 5 = .ok (.new 9, 3) := by decide +kernel
theorem dX5_init_8 : decode cX5_init 8 = .ok (.dup, 1) := by decide +kernel
theorem dX5_init_9 : decode cX5_init 9 = .ok (.invokespecial 11, 3) := by decide +kernel
theorem dX5_init_12 : decode cX5_init 12 = .ok (.putfield 12, 3) := by decide +kernel
theorem dX5_init_15 : decode cX5_init 15 = .ok (.aload_n 0, 1) := by decide +kernel
theorem dX5_init_16 : decode cX5_init 16 = .ok (.new 9, 3) := by decide +kernel
theorem dX5_init_19 : decode cX5_init 19 = .ok (.dup, 1) := by decide +kernel
theorem dX5_init_20 : decode cX5_init 20 = .ok (.invokespecial 11, 3) := by decide +kernel
theorem dX5_init_23 : decode cX5_init 23 = .ok (.putfield 16, 3) := by decide +kernel
theorem dX5_init_26 : decode cX5_init 26 = .ok (.aload_n 0, 1) := by decide +kernel
theorem dX5_init_27 : decode cX5_init 27 = .ok (.new 19, 3) := by decide +kernel
theorem dX5_init_30 : decode cX5_init 30 = .ok (.dup, 1) := by decide +kernel
theorem dX5_init_31 : decode cX5_init 31 = .ok (.invokespecial 21, 3) := by decide +kernel
theorem dX5_init_34 : decode cX5_init 34 = .ok (.putfield 22, 3) := by decide +kernel
theorem dX5_init_37 : decode cX5_init 37 = .ok (.aload_n 0, 1) := by decide +kernel
theorem dX5_init_38 : decode cX5_init 38 = .ok (.new 26, 3) := by decide +kernel
theorem dX5_init_41 : decode cX5_init 41 = .ok (.dup, 1) := by decide +kernel
theorem dX5_init_42 : decode cX5_init 42 = .ok (.invokespecial 28, 3) := by decide +kernel
theorem dX5_init_45 : decode cX5_init 45 = .ok (.putfield 29, 3) := by decide +kernel
theorem dX5_init_48 : decode cX5_init 48 = .ok (.aload_n 0, 1) := by decide +kernel
theorem dX5_init_49 : decode cX5_init 49 = .ok (.new 33, 3) := by decide +kernel
theorem dX5_init_52 : decode cX5_init 52 = .ok (.dup, 1) := by decide +kernel
theorem dX5_init_53 : decode cX5_init 53 = .ok (.invokespecial 35, 3) := by decide +kernel
theorem dX5_init_56 : decode cX5_init 56 = .ok (.putfield 36, 3) := by decide +kernel
theorem dX5_init_59 : decode cX5_init 59 = .ok (.aload_n 0, 1) := by decide +kernel
theorem dX5_init_60 : decode cX5_init 60 = .ok (.iconst 2, 1) := by decide +kernel
theorem dX5_init_61 : decode cX5_init 61 = .ok (.anewarray 9, 3) := by decide +kernel
theorem dX5_init_64 : decode cX5_init 64 = .ok (.putfield 40, 3) := by decide +kernel
theorem dX5_init_67 : decode cX5_init 67 = .ok (.return_, 1) := by decide +kernel
theorem dX5_set_0 : decode cX5_set 0 = .ok (.iload_n 1, 1) := by decide +kernel
theorem dX5_set_1 : decode cX5_set 1 = .ok (.ifCond .lt 8, 3) := by decide +kernel
theorem dX5_set_4 : decode cX5_set 4 = .ok (.iload_n 1, 1) := by decide +kernel
theorem dX5_set_5 : decode cX5_set 5 = .ok (.iconst 3, 1) := by decide +kernel
theorem dX5_set_6 : decode cX5_set 6 = .ok (.if_icmp .lt 6, 3) := by decide +kernel
theorem dX5_set_9 : decode cX5_set 9 = .ok (.bipush (-2), 2) := by decide +kernel
theorem dX5_set_11 : decode cX5_set 11 = .ok (.ireturn, 1) := by decide +kernel
theorem dX5_set_12 : decode cX5_set 12 = .ok (.iload_n 2, 1) := by decide +kernel
theorem dX5_set_13 : decode cX5_set 13 = .ok (.getstatic 44, 3) := by decide +kernel
theorem dX5_set_16 : decode cX5_set 16 = .ok (.iload_n 1, 1) := by decide +kernel
theorem dX5_set_17 : decode cX5_set 17 = .ok (.iaload, 1) := by decide +kernel
theorem dX5_set_18 : decode cX5_set 18 = .ok (.if_icmp .lt 12, 3) := by decide +kernel
theorem dX5_set_21 : decode cX5_set 21 = .ok (.iload_n 2, 1) := by decide +kernel
theorem dX5_set_22 : decode cX5_set 22 = .ok (.getstatic 48, 3) := by decide +kernel
theorem dX5_set_25 : decode cX5_set 25 = .ok (.iload_n 1, 1) := by decide +kernel
theorem dX5_set_26 : decode cX5_set 26 = .ok (.iaload, 1) := by decide +kernel
theorem dX5_set_27 : decode cX5_set 27 = .ok (.if_icmp .le 6, 3) := by decide +kernel
theorem dX5_set_30 : decode cX5_set 30 = .ok (.bipush (-2), 2) := by decide +kernel
theorem dX5_set_32 : decode cX5_set 32 = .ok (.ireturn, 1) := by decide +kernel
theorem dX5_set_33 : decode cX5_set 33 = .ok (.aload_n 0, 1) := by decide +kernel
theorem dX5_set_34 : decode cX5_set 34 = .ok (.getfield 36, 3) := by decide +kernel
theorem dX5_set_37 : decode cX5_set 37 = .ok (.aload_n 0, 1) := by decide +kernel
theorem dX5_set_38 : decode cX5_set 38 = .ok (.getfield 12, 3) := by decide +kernel
theorem dX5_set_41 : decode cX5_set 41 = .ok (.invokevirtual 51, 3) := by decide +kernel
theorem dX5_set_44 : decode cX5_set 44 = .ok (.aload_n 0, 1) := by decide +kernel
theorem dX5_set_45 : decode cX5_set 45 = .ok (.getfield 12, 3) := by decide +kernel
theorem dX5_set_48 : decode cX5_set 48 = .ok (.getfield 55, 3) := by decide +kernel
theorem dX5_set_51 : decode cX5_set 51 = .ok (.iload_n 1, 1) := by decide +kernel
theorem dX5_set_52 : decode cX5_set 52 = .ok (.iaload, 1) := by decide +kernel
theorem dX5_set_53 : decode cX5_set 53 = .ok (.istore_n 3, 1) := by decide +kernel
theorem dX5_set_54 : decode cX5_set 54 = .ok (.aload_n 0, 1) := by decide +kernel
theorem dX5_set_55 : decode cX5_set 55 = .ok (.getfield 12, 3) := by decide +kernel
theorem dX5_set_58 : decode cX5_set 58 = .ok (.getfield 55, 3) := by decide +kernel
theorem dX5_set_61 : decode cX5_set 61 = .ok (.iload_n 1, 1) := by decide +kernel
theorem dX5_set_62 : decode cX5_set 62 = .ok (.iload_n 2, 1) := by decide +kernel
theorem dX5_set_63 : decode cX5_set 63 = .ok (.iastore, 1) := by decide +kernel
theorem dX5_set_64 : decode cX5_set 64 = .ok (.iload_n 3, 1) := by decide +kernel
theorem dX5_set_65 : decode cX5_set 65 = .ok (.ireturn, 1) := by decide +kernel
theorem dX5_seed_0 : decode cX5_seed 0 = .ok (.iload_n 1, 1) := by decide +kernel
theorem dX5_seed_1 : decode cX5_seed 1 = .ok (.ifCond .ge 6, 3) := by decide +kernel
theorem dX5_seed_4 : decode cX5_seed 4 = .ok (.bipush (-2), 2) := by decide +kernel
theorem dX5_seed_6 : decode cX5_seed 6 = .ok (.ireturn, 1) := by decide +kernel
theorem dX5_seed_7 : decode cX5_seed 7 = .ok (.aload_n 0, 1) := by decide +kernel
theorem dX5_seed_8 : decode cX5_seed 8 = .ok (.getfield 36, 3) := by decide +kernel
theorem dX5_seed_11 : decode cX5_seed 11 = .ok (.aload_n 0, 1) := by decide +kernel
theorem dX5_seed_12 : decode cX5_seed 12 = .ok (.getfield 12, 3) := by decide +kernel
theorem dX5_seed_15 : decode cX5_seed 15 = .ok (.invokevirtual 51, 3) := by decide +kernel
theorem dX5_seed_18 : decode cX5_seed 18 = .ok (.aload_n 0, 1) := by decide +kernel
theorem dX5_seed_19 : decode cX5_seed 19 = .ok (.getfield 12, 3) := by decide +kernel
theorem dX5_seed_22 : decode cX5_seed 22 = .ok (.getfield 58, 3) := by decide +kernel
theorem dX5_seed_25 : decode cX5_seed 25 = .ok (.istore_n 2, 1) := by decide +kernel
theorem dX5_seed_26 : decode cX5_seed 26 = .ok (.aload_n 0, 1) := by decide +kernel
theorem dX5_seed_27 : decode cX5_seed 27 = .ok (.getfield 12, 3) := by decide +kernel
theorem dX5_seed_30 : decode cX5_seed 30 = .ok (.iload_n 1, 1) := by decide +kernel
theorem dX5_seed_31 : decode cX5_seed 31 = .ok (.putfield 58, 3) := by decide +kernel
theorem dX5_seed_34 : decode cX5_seed 34 = .ok (.iload_n 2, 1) := by decide +kernel
theorem dX5_seed_35 : decode cX5_seed 35 = .ok (.ireturn, 1) := by decide +kernel
theorem dX5_cast_0 : decode cX5_cast 0 = .ok (.aload_n 0, 1) := by decide +kernel
theorem dX5_cast_1 : decode cX5_cast 1 = .ok (.getfield 12, 3) := by decide +kernel
theorem dX5_cast_4 : decode cX5_cast 4 = .ok (.invokevirtual 62, 3) := by decide +kernel
theorem dX5_cast_7 : decode cX5_cast 7 = .ok (.ifCond .ne 13, 3) := by decide +kernel
theorem dX5_cast_10 : decode cX5_cast 10 = .ok (.aload_n 0, 1) := by decide +kernel
theorem dX5_cast_11 : decode cX5_cast 11 = .ok (.getfield 12, 3) := by decide +kernel
theorem dX5_cast_14 : decode cX5_cast 14 = .ok (.invokevirtual 66, 3) := by decide +kernel
theorem dX5_cast_17 : decode cX5_cast 17 = .ok (.ifCond .eq 6, 3) := by decide +kernel
theorem dX5_cast_20 : decode cX5_cast 20 = .ok (.bipush (-5), 2) := by decide +kernel
theorem dX5_cast_22 : decode cX5_cast 22 = .ok (.ireturn, 1) := by decide +kernel
theorem dX5_cast_23 : decode cX5_cast 23 = .ok (.aload_n 0, 1) := by decide +kernel
theorem dX5_cast_24 : decode cX5_cast 24 = .ok (.getfield 36, 3) := by decide +kernel
theorem dX5_cast_27 : decode cX5_cast 27 = .ok (.aload_n 0, 1) := by decide +kernel
theorem dX5_cast_28 : decode cX5_cast 28 = .ok (.getfield 12, 3) := by decide +kernel
theorem dX5_cast_31 : decode cX5_cast 31 = .ok (.invokevirtual 51, 3) := by decide +kernel
theorem dX5_cast_34 : decode cX5_cast 34 = .ok (.aload_n 0, 1) := by decide +kernel
theorem dX5_cast_35 : decode cX5_cast 35 = .ok (.getfield 12, 3) := by decide +kernel
theorem dX5_cast_38 : decode cX5_cast 38 = .ok (.invokevirtual 69, 3) := by decide +kernel
theorem dX5_cast_41 : decode cX5_cast 41 = .ok (.aload_n 0, 1) := by decide +kernel
theorem dX5_cast_42 : decode cX5_cast 42 = .ok (.getfield 12, 3) := by decide +kernel
theorem dX5_cast_45 : decode cX5_cast 45 = .ok (.getfield 72, 3) := by decide +kernel
theorem dX5_cast_48 : decode cX5_cast 48 = .ok (.ireturn, 1) := by decide +kernel
theorem dX5_move_0 : decode cX5_move 0 = .ok (.iload_n 1, 1) := by decide +kernel
theorem dX5_move_1 : decode cX5_move 1 = .ok (.ifCond .lt 8, 3) := by decide +kernel
theorem dX5_move_4 : decode cX5_move 4 = .ok (.iload_n 1, 1) := by decide +kernel
theorem dX5_move_5 : decode cX5_move 5 = .ok (.iconst 3, 1) := by decide +kernel
theorem dX5_move_6 : decode cX5_move 6 = .ok (.if_icmp .lt 5, 3) := by decide +kernel
theorem dX5_move_9 : decode cX5_move 9 = .ok (.iconst (-1), 1) := by decide +kernel
theorem dX5_move_10 : decode cX5_move 10 = .ok (.ireturn, 1) := by decide +kernel
theorem dX5_move_11 : decode cX5_move 11 = .ok (.aload_n 0, 1) := by decide +kernel
theorem dX5_move_12 : decode cX5_move 12 = .ok (.getfield 12, 3) := by decide +kernel
theorem dX5_move_15 : decode cX5_move 15 = .ok (.getfield 75, 3) := by decide +kernel
theorem dX5_move_18 : decode cX5_move 18 = .ok (.iconst 3, 1) := by decide +kernel
theorem dX5_move_19 : decode cX5_move 19 = .ok (.imul, 1) := by decide +kernel
theorem dX5_move_20 : decode cX5_move 20 = .ok (.iload_n 1, 1) := by decide +kernel
theorem dX5_move_21 : decode cX5_move 21 = .ok (.iadd, 1) := by decide +kernel
theorem dX5_move_22 : decode cX5_move 22 = .ok (.istore_n 2, 1) := by decide +kernel
theorem dX5_move_23 : decode cX5_move 23 = .ok (.aload_n 0, 1) := by decide +kernel
theorem dX5_move_24 : decode cX5_move 24 = .ok (.getfield 12, 3) := by decide +kernel
theorem dX5_move_27 : decode cX5_move 27 = .ok (.invokevirtual 66, 3) := by decide +kernel
theorem dX5_move_30 : decode cX5_move 30 = .ok (.ifCond .eq 21, 3) := by decide +kernel
theorem dX5_move_33 : decode cX5_move 33 = .ok (.aload_n 0, 1) := by decide +kernel
theorem dX5_move_34 : decode cX5_move 34 = .ok (.getfield 12, 3) := by decide +kernel
theorem dX5_move_37 : decode cX5_move 37 = .ok (.iload_n 2, 1) := by decide +kernel
theorem dX5_move_38 : decode cX5_move 38 = .ok (.aload_n 0, 1) := by decide +kernel
theorem dX5_move_39 : decode cX5_move 39 = .ok (.getfield 12, 3) := by decide +kernel
theorem dX5_move_42 : decode cX5_move 42 = .ok (.getfield 72, 3) := by decide +kernel
theorem dX5_move_45 : decode cX5_move 45 = .ok (.invokevirtual 78, 3) := by decide +kernel
theorem dX5_move_48 : decode cX5_move 48 = .ok (.ifCond .eq 6, 3) := by decide +kernel
theorem dX5_move_51 : decode cX5_move 51 = .ok (.bipush (-5), 2) := by decide +kernel
theorem dX5_move_53 : decode cX5_move 53 = .ok (.ireturn, 1) := by decide +kernel
theorem dX5_move_54 : decode cX5_move 54 = .ok (.aload_n 0, 1) := by decide +kernel
theorem dX5_move_55 : decode cX5_move 55 = .ok (.getfield 36, 3) := by decide +kernel
theorem dX5_move_58 : decode cX5_move 58 = .ok (.aload_n 0, 1) := by decide +kernel
theorem dX5_move_59 : decode cX5_move 59 = .ok (.getfield 12, 3) := by decide +kernel
theorem dX5_move_62 : decode cX5_move 62 = .ok (.invokevirtual 51, 3) := by decide +kernel
theorem dX5_move_65 : decode cX5_move 65 = .ok (.aload_n 0, 1) := by decide +kernel
theorem dX5_move_66 : decode cX5_move 66 = .ok (.getfield 12, 3) := by decide +kernel
theorem dX5_move_69 : decode cX5_move 69 = .ok (.iload_n 2, 1) := by decide +kernel
theorem dX5_move_70 : decode cX5_move 70 = .ok (.invokevirtual 82, 3) := by decide +kernel
theorem dX5_move_73 : decode cX5_move 73 = .ok (.ireturn, 1) := by decide +kernel
theorem dX5_skip_0 : decode cX5_skip 0 = .ok (.aload_n 0, 1) := by decide +kernel
theorem dX5_skip_1 : decode cX5_skip 1 = .ok (.getfield 12, 3) := by decide +kernel
theorem dX5_skip_4 : decode cX5_skip 4 = .ok (.invokevirtual 66, 3) := by decide +kernel
theorem dX5_skip_7 : decode cX5_skip 7 = .ok (.ifCond .eq 20, 3) := by decide +kernel
theorem dX5_skip_10 : decode cX5_skip 10 = .ok (.aload_n 0, 1) := by decide +kernel
theorem dX5_skip_11 : decode cX5_skip 11 = .ok (.getfield 12, 3) := by decide +kernel
theorem dX5_skip_14 : decode cX5_skip 14 = .ok (.aload_n 0, 1) := by decide +kernel
theorem dX5_skip_15 : decode cX5_skip 15 = .ok (.getfield 12, 3) := by decide +kernel
theorem dX5_skip_18 : decode cX5_skip 18 = .ok (.getfield 72, 3) := by decide +kernel
theorem dX5_skip_21 : decode cX5_skip 21 = .ok (.invokevirtual 86, 3) := by decide +kernel
theorem dX5_skip_24 : decode cX5_skip 24 = .ok (.ifCond .eq 6, 3) := by decide +kernel
theorem dX5_skip_27 : decode cX5_skip 27 = .ok (.bipush (-5), 2) := by decide +kernel
theorem dX5_skip_29 : decode cX5_skip 29 = .ok (.ireturn, 1) := by decide +kernel
theorem dX5_skip_30 : decode cX5_skip 30 = .ok (.aload_n 0, 1) := by decide +kernel
theorem dX5_skip_31 : decode cX5_skip 31 = .ok (.getfield 36, 3) := by decide +kernel
theorem dX5_skip_34 : decode cX5_skip 34 = .ok (.aload_n 0, 1) := by decide +kernel
theorem dX5_skip_35 : decode cX5_skip 35 = .ok (.getfield 12, 3) := by decide +kernel
theorem dX5_skip_38 : decode cX5_skip 38 = .ok (.invokevirtual 51, 3) := by decide +kernel
theorem dX5_skip_41 : decode cX5_skip 41 = .ok (.aload_n 0, 1) := by decide +kernel
theorem dX5_skip_42 : decode cX5_skip 42 = .ok (.getfield 12, 3) := by decide +kernel
theorem dX5_skip_45 : decode cX5_skip 45 = .ok (.invokevirtual 90, 3) := by decide +kernel
theorem dX5_skip_48 : decode cX5_skip 48 = .ok (.aload_n 0, 1) := by decide +kernel
theorem dX5_skip_49 : decode cX5_skip 49 = .ok (.getfield 12, 3) := by decide +kernel
theorem dX5_skip_52 : decode cX5_skip 52 = .ok (.getfield 75, 3) := by decide +kernel
theorem dX5_skip_55 : decode cX5_skip 55 = .ok (.ireturn, 1) := by decide +kernel
theorem dX5_play_0 : decode cX5_play 0 = .ok (.iload_n 1, 1) := by decide +kernel
theorem dX5_play_1 : decode cX5_play 1 = .ok (.iconst 1, 1) := by decide +kernel
theorem dX5_play_2 : decode cX5_play 2 = .ok (.if_icmp .lt 9, 3) := by decide +kernel
theorem dX5_play_5 : decode cX5_play 5 = .ok (.iload_n 1, 1) := by decide +kernel
theorem dX5_play_6 : decode cX5_play 6 = .ok (.bipush 100, 2) := by decide +kernel
theorem dX5_play_8 : decode cX5_play 8 = .ok (.if_icmp .le 6, 3) := by decide +kernel
theorem dX5_play_11 : decode cX5_play 11 = .ok (.bipush (-2), 2) := by decide +kernel
theorem dX5_play_13 : decode cX5_play 13 = .ok (.ireturn, 1) := by decide +kernel
theorem dX5_play_14 : decode cX5_play 14 = .ok (.aload_n 0, 1) := by decide +kernel
theorem dX5_play_15 : decode cX5_play 15 = .ok (.getfield 12, 3) := by decide +kernel
theorem dX5_play_18 : decode cX5_play 18 = .ok (.invokevirtual 62, 3) := by decide +kernel
theorem dX5_play_21 : decode cX5_play 21 = .ok (.ifCond .ne 13, 3) := by decide +kernel
theorem dX5_play_24 : decode cX5_play 24 = .ok (.aload_n 0, 1) := by decide +kernel
theorem dX5_play_25 : decode cX5_play 25 = .ok (.getfield 12, 3) := by decide +kernel
theorem dX5_play_28 : decode cX5_play 28 = .ok (.invokevirtual 66, 3) := by decide +kernel
theorem dX5_play_31 : decode cX5_play 31 = .ok (.ifCond .eq 6, 3) := by decide +kernel
theorem dX5_play_34 : decode cX5_play 34 = .ok (.bipush (-5), 2) := by decide +kernel
theorem dX5_play_36 : decode cX5_play 36 = .ok (.ireturn, 1) := by decide +kernel
theorem dX5_play_37 : decode cX5_play 37 = .ok (.aload_n 0, 1) := by decide +kernel
theorem dX5_play_38 : decode cX5_play 38 = .ok (.getfield 36, 3) := by decide +kernel
theorem dX5_play_41 : decode cX5_play 41 = .ok (.aload_n 0, 1) := by decide +kernel
theorem dX5_play_42 : decode cX5_play 42 = .ok (.getfield 12, 3) := by decide +kernel
theorem dX5_play_45 : decode cX5_play 45 = .ok (.invokevirtual 51, 3) := by decide +kernel
theorem dX5_play_48 : decode cX5_play 48 = .ok (.aload_n 0, 1) := by decide +kernel
theorem dX5_play_49 : decode cX5_play 49 = .ok (.getfield 12, 3) := by decide +kernel
theorem dX5_play_52 : decode cX5_play 52 = .ok (.iload_n 1, 1) := by decide +kernel
theorem dX5_play_53 : decode cX5_play 53 = .ok (.invokevirtual 93, 3) := by decide +kernel
theorem dX5_play_56 : decode cX5_play 56 = .ok (.ireturn, 1) := by decide +kernel
theorem dX5_read_0 : decode cX5_read 0 = .ok (.aload_n 0, 1) := by decide +kernel
theorem dX5_read_1 : decode cX5_read 1 = .ok (.getfield 29, 3) := by decide +kernel
theorem dX5_read_4 : decode cX5_read 4 = .ok (.invokevirtual 96, 3) := by decide +kernel
theorem dX5_read_7 : decode cX5_read 7 = .ok (.bipush (-6), 2) := by decide +kernel
theorem dX5_read_9 : decode cX5_read 9 = .ok (.if_icmp .eq 6, 3) := by decide +kernel
theorem dX5_read_12 : decode cX5_read 12 = .ok (.bipush (-3), 2) := by decide +kernel
theorem dX5_read_14 : decode cX5_read 14 = .ok (.ireturn, 1) := by decide +kernel
theorem dX5_read_15 : decode cX5_read 15 = .ok (.aload_n 0, 1) := by decide +kernel
theorem dX5_read_16 : decode cX5_read 16 = .ok (.getfield 12, 3) := by decide +kernel
theorem dX5_read_19 : decode cX5_read 19 = .ok (.invokevirtual 66, 3) := by decide +kernel
theorem dX5_read_22 : decode cX5_read 22 = .ok (.ifCond .eq 6, 3) := by decide +kernel
theorem dX5_read_25 : decode cX5_read 25 = .ok (.bipush (-5), 2) := by decide +kernel
theorem dX5_read_27 : decode cX5_read 27 = .ok (.ireturn, 1) := by decide +kernel
theorem dX5_read_28 : decode cX5_read 28 = .ok (.aload_n 0, 1) := by decide +kernel
theorem dX5_read_29 : decode cX5_read 29 = .ok (.getfield 36, 3) := by decide +kernel
theorem dX5_read_32 : decode cX5_read 32 = .ok (.aload_n 0, 1) := by decide +kernel
theorem dX5_read_33 : decode cX5_read 33 = .ok (.getfield 12, 3) := by decide +kernel
theorem dX5_read_36 : decode cX5_read 36 = .ok (.invokevirtual 51, 3) := by decide +kernel
theorem dX5_read_39 : decode cX5_read 39 = .ok (.iconst 0, 1) := by decide +kernel
theorem dX5_read_40 : decode cX5_read 40 = .ok (.istore_n 1, 1) := by decide +kernel
theorem dX5_read_41 : decode cX5_read 41 = .ok (.iload_n 1, 1) := by decide +kernel
theorem dX5_read_42 : decode cX5_read 42 = .ok (.aload_n 0, 1) := by decide +kernel
theorem dX5_read_43 : decode cX5_read 43 = .ok (.getfield 29, 3) := by decide +kernel
theorem dX5_read_46 : decode cX5_read 46 = .ok (.invokevirtual 100, 3) := by decide +kernel
theorem dX5_read_49 : decode cX5_read 49 = .ok (.if_icmp .ge 45, 3) := by decide +kernel
theorem dX5_read_52 : decode cX5_read 52 = .ok (.aload_n 0, 1) := by decide +kernel
theorem dX5_read_53 : decode cX5_read 53 = .ok (.getfield 12, 3) := by decide +kernel
theorem dX5_read_56 : decode cX5_read 56 = .ok (.invokevirtual 62, 3) := by decide +kernel
theorem dX5_read_59 : decode cX5_read 59 = .ok (.ifCond .ne 35, 3) := by decide +kernel
theorem dX5_read_62 : decode cX5_read 62 = .ok (.aload_n 0, 1) := by decide +kernel
theorem dX5_read_63 : decode cX5_read 63 = .ok (.getfield 12, 3) := by decide +kernel
theorem dX5_read_66 : decode cX5_read 66 = .ok (.aload_n 0, 1) := by decide +kernel
theorem dX5_read_67 : decode cX5_read 67 = .ok (.getfield 29, 3) := by decide +kernel
theorem dX5_read_70 : decode cX5_read 70 = .ok (.iload_n 1, 1) := by decide +kernel
theorem dX5_read_71 : decode cX5_read 71 = .ok (.invokevirtual 103, 3) := by decide +kernel
theorem dX5_read_74 : decode cX5_read 74 = .ok (.aload_n 0, 1) := by decide +kernel
theorem dX5_read_75 : decode cX5_read 75 = .ok (.getfield 29, 3) := by decide +kernel
theorem dX5_read_78 : decode cX5_read 78 = .ok (.iload_n 1, 1) := by decide +kernel
theorem dX5_read_79 : decode cX5_read 79 = .ok (.invokevirtual 106, 3) := by decide +kernel
theorem dX5_read_82 : decode cX5_read 82 = .ok (.invokevirtual 109, 3) := by decide +kernel
theorem dX5_read_85 : decode cX5_read 85 = .ok (.ifCond .eq 9, 3) := by decide +kernel
theorem dX5_read_88 : decode cX5_read 88 = .ok (.iinc 1 1, 3) := by decide +kernel
theorem dX5_read_91 : decode cX5_read 91 = .ok (.goto (-50), 3) := by decide +kernel
theorem dX5_read_94 : decode cX5_read 94 = .ok (.aload_n 0, 1) := by decide +kernel
theorem dX5_read_95 : decode cX5_read 95 = .ok (.getfield 29, 3) := by decide +kernel
theorem dX5_read_98 : decode cX5_read 98 = .ok (.iconst 0, 1) := by decide +kernel
theorem dX5_read_99 : decode cX5_read 99 = .ok (.putfield 113, 3) := by decide +kernel
theorem dX5_read_102 : decode cX5_read 102 = .ok (.iload_n 1, 1) := by decide +kernel
theorem dX5_read_103 : decode cX5_read 103 = .ok (.ireturn, 1) := by decide +kernel
theorem dX5_lay_0 : decode cX5_lay 0 = .ok (.iload_n 1, 1) := by decide +kernel
theorem dX5_lay_1 : decode cX5_lay 1 = .ok (.invokestatic 116, 3) := by decide +kernel
theorem dX5_lay_4 : decode cX5_lay 4 = .ok (.ifCond .eq 5, 3) := by decide +kernel
theorem dX5_lay_7 : decode cX5_lay 7 = .ok (.iconst (-1), 1) := by decide +kernel
theorem dX5_lay_8 : decode cX5_lay 8 = .ok (.ireturn, 1) := by decide +kernel
theorem dX5_lay_9 : decode cX5_lay 9 = .ok (.iload_n 2, 1) := by decide +kernel
theorem dX5_lay_10 : decode cX5_lay 10 = .ok (.bipush (-6), 2) := by decide +kernel
theorem dX5_lay_12 : decode cX5_lay 12 = .ok (.if_icmp .eq 16, 3) := by decide +kernel
theorem dX5_lay_15 : decode cX5_lay 15 = .ok (.iload_n 2, 1) := by decide +kernel
theorem dX5_lay_16 : decode cX5_lay 16 = .ok (.ifCond .lt 9, 3) := by decide +kernel
theorem dX5_lay_19 : decode cX5_lay 19 = .ok (.iload_n 2, 1) := by decide +kernel
theorem dX5_lay_20 : decode cX5_lay 20 = .ok (.bipush 35, 2) := by decide +kernel
theorem dX5_lay_22 : decode cX5_lay 22 = .ok (.if_icmp .le 6, 3) := by decide +kernel
theorem dX5_lay_25 : decode cX5_lay 25 = .ok (.bipush (-2), 2) := by decide +kernel
theorem dX5_lay_27 : decode cX5_lay 27 = .ok (.ireturn, 1) := by decide +kernel
theorem dX5_lay_28 : decode cX5_lay 28 = .ok (.aload_n 0, 1) := by decide +kernel
theorem dX5_lay_29 : decode cX5_lay 29 = .ok (.getfield 12, 3) := by decide +kernel
theorem dX5_lay_32 : decode cX5_lay 32 = .ok (.getfield 119, 3) := by decide +kernel
theorem dX5_lay_35 : decode cX5_lay 35 = .ok (.iload_n 1, 1) := by decide +kernel
theorem dX5_lay_36 : decode cX5_lay 36 = .ok (.iload_n 2, 1) := by decide +kernel
theorem dX5_lay_37 : decode cX5_lay 37 = .ok (.invokevirtual 123, 3) := by decide +kernel
theorem dX5_lay_40 : decode cX5_lay 40 = .ok (.ifCond .ne 6, 3) := by decide +kernel
theorem dX5_lay_43 : decode cX5_lay 43 = .ok (.bipush (-5), 2) := by decide +kernel
theorem dX5_lay_45 : decode cX5_lay 45 = .ok (.ireturn, 1) := by decide +kernel
theorem dX5_lay_46 : decode cX5_lay 46 = .ok (.aload_n 0, 1) := by decide +kernel
theorem dX5_lay_47 : decode cX5_lay 47 = .ok (.getfield 36, 3) := by decide +kernel
theorem dX5_lay_50 : decode cX5_lay 50 = .ok (.aload_n 0, 1) := by decide +kernel
theorem dX5_lay_51 : decode cX5_lay 51 = .ok (.getfield 12, 3) := by decide +kernel
theorem dX5_lay_54 : decode cX5_lay 54 = .ok (.invokevirtual 51, 3) := by decide +kernel
theorem dX5_lay_57 : decode cX5_lay 57 = .ok (.aload_n 0, 1) := by decide +kernel
theorem dX5_lay_58 : decode cX5_lay 58 = .ok (.getfield 12, 3) := by decide +kernel
theorem dX5_lay_61 : decode cX5_lay 61 = .ok (.getfield 119, 3) := by decide +kernel
theorem dX5_lay_64 : decode cX5_lay 64 = .ok (.getfield 128, 3) := by decide +kernel
theorem dX5_lay_67 : decode cX5_lay 67 = .ok (.iload_n 1, 1) := by decide +kernel
theorem dX5_lay_68 : decode cX5_lay 68 = .ok (.iaload, 1) := by decide +kernel
theorem dX5_lay_69 : decode cX5_lay 69 = .ok (.istore_n 3, 1) := by decide +kernel
theorem dX5_lay_70 : decode cX5_lay 70 = .ok (.aload_n 0, 1) := by decide +kernel
theorem dX5_lay_71 : decode cX5_lay 71 = .ok (.getfield 12, 3) := by decide +kernel
theorem dX5_lay_74 : decode cX5_lay 74 = .ok (.getfield 119, 3) := by decide +kernel
theorem dX5_lay_77 : decode cX5_lay 77 = .ok (.iload_n 1, 1) := by decide +kernel
theorem dX5_lay_78 : decode cX5_lay 78 = .ok (.iload_n 2, 1) := by decide +kernel
theorem dX5_lay_79 : decode cX5_lay 79 = .ok (.aload_n 0, 1) := by decide +kernel
theorem dX5_lay_80 : decode cX5_lay 80 = .ok (.getfield 12, 3) := by decide +kernel
theorem dX5_lay_83 : decode cX5_lay 83 = .ok (.getfield 131, 3) := by decide +kernel
theorem dX5_lay_86 : decode cX5_lay 86 = .ok (.invokevirtual 134, 3) := by decide +kernel
theorem dX5_lay_89 : decode cX5_lay 89 = .ok (.iload_n 3, 1) := by decide +kernel
theorem dX5_lay_90 : decode cX5_lay 90 = .ok (.ireturn, 1) := by decide +kernel
theorem dX5_piece_0 : decode cX5_piece 0 = .ok (.iload_n 1, 1) := by decide +kernel
theorem dX5_piece_1 : decode cX5_piece 1 = .ok (.invokestatic 116, 3) := by decide +kernel
theorem dX5_piece_4 : decode cX5_piece 4 = .ok (.ifCond .eq 5, 3) := by decide +kernel
theorem dX5_piece_7 : decode cX5_piece 7 = .ok (.iconst (-1), 1) := by decide +kernel
theorem dX5_piece_8 : decode cX5_piece 8 = .ok (.ireturn, 1) := by decide +kernel
theorem dX5_piece_9 : decode cX5_piece 9 = .ok (.iload_n 2, 1) := by decide +kernel
theorem dX5_piece_10 : decode cX5_piece 10 = .ok (.tableswitch 88 0 3 #[30, 43, 55, 75], 30) := by decide +kernel
theorem dX5_piece_40 : decode cX5_piece 40 = .ok (.aload_n 0, 1) := by decide +kernel
theorem dX5_piece_41 : decode cX5_piece 41 = .ok (.getfield 12, 3) := by decide +kernel
theorem dX5_piece_44 : decode cX5_piece 44 = .ok (.getfield 119, 3) := by decide +kernel
theorem dX5_piece_47 : decode cX5_piece 47 = .ok (.getfield 128, 3) := by decide +kernel
theorem dX5_piece_50 : decode cX5_piece 50 = .ok (.iload_n 1, 1) := by decide +kernel
theorem dX5_piece_51 : decode cX5_piece 51 = .ok (.iaload, 1) := by decide +kernel
theorem dX5_piece_52 : decode cX5_piece 52 = .ok (.ireturn, 1) := by decide +kernel
theorem dX5_piece_53 : decode cX5_piece 53 = .ok (.aload_n 0, 1) := by decide +kernel
theorem dX5_piece_54 : decode cX5_piece 54 = .ok (.getfield 12, 3) := by decide +kernel
theorem dX5_piece_57 : decode cX5_piece 57 = .ok (.getfield 119, 3) := by decide +kernel
theorem dX5_piece_60 : decode cX5_piece 60 = .ok (.iload_n 1, 1) := by decide +kernel
theorem dX5_piece_61 : decode cX5_piece 61 = .ok (.invokevirtual 138, 3) := by decide +kernel
theorem dX5_piece_64 : decode cX5_piece 64 = .ok (.ireturn, 1) := by decide +kernel
theorem dX5_piece_65 : decode cX5_piece 65 = .ok (.aload_n 0, 1) := by decide +kernel
theorem dX5_piece_66 : decode cX5_piece 66 = .ok (.getfield 12, 3) := by decide +kernel
theorem dX5_piece_69 : decode cX5_piece 69 = .ok (.getfield 119, 3) := by decide +kernel
theorem dX5_piece_72 : decode cX5_piece 72 = .ok (.iload_n 1, 1) := by decide +kernel
theorem dX5_piece_73 : decode cX5_piece 73 = .ok (.invokevirtual 141, 3) := by decide +kernel
theorem dX5_piece_76 : decode cX5_piece 76 = .ok (.ifCond .eq 7, 3) := by decide +kernel
theorem dX5_piece_79 : decode cX5_piece 79 = .ok (.iconst 1, 1) := by decide +kernel
theorem dX5_piece_80 : decode cX5_piece 80 = .ok (.goto 4, 3) := by decide +kernel
theorem dX5_piece_83 : decode cX5_piece 83 = .ok (.iconst 0, 1) := by decide +kernel
theorem dX5_piece_84 : decode cX5_piece 84 = .ok (.ireturn, 1) := by decide +kernel
theorem dX5_piece_85 : decode cX5_piece 85 = .ok (.aload_n 0, 1) := by decide +kernel
theorem dX5_piece_86 : decode cX5_piece 86 = .ok (.getfield 12, 3) := by decide +kernel
theorem dX5_piece_89 : decode cX5_piece 89 = .ok (.getfield 119, 3) := by decide +kernel
theorem dX5_piece_92 : decode cX5_piece 92 = .ok (.getfield 144, 3) := by decide +kernel
theorem dX5_piece_95 : decode cX5_piece 95 = .ok (.iload_n 1, 1) := by decide +kernel
theorem dX5_piece_96 : decode cX5_piece 96 = .ok (.iaload, 1) := by decide +kernel
theorem dX5_piece_97 : decode cX5_piece 97 = .ok (.ireturn, 1) := by decide +kernel
theorem dX5_piece_98 : decode cX5_piece 98 = .ok (.bipush (-2), 2) := by decide +kernel
theorem dX5_piece_100 : decode cX5_piece 100 = .ok (.ireturn, 1) := by decide +kernel
theorem dX5_field_0 : decode cX5_field 0 = .ok (.iload_n 1, 1) := by decide +kernel
theorem dX5_field_1 : decode cX5_field 1 = .ok (.ifCond .lt 9, 3) := by decide +kernel
theorem dX5_field_4 : decode cX5_field 4 = .ok (.iload_n 1, 1) := by decide +kernel
theorem dX5_field_5 : decode cX5_field 5 = .ok (.bipush 32, 2) := by decide +kernel
theorem dX5_field_7 : decode cX5_field 7 = .ok (.if_icmp .lt 5, 3) := by decide +kernel
theorem dX5_field_10 : decode cX5_field 10 = .ok (.iconst (-1), 1) := by decide +kernel
theorem dX5_field_11 : decode cX5_field 11 = .ok (.ireturn, 1) := by decide +kernel
theorem dX5_field_12 : decode cX5_field 12 = .ok (.iload_n 2, 1) := by decide +kernel
theorem dX5_field_13 : decode cX5_field 13 = .ok (.tableswitch 93 0 4 #[35, 47, 59, 72, 84], 35) := by decide +kernel
theorem dX5_field_48 : decode cX5_field 48 = .ok (.aload_n 0, 1) := by decide +kernel
theorem dX5_field_49 : decode cX5_field 49 = .ok (.getfield 12, 3) := by decide +kernel
theorem dX5_field_52 : decode cX5_field 52 = .ok (.getfield 119, 3) := by decide +kernel
theorem dX5_field_55 : decode cX5_field 55 = .ok (.iload_n 1, 1) := by decide +kernel
theorem dX5_field_56 : decode cX5_field 56 = .ok (.invokevirtual 147, 3) := by decide +kernel
theorem dX5_field_59 : decode cX5_field 59 = .ok (.ireturn, 1) := by decide +kernel
theorem dX5_field_60 : decode cX5_field 60 = .ok (.aload_n 0, 1) := by decide +kernel
theorem dX5_field_61 : decode cX5_field 61 = .ok (.getfield 12, 3) := by decide +kernel
theorem dX5_field_64 : decode cX5_field 64 = .ok (.getfield 119, 3) := by decide +kernel
theorem dX5_field_67 : decode cX5_field 67 = .ok (.iload_n 1, 1) := by decide +kernel
theorem dX5_field_68 : decode cX5_field 68 = .ok (.invokevirtual 150, 3) := by decide +kernel
theorem dX5_field_71 : decode cX5_field 71 = .ok (.ireturn, 1) := by decide +kernel
theorem dX5_field_72 : decode cX5_field 72 = .ok (.iload_n 1, 1) := by decide +kernel
theorem dX5_field_73 : decode cX5_field 73 = .ok (.invokestatic 153, 3) := by decide +kernel
theorem dX5_field_76 : decode cX5_field 76 = .ok (.ifCond .eq 7, 3) := by decide +kernel
theorem dX5_field_79 : decode cX5_field 79 = .ok (.iconst 1, 1) := by decide +kernel
theorem dX5_field_80 : decode cX5_field 80 = .ok (.goto 4, 3) := by decide +kernel
theorem dX5_field_83 : decode cX5_field 83 = .ok (.iconst 0, 1) := by decide +kernel
theorem dX5_field_84 : decode cX5_field 84 = .ok (.ireturn, 1) := by decide +kernel
theorem dX5_field_85 : decode cX5_field 85 = .ok (.aload_n 0, 1) := by decide +kernel
theorem dX5_field_86 : decode cX5_field 86 = .ok (.getfield 12, 3) := by decide +kernel
theorem dX5_field_89 : decode cX5_field 89 = .ok (.getfield 119, 3) := by decide +kernel
theorem dX5_field_92 : decode cX5_field 92 = .ok (.iload_n 1, 1) := by decide +kernel
theorem dX5_field_93 : decode cX5_field 93 = .ok (.invokevirtual 156, 3) := by decide +kernel
theorem dX5_field_96 : decode cX5_field 96 = .ok (.ireturn, 1) := by decide +kernel
theorem dX5_field_97 : decode cX5_field 97 = .ok (.aload_n 0, 1) := by decide +kernel
theorem dX5_field_98 : decode cX5_field 98 = .ok (.getfield 12, 3) := by decide +kernel
theorem dX5_field_101 : decode cX5_field 101 = .ok (.iload_n 1, 1) := by decide +kernel
theorem dX5_field_102 : decode cX5_field 102 = .ok (.invokevirtual 159, 3) := by decide +kernel
theorem dX5_field_105 : decode cX5_field 105 = .ok (.ireturn, 1) := by decide +kernel
theorem dX5_field_106 : decode cX5_field 106 = .ok (.bipush (-2), 2) := by decide +kernel
theorem dX5_field_108 : decode cX5_field 108 = .ok (.ireturn, 1) := by decide +kernel
theorem dX5_why_0 : decode cX5_why 0 = .ok (.iload_n 1, 1) := by decide +kernel
theorem dX5_why_1 : decode cX5_why 1 = .ok (.invokestatic 116, 3) := by decide +kernel
theorem dX5_why_4 : decode cX5_why 4 = .ok (.ifCond .eq 5, 3) := by decide +kernel
theorem dX5_why_7 : decode cX5_why 7 = .ok (.iconst (-1), 1) := by decide +kernel
theorem dX5_why_8 : decode cX5_why 8 = .ok (.ireturn, 1) := by decide +kernel
theorem dX5_why_9 : decode cX5_why 9 = .ok (.iload_n 2, 1) := by decide +kernel
theorem dX5_why_10 : decode cX5_why 10 = .ok (.iconst 1, 1) := by decide +kernel
theorem dX5_why_11 : decode cX5_why 11 = .ok (.if_icmp .lt 9, 3) := by decide +kernel
theorem dX5_why_14 : decode cX5_why 14 = .ok (.iload_n 2, 1) := by decide +kernel
theorem dX5_why_15 : decode cX5_why 15 = .ok (.bipush 6, 2) := by decide +kernel
theorem dX5_why_17 : decode cX5_why 17 = .ok (.if_icmp .le 6, 3) := by decide +kernel
theorem dX5_why_20 : decode cX5_why 20 = .ok (.bipush (-2), 2) := by decide +kernel
theorem dX5_why_22 : decode cX5_why 22 = .ok (.ireturn, 1) := by decide +kernel
theorem dX5_why_23 : decode cX5_why 23 = .ok (.aload_n 0, 1) := by decide +kernel
theorem dX5_why_24 : decode cX5_why 24 = .ok (.getfield 12, 3) := by decide +kernel
theorem dX5_why_27 : decode cX5_why 27 = .ok (.iload_n 1, 1) := by decide +kernel
theorem dX5_why_28 : decode cX5_why 28 = .ok (.iload_n 2, 1) := by decide +kernel
theorem dX5_why_29 : decode cX5_why 29 = .ok (.invokevirtual 78, 3) := by decide +kernel
theorem dX5_why_32 : decode cX5_why 32 = .ok (.ireturn, 1) := by decide +kernel
theorem dX5_count_0 : decode cX5_count 0 = .ok (.iload_n 1, 1) := by decide +kernel
theorem dX5_count_1 : decode cX5_count 1 = .ok (.tableswitch 212 0 17 #[87, 87, 87, 97, 105, 113, 121, 129, 137, 148, 148, 148, 148, 163, 174, 185, 196, 204], 87) := by decide +kernel
theorem dX5_count_88 : decode cX5_count 88 = .ok (.aload_n 0, 1) := by decide +kernel
theorem dX5_count_89 : decode cX5_count 89 = .ok (.getfield 12, 3) := by decide +kernel
theorem dX5_count_92 : decode cX5_count 92 = .ok (.getfield 55, 3) := by decide +kernel
theorem dX5_count_95 : decode cX5_count 95 = .ok (.iload_n 1, 1) := by decide +kernel
theorem dX5_count_96 : decode cX5_count 96 = .ok (.iaload, 1) := by decide +kernel
theorem dX5_count_97 : decode cX5_count 97 = .ok (.ireturn, 1) := by decide +kernel
theorem dX5_count_98 : decode cX5_count 98 = .ok (.aload_n 0, 1) := by decide +kernel
theorem dX5_count_99 : decode cX5_count 99 = .ok (.getfield 12, 3) := by decide +kernel
theorem dX5_count_102 : decode cX5_count 102 = .ok (.getfield 58, 3) := by decide +kernel
theorem dX5_count_105 : decode cX5_count 105 = .ok (.ireturn, 1) := by decide +kernel
theorem dX5_count_106 : decode cX5_count 106 = .ok (.aload_n 0, 1) := by decide +kernel
theorem dX5_count_107 : decode cX5_count 107 = .ok (.getfield 12, 3) := by decide +kernel
theorem dX5_count_110 : decode cX5_count 110 = .ok (.getfield 75, 3) := by decide +kernel
theorem dX5_count_113 : decode cX5_count 113 = .ok (.ireturn, 1) := by decide +kernel
theorem dX5_count_114 : decode cX5_count 114 = .ok (.aload_n 0, 1) := by decide +kernel
theorem dX5_count_115 : decode cX5_count 115 = .ok (.getfield 12, 3) := by decide +kernel
theorem dX5_count_118 : decode cX5_count 118 = .ok (.getfield 72, 3) := by decide +kernel
theorem dX5_count_121 : decode cX5_count 121 = .ok (.ireturn, 1) := by decide +kernel
theorem dX5_count_122 : decode cX5_count 122 = .ok (.aload_n 0, 1) := by decide +kernel
theorem dX5_count_123 : decode cX5_count 123 = .ok (.getfield 12, 3) := by decide +kernel
theorem dX5_count_126 : decode cX5_count 126 = .ok (.getfield 131, 3) := by decide +kernel
theorem dX5_count_129 : decode cX5_count 129 = .ok (.ireturn, 1) := by decide +kernel
theorem dX5_count_130 : decode cX5_count 130 = .ok (.aload_n 0, 1) := by decide +kernel
theorem dX5_count_131 : decode cX5_count 131 = .ok (.getfield 12, 3) := by decide +kernel
theorem dX5_count_134 : decode cX5_count 134 = .ok (.getfield 162, 3) := by decide +kernel
theorem dX5_count_137 : decode cX5_count 137 = .ok (.ireturn, 1) := by decide +kernel
theorem dX5_count_138 : decode cX5_count 138 = .ok (.aload_n 0, 1) := by decide +kernel
theorem dX5_count_139 : decode cX5_count 139 = .ok (.getfield 12, 3) := by decide +kernel
theorem dX5_count_142 : decode cX5_count 142 = .ok (.getfield 119, 3) := by decide +kernel
theorem dX5_count_145 : decode cX5_count 145 = .ok (.invokevirtual 165, 3) := by decide +kernel
theorem dX5_count_148 : decode cX5_count 148 = .ok (.ireturn, 1) := by decide +kernel
theorem dX5_count_149 : decode cX5_count 149 = .ok (.aload_n 0, 1) := by decide +kernel
theorem dX5_count_150 : decode cX5_count 150 = .ok (.getfield 12, 3) := by decide +kernel
theorem dX5_count_153 : decode cX5_count 153 = .ok (.getfield 119, 3) := by decide +kernel
theorem dX5_count_156 : decode cX5_count 156 = .ok (.iload_n 1, 1) := by decide +kernel
theorem dX5_count_157 : decode cX5_count 157 = .ok (.bipush 9, 2) := by decide +kernel
theorem dX5_count_159 : decode cX5_count 159 = .ok (.isub, 1) := by decide +kernel
theorem dX5_count_160 : decode cX5_count 160 = .ok (.invokevirtual 168, 3) := by decide +kernel
theorem dX5_count_163 : decode cX5_count 163 = .ok (.ireturn, 1) := by decide +kernel
theorem dX5_count_164 : decode cX5_count 164 = .ok (.aload_n 0, 1) := by decide +kernel
theorem dX5_count_165 : decode cX5_count 165 = .ok (.getfield 12, 3) := by decide +kernel
theorem dX5_count_168 : decode cX5_count 168 = .ok (.getfield 119, 3) := by decide +kernel
theorem dX5_count_171 : decode cX5_count 171 = .ok (.invokevirtual 171, 3) := by decide +kernel
theorem dX5_count_174 : decode cX5_count 174 = .ok (.ireturn, 1) := by decide +kernel
theorem dX5_count_175 : decode cX5_count 175 = .ok (.aload_n 0, 1) := by decide +kernel
theorem dX5_count_176 : decode cX5_count 176 = .ok (.getfield 12, 3) := by decide +kernel
theorem dX5_count_179 : decode cX5_count 179 = .ok (.getfield 119, 3) := by decide +kernel
theorem dX5_count_182 : decode cX5_count 182 = .ok (.invokevirtual 174, 3) := by decide +kernel
theorem dX5_count_185 : decode cX5_count 185 = .ok (.ireturn, 1) := by decide +kernel
theorem dX5_count_186 : decode cX5_count 186 = .ok (.aload_n 0, 1) := by decide +kernel
theorem dX5_count_187 : decode cX5_count 187 = .ok (.getfield 12, 3) := by decide +kernel
theorem dX5_count_190 : decode cX5_count 190 = .ok (.getfield 119, 3) := by decide +kernel
theorem dX5_count_193 : decode cX5_count 193 = .ok (.getfield 177, 3) := by decide +kernel
theorem dX5_count_196 : decode cX5_count 196 = .ok (.ireturn, 1) := by decide +kernel
theorem dX5_count_197 : decode cX5_count 197 = .ok (.aload_n 0, 1) := by decide +kernel
theorem dX5_count_198 : decode cX5_count 198 = .ok (.getfield 29, 3) := by decide +kernel
theorem dX5_count_201 : decode cX5_count 201 = .ok (.getfield 113, 3) := by decide +kernel
theorem dX5_count_204 : decode cX5_count 204 = .ok (.ireturn, 1) := by decide +kernel
theorem dX5_count_205 : decode cX5_count 205 = .ok (.aload_n 0, 1) := by decide +kernel
theorem dX5_count_206 : decode cX5_count 206 = .ok (.getfield 36, 3) := by decide +kernel
theorem dX5_count_209 : decode cX5_count 209 = .ok (.getfield 180, 3) := by decide +kernel
theorem dX5_count_212 : decode cX5_count 212 = .ok (.ireturn, 1) := by decide +kernel
theorem dX5_count_213 : decode cX5_count 213 = .ok (.bipush (-2), 2) := by decide +kernel
theorem dX5_count_215 : decode cX5_count 215 = .ok (.ireturn, 1) := by decide +kernel
theorem dX5_best_0 : decode cX5_best 0 = .ok (.aload_n 0, 1) := by decide +kernel
theorem dX5_best_1 : decode cX5_best 1 = .ok (.getfield 12, 3) := by decide +kernel
theorem dX5_best_4 : decode cX5_best 4 = .ok (.invokevirtual 66, 3) := by decide +kernel
theorem dX5_best_7 : decode cX5_best 7 = .ok (.ifCond .ne 6, 3) := by decide +kernel
theorem dX5_best_10 : decode cX5_best 10 = .ok (.bipush (-5), 2) := by decide +kernel
theorem dX5_best_12 : decode cX5_best 12 = .ok (.ireturn, 1) := by decide +kernel
theorem dX5_best_13 : decode cX5_best 13 = .ok (.aload_n 0, 1) := by decide +kernel
theorem dX5_best_14 : decode cX5_best 14 = .ok (.getfield 12, 3) := by decide +kernel
theorem dX5_best_17 : decode cX5_best 17 = .ok (.invokevirtual 183, 3) := by decide +kernel
theorem dX5_best_20 : decode cX5_best 20 = .ok (.istore_n 1, 1) := by decide +kernel
theorem dX5_best_21 : decode cX5_best 21 = .ok (.iload_n 1, 1) := by decide +kernel
theorem dX5_best_22 : decode cX5_best 22 = .ok (.bipush (-6), 2) := by decide +kernel
theorem dX5_best_24 : decode cX5_best 24 = .ok (.if_icmp .ne 8, 3) := by decide +kernel
theorem dX5_best_27 : decode cX5_best 27 = .ok (.bipush (-6), 2) := by decide +kernel
theorem dX5_best_29 : decode cX5_best 29 = .ok (.goto 6, 3) := by decide +kernel
theorem dX5_best_32 : decode cX5_best 32 = .ok (.iload_n 1, 1) := by decide +kernel
theorem dX5_best_33 : decode cX5_best 33 = .ok (.iconst 3, 1) := by decide +kernel
theorem dX5_best_34 : decode cX5_best 34 = .ok (.irem, 1) := by decide +kernel
theorem dX5_best_35 : decode cX5_best 35 = .ok (.ireturn, 1) := by decide +kernel
theorem dX5_needs_0 : decode cX5_needs 0 = .ok (.iload_n 1, 1) := by decide +kernel
theorem dX5_needs_1 : decode cX5_needs 1 = .ok (.invokestatic 116, 3) := by decide +kernel
theorem dX5_needs_4 : decode cX5_needs 4 = .ok (.ifCond .eq 5, 3) := by decide +kernel
theorem dX5_needs_7 : decode cX5_needs 7 = .ok (.iconst (-1), 1) := by decide +kernel
theorem dX5_needs_8 : decode cX5_needs 8 = .ok (.ireturn, 1) := by decide +kernel
theorem dX5_needs_9 : decode cX5_needs 9 = .ok (.iload_n 2, 1) := by decide +kernel
theorem dX5_needs_10 : decode cX5_needs 10 = .ok (.ifCond .eq 11, 3) := by decide +kernel
theorem dX5_needs_13 : decode cX5_needs 13 = .ok (.iload_n 2, 1) := by decide +kernel
theorem dX5_needs_14 : decode cX5_needs 14 = .ok (.iconst 1, 1) := by decide +kernel
theorem dX5_needs_15 : decode cX5_needs 15 = .ok (.if_icmp .eq 6, 3) := by decide +kernel
theorem dX5_needs_18 : decode cX5_needs 18 = .ok (.bipush (-2), 2) := by decide +kernel
theorem dX5_needs_20 : decode cX5_needs 20 = .ok (.ireturn, 1) := by decide +kernel
theorem dX5_needs_21 : decode cX5_needs 21 = .ok (.iload_n 1, 1) := by decide +kernel
theorem dX5_needs_22 : decode cX5_needs 22 = .ok (.iconst 3, 1) := by decide +kernel
theorem dX5_needs_23 : decode cX5_needs 23 = .ok (.idiv, 1) := by decide +kernel
theorem dX5_needs_24 : decode cX5_needs 24 = .ok (.istore_n 3, 1) := by decide +kernel
theorem dX5_needs_25 : decode cX5_needs 25 = .ok (.aload_n 0, 1) := by decide +kernel
theorem dX5_needs_26 : decode cX5_needs 26 = .ok (.getfield 12, 3) := by decide +kernel
theorem dX5_needs_29 : decode cX5_needs 29 = .ok (.getfield 119, 3) := by decide +kernel
theorem dX5_needs_32 : decode cX5_needs 32 = .ok (.getfield 128, 3) := by decide +kernel
theorem dX5_needs_35 : decode cX5_needs 35 = .ok (.iload_n 1, 1) := by decide +kernel
theorem dX5_needs_36 : decode cX5_needs 36 = .ok (.iaload, 1) := by decide +kernel
theorem dX5_needs_37 : decode cX5_needs 37 = .ok (.istore 4, 2) := by decide +kernel
theorem dX5_needs_39 : decode cX5_needs 39 = .ok (.iload 4, 2) := by decide +kernel
theorem dX5_needs_41 : decode cX5_needs 41 = .ok (.bipush (-6), 2) := by decide +kernel
theorem dX5_needs_43 : decode cX5_needs 43 = .ok (.if_icmp .ne 7, 3) := by decide +kernel
theorem dX5_needs_46 : decode cX5_needs 46 = .ok (.iconst 1, 1) := by decide +kernel
theorem dX5_needs_47 : decode cX5_needs 47 = .ok (.goto 4, 3) := by decide +kernel
theorem dX5_needs_50 : decode cX5_needs 50 = .ok (.iconst 0, 1) := by decide +kernel
theorem dX5_needs_51 : decode cX5_needs 51 = .ok (.istore 5, 2) := by decide +kernel
theorem dX5_needs_53 : decode cX5_needs 53 = .ok (.iload 4, 2) := by decide +kernel
theorem dX5_needs_55 : decode cX5_needs 55 = .ok (.bipush (-6), 2) := by decide +kernel
theorem dX5_needs_57 : decode cX5_needs 57 = .ok (.if_icmp .ne 7, 3) := by decide +kernel
theorem dX5_needs_60 : decode cX5_needs 60 = .ok (.iconst 0, 1) := by decide +kernel
theorem dX5_needs_61 : decode cX5_needs 61 = .ok (.goto 5, 3) := by decide +kernel
theorem dX5_needs_64 : decode cX5_needs 64 = .ok (.iload 4, 2) := by decide +kernel
theorem dX5_needs_66 : decode cX5_needs 66 = .ok (.istore 6, 2) := by decide +kernel
theorem dX5_needs_68 : decode cX5_needs 68 = .ok (.iload 5, 2) := by decide +kernel
theorem dX5_needs_70 : decode cX5_needs 70 = .ok (.iload_n 2, 1) := by decide +kernel
theorem dX5_needs_71 : decode cX5_needs 71 = .ok (.ifCond .ne 23, 3) := by decide +kernel
theorem dX5_needs_74 : decode cX5_needs 74 = .ok (.aload_n 0, 1) := by decide +kernel
theorem dX5_needs_75 : decode cX5_needs 75 = .ok (.getfield 22, 3) := by decide +kernel
theorem dX5_needs_78 : decode cX5_needs 78 = .ok (.aload_n 0, 1) := by decide +kernel
theorem dX5_needs_79 : decode cX5_needs 79 = .ok (.getfield 12, 3) := by decide +kernel
theorem dX5_needs_82 : decode cX5_needs 82 = .ok (.getfield 119, 3) := by decide +kernel
theorem dX5_needs_85 : decode cX5_needs 85 = .ok (.iload_n 3, 1) := by decide +kernel
theorem dX5_needs_86 : decode cX5_needs 86 = .ok (.iload 6, 2) := by decide +kernel
theorem dX5_needs_88 : decode cX5_needs 88 = .ok (.invokevirtual 186, 3) := by decide +kernel
theorem dX5_needs_91 : decode cX5_needs 91 = .ok (.goto 20, 3) := by decide +kernel
theorem dX5_needs_94 : decode cX5_needs 94 = .ok (.aload_n 0, 1) := by decide +kernel
theorem dX5_needs_95 : decode cX5_needs 95 = .ok (.getfield 22, 3) := by decide +kernel
theorem dX5_needs_98 : decode cX5_needs 98 = .ok (.aload_n 0, 1) := by decide +kernel
theorem dX5_needs_99 : decode cX5_needs 99 = .ok (.getfield 12, 3) := by decide +kernel
theorem dX5_needs_102 : decode cX5_needs 102 = .ok (.getfield 119, 3) := by decide +kernel
theorem dX5_needs_105 : decode cX5_needs 105 = .ok (.iload_n 3, 1) := by decide +kernel
theorem dX5_needs_106 : decode cX5_needs 106 = .ok (.iload 6, 2) := by decide +kernel
theorem dX5_needs_108 : decode cX5_needs 108 = .ok (.invokevirtual 190, 3) := by decide +kernel
theorem dX5_needs_111 : decode cX5_needs 111 = .ok (.iadd, 1) := by decide +kernel
theorem dX5_needs_112 : decode cX5_needs 112 = .ok (.ireturn, 1) := by decide +kernel
theorem dX5_nextCast_0 : decode cX5_nextCast 0 = .ok (.iload_n 1, 1) := by decide +kernel
theorem dX5_nextCast_1 : decode cX5_nextCast 1 = .ok (.ifCond .lt 9, 3) := by decide +kernel
theorem dX5_nextCast_4 : decode cX5_nextCast 4 = .ok (.iload_n 1, 1) := by decide +kernel
theorem dX5_nextCast_5 : decode cX5_nextCast 5 = .ok (.bipush 99, 2) := by decide +kernel
theorem dX5_nextCast_7 : decode cX5_nextCast 7 = .ok (.if_icmp .le 6, 3) := by decide +kernel
theorem dX5_nextCast_10 : decode cX5_nextCast 10 = .ok (.bipush (-2), 2) := by decide +kernel
theorem dX5_nextCast_12 : decode cX5_nextCast 12 = .ok (.ireturn, 1) := by decide +kernel
theorem dX5_nextCast_13 : decode cX5_nextCast 13 = .ok (.aload_n 0, 1) := by decide +kernel
theorem dX5_nextCast_14 : decode cX5_nextCast 14 = .ok (.getfield 12, 3) := by decide +kernel
theorem dX5_nextCast_17 : decode cX5_nextCast 17 = .ok (.getfield 58, 3) := by decide +kernel
theorem dX5_nextCast_20 : decode cX5_nextCast 20 = .ok (.istore_n 2, 1) := by decide +kernel
theorem dX5_nextCast_21 : decode cX5_nextCast 21 = .ok (.iconst 0, 1) := by decide +kernel
theorem dX5_nextCast_22 : decode cX5_nextCast 22 = .ok (.istore_n 3, 1) := by decide +kernel
theorem dX5_nextCast_23 : decode cX5_nextCast 23 = .ok (.iload_n 3, 1) := by decide +kernel
theorem dX5_nextCast_24 : decode cX5_nextCast 24 = .ok (.iload_n 1, 1) := by decide +kernel
theorem dX5_nextCast_25 : decode cX5_nextCast 25 = .ok (.if_icmp .gt 14, 3) := by decide +kernel
theorem dX5_nextCast_28 : decode cX5_nextCast 28 = .ok (.iload_n 2, 1) := by decide +kernel
theorem dX5_nextCast_29 : decode cX5_nextCast 29 = .ok (.invokestatic 193, 3) := by decide +kernel
theorem dX5_nextCast_32 : decode cX5_nextCast 32 = .ok (.istore_n 2, 1) := by decide +kernel
theorem dX5_nextCast_33 : decode cX5_nextCast 33 = .ok (.iinc 3 1, 3) := by decide +kernel
theorem dX5_nextCast_36 : decode cX5_nextCast 36 = .ok (.goto (-13), 3) := by decide +kernel
theorem dX5_nextCast_39 : decode cX5_nextCast 39 = .ok (.iload_n 2, 1) := by decide +kernel
theorem dX5_nextCast_40 : decode cX5_nextCast 40 = .ok (.invokestatic 196, 3) := by decide +kernel
theorem dX5_nextCast_43 : decode cX5_nextCast 43 = .ok (.ireturn, 1) := by decide +kernel
theorem dX5_untilOver_0 : decode cX5_untilOver 0 = .ok (.aload_n 0, 1) := by decide +kernel
theorem dX5_untilOver_1 : decode cX5_untilOver 1 = .ok (.getfield 12, 3) := by decide +kernel
theorem dX5_untilOver_4 : decode cX5_untilOver 4 = .ok (.invokevirtual 66, 3) := by decide +kernel
theorem dX5_untilOver_7 : decode cX5_untilOver 7 = .ok (.ifCond .eq 6, 3) := by decide +kernel
theorem dX5_untilOver_10 : decode cX5_untilOver 10 = .ok (.bipush (-5), 2) := by decide +kernel
theorem dX5_untilOver_12 : decode cX5_untilOver 12 = .ok (.ireturn, 1) := by decide +kernel
theorem dX5_untilOver_13 : decode cX5_untilOver 13 = .ok (.aload_n 0, 1) := by decide +kernel
theorem dX5_untilOver_14 : decode cX5_untilOver 14 = .ok (.getfield 16, 3) := by decide +kernel
theorem dX5_untilOver_17 : decode cX5_untilOver 17 = .ok (.aload_n 0, 1) := by decide +kernel
theorem dX5_untilOver_18 : decode cX5_untilOver 18 = .ok (.getfield 12, 3) := by decide +kernel
theorem dX5_untilOver_21 : decode cX5_untilOver 21 = .ok (.invokevirtual 199, 3) := by decide +kernel
theorem dX5_untilOver_24 : decode cX5_untilOver 24 = .ok (.aload_n 0, 1) := by decide +kernel
theorem dX5_untilOver_25 : decode cX5_untilOver 25 = .ok (.getfield 16, 3) := by decide +kernel
theorem dX5_untilOver_28 : decode cX5_untilOver 28 = .ok (.sipush 400, 3) := by decide +kernel
theorem dX5_untilOver_31 : decode cX5_untilOver 31 = .ok (.invokevirtual 93, 3) := by decide +kernel
theorem dX5_untilOver_34 : decode cX5_untilOver 34 = .ok (.istore_n 1, 1) := by decide +kernel
theorem dX5_untilOver_35 : decode cX5_untilOver 35 = .ok (.aload_n 0, 1) := by decide +kernel
theorem dX5_untilOver_36 : decode cX5_untilOver 36 = .ok (.getfield 16, 3) := by decide +kernel
theorem dX5_untilOver_39 : decode cX5_untilOver 39 = .ok (.invokevirtual 62, 3) := by decide +kernel
theorem dX5_untilOver_42 : decode cX5_untilOver 42 = .ok (.ifCond .eq 7, 3) := by decide +kernel
theorem dX5_untilOver_45 : decode cX5_untilOver 45 = .ok (.iload_n 1, 1) := by decide +kernel
theorem dX5_untilOver_46 : decode cX5_untilOver 46 = .ok (.goto 5, 3) := by decide +kernel
theorem dX5_untilOver_49 : decode cX5_untilOver 49 = .ok (.bipush (-6), 2) := by decide +kernel
theorem dX5_untilOver_51 : decode cX5_untilOver 51 = .ok (.ireturn, 1) := by decide +kernel
theorem dX5_put_0 : decode cX5_put 0 = .ok (.lload_n 1, 1) := by decide +kernel
theorem dX5_put_1 : decode cX5_put 1 = .ok (.invokestatic 202, 3) := by decide +kernel
theorem dX5_put_4 : decode cX5_put 4 = .ok (.istore_n 3, 1) := by decide +kernel
theorem dX5_put_5 : decode cX5_put 5 = .ok (.iload_n 3, 1) := by decide +kernel
theorem dX5_put_6 : decode cX5_put 6 = .ok (.ifCond .ne 6, 3) := by decide +kernel
theorem dX5_put_9 : decode cX5_put 9 = .ok (.bipush (-2), 2) := by decide +kernel
theorem dX5_put_11 : decode cX5_put 11 = .ok (.ireturn, 1) := by decide +kernel
theorem dX5_put_12 : decode cX5_put 12 = .ok (.aload_n 0, 1) := by decide +kernel
theorem dX5_put_13 : decode cX5_put 13 = .ok (.getfield 29, 3) := by decide +kernel
theorem dX5_put_16 : decode cX5_put 16 = .ok (.getfield 113, 3) := by decide +kernel
theorem dX5_put_19 : decode cX5_put 19 = .ok (.iload_n 3, 1) := by decide +kernel
theorem dX5_put_20 : decode cX5_put 20 = .ok (.iadd, 1) := by decide +kernel
theorem dX5_put_21 : decode cX5_put 21 = .ok (.bipush 60, 2) := by decide +kernel
theorem dX5_put_23 : decode cX5_put 23 = .ok (.if_icmp .le 6, 3) := by decide +kernel
theorem dX5_put_26 : decode cX5_put 26 = .ok (.bipush (-4), 2) := by decide +kernel
theorem dX5_put_28 : decode cX5_put 28 = .ok (.ireturn, 1) := by decide +kernel
theorem dX5_put_29 : decode cX5_put 29 = .ok (.aload_n 0, 1) := by decide +kernel
theorem dX5_put_30 : decode cX5_put 30 = .ok (.getfield 29, 3) := by decide +kernel
theorem dX5_put_33 : decode cX5_put 33 = .ok (.lload_n 1, 1) := by decide +kernel
theorem dX5_put_34 : decode cX5_put 34 = .ok (.iload_n 3, 1) := by decide +kernel
theorem dX5_put_35 : decode cX5_put 35 = .ok (.invokevirtual 206, 3) := by decide +kernel
theorem dX5_put_38 : decode cX5_put 38 = .ok (.aload_n 0, 1) := by decide +kernel
theorem dX5_put_39 : decode cX5_put 39 = .ok (.getfield 29, 3) := by decide +kernel
theorem dX5_put_42 : decode cX5_put 42 = .ok (.getfield 113, 3) := by decide +kernel
theorem dX5_put_45 : decode cX5_put 45 = .ok (.ireturn, 1) := by decide +kernel
theorem dX5_wipe_0 : decode cX5_wipe 0 = .ok (.aload_n 0, 1) := by decide +kernel
theorem dX5_wipe_1 : decode cX5_wipe 1 = .ok (.getfield 29, 3) := by decide +kernel
theorem dX5_wipe_4 : decode cX5_wipe 4 = .ok (.getfield 113, 3) := by decide +kernel
theorem dX5_wipe_7 : decode cX5_wipe 7 = .ok (.istore_n 1, 1) := by decide +kernel
theorem dX5_wipe_8 : decode cX5_wipe 8 = .ok (.aload_n 0, 1) := by decide +kernel
theorem dX5_wipe_9 : decode cX5_wipe 9 = .ok (.getfield 29, 3) := by decide +kernel
theorem dX5_wipe_12 : decode cX5_wipe 12 = .ok (.iconst 0, 1) := by decide +kernel
theorem dX5_wipe_13 : decode cX5_wipe 13 = .ok (.putfield 113, 3) := by decide +kernel
theorem dX5_wipe_16 : decode cX5_wipe 16 = .ok (.iload_n 1, 1) := by decide +kernel
theorem dX5_wipe_17 : decode cX5_wipe 17 = .ok (.ireturn, 1) := by decide +kernel
theorem dX5_fault_0 : decode cX5_fault 0 = .ok (.aload_n 0, 1) := by decide +kernel
theorem dX5_fault_1 : decode cX5_fault 1 = .ok (.getfield 29, 3) := by decide +kernel
theorem dX5_fault_4 : decode cX5_fault 4 = .ok (.invokevirtual 96, 3) := by decide +kernel
theorem dX5_fault_7 : decode cX5_fault 7 = .ok (.ireturn, 1) := by decide +kernel
theorem dX5_undo_0 : decode cX5_undo 0 = .ok (.aload_n 0, 1) := by decide +kernel
theorem dX5_undo_1 : decode cX5_undo 1 = .ok (.getfield 36, 3) := by decide +kernel
theorem dX5_undo_4 : decode cX5_undo 4 = .ok (.aload_n 0, 1) := by decide +kernel
theorem dX5_undo_5 : decode cX5_undo 5 = .ok (.getfield 12, 3) := by decide +kernel
theorem dX5_undo_8 : decode cX5_undo 8 = .ok (.invokevirtual 210, 3) := by decide +kernel
theorem dX5_undo_11 : decode cX5_undo 11 = .ok (.ifCond .ne 6, 3) := by decide +kernel
theorem dX5_undo_14 : decode cX5_undo 14 = .ok (.bipush (-5), 2) := by decide +kernel
theorem dX5_undo_16 : decode cX5_undo 16 = .ok (.ireturn, 1) := by decide +kernel
theorem dX5_undo_17 : decode cX5_undo 17 = .ok (.aload_n 0, 1) := by decide +kernel
theorem dX5_undo_18 : decode cX5_undo 18 = .ok (.getfield 36, 3) := by decide +kernel
theorem dX5_undo_21 : decode cX5_undo 21 = .ok (.getfield 180, 3) := by decide +kernel
theorem dX5_undo_24 : decode cX5_undo 24 = .ok (.ireturn, 1) := by decide +kernel
theorem dX5_save_0 : decode cX5_save 0 = .ok (.iload_n 1, 1) := by decide +kernel
theorem dX5_save_1 : decode cX5_save 1 = .ok (.ifCond .lt 8, 3) := by decide +kernel
theorem dX5_save_4 : decode cX5_save 4 = .ok (.iload_n 1, 1) := by decide +kernel
theorem dX5_save_5 : decode cX5_save 5 = .ok (.iconst 2, 1) := by decide +kernel
theorem dX5_save_6 : decode cX5_save 6 = .ok (.if_icmp .lt 6, 3) := by decide +kernel
theorem dX5_save_9 : decode cX5_save 9 = .ok (.bipush (-2), 2) := by decide +kernel
theorem dX5_save_11 : decode cX5_save 11 = .ok (.ireturn, 1) := by decide +kernel
theorem dX5_save_12 : decode cX5_save 12 = .ok (.aload_n 0, 1) := by decide +kernel
theorem dX5_save_13 : decode cX5_save 13 = .ok (.getfield 40, 3) := by decide +kernel
theorem dX5_save_16 : decode cX5_save 16 = .ok (.iload_n 1, 1) := by decide +kernel
theorem dX5_save_17 : decode cX5_save 17 = .ok (.aaload, 1) := by decide +kernel
theorem dX5_save_18 : decode cX5_save 18 = .ok (.astore_n 2, 1) := by decide +kernel
theorem dX5_save_19 : decode cX5_save 19 = .ok (.aload_n 2, 1) := by decide +kernel
theorem dX5_save_20 : decode cX5_save 20 = .ok (.ifnonnull 18, 3) := by decide +kernel
theorem dX5_save_23 : decode cX5_save 23 = .ok (.new 9, 3) := by decide +kernel
theorem dX5_save_26 : decode cX5_save 26 = .ok (.dup, 1) := by decide +kernel
theorem dX5_save_27 : decode cX5_save 27 = .ok (.invokespecial 11, 3) := by decide +kernel
theorem dX5_save_30 : decode cX5_save 30 = .ok (.astore_n 2, 1) := by decide +kernel
theorem dX5_save_31 : decode cX5_save 31 = .ok (.aload_n 0, 1) := by decide +kernel
theorem dX5_save_32 : decode cX5_save 32 = .ok (.getfield 40, 3) := by decide +kernel
theorem dX5_save_35 : decode cX5_save 35 = .ok (.iload_n 1, 1) := by decide +kernel
theorem dX5_save_36 : decode cX5_save 36 = .ok (.aload_n 2, 1) := by decide +kernel
theorem dX5_save_37 : decode cX5_save 37 = .ok (.aastore, 1) := by decide +kernel
theorem dX5_save_38 : decode cX5_save 38 = .ok (.aload_n 2, 1) := by decide +kernel
theorem dX5_save_39 : decode cX5_save 39 = .ok (.aload_n 0, 1) := by decide +kernel
theorem dX5_save_40 : decode cX5_save 40 = .ok (.getfield 12, 3) := by decide +kernel
theorem dX5_save_43 : decode cX5_save 43 = .ok (.invokevirtual 199, 3) := by decide +kernel
theorem dX5_save_46 : decode cX5_save 46 = .ok (.aload_n 0, 1) := by decide +kernel
theorem dX5_save_47 : decode cX5_save 47 = .ok (.getfield 12, 3) := by decide +kernel
theorem dX5_save_50 : decode cX5_save 50 = .ok (.getfield 131, 3) := by decide +kernel
theorem dX5_save_53 : decode cX5_save 53 = .ok (.ireturn, 1) := by decide +kernel
theorem dX5_restore_0 : decode cX5_restore 0 = .ok (.iload_n 1, 1) := by decide +kernel
theorem dX5_restore_1 : decode cX5_restore 1 = .ok (.ifCond .lt 8, 3) := by decide +kernel
theorem dX5_restore_4 : decode cX5_restore 4 = .ok (.iload_n 1, 1) := by decide +kernel
theorem dX5_restore_5 : decode cX5_restore 5 = .ok (.iconst 2, 1) := by decide +kernel
theorem dX5_restore_6 : decode cX5_restore 6 = .ok (.if_icmp .lt 6, 3) := by decide +kernel
theorem dX5_restore_9 : decode cX5_restore 9 = .ok (.bipush (-2), 2) := by decide +kernel
theorem dX5_restore_11 : decode cX5_restore 11 = .ok (.ireturn, 1) := by decide +kernel
theorem dX5_restore_12 : decode cX5_restore 12 = .ok (.aload_n 0, 1) := by decide +kernel
theorem dX5_restore_13 : decode cX5_restore 13 = .ok (.getfield 40, 3) := by decide +kernel
theorem dX5_restore_16 : decode cX5_restore 16 = .ok (.iload_n 1, 1) := by decide +kernel
theorem dX5_restore_17 : decode cX5_restore 17 = .ok (.aaload, 1) := by decide +kernel
theorem dX5_restore_18 : decode cX5_restore 18 = .ok (.astore_n 2, 1) := by decide +kernel
theorem dX5_restore_19 : decode cX5_restore 19 = .ok (.aload_n 2, 1) := by decide +kernel
theorem dX5_restore_20 : decode cX5_restore 20 = .ok (.ifnonnull 6, 3) := by decide +kernel
theorem dX5_restore_23 : decode cX5_restore 23 = .ok (.bipush (-5), 2) := by decide +kernel
theorem dX5_restore_25 : decode cX5_restore 25 = .ok (.ireturn, 1) := by decide +kernel
theorem dX5_restore_26 : decode cX5_restore 26 = .ok (.aload_n 0, 1) := by decide +kernel
theorem dX5_restore_27 : decode cX5_restore 27 = .ok (.getfield 36, 3) := by decide +kernel
theorem dX5_restore_30 : decode cX5_restore 30 = .ok (.aload_n 0, 1) := by decide +kernel
theorem dX5_restore_31 : decode cX5_restore 31 = .ok (.getfield 12, 3) := by decide +kernel
theorem dX5_restore_34 : decode cX5_restore 34 = .ok (.invokevirtual 51, 3) := by decide +kernel
theorem dX5_restore_37 : decode cX5_restore 37 = .ok (.aload_n 0, 1) := by decide +kernel
theorem dX5_restore_38 : decode cX5_restore 38 = .ok (.getfield 12, 3) := by decide +kernel
theorem dX5_restore_41 : decode cX5_restore 41 = .ok (.aload_n 2, 1) := by decide +kernel
theorem dX5_restore_42 : decode cX5_restore 42 = .ok (.invokevirtual 199, 3) := by decide +kernel
theorem dX5_restore_45 : decode cX5_restore 45 = .ok (.aload_n 0, 1) := by decide +kernel
theorem dX5_restore_46 : decode cX5_restore 46 = .ok (.getfield 12, 3) := by decide +kernel
theorem dX5_restore_49 : decode cX5_restore 49 = .ok (.getfield 131, 3) := by decide +kernel
theorem dX5_restore_52 : decode cX5_restore 52 = .ok (.ireturn, 1) := by decide +kernel
theorem dX5_isNoPiece_0 : decode cX5_isNoPiece 0 = .ok (.iload_n 0, 1) := by decide +kernel
theorem dX5_isNoPiece_1 : decode cX5_isNoPiece 1 = .ok (.ifCond .lt 9, 3) := by decide +kernel
theorem dX5_isNoPiece_4 : decode cX5_isNoPiece 4 = .ok (.iload_n 0, 1) := by decide +kernel
theorem dX5_isNoPiece_5 : decode cX5_isNoPiece 5 = .ok (.bipush 12, 2) := by decide +kernel
theorem dX5_isNoPiece_7 : decode cX5_isNoPiece 7 = .ok (.if_icmp .lt 7, 3) := by decide +kernel
theorem dX5_isNoPiece_10 : decode cX5_isNoPiece 10 = .ok (.iconst 1, 1) := by decide +kernel
theorem dX5_isNoPiece_11 : decode cX5_isNoPiece 11 = .ok (.goto 4, 3) := by decide +kernel
theorem dX5_isNoPiece_14 : decode cX5_isNoPiece 14 = .ok (.iconst 0, 1) := by decide +kernel
theorem dX5_isNoPiece_15 : decode cX5_isNoPiece 15 = .ok (.ireturn, 1) := by decide +kernel
theorem dX5_isOnRing_0 : decode cX5_isOnRing 0 = .ok (.iload_n 0, 1) := by decide +kernel
theorem dX5_isOnRing_1 : decode cX5_isOnRing 1 = .ok (.ifCond .lt 13, 3) := by decide +kernel
theorem dX5_isOnRing_4 : decode cX5_isOnRing 4 = .ok (.iload_n 0, 1) := by decide +kernel
theorem dX5_isOnRing_5 : decode cX5_isOnRing 5 = .ok (.bipush 32, 2) := by decide +kernel
theorem dX5_isOnRing_7 : decode cX5_isOnRing 7 = .ok (.if_icmp .ge 7, 3) := by decide +kernel
theorem dX5_isOnRing_10 : decode cX5_isOnRing 10 = .ok (.iconst 1, 1) := by decide +kernel
theorem dX5_isOnRing_11 : decode cX5_isOnRing 11 = .ok (.goto 4, 3) := by decide +kernel
theorem dX5_isOnRing_14 : decode cX5_isOnRing 14 = .ok (.iconst 0, 1) := by decide +kernel
theorem dX5_isOnRing_15 : decode cX5_isOnRing 15 = .ok (.ireturn, 1) := by decide +kernel
theorem dX5_isSafe_0 : decode cX5_isSafe 0 = .ok (.iload_n 0, 1) := by decide +kernel
theorem dX5_isSafe_1 : decode cX5_isSafe 1 = .ok (.ifCond .lt 14, 3) := by decide +kernel
theorem dX5_isSafe_4 : decode cX5_isSafe 4 = .ok (.iload_n 0, 1) := by decide +kernel
theorem dX5_isSafe_5 : decode cX5_isSafe 5 = .ok (.bipush 8, 2) := by decide +kernel
theorem dX5_isSafe_7 : decode cX5_isSafe 7 = .ok (.irem, 1) := by decide +kernel
theorem dX5_isSafe_8 : decode cX5_isSafe 8 = .ok (.ifCond .ne 7, 3) := by decide +kernel
theorem dX5_isSafe_11 : decode cX5_isSafe 11 = .ok (.iconst 1, 1) := by decide +kernel
theorem dX5_isSafe_12 : decode cX5_isSafe 12 = .ok (.goto 4, 3) := by decide +kernel
theorem dX5_isSafe_15 : decode cX5_isSafe 15 = .ok (.iconst 0, 1) := by decide +kernel
theorem dX5_isSafe_16 : decode cX5_isSafe 16 = .ok (.ireturn, 1) := by decide +kernel
theorem dX5_bridgeOn_0 : decode cX5_bridgeOn 0 = .ok (.iload_n 0, 1) := by decide +kernel
theorem dX5_bridgeOn_1 : decode cX5_bridgeOn 1 = .ok (.ifCond .lt 24, 3) := by decide +kernel
theorem dX5_bridgeOn_4 : decode cX5_bridgeOn 4 = .ok (.iload_n 0, 1) := by decide +kernel
theorem dX5_bridgeOn_5 : decode cX5_bridgeOn 5 = .ok (.bipush 32, 2) := by decide +kernel
theorem dX5_bridgeOn_7 : decode cX5_bridgeOn 7 = .ok (.if_icmp .ge 18, 3) := by decide +kernel
theorem dX5_bridgeOn_10 : decode cX5_bridgeOn 10 = .ok (.iload_n 0, 1) := by decide +kernel
theorem dX5_bridgeOn_11 : decode cX5_bridgeOn 11 = .ok (.bipush 8, 2) := by decide +kernel
theorem dX5_bridgeOn_13 : decode cX5_bridgeOn 13 = .ok (.irem, 1) := by decide +kernel
theorem dX5_bridgeOn_14 : decode cX5_bridgeOn 14 = .ok (.iconst 4, 1) := by decide +kernel
theorem dX5_bridgeOn_15 : decode cX5_bridgeOn 15 = .ok (.if_icmp .ne 10, 3) := by decide +kernel
theorem dX5_bridgeOn_18 : decode cX5_bridgeOn 18 = .ok (.iload_n 0, 1) := by decide +kernel
theorem dX5_bridgeOn_19 : decode cX5_bridgeOn 19 = .ok (.bipush 8, 2) := by decide +kernel
theorem dX5_bridgeOn_21 : decode cX5_bridgeOn 21 = .ok (.idiv, 1) := by decide +kernel
theorem dX5_bridgeOn_22 : decode cX5_bridgeOn 22 = .ok (.goto 5, 3) := by decide +kernel
theorem dX5_bridgeOn_25 : decode cX5_bridgeOn 25 = .ok (.bipush (-6), 2) := by decide +kernel
theorem dX5_bridgeOn_27 : decode cX5_bridgeOn 27 = .ok (.ireturn, 1) := by decide +kernel
theorem dX5_ringField_0 : decode cX5_ringField 0 = .ok (.iload_n 1, 1) := by decide +kernel
theorem dX5_ringField_1 : decode cX5_ringField 1 = .ok (.ifCond .lt 21, 3) := by decide +kernel
theorem dX5_ringField_4 : decode cX5_ringField 4 = .ok (.iload_n 1, 1) := by decide +kernel
theorem dX5_ringField_5 : decode cX5_ringField 5 = .ok (.bipush 32, 2) := by decide +kernel
theorem dX5_ringField_7 : decode cX5_ringField 7 = .ok (.if_icmp .ge 15, 3) := by decide +kernel
theorem dX5_ringField_10 : decode cX5_ringField 10 = .ok (.bipush 8, 2) := by decide +kernel
theorem dX5_ringField_12 : decode cX5_ringField 12 = .ok (.iload_n 0, 1) := by decide +kernel
theorem dX5_ringField_13 : decode cX5_ringField 13 = .ok (.imul, 1) := by decide +kernel
theorem dX5_ringField_14 : decode cX5_ringField 14 = .ok (.iload_n 1, 1) := by decide +kernel
theorem dX5_ringField_15 : decode cX5_ringField 15 = .ok (.iadd, 1) := by decide +kernel
theorem dX5_ringField_16 : decode cX5_ringField 16 = .ok (.bipush 32, 2) := by decide +kernel
theorem dX5_ringField_18 : decode cX5_ringField 18 = .ok (.irem, 1) := by decide +kernel
theorem dX5_ringField_19 : decode cX5_ringField 19 = .ok (.goto 5, 3) := by decide +kernel
theorem dX5_ringField_22 : decode cX5_ringField 22 = .ok (.bipush (-6), 2) := by decide +kernel
theorem dX5_ringField_24 : decode cX5_ringField 24 = .ok (.ireturn, 1) := by decide +kernel
theorem dX5_nextX_0 : decode cX5_nextX 0 = .ok (.iload_n 0, 1) := by decide +kernel
theorem dX5_nextX_1 : decode cX5_nextX 1 = .ok (.i2l, 1) := by decide +kernel
theorem dX5_nextX_2 : decode cX5_nextX 2 = .ok (.ldc2_w 214, 3) := by decide +kernel
theorem dX5_nextX_5 : decode cX5_nextX 5 = .ok (.lmul, 1) := by decide +kernel
theorem dX5_nextX_6 : decode cX5_nextX 6 = .ok (.ldc2_w 216, 3) := by decide +kernel
theorem dX5_nextX_9 : decode cX5_nextX 9 = .ok (.ladd, 1) := by decide +kernel
theorem dX5_nextX_10 : decode cX5_nextX 10 = .ok (.ldc2_w 218, 3) := by decide +kernel
theorem dX5_nextX_13 : decode cX5_nextX 13 = .ok (.lrem, 1) := by decide +kernel
theorem dX5_nextX_14 : decode cX5_nextX 14 = .ok (.l2i, 1) := by decide +kernel
theorem dX5_nextX_15 : decode cX5_nextX 15 = .ok (.ireturn, 1) := by decide +kernel
theorem dX5_castOf_0 : decode cX5_castOf 0 = .ok (.iconst 1, 1) := by decide +kernel
theorem dX5_castOf_1 : decode cX5_castOf 1 = .ok (.iload_n 0, 1) := by decide +kernel
theorem dX5_castOf_2 : decode cX5_castOf 2 = .ok (.ldc 220, 2) := by decide +kernel
theorem dX5_castOf_4 : decode cX5_castOf 4 = .ok (.idiv, 1) := by decide +kernel
theorem dX5_castOf_5 : decode cX5_castOf 5 = .ok (.bipush 6, 2) := by decide +kernel
theorem dX5_castOf_7 : decode cX5_castOf 7 = .ok (.irem, 1) := by decide +kernel
theorem dX5_castOf_8 : decode cX5_castOf 8 = .ok (.iadd, 1) := by decide +kernel
theorem dX5_castOf_9 : decode cX5_castOf 9 = .ok (.ireturn, 1) := by decide +kernel
theorem dX5_lengthOf_0 : decode cX5_lengthOf 0 = .ok (.lload_n 0, 1) := by decide +kernel
theorem dX5_lengthOf_1 : decode cX5_lengthOf 1 = .ok (.lstore_n 2, 1) := by decide +kernel
theorem dX5_lengthOf_2 : decode cX5_lengthOf 2 = .ok (.iconst 0, 1) := by decide +kernel
theorem dX5_lengthOf_3 : decode cX5_lengthOf 3 = .ok (.istore 4, 2) := by decide +kernel
theorem dX5_lengthOf_5 : decode cX5_lengthOf 5 = .ok (.iload 4, 2) := by decide +kernel
theorem dX5_lengthOf_7 : decode cX5_lengthOf 7 = .ok (.bipush 8, 2) := by decide +kernel
theorem dX5_lengthOf_9 : decode cX5_lengthOf 9 = .ok (.if_icmp .ge 51, 3) := by decide +kernel
theorem dX5_lengthOf_12 : decode cX5_lengthOf 12 = .ok (.lload_n 2, 1) := by decide +kernel
theorem dX5_lengthOf_13 : decode cX5_lengthOf 13 = .ok (.ldc2_w 221, 3) := by decide +kernel
theorem dX5_lengthOf_16 : decode cX5_lengthOf 16 = .ok (.land, 1) := by decide +kernel
theorem dX5_lengthOf_17 : decode cX5_lengthOf 17 = .ok (.lconst 0, 1) := by decide +kernel
theorem dX5_lengthOf_18 : decode cX5_lengthOf 18 = .ok (.lcmp, 1) := by decide +kernel
theorem dX5_lengthOf_19 : decode cX5_lengthOf 19 = .ok (.ifCond .eq 41, 3) := by decide +kernel
theorem dX5_lengthOf_22 : decode cX5_lengthOf 22 = .ok (.lload_n 2, 1) := by decide +kernel
theorem dX5_lengthOf_23 : decode cX5_lengthOf 23 = .ok (.ldc2_w 221, 3) := by decide +kernel
theorem dX5_lengthOf_26 : decode cX5_lengthOf 26 = .ok (.land, 1) := by decide +kernel
theorem dX5_lengthOf_27 : decode cX5_lengthOf 27 = .ok (.lstore 5, 2) := by decide +kernel
theorem dX5_lengthOf_29 : decode cX5_lengthOf 29 = .ok (.lload 5, 2) := by decide +kernel
theorem dX5_lengthOf_31 : decode cX5_lengthOf 31 = .ok (.ldc2_w 223, 3) := by decide +kernel
theorem dX5_lengthOf_34 : decode cX5_lengthOf 34 = .ok (.lcmp, 1) := by decide +kernel
theorem dX5_lengthOf_35 : decode cX5_lengthOf 35 = .ok (.ifCond .lt 12, 3) := by decide +kernel
theorem dX5_lengthOf_38 : decode cX5_lengthOf 38 = .ok (.lload 5, 2) := by decide +kernel
theorem dX5_lengthOf_40 : decode cX5_lengthOf 40 = .ok (.ldc2_w 225, 3) := by decide +kernel
theorem dX5_lengthOf_43 : decode cX5_lengthOf 43 = .ok (.lcmp, 1) := by decide +kernel
theorem dX5_lengthOf_44 : decode cX5_lengthOf 44 = .ok (.ifCond .le 5, 3) := by decide +kernel
theorem dX5_lengthOf_47 : decode cX5_lengthOf 47 = .ok (.iconst 0, 1) := by decide +kernel
theorem dX5_lengthOf_48 : decode cX5_lengthOf 48 = .ok (.ireturn, 1) := by decide +kernel
theorem dX5_lengthOf_49 : decode cX5_lengthOf 49 = .ok (.lload_n 2, 1) := by decide +kernel
theorem dX5_lengthOf_50 : decode cX5_lengthOf 50 = .ok (.bipush 8, 2) := by decide +kernel
theorem dX5_lengthOf_52 : decode cX5_lengthOf 52 = .ok (.lushr, 1) := by decide +kernel
theorem dX5_lengthOf_53 : decode cX5_lengthOf 53 = .ok (.lstore_n 2, 1) := by decide +kernel
theorem dX5_lengthOf_54 : decode cX5_lengthOf 54 = .ok (.iinc 4 1, 3) := by decide +kernel
theorem dX5_lengthOf_57 : decode cX5_lengthOf 57 = .ok (.goto (-52), 3) := by decide +kernel
theorem dX5_lengthOf_60 : decode cX5_lengthOf 60 = .ok (.lload_n 2, 1) := by decide +kernel
theorem dX5_lengthOf_61 : decode cX5_lengthOf 61 = .ok (.lconst 0, 1) := by decide +kernel
theorem dX5_lengthOf_62 : decode cX5_lengthOf 62 = .ok (.lcmp, 1) := by decide +kernel
theorem dX5_lengthOf_63 : decode cX5_lengthOf 63 = .ok (.ifCond .ne 8, 3) := by decide +kernel
theorem dX5_lengthOf_66 : decode cX5_lengthOf 66 = .ok (.iload 4, 2) := by decide +kernel
theorem dX5_lengthOf_68 : decode cX5_lengthOf 68 = .ok (.goto 4, 3) := by decide +kernel
theorem dX5_lengthOf_71 : decode cX5_lengthOf 71 = .ok (.iconst 0, 1) := by decide +kernel
theorem dX5_lengthOf_72 : decode cX5_lengthOf 72 = .ok (.ireturn, 1) := by decide +kernel
theorem dX6_init_0 : decode cX6_init 0 = .ok (.aload_n 0, 1) := by decide +kernel
theorem dX6_init_1 : decode cX6_init 1 = .ok (.invokespecial 1, 3) := by decide +kernel
theorem dX6_init_4 : decode cX6_init 4 = .ok (.aload_n 0, 1) := by decide +kernel
theorem dX6_init_5 : decode cX6_init 5 = .ok (.bipush 46, 2) := by decide +kernel
theorem dX6_init_7 : decode cX6_init 7 = .ok (.newarray .int, 2) := by decide +kernel
theorem dX6_init_9 : decode cX6_init 9 = .ok (.putfield 7, 3) := by decide +kernel
theorem dX6_init_12 : decode cX6_init 12 = .ok (.aload_n 0, 1) := by decide +kernel
theorem dX6_init_13 : decode cX6_init 13 = .ok (.bipush 46, 2) := by decide +kernel
theorem dX6_init_15 : decode cX6_init 15 = .ok (.newarray .int, 2) := by decide +kernel
theorem dX6_init_17 : decode cX6_init 17 = .ok (.putfield 13, 3) := by decide +kernel
theorem dX6_init_20 : decode cX6_init 20 = .ok (.aload_n 0, 1) := by decide +kernel
theorem dX6_init_21 : decode cX6_init 21 = .ok (.sipush 276, 3) := by decide +kernel
theorem dX6_init_24 : decode cX6_init 24 = .ok (.newarray .int, 2) := by decide +kernel
theorem dX6_init_26 : decode cX6_init 26 = .ok (.putfield 16, 3) := by decide +kernel
theorem dX6_init_29 : decode cX6_init 29 = .ok (.aload_n 0, 1) := by decide +kernel
theorem dX6_init_30 : decode cX6_init 30 = .ok (.bipush 92, 2) := by decide +kernel
theorem dX6_init_32 : decode cX6_init 32 = .ok (.newarray .int, 2) := by decide +kernel
theorem dX6_init_34 : decode cX6_init 34 = .ok (.putfield 19, 3) := by decide +kernel
theorem dX6_init_37 : decode cX6_init 37 = .ok (.aload_n 0, 1) := by decide +kernel
theorem dX6_init_38 : decode cX6_init 38 = .ok (.iconst 2, 1) := by decide +kernel
theorem dX6_init_39 : decode cX6_init 39 = .ok (.newarray .boolean, 2) := by decide +kernel
theorem dX6_init_41 : decode cX6_init 41 = .ok (.putfield 22, 3) := by decide +kernel
theorem dX6_init_44 : decode cX6_init 44 = .ok (.aload_n 0, 1) := by decide +kernel
theorem dX6_init_45 : decode cX6_init 45 = .ok (.bipush 60, 2) := by decide +kernel
theorem dX6_init_47 : decode cX6_init 47 = .ok (.newarray .int, 2) := by decide +kernel
theorem dX6_init_49 : decode cX6_init 49 = .ok (.putfield 26, 3) := by decide +kernel
theorem dX6_init_52 : decode cX6_init 52 = .ok (.aload_n 0, 1) := by decide +kernel
theorem dX6_init_53 : decode cX6_init 53 = .ok (.bipush 36, 2) := by decide +kernel
theorem dX6_init_55 : decode cX6_init 55 = .ok (.newarray .int, 2) := by decide +kernel
theorem dX6_init_57 : decode cX6_init 57 = .ok (.putfield 29, 3) := by decide +kernel
theorem dX6_init_60 : decode cX6_init 60 = .ok (.iconst 0, 1) := by decide +kernel
theorem dX6_init_61 : decode cX6_init 61 = .ok (.istore_n 1, 1) := by decide +kernel
theorem dX6_init_62 : decode cX6_init 62 = .ok (.iload_n 1, 1) := by decide +kernel
theorem dX6_init_63 : decode cX6_init 63 = .ok (.bipush 12, 2) := by decide +kernel
theorem dX6_init_65 : decode cX6_init 65 = .ok (.if_icmp .ge 17, 3) := by decide +kernel
theorem dX6_init_68 : decode cX6_init 68 = .ok (.aload_n 0, 1) := by decide +kernel
theorem dX6_init_69 : decode cX6_init 69 = .ok (.getfield 7, 3) := by decide +kernel
theorem dX6_init_72 : decode cX6_init 72 = .ok (.iload_n 1, 1) := by decide +kernel
theorem dX6_init_73 : decode cX6_init 73 = .ok (.bipush (-6), 2) := by decide +kernel
theorem dX6_init_75 : decode cX6_init 75 = .ok (.iastore, 1) := by decide +kernel
theorem dX6_init_76 : decode cX6_init 76 = .ok (.iinc 1 1, 3) := by decide +kernel
theorem dX6_init_79 : decode cX6_init 79 = .ok (.goto (-17), 3) := by decide +kernel
theorem dX6_init_82 : decode cX6_init 82 = .ok (.aload_n 0, 1) := by decide +kernel
theorem dX6_init_83 : decode cX6_init 83 = .ok (.getfield 7, 3) := by decide +kernel
theorem dX6_init_86 : decode cX6_init 86 = .ok (.bipush 36, 2) := by decide +kernel
theorem dX6_init_88 : decode cX6_init 88 = .ok (.iconst 5, 1) := by decide +kernel
theorem dX6_init_89 : decode cX6_init 89 = .ok (.iastore, 1) := by decide +kernel
theorem dX6_init_90 : decode cX6_init 90 = .ok (.aload_n 0, 1) := by decide +kernel
theorem dX6_init_91 : decode cX6_init 91 = .ok (.getfield 7, 3) := by decide +kernel
theorem dX6_init_94 : decode cX6_init 94 = .ok (.bipush 38, 2) := by decide +kernel
theorem dX6_init_96 : decode cX6_init 96 = .ok (.iconst 1, 1) := by decide +kernel
theorem dX6_init_97 : decode cX6_init 97 = .ok (.iastore, 1) := by decide +kernel
theorem dX6_init_98 : decode cX6_init 98 = .ok (.aload_n 0, 1) := by decide +kernel
theorem dX6_init_99 : decode cX6_init 99 = .ok (.getfield 7, 3) := by decide +kernel
theorem dX6_init_102 : decode cX6_init 102 = .ok (.bipush 39, 2) := by decide +kernel
theorem dX6_init_104 : decode cX6_init 104 = .ok (.iconst 1, 1) := by decide +kernel
theorem dX6_init_105 : decode cX6_init 105 = .ok (.iastore, 1) := by decide +kernel
theorem dX6_init_106 : decode cX6_init 106 = .ok (.aload_n 0, 1) := by decide +kernel
theorem dX6_init_107 : decode cX6_init 107 = .ok (.getfield 7, 3) := by decide +kernel
theorem dX6_init_110 : decode cX6_init 110 = .ok (.bipush 41, 2) := by decide +kernel
theorem dX6_init_112 : decode cX6_init 112 = .ok (.bipush (-6), 2) := by decide +kernel
theorem dX6_init_114 : decode cX6_init 114 = .ok (.iastore, 1) := by decide +kernel
theorem dX6_init_115 : decode cX6_init 115 = .ok (.aload_n 0, 1) := by decide +kernel
theorem dX6_init_116 : decode cX6_init 116 = .ok (.getfield 7, 3) := by decide +kernel
theorem dX6_init_119 : decode cX6_init 119 = .ok (.bipush 42, 2) := by decide +kernel
theorem dX6_init_121 : decode cX6_init 121 = .ok (.iconst 1, 1) := by decide +kernel
theorem dX6_init_122 : decode cX6_init 122 = .ok (.iastore, 1) := by decide +kernel
theorem dX6_init_123 : decode cX6_init 123 = .ok (.return_, 1) := by decide +kernel
theorem dX6_in_0 : decode cX6_in 0 = .ok (.iload_n 0, 1) := by decide +kernel
theorem dX6_in_1 : decode cX6_in 1 = .ok (.iload_n 1, 1) := by decide +kernel
theorem dX6_in_2 : decode cX6_in 2 = .ok (.if_icmp .lt 12, 3) := by decide +kernel
theorem dX6_in_5 : decode cX6_in 5 = .ok (.iload_n 0, 1) := by decide +kernel
theorem dX6_in_6 : decode cX6_in 6 = .ok (.iload_n 2, 1) := by decide +kernel
theorem dX6_in_7 : decode cX6_in 7 = .ok (.if_icmp .gt 7, 3) := by decide +kernel
theorem dX6_in_10 : decode cX6_in 10 = .ok (.iconst 1, 1) := by decide +kernel
theorem dX6_in_11 : decode cX6_in 11 = .ok (.goto 4, 3) := by decide +kernel
theorem dX6_in_14 : decode cX6_in 14 = .ok (.iconst 0, 1) := by decide +kernel
theorem dX6_in_15 : decode cX6_in 15 = .ok (.ireturn, 1) := by decide +kernel
theorem dX6_isPiece_0 : decode cX6_isPiece 0 = .ok (.iload_n 0, 1) := by decide +kernel
theorem dX6_isPiece_1 : decode cX6_isPiece 1 = .ok (.iconst 0, 1) := by decide +kernel
theorem dX6_isPiece_2 : decode cX6_isPiece 2 = .ok (.bipush 11, 2) := by decide +kernel
theorem dX6_isPiece_4 : decode cX6_isPiece 4 = .ok (.invokestatic 32, 3) := by decide +kernel
theorem dX6_isPiece_7 : decode cX6_isPiece 7 = .ok (.ireturn, 1) := by decide +kernel
theorem dX6_fieldAt_0 : decode cX6_fieldAt 0 = .ok (.iload_n 1, 1) := by decide +kernel
theorem dX6_fieldAt_1 : decode cX6_fieldAt 1 = .ok (.iconst 0, 1) := by decide +kernel
theorem dX6_fieldAt_2 : decode cX6_fieldAt 2 = .ok (.bipush 31, 2) := by decide +kernel
theorem dX6_fieldAt_4 : decode cX6_fieldAt 4 = .ok (.invokestatic 32, 3) := by decide +kernel
theorem dX6_fieldAt_7 : decode cX6_fieldAt 7 = .ok (.ifCond .eq 15, 3) := by decide +kernel
theorem dX6_fieldAt_10 : decode cX6_fieldAt 10 = .ok (.bipush 8, 2) := by decide +kernel
theorem dX6_fieldAt_12 : decode cX6_fieldAt 12 = .ok (.iload_n 0, 1) := by decide +kernel
theorem dX6_fieldAt_13 : decode cX6_fieldAt 13 = .ok (.imul, 1) := by decide +kernel
theorem dX6_fieldAt_14 : decode cX6_fieldAt 14 = .ok (.iload_n 1, 1) := by decide +kernel
theorem dX6_fieldAt_15 : decode cX6_fieldAt 15 = .ok (.iadd, 1) := by decide +kernel
theorem dX6_fieldAt_16 : decode cX6_fieldAt 16 = .ok (.bipush 32, 2) := by decide +kernel
theorem dX6_fieldAt_18 : decode cX6_fieldAt 18 = .ok (.irem, 1) := by decide +kernel
theorem dX6_fieldAt_19 : decode cX6_fieldAt 19 = .ok (.goto 5, 3) := by decide +kernel
theorem dX6_fieldAt_22 : decode cX6_fieldAt 22 = .ok (.bipush (-6), 2) := by decide +kernel
theorem dX6_fieldAt_24 : decode cX6_fieldAt 24 = .ok (.ireturn, 1) := by decide +kernel
theorem dX6_fieldOf_0 : decode cX6_fieldOf 0 = .ok (.iload_n 1, 1) := by decide +kernel
theorem dX6_fieldOf_1 : decode cX6_fieldOf 1 = .ok (.iconst 3, 1) := by decide +kernel
theorem dX6_fieldOf_2 : decode cX6_fieldOf 2 = .ok (.idiv, 1) := by decide +kernel
theorem dX6_fieldOf_3 : decode cX6_fieldOf 3 = .ok (.aload_n 0, 1) := by decide +kernel
theorem dX6_fieldOf_4 : decode cX6_fieldOf 4 = .ok (.getfield 7, 3) := by decide +kernel
theorem dX6_fieldOf_7 : decode cX6_fieldOf 7 = .ok (.iload_n 1, 1) := by decide +kernel
theorem dX6_fieldOf_8 : decode cX6_fieldOf 8 = .ok (.iaload, 1) := by decide +kernel
theorem dX6_fieldOf_9 : decode cX6_fieldOf 9 = .ok (.invokestatic 36, 3) := by decide +kernel
theorem dX6_fieldOf_12 : decode cX6_fieldOf 12 = .ok (.ireturn, 1) := by decide +kernel
theorem dX6_isSafe_0 : decode cX6_isSafe 0 = .ok (.iload_n 0, 1) := by decide +kernel
theorem dX6_isSafe_1 : decode cX6_isSafe 1 = .ok (.bipush 8, 2) := by decide +kernel
theorem dX6_isSafe_3 : decode cX6_isSafe 3 = .ok (.irem, 1) := by decide +kernel
theorem dX6_isSafe_4 : decode cX6_isSafe 4 = .ok (.ifCond .ne 7, 3) := by decide +kernel
theorem dX6_isSafe_7 : decode cX6_isSafe 7 = .ok (.iconst 1, 1) := by decide +kernel
theorem dX6_isSafe_8 : decode cX6_isSafe 8 = .ok (.goto 4, 3) := by decide +kernel
theorem dX6_isSafe_11 : decode cX6_isSafe 11 = .ok (.iconst 0, 1) := by decide +kernel
theorem dX6_isSafe_12 : decode cX6_isSafe 12 = .ok (.ireturn, 1) := by decide +kernel
theorem dX6_isBridge_0 : decode cX6_isBridge 0 = .ok (.iload_n 0, 1) := by decide +kernel
theorem dX6_isBridge_1 : decode cX6_isBridge 1 = .ok (.bipush 8, 2) := by decide +kernel
theorem dX6_isBridge_3 : decode cX6_isBridge 3 = .ok (.irem, 1) := by decide +kernel
theorem dX6_isBridge_4 : decode cX6_isBridge 4 = .ok (.iconst 4, 1) := by decide +kernel
theorem dX6_isBridge_5 : decode cX6_isBridge 5 = .ok (.if_icmp .ne 7, 3) := by decide +kernel
theorem dX6_isBridge_8 : decode cX6_isBridge 8 = .ok (.iconst 1, 1) := by decide +kernel
theorem dX6_isBridge_9 : decode cX6_isBridge 9 = .ok (.goto 4, 3) := by decide +kernel
theorem dX6_isBridge_12 : decode cX6_isBridge 12 = .ok (.iconst 0, 1) := by decide +kernel
theorem dX6_isBridge_13 : decode cX6_isBridge 13 = .ok (.ireturn, 1) := by decide +kernel
theorem dX6_isFallen_0 : decode cX6_isFallen 0 = .ok (.iload_n 1, 1) := by decide +kernel
theorem dX6_isFallen_1 : decode cX6_isFallen 1 = .ok (.ifCond .lt 30, 3) := by decide +kernel
theorem dX6_isFallen_4 : decode cX6_isFallen 4 = .ok (.iload_n 1, 1) := by decide +kernel
theorem dX6_isFallen_5 : decode cX6_isFallen 5 = .ok (.invokestatic 40, 3) := by decide +kernel
theorem dX6_isFallen_8 : decode cX6_isFallen 8 = .ok (.ifCond .eq 23, 3) := by decide +kernel
theorem dX6_isFallen_11 : decode cX6_isFallen 11 = .ok (.aload_n 0, 1) := by decide +kernel
theorem dX6_isFallen_12 : decode cX6_isFallen 12 = .ok (.getfield 7, 3) := by decide +kernel
theorem dX6_isFallen_15 : decode cX6_isFallen 15 = .ok (.bipush 24, 2) := by decide +kernel
theorem dX6_isFallen_17 : decode cX6_isFallen 17 = .ok (.iload_n 1, 1) := by decide +kernel
theorem dX6_isFallen_18 : decode cX6_isFallen 18 = .ok (.bipush 8, 2) := by decide +kernel
theorem dX6_isFallen_20 : decode cX6_isFallen 20 = .ok (.idiv, 1) := by decide +kernel
theorem dX6_isFallen_21 : decode cX6_isFallen 21 = .ok (.iadd, 1) := by decide +kernel
theorem dX6_isFallen_22 : decode cX6_isFallen 22 = .ok (.iaload, 1) := by decide +kernel
theorem dX6_isFallen_23 : decode cX6_isFallen 23 = .ok (.iconst 1, 1) := by decide +kernel
theorem dX6_isFallen_24 : decode cX6_isFallen 24 = .ok (.if_icmp .ne 7, 3) := by decide +kernel
theorem dX6_isFallen_27 : decode cX6_isFallen 27 = .ok (.iconst 1, 1) := by decide +kernel
theorem dX6_isFallen_28 : decode cX6_isFallen 28 = .ok (.goto 4, 3) := by decide +kernel
theorem dX6_isFallen_31 : decode cX6_isFallen 31 = .ok (.iconst 0, 1) := by decide +kernel
theorem dX6_isFallen_32 : decode cX6_isFallen 32 = .ok (.ireturn, 1) := by decide +kernel
theorem dX6_piecesOn_0 : decode cX6_piecesOn 0 = .ok (.iconst 0, 1) := by decide +kernel
theorem dX6_piecesOn_1 : decode cX6_piecesOn 1 = .ok (.istore_n 3, 1) := by decide +kernel
theorem dX6_piecesOn_2 : decode cX6_piecesOn 2 = .ok (.iconst 0, 1) := by decide +kernel
theorem dX6_piecesOn_3 : decode cX6_piecesOn 3 = .ok (.istore 4, 2) := by decide +kernel
theorem dX6_piecesOn_5 : decode cX6_piecesOn 5 = .ok (.iload 4, 2) := by decide +kernel
theorem dX6_piecesOn_7 : decode cX6_piecesOn 7 = .ok (.iconst 3, 1) := by decide +kernel
theorem dX6_piecesOn_8 : decode cX6_piecesOn 8 = .ok (.if_icmp .ge 35, 3) := by decide +kernel
theorem dX6_piecesOn_11 : decode cX6_piecesOn 11 = .ok (.iload_n 3, 1) := by decide +kernel
theorem dX6_piecesOn_12 : decode cX6_piecesOn 12 = .ok (.iload_n 2, 1) := by decide +kernel
theorem dX6_piecesOn_13 : decode cX6_piecesOn 13 = .ok (.ifCond .lt 21, 3) := by decide +kernel
theorem dX6_piecesOn_16 : decode cX6_piecesOn 16 = .ok (.aload_n 0, 1) := by decide +kernel
theorem dX6_piecesOn_17 : decode cX6_piecesOn 17 = .ok (.iconst 3, 1) := by decide +kernel
theorem dX6_piecesOn_18 : decode cX6_piecesOn 18 = .ok (.iload_n 1, 1) := by decide +kernel
theorem dX6_piecesOn_19 : decode cX6_piecesOn 19 = .ok (.imul, 1) := by decide +kernel
theorem dX6_piecesOn_20 : decode cX6_piecesOn 20 = .ok (.iload 4, 2) := by decide +kernel
theorem dX6_piecesOn_22 : decode cX6_piecesOn 22 = .ok (.iadd, 1) := by decide +kernel
theorem dX6_piecesOn_23 : decode cX6_piecesOn 23 = .ok (.invokevirtual 44, 3) := by decide +kernel
theorem dX6_piecesOn_26 : decode cX6_piecesOn 26 = .ok (.iload_n 2, 1) := by decide +kernel
theorem dX6_piecesOn_27 : decode cX6_piecesOn 27 = .ok (.if_icmp .ne 7, 3) := by decide +kernel
theorem dX6_piecesOn_30 : decode cX6_piecesOn 30 = .ok (.iconst 1, 1) := by decide +kernel
theorem dX6_piecesOn_31 : decode cX6_piecesOn 31 = .ok (.goto 4, 3) := by decide +kernel
theorem dX6_piecesOn_34 : decode cX6_piecesOn 34 = .ok (.iconst 0, 1) := by decide +kernel
theorem dX6_piecesOn_35 : decode cX6_piecesOn 35 = .ok (.iadd, 1) := by decide +kernel
theorem dX6_piecesOn_36 : decode cX6_piecesOn 36 = .ok (.istore_n 3, 1) := by decide +kernel
theorem dX6_piecesOn_37 : decode cX6_piecesOn 37 = .ok (.iinc 4 1, 3) := by decide +kernel
theorem dX6_piecesOn_40 : decode cX6_piecesOn 40 = .ok (.goto (-35), 3) := by decide +kernel
theorem dX6_piecesOn_43 : decode cX6_piecesOn 43 = .ok (.iload_n 3, 1) := by decide +kernel
theorem dX6_piecesOn_44 : decode cX6_piecesOn 44 = .ok (.ireturn, 1) := by decide +kernel
theorem dX6_allOn_0 : decode cX6_allOn 0 = .ok (.iconst 0, 1) := by decide +kernel
theorem dX6_allOn_1 : decode cX6_allOn 1 = .ok (.istore_n 2, 1) := by decide +kernel
theorem dX6_allOn_2 : decode cX6_allOn 2 = .ok (.iconst 0, 1) := by decide +kernel
