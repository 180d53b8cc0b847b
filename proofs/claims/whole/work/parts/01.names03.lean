theorem dX6_allOn_3 : decode cX6_allOn 3 = .ok (.istore_n 3, 1) := by decide +kernel
theorem dX6_allOn_4 : decode cX6_allOn 4 = .ok (.iload_n 3, 1) := by decide +kernel
theorem dX6_allOn_5 : decode cX6_allOn 5 = .ok (.iconst 4, 1) := by decide +kernel
theorem dX6_allOn_6 : decode cX6_allOn 6 = .ok (.if_icmp .ge 18, 3) := by decide +kernel
theorem dX6_allOn_9 : decode cX6_allOn 9 = .ok (.iload_n 2, 1) := by decide +kernel
theorem dX6_allOn_10 : decode cX6_allOn 10 = .ok (.aload_n 0, 1) := by decide +kernel
theorem dX6_allOn_11 : decode cX6_allOn 11 = .ok (.iload_n 3, 1) := by decide +kernel
theorem dX6_allOn_12 : decode cX6_allOn 12 = .ok (.iload_n 1, 1) := by decide +kernel
theorem dX6_allOn_13 : decode cX6_allOn 13 = .ok (.invokevirtual 48, 3) := by decide +kernel
theorem dX6_allOn_16 : decode cX6_allOn 16 = .ok (.iadd, 1) := by decide +kernel
theorem dX6_allOn_17 : decode cX6_allOn 17 = .ok (.istore_n 2, 1) := by decide +kernel
theorem dX6_allOn_18 : decode cX6_allOn 18 = .ok (.iinc 3 1, 3) := by decide +kernel
theorem dX6_allOn_21 : decode cX6_allOn 21 = .ok (.goto (-17), 3) := by decide +kernel
theorem dX6_allOn_24 : decode cX6_allOn 24 = .ok (.iload_n 2, 1) := by decide +kernel
theorem dX6_allOn_25 : decode cX6_allOn 25 = .ok (.ireturn, 1) := by decide +kernel
theorem dX6_isPairOn_0 : decode cX6_isPairOn 0 = .ok (.iconst 0, 1) := by decide +kernel
theorem dX6_isPairOn_1 : decode cX6_isPairOn 1 = .ok (.istore_n 2, 1) := by decide +kernel
theorem dX6_isPairOn_2 : decode cX6_isPairOn 2 = .ok (.iconst 0, 1) := by decide +kernel
theorem dX6_isPairOn_3 : decode cX6_isPairOn 3 = .ok (.istore_n 3, 1) := by decide +kernel
theorem dX6_isPairOn_4 : decode cX6_isPairOn 4 = .ok (.iload_n 3, 1) := by decide +kernel
theorem dX6_isPairOn_5 : decode cX6_isPairOn 5 = .ok (.iconst 4, 1) := by decide +kernel
theorem dX6_isPairOn_6 : decode cX6_isPairOn 6 = .ok (.if_icmp .ge 29, 3) := by decide +kernel
theorem dX6_isPairOn_9 : decode cX6_isPairOn 9 = .ok (.iload_n 2, 1) := by decide +kernel
theorem dX6_isPairOn_10 : decode cX6_isPairOn 10 = .ok (.ifCond .ne 13, 3) := by decide +kernel
theorem dX6_isPairOn_13 : decode cX6_isPairOn 13 = .ok (.aload_n 0, 1) := by decide +kernel
theorem dX6_isPairOn_14 : decode cX6_isPairOn 14 = .ok (.iload_n 3, 1) := by decide +kernel
theorem dX6_isPairOn_15 : decode cX6_isPairOn 15 = .ok (.iload_n 1, 1) := by decide +kernel
theorem dX6_isPairOn_16 : decode cX6_isPairOn 16 = .ok (.invokevirtual 48, 3) := by decide +kernel
theorem dX6_isPairOn_19 : decode cX6_isPairOn 19 = .ok (.iconst 1, 1) := by decide +kernel
theorem dX6_isPairOn_20 : decode cX6_isPairOn 20 = .ok (.if_icmp .le 7, 3) := by decide +kernel
theorem dX6_isPairOn_23 : decode cX6_isPairOn 23 = .ok (.iconst 1, 1) := by decide +kernel
theorem dX6_isPairOn_24 : decode cX6_isPairOn 24 = .ok (.goto 4, 3) := by decide +kernel
theorem dX6_isPairOn_27 : decode cX6_isPairOn 27 = .ok (.iconst 0, 1) := by decide +kernel
theorem dX6_isPairOn_28 : decode cX6_isPairOn 28 = .ok (.istore_n 2, 1) := by decide +kernel
theorem dX6_isPairOn_29 : decode cX6_isPairOn 29 = .ok (.iinc 3 1, 3) := by decide +kernel
theorem dX6_isPairOn_32 : decode cX6_isPairOn 32 = .ok (.goto (-28), 3) := by decide +kernel
theorem dX6_isPairOn_35 : decode cX6_isPairOn 35 = .ok (.iload_n 2, 1) := by decide +kernel
theorem dX6_isPairOn_36 : decode cX6_isPairOn 36 = .ok (.ireturn, 1) := by decide +kernel
theorem dX6_atHome_0 : decode cX6_atHome 0 = .ok (.iconst 0, 1) := by decide +kernel
theorem dX6_atHome_1 : decode cX6_atHome 1 = .ok (.istore_n 2, 1) := by decide +kernel
theorem dX6_atHome_2 : decode cX6_atHome 2 = .ok (.iconst 0, 1) := by decide +kernel
theorem dX6_atHome_3 : decode cX6_atHome 3 = .ok (.istore_n 3, 1) := by decide +kernel
theorem dX6_atHome_4 : decode cX6_atHome 4 = .ok (.iload_n 3, 1) := by decide +kernel
theorem dX6_atHome_5 : decode cX6_atHome 5 = .ok (.iconst 3, 1) := by decide +kernel
theorem dX6_atHome_6 : decode cX6_atHome 6 = .ok (.if_icmp .ge 32, 3) := by decide +kernel
theorem dX6_atHome_9 : decode cX6_atHome 9 = .ok (.iload_n 2, 1) := by decide +kernel
theorem dX6_atHome_10 : decode cX6_atHome 10 = .ok (.aload_n 0, 1) := by decide +kernel
theorem dX6_atHome_11 : decode cX6_atHome 11 = .ok (.getfield 7, 3) := by decide +kernel
theorem dX6_atHome_14 : decode cX6_atHome 14 = .ok (.iconst 3, 1) := by decide +kernel
theorem dX6_atHome_15 : decode cX6_atHome 15 = .ok (.iload_n 1, 1) := by decide +kernel
theorem dX6_atHome_16 : decode cX6_atHome 16 = .ok (.imul, 1) := by decide +kernel
theorem dX6_atHome_17 : decode cX6_atHome 17 = .ok (.iload_n 3, 1) := by decide +kernel
theorem dX6_atHome_18 : decode cX6_atHome 18 = .ok (.iadd, 1) := by decide +kernel
theorem dX6_atHome_19 : decode cX6_atHome 19 = .ok (.iaload, 1) := by decide +kernel
theorem dX6_atHome_20 : decode cX6_atHome 20 = .ok (.bipush 35, 2) := by decide +kernel
theorem dX6_atHome_22 : decode cX6_atHome 22 = .ok (.if_icmp .ne 7, 3) := by decide +kernel
theorem dX6_atHome_25 : decode cX6_atHome 25 = .ok (.iconst 1, 1) := by decide +kernel
theorem dX6_atHome_26 : decode cX6_atHome 26 = .ok (.goto 4, 3) := by decide +kernel
theorem dX6_atHome_29 : decode cX6_atHome 29 = .ok (.iconst 0, 1) := by decide +kernel
theorem dX6_atHome_30 : decode cX6_atHome 30 = .ok (.iadd, 1) := by decide +kernel
theorem dX6_atHome_31 : decode cX6_atHome 31 = .ok (.istore_n 2, 1) := by decide +kernel
theorem dX6_atHome_32 : decode cX6_atHome 32 = .ok (.iinc 3 1, 3) := by decide +kernel
theorem dX6_atHome_35 : decode cX6_atHome 35 = .ok (.goto (-31), 3) := by decide +kernel
theorem dX6_atHome_38 : decode cX6_atHome 38 = .ok (.iload_n 2, 1) := by decide +kernel
theorem dX6_atHome_39 : decode cX6_atHome 39 = .ok (.ireturn, 1) := by decide +kernel
theorem dX6_winner_0 : decode cX6_winner 0 = .ok (.bipush (-6), 2) := by decide +kernel
theorem dX6_winner_2 : decode cX6_winner 2 = .ok (.istore_n 1, 1) := by decide +kernel
theorem dX6_winner_3 : decode cX6_winner 3 = .ok (.iconst 3, 1) := by decide +kernel
theorem dX6_winner_4 : decode cX6_winner 4 = .ok (.istore_n 2, 1) := by decide +kernel
theorem dX6_winner_5 : decode cX6_winner 5 = .ok (.iload_n 2, 1) := by decide +kernel
theorem dX6_winner_6 : decode cX6_winner 6 = .ok (.ifCond .lt 24, 3) := by decide +kernel
theorem dX6_winner_9 : decode cX6_winner 9 = .ok (.aload_n 0, 1) := by decide +kernel
theorem dX6_winner_10 : decode cX6_winner 10 = .ok (.iload_n 2, 1) := by decide +kernel
theorem dX6_winner_11 : decode cX6_winner 11 = .ok (.invokevirtual 51, 3) := by decide +kernel
theorem dX6_winner_14 : decode cX6_winner 14 = .ok (.iconst 3, 1) := by decide +kernel
theorem dX6_winner_15 : decode cX6_winner 15 = .ok (.if_icmp .ne 7, 3) := by decide +kernel
theorem dX6_winner_18 : decode cX6_winner 18 = .ok (.iload_n 2, 1) := by decide +kernel
theorem dX6_winner_19 : decode cX6_winner 19 = .ok (.goto 4, 3) := by decide +kernel
theorem dX6_winner_22 : decode cX6_winner 22 = .ok (.iload_n 1, 1) := by decide +kernel
theorem dX6_winner_23 : decode cX6_winner 23 = .ok (.istore_n 1, 1) := by decide +kernel
theorem dX6_winner_24 : decode cX6_winner 24 = .ok (.iinc 2 (-1), 3) := by decide +kernel
theorem dX6_winner_27 : decode cX6_winner 27 = .ok (.goto (-22), 3) := by decide +kernel
theorem dX6_winner_30 : decode cX6_winner 30 = .ok (.iload_n 1, 1) := by decide +kernel
theorem dX6_winner_31 : decode cX6_winner 31 = .ok (.ireturn, 1) := by decide +kernel
theorem dX6_isOver_0 : decode cX6_isOver 0 = .ok (.aload_n 0, 1) := by decide +kernel
theorem dX6_isOver_1 : decode cX6_isOver 1 = .ok (.invokevirtual 54, 3) := by decide +kernel
theorem dX6_isOver_4 : decode cX6_isOver 4 = .ok (.ifCond .lt 7, 3) := by decide +kernel
theorem dX6_isOver_7 : decode cX6_isOver 7 = .ok (.iconst 1, 1) := by decide +kernel
theorem dX6_isOver_8 : decode cX6_isOver 8 = .ok (.goto 4, 3) := by decide +kernel
theorem dX6_isOver_11 : decode cX6_isOver 11 = .ok (.iconst 0, 1) := by decide +kernel
theorem dX6_isOver_12 : decode cX6_isOver 12 = .ok (.ireturn, 1) := by decide +kernel
theorem dX6_lookAtBridges_0 : decode cX6_lookAtBridges 0 = .ok (.iconst 0, 1) := by decide +kernel
theorem dX6_lookAtBridges_1 : decode cX6_lookAtBridges 1 = .ok (.istore_n 1, 1) := by decide +kernel
theorem dX6_lookAtBridges_2 : decode cX6_lookAtBridges 2 = .ok (.iload_n 1, 1) := by decide +kernel
theorem dX6_lookAtBridges_3 : decode cX6_lookAtBridges 3 = .ok (.iconst 4, 1) := by decide +kernel
theorem dX6_lookAtBridges_4 : decode cX6_lookAtBridges 4 = .ok (.if_icmp .ge 114, 3) := by decide +kernel
theorem dX6_lookAtBridges_7 : decode cX6_lookAtBridges 7 = .ok (.bipush 8, 2) := by decide +kernel
theorem dX6_lookAtBridges_9 : decode cX6_lookAtBridges 9 = .ok (.iload_n 1, 1) := by decide +kernel
theorem dX6_lookAtBridges_10 : decode cX6_lookAtBridges 10 = .ok (.imul, 1) := by decide +kernel
theorem dX6_lookAtBridges_11 : decode cX6_lookAtBridges 11 = .ok (.iconst 4, 1) := by decide +kernel
theorem dX6_lookAtBridges_12 : decode cX6_lookAtBridges 12 = .ok (.iadd, 1) := by decide +kernel
theorem dX6_lookAtBridges_13 : decode cX6_lookAtBridges 13 = .ok (.istore_n 2, 1) := by decide +kernel
theorem dX6_lookAtBridges_14 : decode cX6_lookAtBridges 14 = .ok (.aload_n 0, 1) := by decide +kernel
theorem dX6_lookAtBridges_15 : decode cX6_lookAtBridges 15 = .ok (.getfield 7, 3) := by decide +kernel
theorem dX6_lookAtBridges_18 : decode cX6_lookAtBridges 18 = .ok (.bipush 24, 2) := by decide +kernel
theorem dX6_lookAtBridges_20 : decode cX6_lookAtBridges 20 = .ok (.iload_n 1, 1) := by decide +kernel
theorem dX6_lookAtBridges_21 : decode cX6_lookAtBridges 21 = .ok (.iadd, 1) := by decide +kernel
theorem dX6_lookAtBridges_22 : decode cX6_lookAtBridges 22 = .ok (.iaload, 1) := by decide +kernel
theorem dX6_lookAtBridges_23 : decode cX6_lookAtBridges 23 = .ok (.ifCond .ne 21, 3) := by decide +kernel
theorem dX6_lookAtBridges_26 : decode cX6_lookAtBridges 26 = .ok (.aload_n 0, 1) := by decide +kernel
theorem dX6_lookAtBridges_27 : decode cX6_lookAtBridges 27 = .ok (.iload_n 2, 1) := by decide +kernel
theorem dX6_lookAtBridges_28 : decode cX6_lookAtBridges 28 = .ok (.invokevirtual 58, 3) := by decide +kernel
theorem dX6_lookAtBridges_31 : decode cX6_lookAtBridges 31 = .ok (.ifCond .eq 13, 3) := by decide +kernel
theorem dX6_lookAtBridges_34 : decode cX6_lookAtBridges 34 = .ok (.aload_n 0, 1) := by decide +kernel
theorem dX6_lookAtBridges_35 : decode cX6_lookAtBridges 35 = .ok (.getfield 7, 3) := by decide +kernel
theorem dX6_lookAtBridges_38 : decode cX6_lookAtBridges 38 = .ok (.bipush 28, 2) := by decide +kernel
theorem dX6_lookAtBridges_40 : decode cX6_lookAtBridges 40 = .ok (.iload_n 1, 1) := by decide +kernel
theorem dX6_lookAtBridges_41 : decode cX6_lookAtBridges 41 = .ok (.iadd, 1) := by decide +kernel
theorem dX6_lookAtBridges_42 : decode cX6_lookAtBridges 42 = .ok (.iconst 1, 1) := by decide +kernel
theorem dX6_lookAtBridges_43 : decode cX6_lookAtBridges 43 = .ok (.iastore, 1) := by decide +kernel
theorem dX6_lookAtBridges_44 : decode cX6_lookAtBridges 44 = .ok (.aload_n 0, 1) := by decide +kernel
theorem dX6_lookAtBridges_45 : decode cX6_lookAtBridges 45 = .ok (.getfield 7, 3) := by decide +kernel
theorem dX6_lookAtBridges_48 : decode cX6_lookAtBridges 48 = .ok (.bipush 28, 2) := by decide +kernel
theorem dX6_lookAtBridges_50 : decode cX6_lookAtBridges 50 = .ok (.iload_n 1, 1) := by decide +kernel
theorem dX6_lookAtBridges_51 : decode cX6_lookAtBridges 51 = .ok (.iadd, 1) := by decide +kernel
theorem dX6_lookAtBridges_52 : decode cX6_lookAtBridges 52 = .ok (.iaload, 1) := by decide +kernel
theorem dX6_lookAtBridges_53 : decode cX6_lookAtBridges 53 = .ok (.iconst 1, 1) := by decide +kernel
theorem dX6_lookAtBridges_54 : decode cX6_lookAtBridges 54 = .ok (.if_icmp .ne 58, 3) := by decide +kernel
theorem dX6_lookAtBridges_57 : decode cX6_lookAtBridges 57 = .ok (.aload_n 0, 1) := by decide +kernel
theorem dX6_lookAtBridges_58 : decode cX6_lookAtBridges 58 = .ok (.iload_n 2, 1) := by decide +kernel
theorem dX6_lookAtBridges_59 : decode cX6_lookAtBridges 59 = .ok (.invokevirtual 61, 3) := by decide +kernel
theorem dX6_lookAtBridges_62 : decode cX6_lookAtBridges 62 = .ok (.ifCond .ne 50, 3) := by decide +kernel
theorem dX6_lookAtBridges_65 : decode cX6_lookAtBridges 65 = .ok (.aload_n 0, 1) := by decide +kernel
theorem dX6_lookAtBridges_66 : decode cX6_lookAtBridges 66 = .ok (.getfield 7, 3) := by decide +kernel
theorem dX6_lookAtBridges_69 : decode cX6_lookAtBridges 69 = .ok (.bipush 28, 2) := by decide +kernel
theorem dX6_lookAtBridges_71 : decode cX6_lookAtBridges 71 = .ok (.iload_n 1, 1) := by decide +kernel
theorem dX6_lookAtBridges_72 : decode cX6_lookAtBridges 72 = .ok (.iadd, 1) := by decide +kernel
theorem dX6_lookAtBridges_73 : decode cX6_lookAtBridges 73 = .ok (.iconst 0, 1) := by decide +kernel
theorem dX6_lookAtBridges_74 : decode cX6_lookAtBridges 74 = .ok (.iastore, 1) := by decide +kernel
theorem dX6_lookAtBridges_75 : decode cX6_lookAtBridges 75 = .ok (.aload_n 0, 1) := by decide +kernel
theorem dX6_lookAtBridges_76 : decode cX6_lookAtBridges 76 = .ok (.getfield 7, 3) := by decide +kernel
theorem dX6_lookAtBridges_79 : decode cX6_lookAtBridges 79 = .ok (.bipush 24, 2) := by decide +kernel
theorem dX6_lookAtBridges_81 : decode cX6_lookAtBridges 81 = .ok (.iload_n 1, 1) := by decide +kernel
theorem dX6_lookAtBridges_82 : decode cX6_lookAtBridges 82 = .ok (.iadd, 1) := by decide +kernel
theorem dX6_lookAtBridges_83 : decode cX6_lookAtBridges 83 = .ok (.iconst 1, 1) := by decide +kernel
theorem dX6_lookAtBridges_84 : decode cX6_lookAtBridges 84 = .ok (.iastore, 1) := by decide +kernel
theorem dX6_lookAtBridges_85 : decode cX6_lookAtBridges 85 = .ok (.aload_n 0, 1) := by decide +kernel
theorem dX6_lookAtBridges_86 : decode cX6_lookAtBridges 86 = .ok (.getfield 7, 3) := by decide +kernel
theorem dX6_lookAtBridges_89 : decode cX6_lookAtBridges 89 = .ok (.bipush 32, 2) := by decide +kernel
theorem dX6_lookAtBridges_91 : decode cX6_lookAtBridges 91 = .ok (.iload_n 1, 1) := by decide +kernel
theorem dX6_lookAtBridges_92 : decode cX6_lookAtBridges 92 = .ok (.iadd, 1) := by decide +kernel
theorem dX6_lookAtBridges_93 : decode cX6_lookAtBridges 93 = .ok (.aload_n 0, 1) := by decide +kernel
theorem dX6_lookAtBridges_94 : decode cX6_lookAtBridges 94 = .ok (.getfield 7, 3) := by decide +kernel
theorem dX6_lookAtBridges_97 : decode cX6_lookAtBridges 97 = .ok (.bipush 42, 2) := by decide +kernel
theorem dX6_lookAtBridges_99 : decode cX6_lookAtBridges 99 = .ok (.iaload, 1) := by decide +kernel
theorem dX6_lookAtBridges_100 : decode cX6_lookAtBridges 100 = .ok (.iastore, 1) := by decide +kernel
theorem dX6_lookAtBridges_101 : decode cX6_lookAtBridges 101 = .ok (.aload_n 0, 1) := by decide +kernel
theorem dX6_lookAtBridges_102 : decode cX6_lookAtBridges 102 = .ok (.getfield 7, 3) := by decide +kernel
theorem dX6_lookAtBridges_105 : decode cX6_lookAtBridges 105 = .ok (.bipush 45, 2) := by decide +kernel
theorem dX6_lookAtBridges_107 : decode cX6_lookAtBridges 107 = .ok (.dup2, 1) := by decide +kernel
theorem dX6_lookAtBridges_108 : decode cX6_lookAtBridges 108 = .ok (.iaload, 1) := by decide +kernel
theorem dX6_lookAtBridges_109 : decode cX6_lookAtBridges 109 = .ok (.iconst 1, 1) := by decide +kernel
theorem dX6_lookAtBridges_110 : decode cX6_lookAtBridges 110 = .ok (.iadd, 1) := by decide +kernel
theorem dX6_lookAtBridges_111 : decode cX6_lookAtBridges 111 = .ok (.iastore, 1) := by decide +kernel
theorem dX6_lookAtBridges_112 : decode cX6_lookAtBridges 112 = .ok (.iinc 1 1, 3) := by decide +kernel
theorem dX6_lookAtBridges_115 : decode cX6_lookAtBridges 115 = .ok (.goto (-113), 3) := by decide +kernel
theorem dX6_lookAtBridges_118 : decode cX6_lookAtBridges 118 = .ok (.return_, 1) := by decide +kernel
theorem dX6_record_0 : decode cX6_record 0 = .ok (.aload_n 0, 1) := by decide +kernel
theorem dX6_record_1 : decode cX6_record 1 = .ok (.getfield 64, 3) := by decide +kernel
theorem dX6_record_4 : decode cX6_record 4 = .ok (.bipush 6, 2) := by decide +kernel
theorem dX6_record_6 : decode cX6_record 6 = .ok (.if_icmp .ne 43, 3) := by decide +kernel
theorem dX6_record_9 : decode cX6_record 9 = .ok (.iconst 0, 1) := by decide +kernel
theorem dX6_record_10 : decode cX6_record 10 = .ok (.istore_n 1, 1) := by decide +kernel
theorem dX6_record_11 : decode cX6_record 11 = .ok (.iload_n 1, 1) := by decide +kernel
theorem dX6_record_12 : decode cX6_record 12 = .ok (.sipush 230, 3) := by decide +kernel
theorem dX6_record_15 : decode cX6_record 15 = .ok (.if_icmp .ge 24, 3) := by decide +kernel
theorem dX6_record_18 : decode cX6_record 18 = .ok (.aload_n 0, 1) := by decide +kernel
theorem dX6_record_19 : decode cX6_record 19 = .ok (.getfield 16, 3) := by decide +kernel
theorem dX6_record_22 : decode cX6_record 22 = .ok (.iload_n 1, 1) := by decide +kernel
theorem dX6_record_23 : decode cX6_record 23 = .ok (.aload_n 0, 1) := by decide +kernel
theorem dX6_record_24 : decode cX6_record 24 = .ok (.getfield 16, 3) := by decide +kernel
theorem dX6_record_27 : decode cX6_record 27 = .ok (.bipush 46, 2) := by decide +kernel
theorem dX6_record_29 : decode cX6_record 29 = .ok (.iload_n 1, 1) := by decide +kernel
theorem dX6_record_30 : decode cX6_record 30 = .ok (.iadd, 1) := by decide +kernel
theorem dX6_record_31 : decode cX6_record 31 = .ok (.iaload, 1) := by decide +kernel
theorem dX6_record_32 : decode cX6_record 32 = .ok (.iastore, 1) := by decide +kernel
theorem dX6_record_33 : decode cX6_record 33 = .ok (.iinc 1 1, 3) := by decide +kernel
theorem dX6_record_36 : decode cX6_record 36 = .ok (.goto (-25), 3) := by decide +kernel
theorem dX6_record_39 : decode cX6_record 39 = .ok (.aload_n 0, 1) := by decide +kernel
theorem dX6_record_40 : decode cX6_record 40 = .ok (.dup, 1) := by decide +kernel
theorem dX6_record_41 : decode cX6_record 41 = .ok (.getfield 64, 3) := by decide +kernel
theorem dX6_record_44 : decode cX6_record 44 = .ok (.iconst 1, 1) := by decide +kernel
theorem dX6_record_45 : decode cX6_record 45 = .ok (.isub, 1) := by decide +kernel
theorem dX6_record_46 : decode cX6_record 46 = .ok (.putfield 64, 3) := by decide +kernel
theorem dX6_record_49 : decode cX6_record 49 = .ok (.iconst 0, 1) := by decide +kernel
theorem dX6_record_50 : decode cX6_record 50 = .ok (.istore_n 1, 1) := by decide +kernel
theorem dX6_record_51 : decode cX6_record 51 = .ok (.iload_n 1, 1) := by decide +kernel
theorem dX6_record_52 : decode cX6_record 52 = .ok (.bipush 46, 2) := by decide +kernel
theorem dX6_record_54 : decode cX6_record 54 = .ok (.if_icmp .ge 29, 3) := by decide +kernel
theorem dX6_record_57 : decode cX6_record 57 = .ok (.aload_n 0, 1) := by decide +kernel
theorem dX6_record_58 : decode cX6_record 58 = .ok (.getfield 16, 3) := by decide +kernel
theorem dX6_record_61 : decode cX6_record 61 = .ok (.bipush 46, 2) := by decide +kernel
theorem dX6_record_63 : decode cX6_record 63 = .ok (.aload_n 0, 1) := by decide +kernel
theorem dX6_record_64 : decode cX6_record 64 = .ok (.getfield 64, 3) := by decide +kernel
theorem dX6_record_67 : decode cX6_record 67 = .ok (.imul, 1) := by decide +kernel
theorem dX6_record_68 : decode cX6_record 68 = .ok (.iload_n 1, 1) := by decide +kernel
theorem dX6_record_69 : decode cX6_record 69 = .ok (.iadd, 1) := by decide +kernel
theorem dX6_record_70 : decode cX6_record 70 = .ok (.aload_n 0, 1) := by decide +kernel
theorem dX6_record_71 : decode cX6_record 71 = .ok (.getfield 7, 3) := by decide +kernel
theorem dX6_record_74 : decode cX6_record 74 = .ok (.iload_n 1, 1) := by decide +kernel
theorem dX6_record_75 : decode cX6_record 75 = .ok (.iaload, 1) := by decide +kernel
theorem dX6_record_76 : decode cX6_record 76 = .ok (.iastore, 1) := by decide +kernel
theorem dX6_record_77 : decode cX6_record 77 = .ok (.iinc 1 1, 3) := by decide +kernel
theorem dX6_record_80 : decode cX6_record 80 = .ok (.goto (-29), 3) := by decide +kernel
theorem dX6_record_83 : decode cX6_record 83 = .ok (.aload_n 0, 1) := by decide +kernel
theorem dX6_record_84 : decode cX6_record 84 = .ok (.dup, 1) := by decide +kernel
theorem dX6_record_85 : decode cX6_record 85 = .ok (.getfield 64, 3) := by decide +kernel
theorem dX6_record_88 : decode cX6_record 88 = .ok (.iconst 1, 1) := by decide +kernel
theorem dX6_record_89 : decode cX6_record 89 = .ok (.iadd, 1) := by decide +kernel
theorem dX6_record_90 : decode cX6_record 90 = .ok (.putfield 64, 3) := by decide +kernel
theorem dX6_record_93 : decode cX6_record 93 = .ok (.return_, 1) := by decide +kernel
theorem dX6_undo_0 : decode cX6_undo 0 = .ok (.aload_n 0, 1) := by decide +kernel
theorem dX6_undo_1 : decode cX6_undo 1 = .ok (.getfield 64, 3) := by decide +kernel
theorem dX6_undo_4 : decode cX6_undo 4 = .ok (.ifCond .ne 6, 3) := by decide +kernel
theorem dX6_undo_7 : decode cX6_undo 7 = .ok (.bipush (-5), 2) := by decide +kernel
theorem dX6_undo_9 : decode cX6_undo 9 = .ok (.ireturn, 1) := by decide +kernel
theorem dX6_undo_10 : decode cX6_undo 10 = .ok (.aload_n 0, 1) := by decide +kernel
theorem dX6_undo_11 : decode cX6_undo 11 = .ok (.dup, 1) := by decide +kernel
theorem dX6_undo_12 : decode cX6_undo 12 = .ok (.getfield 64, 3) := by decide +kernel
theorem dX6_undo_15 : decode cX6_undo 15 = .ok (.iconst 1, 1) := by decide +kernel
theorem dX6_undo_16 : decode cX6_undo 16 = .ok (.isub, 1) := by decide +kernel
theorem dX6_undo_17 : decode cX6_undo 17 = .ok (.putfield 64, 3) := by decide +kernel
theorem dX6_undo_20 : decode cX6_undo 20 = .ok (.iconst 0, 1) := by decide +kernel
theorem dX6_undo_21 : decode cX6_undo 21 = .ok (.istore_n 1, 1) := by decide +kernel
theorem dX6_undo_22 : decode cX6_undo 22 = .ok (.iload_n 1, 1) := by decide +kernel
theorem dX6_undo_23 : decode cX6_undo 23 = .ok (.bipush 46, 2) := by decide +kernel
theorem dX6_undo_25 : decode cX6_undo 25 = .ok (.if_icmp .ge 29, 3) := by decide +kernel
theorem dX6_undo_28 : decode cX6_undo 28 = .ok (.aload_n 0, 1) := by decide +kernel
theorem dX6_undo_29 : decode cX6_undo 29 = .ok (.getfield 7, 3) := by decide +kernel
theorem dX6_undo_32 : decode cX6_undo 32 = .ok (.iload_n 1, 1) := by decide +kernel
theorem dX6_undo_33 : decode cX6_undo 33 = .ok (.aload_n 0, 1) := by decide +kernel
theorem dX6_undo_34 : decode cX6_undo 34 = .ok (.getfield 16, 3) := by decide +kernel
theorem dX6_undo_37 : decode cX6_undo 37 = .ok (.bipush 46, 2) := by decide +kernel
theorem dX6_undo_39 : decode cX6_undo 39 = .ok (.aload_n 0, 1) := by decide +kernel
theorem dX6_undo_40 : decode cX6_undo 40 = .ok (.getfield 64, 3) := by decide +kernel
theorem dX6_undo_43 : decode cX6_undo 43 = .ok (.imul, 1) := by decide +kernel
theorem dX6_undo_44 : decode cX6_undo 44 = .ok (.iload_n 1, 1) := by decide +kernel
theorem dX6_undo_45 : decode cX6_undo 45 = .ok (.iadd, 1) := by decide +kernel
theorem dX6_undo_46 : decode cX6_undo 46 = .ok (.iaload, 1) := by decide +kernel
theorem dX6_undo_47 : decode cX6_undo 47 = .ok (.iastore, 1) := by decide +kernel
theorem dX6_undo_48 : decode cX6_undo 48 = .ok (.iinc 1 1, 3) := by decide +kernel
theorem dX6_undo_51 : decode cX6_undo 51 = .ok (.goto (-29), 3) := by decide +kernel
theorem dX6_undo_54 : decode cX6_undo 54 = .ok (.aload_n 0, 1) := by decide +kernel
theorem dX6_undo_55 : decode cX6_undo 55 = .ok (.getfield 64, 3) := by decide +kernel
theorem dX6_undo_58 : decode cX6_undo 58 = .ok (.ireturn, 1) := by decide +kernel
theorem dX6_save_0 : decode cX6_save 0 = .ok (.iload_n 1, 1) := by decide +kernel
theorem dX6_save_1 : decode cX6_save 1 = .ok (.iconst 0, 1) := by decide +kernel
theorem dX6_save_2 : decode cX6_save 2 = .ok (.iconst 1, 1) := by decide +kernel
theorem dX6_save_3 : decode cX6_save 3 = .ok (.invokestatic 32, 3) := by decide +kernel
theorem dX6_save_6 : decode cX6_save 6 = .ok (.ifCond .ne 6, 3) := by decide +kernel
theorem dX6_save_9 : decode cX6_save 9 = .ok (.bipush (-2), 2) := by decide +kernel
theorem dX6_save_11 : decode cX6_save 11 = .ok (.ireturn, 1) := by decide +kernel
theorem dX6_save_12 : decode cX6_save 12 = .ok (.iconst 0, 1) := by decide +kernel
theorem dX6_save_13 : decode cX6_save 13 = .ok (.istore_n 2, 1) := by decide +kernel
theorem dX6_save_14 : decode cX6_save 14 = .ok (.iload_n 2, 1) := by decide +kernel
theorem dX6_save_15 : decode cX6_save 15 = .ok (.bipush 46, 2) := by decide +kernel
theorem dX6_save_17 : decode cX6_save 17 = .ok (.if_icmp .ge 26, 3) := by decide +kernel
theorem dX6_save_20 : decode cX6_save 20 = .ok (.aload_n 0, 1) := by decide +kernel
theorem dX6_save_21 : decode cX6_save 21 = .ok (.getfield 19, 3) := by decide +kernel
theorem dX6_save_24 : decode cX6_save 24 = .ok (.bipush 46, 2) := by decide +kernel
theorem dX6_save_26 : decode cX6_save 26 = .ok (.iload_n 1, 1) := by decide +kernel
theorem dX6_save_27 : decode cX6_save 27 = .ok (.imul, 1) := by decide +kernel
theorem dX6_save_28 : decode cX6_save 28 = .ok (.iload_n 2, 1) := by decide +kernel
theorem dX6_save_29 : decode cX6_save 29 = .ok (.iadd, 1) := by decide +kernel
theorem dX6_save_30 : decode cX6_save 30 = .ok (.aload_n 0, 1) := by decide +kernel
theorem dX6_save_31 : decode cX6_save 31 = .ok (.getfield 7, 3) := by decide +kernel
theorem dX6_save_34 : decode cX6_save 34 = .ok (.iload_n 2, 1) := by decide +kernel
theorem dX6_save_35 : decode cX6_save 35 = .ok (.iaload, 1) := by decide +kernel
theorem dX6_save_36 : decode cX6_save 36 = .ok (.iastore, 1) := by decide +kernel
theorem dX6_save_37 : decode cX6_save 37 = .ok (.iinc 2 1, 3) := by decide +kernel
theorem dX6_save_40 : decode cX6_save 40 = .ok (.goto (-26), 3) := by decide +kernel
theorem dX6_save_43 : decode cX6_save 43 = .ok (.aload_n 0, 1) := by decide +kernel
theorem dX6_save_44 : decode cX6_save 44 = .ok (.getfield 22, 3) := by decide +kernel
theorem dX6_save_47 : decode cX6_save 47 = .ok (.iload_n 1, 1) := by decide +kernel
theorem dX6_save_48 : decode cX6_save 48 = .ok (.iconst 1, 1) := by decide +kernel
theorem dX6_save_49 : decode cX6_save 49 = .ok (.bastore, 1) := by decide +kernel
theorem dX6_save_50 : decode cX6_save 50 = .ok (.aload_n 0, 1) := by decide +kernel
theorem dX6_save_51 : decode cX6_save 51 = .ok (.getfield 7, 3) := by decide +kernel
theorem dX6_save_54 : decode cX6_save 54 = .ok (.bipush 42, 2) := by decide +kernel
theorem dX6_save_56 : decode cX6_save 56 = .ok (.iaload, 1) := by decide +kernel
theorem dX6_save_57 : decode cX6_save 57 = .ok (.ireturn, 1) := by decide +kernel
theorem dX6_restore_0 : decode cX6_restore 0 = .ok (.iload_n 1, 1) := by decide +kernel
theorem dX6_restore_1 : decode cX6_restore 1 = .ok (.iconst 0, 1) := by decide +kernel
theorem dX6_restore_2 : decode cX6_restore 2 = .ok (.iconst 1, 1) := by decide +kernel
theorem dX6_restore_3 : decode cX6_restore 3 = .ok (.invokestatic 32, 3) := by decide +kernel
theorem dX6_restore_6 : decode cX6_restore 6 = .ok (.ifCond .ne 6, 3) := by decide +kernel
theorem dX6_restore_9 : decode cX6_restore 9 = .ok (.bipush (-2), 2) := by decide +kernel
theorem dX6_restore_11 : decode cX6_restore 11 = .ok (.ireturn, 1) := by decide +kernel
theorem dX6_restore_12 : decode cX6_restore 12 = .ok (.aload_n 0, 1) := by decide +kernel
theorem dX6_restore_13 : decode cX6_restore 13 = .ok (.getfield 22, 3) := by decide +kernel
theorem dX6_restore_16 : decode cX6_restore 16 = .ok (.iload_n 1, 1) := by decide +kernel
theorem dX6_restore_17 : decode cX6_restore 17 = .ok (.baload, 1) := by decide +kernel
theorem dX6_restore_18 : decode cX6_restore 18 = .ok (.ifCond .ne 6, 3) := by decide +kernel
theorem dX6_restore_21 : decode cX6_restore 21 = .ok (.bipush (-5), 2) := by decide +kernel
theorem dX6_restore_23 : decode cX6_restore 23 = .ok (.ireturn, 1) := by decide +kernel
theorem dX6_restore_24 : decode cX6_restore 24 = .ok (.aload_n 0, 1) := by decide +kernel
theorem dX6_restore_25 : decode cX6_restore 25 = .ok (.invokevirtual 68, 3) := by decide +kernel
theorem dX6_restore_28 : decode cX6_restore 28 = .ok (.iconst 0, 1) := by decide +kernel
theorem dX6_restore_29 : decode cX6_restore 29 = .ok (.istore_n 2, 1) := by decide +kernel
theorem dX6_restore_30 : decode cX6_restore 30 = .ok (.iload_n 2, 1) := by decide +kernel
theorem dX6_restore_31 : decode cX6_restore 31 = .ok (.bipush 46, 2) := by decide +kernel
theorem dX6_restore_33 : decode cX6_restore 33 = .ok (.if_icmp .ge 26, 3) := by decide +kernel
theorem dX6_restore_36 : decode cX6_restore 36 = .ok (.aload_n 0, 1) := by decide +kernel
theorem dX6_restore_37 : decode cX6_restore 37 = .ok (.getfield 7, 3) := by decide +kernel
theorem dX6_restore_40 : decode cX6_restore 40 = .ok (.iload_n 2, 1) := by decide +kernel
theorem dX6_restore_41 : decode cX6_restore 41 = .ok (.aload_n 0, 1) := by decide +kernel
theorem dX6_restore_42 : decode cX6_restore 42 = .ok (.getfield 19, 3) := by decide +kernel
theorem dX6_restore_45 : decode cX6_restore 45 = .ok (.bipush 46, 2) := by decide +kernel
theorem dX6_restore_47 : decode cX6_restore 47 = .ok (.iload_n 1, 1) := by decide +kernel
theorem dX6_restore_48 : decode cX6_restore 48 = .ok (.imul, 1) := by decide +kernel
theorem dX6_restore_49 : decode cX6_restore 49 = .ok (.iload_n 2, 1) := by decide +kernel
theorem dX6_restore_50 : decode cX6_restore 50 = .ok (.iadd, 1) := by decide +kernel
theorem dX6_restore_51 : decode cX6_restore 51 = .ok (.iaload, 1) := by decide +kernel
theorem dX6_restore_52 : decode cX6_restore 52 = .ok (.iastore, 1) := by decide +kernel
theorem dX6_restore_53 : decode cX6_restore 53 = .ok (.iinc 2 1, 3) := by decide +kernel
theorem dX6_restore_56 : decode cX6_restore 56 = .ok (.goto (-26), 3) := by decide +kernel
theorem dX6_restore_59 : decode cX6_restore 59 = .ok (.aload_n 0, 1) := by decide +kernel
theorem dX6_restore_60 : decode cX6_restore 60 = .ok (.getfield 7, 3) := by decide +kernel
theorem dX6_restore_63 : decode cX6_restore 63 = .ok (.bipush 42, 2) := by decide +kernel
theorem dX6_restore_65 : decode cX6_restore 65 = .ok (.iaload, 1) := by decide +kernel
theorem dX6_restore_66 : decode cX6_restore 66 = .ok (.ireturn, 1) := by decide +kernel
theorem dX6_putAside_0 : decode cX6_putAside 0 = .ok (.iconst 0, 1) := by decide +kernel
theorem dX6_putAside_1 : decode cX6_putAside 1 = .ok (.istore_n 1, 1) := by decide +kernel
theorem dX6_putAside_2 : decode cX6_putAside 2 = .ok (.iload_n 1, 1) := by decide +kernel
theorem dX6_putAside_3 : decode cX6_putAside 3 = .ok (.bipush 46, 2) := by decide +kernel
theorem dX6_putAside_5 : decode cX6_putAside 5 = .ok (.if_icmp .ge 21, 3) := by decide +kernel
theorem dX6_putAside_8 : decode cX6_putAside 8 = .ok (.aload_n 0, 1) := by decide +kernel
theorem dX6_putAside_9 : decode cX6_putAside 9 = .ok (.getfield 13, 3) := by decide +kernel
theorem dX6_putAside_12 : decode cX6_putAside 12 = .ok (.iload_n 1, 1) := by decide +kernel
theorem dX6_putAside_13 : decode cX6_putAside 13 = .ok (.aload_n 0, 1) := by decide +kernel
theorem dX6_putAside_14 : decode cX6_putAside 14 = .ok (.getfield 7, 3) := by decide +kernel
theorem dX6_putAside_17 : decode cX6_putAside 17 = .ok (.iload_n 1, 1) := by decide +kernel
theorem dX6_putAside_18 : decode cX6_putAside 18 = .ok (.iaload, 1) := by decide +kernel
theorem dX6_putAside_19 : decode cX6_putAside 19 = .ok (.iastore, 1) := by decide +kernel
theorem dX6_putAside_20 : decode cX6_putAside 20 = .ok (.iinc 1 1, 3) := by decide +kernel
theorem dX6_putAside_23 : decode cX6_putAside 23 = .ok (.goto (-21), 3) := by decide +kernel
theorem dX6_putAside_26 : decode cX6_putAside 26 = .ok (.return_, 1) := by decide +kernel
theorem dX6_putBack_0 : decode cX6_putBack 0 = .ok (.iconst 0, 1) := by decide +kernel
theorem dX6_putBack_1 : decode cX6_putBack 1 = .ok (.istore_n 1, 1) := by decide +kernel
theorem dX6_putBack_2 : decode cX6_putBack 2 = .ok (.iload_n 1, 1) := by decide +kernel
theorem dX6_putBack_3 : decode cX6_putBack 3 = .ok (.bipush 46, 2) := by decide +kernel
theorem dX6_putBack_5 : decode cX6_putBack 5 = .ok (.if_icmp .ge 21, 3) := by decide +kernel
theorem dX6_putBack_8 : decode cX6_putBack 8 = .ok (.aload_n 0, 1) := by decide +kernel
theorem dX6_putBack_9 : decode cX6_putBack 9 = .ok (.getfield 7, 3) := by decide +kernel
theorem dX6_putBack_12 : decode cX6_putBack 12 = .ok (.iload_n 1, 1) := by decide +kernel
theorem dX6_putBack_13 : decode cX6_putBack 13 = .ok (.aload_n 0, 1) := by decide +kernel
theorem dX6_putBack_14 : decode cX6_putBack 14 = .ok (.getfield 13, 3) := by decide +kernel
theorem dX6_putBack_17 : decode cX6_putBack 17 = .ok (.iload_n 1, 1) := by decide +kernel
theorem dX6_putBack_18 : decode cX6_putBack 18 = .ok (.iaload, 1) := by decide +kernel
theorem dX6_putBack_19 : decode cX6_putBack 19 = .ok (.iastore, 1) := by decide +kernel
theorem dX6_putBack_20 : decode cX6_putBack 20 = .ok (.iinc 1 1, 3) := by decide +kernel
theorem dX6_putBack_23 : decode cX6_putBack 23 = .ok (.goto (-21), 3) := by decide +kernel
theorem dX6_putBack_26 : decode cX6_putBack 26 = .ok (.return_, 1) := by decide +kernel
theorem dX6_isBlocked_0 : decode cX6_isBlocked 0 = .ok (.iconst 0, 1) := by decide +kernel
theorem dX6_isBlocked_1 : decode cX6_isBlocked 1 = .ok (.istore_n 3, 1) := by decide +kernel
theorem dX6_isBlocked_2 : decode cX6_isBlocked 2 = .ok (.iconst 0, 1) := by decide +kernel
theorem dX6_isBlocked_3 : decode cX6_isBlocked 3 = .ok (.istore 4, 2) := by decide +kernel
theorem dX6_isBlocked_5 : decode cX6_isBlocked 5 = .ok (.iload 4, 2) := by decide +kernel
theorem dX6_isBlocked_7 : decode cX6_isBlocked 7 = .ok (.iconst 4, 1) := by decide +kernel
theorem dX6_isBlocked_8 : decode cX6_isBlocked 8 = .ok (.if_icmp .ge 36, 3) := by decide +kernel
theorem dX6_isBlocked_11 : decode cX6_isBlocked 11 = .ok (.iload_n 3, 1) := by decide +kernel
theorem dX6_isBlocked_12 : decode cX6_isBlocked 12 = .ok (.ifCond .ne 20, 3) := by decide +kernel
theorem dX6_isBlocked_15 : decode cX6_isBlocked 15 = .ok (.iload 4, 2) := by decide +kernel
theorem dX6_isBlocked_17 : decode cX6_isBlocked 17 = .ok (.iload_n 1, 1) := by decide +kernel
theorem dX6_isBlocked_18 : decode cX6_isBlocked 18 = .ok (.if_icmp .eq 18, 3) := by decide +kernel
theorem dX6_isBlocked_21 : decode cX6_isBlocked 21 = .ok (.aload_n 0, 1) := by decide +kernel
theorem dX6_isBlocked_22 : decode cX6_isBlocked 22 = .ok (.iload 4, 2) := by decide +kernel
theorem dX6_isBlocked_24 : decode cX6_isBlocked 24 = .ok (.iload_n 2, 1) := by decide +kernel
theorem dX6_isBlocked_25 : decode cX6_isBlocked 25 = .ok (.invokevirtual 48, 3) := by decide +kernel
theorem dX6_isBlocked_28 : decode cX6_isBlocked 28 = .ok (.iconst 1, 1) := by decide +kernel
theorem dX6_isBlocked_29 : decode cX6_isBlocked 29 = .ok (.if_icmp .le 7, 3) := by decide +kernel
theorem dX6_isBlocked_32 : decode cX6_isBlocked 32 = .ok (.iconst 1, 1) := by decide +kernel
theorem dX6_isBlocked_33 : decode cX6_isBlocked 33 = .ok (.goto 4, 3) := by decide +kernel
theorem dX6_isBlocked_36 : decode cX6_isBlocked 36 = .ok (.iconst 0, 1) := by decide +kernel
theorem dX6_isBlocked_37 : decode cX6_isBlocked 37 = .ok (.istore_n 3, 1) := by decide +kernel
theorem dX6_isBlocked_38 : decode cX6_isBlocked 38 = .ok (.iinc 4 1, 3) := by decide +kernel
theorem dX6_isBlocked_41 : decode cX6_isBlocked 41 = .ok (.goto (-36), 3) := by decide +kernel
theorem dX6_isBlocked_44 : decode cX6_isBlocked 44 = .ok (.iload_n 3, 1) := by decide +kernel
theorem dX6_isBlocked_45 : decode cX6_isBlocked 45 = .ok (.ireturn, 1) := by decide +kernel
theorem dX6_stepOn_0 : decode cX6_stepOn 0 = .ok (.iload_n 2, 1) := by decide +kernel
theorem dX6_stepOn_1 : decode cX6_stepOn 1 = .ok (.istore 4, 2) := by decide +kernel
theorem dX6_stepOn_3 : decode cX6_stepOn 3 = .ok (.iload_n 3, 1) := by decide +kernel
theorem dX6_stepOn_4 : decode cX6_stepOn 4 = .ok (.istore 5, 2) := by decide +kernel
theorem dX6_stepOn_6 : decode cX6_stepOn 6 = .ok (.iconst 1, 1) := by decide +kernel
theorem dX6_stepOn_7 : decode cX6_stepOn 7 = .ok (.istore 6, 2) := by decide +kernel
theorem dX6_stepOn_9 : decode cX6_stepOn 9 = .ok (.iload 5, 2) := by decide +kernel
theorem dX6_stepOn_11 : decode cX6_stepOn 11 = .ok (.ifCond .le 48, 3) := by decide +kernel
theorem dX6_stepOn_14 : decode cX6_stepOn 14 = .ok (.iinc 4 1, 3) := by decide +kernel
theorem dX6_stepOn_17 : decode cX6_stepOn 17 = .ok (.aload_n 0, 1) := by decide +kernel
theorem dX6_stepOn_18 : decode cX6_stepOn 18 = .ok (.iload_n 1, 1) := by decide +kernel
theorem dX6_stepOn_19 : decode cX6_stepOn 19 = .ok (.iload 4, 2) := by decide +kernel
theorem dX6_stepOn_21 : decode cX6_stepOn 21 = .ok (.invokestatic 36, 3) := by decide +kernel
theorem dX6_stepOn_24 : decode cX6_stepOn 24 = .ok (.invokevirtual 71, 3) := by decide +kernel
theorem dX6_stepOn_27 : decode cX6_stepOn 27 = .ok (.istore 7, 2) := by decide +kernel
theorem dX6_stepOn_29 : decode cX6_stepOn 29 = .ok (.iload 5, 2) := by decide +kernel
theorem dX6_stepOn_31 : decode cX6_stepOn 31 = .ok (.iload 7, 2) := by decide +kernel
theorem dX6_stepOn_33 : decode cX6_stepOn 33 = .ok (.ifCond .eq 7, 3) := by decide +kernel
theorem dX6_stepOn_36 : decode cX6_stepOn 36 = .ok (.iconst 2, 1) := by decide +kernel
theorem dX6_stepOn_37 : decode cX6_stepOn 37 = .ok (.goto 4, 3) := by decide +kernel
theorem dX6_stepOn_40 : decode cX6_stepOn 40 = .ok (.iconst 1, 1) := by decide +kernel
theorem dX6_stepOn_41 : decode cX6_stepOn 41 = .ok (.isub, 1) := by decide +kernel
theorem dX6_stepOn_42 : decode cX6_stepOn 42 = .ok (.istore 5, 2) := by decide +kernel
theorem dX6_stepOn_44 : decode cX6_stepOn 44 = .ok (.iload 7, 2) := by decide +kernel
theorem dX6_stepOn_46 : decode cX6_stepOn 46 = .ok (.ifCond .ne 7, 3) := by decide +kernel
theorem dX6_stepOn_49 : decode cX6_stepOn 49 = .ok (.iconst 1, 1) := by decide +kernel
theorem dX6_stepOn_50 : decode cX6_stepOn 50 = .ok (.goto 4, 3) := by decide +kernel
theorem dX6_stepOn_53 : decode cX6_stepOn 53 = .ok (.iconst 0, 1) := by decide +kernel
theorem dX6_stepOn_54 : decode cX6_stepOn 54 = .ok (.istore 6, 2) := by decide +kernel
theorem dX6_stepOn_56 : decode cX6_stepOn 56 = .ok (.goto (-47), 3) := by decide +kernel
theorem dX6_stepOn_59 : decode cX6_stepOn 59 = .ok (.iload 4, 2) := by decide +kernel
theorem dX6_stepOn_61 : decode cX6_stepOn 61 = .ok (.bipush 35, 2) := by decide +kernel
theorem dX6_stepOn_63 : decode cX6_stepOn 63 = .ok (.if_icmp .gt 13, 3) := by decide +kernel
theorem dX6_stepOn_66 : decode cX6_stepOn 66 = .ok (.iload 5, 2) := by decide +kernel
theorem dX6_stepOn_68 : decode cX6_stepOn 68 = .ok (.ifCond .lt 8, 3) := by decide +kernel
theorem dX6_stepOn_71 : decode cX6_stepOn 71 = .ok (.iload 6, 2) := by decide +kernel
theorem dX6_stepOn_73 : decode cX6_stepOn 73 = .ok (.ifCond .ne 8, 3) := by decide +kernel
theorem dX6_stepOn_76 : decode cX6_stepOn 76 = .ok (.bipush (-6), 2) := by decide +kernel
theorem dX6_stepOn_78 : decode cX6_stepOn 78 = .ok (.goto 5, 3) := by decide +kernel
theorem dX6_stepOn_81 : decode cX6_stepOn 81 = .ok (.iload 4, 2) := by decide +kernel
theorem dX6_stepOn_83 : decode cX6_stepOn 83 = .ok (.ireturn, 1) := by decide +kernel
theorem dX6_whyNot_0 : decode cX6_whyNot 0 = .ok (.iload_n 1, 1) := by decide +kernel
theorem dX6_whyNot_1 : decode cX6_whyNot 1 = .ok (.iconst 3, 1) := by decide +kernel
theorem dX6_whyNot_2 : decode cX6_whyNot 2 = .ok (.idiv, 1) := by decide +kernel
theorem dX6_whyNot_3 : decode cX6_whyNot 3 = .ok (.istore_n 3, 1) := by decide +kernel
theorem dX6_whyNot_4 : decode cX6_whyNot 4 = .ok (.aload_n 0, 1) := by decide +kernel
theorem dX6_whyNot_5 : decode cX6_whyNot 5 = .ok (.getfield 7, 3) := by decide +kernel
theorem dX6_whyNot_8 : decode cX6_whyNot 8 = .ok (.iload_n 1, 1) := by decide +kernel
theorem dX6_whyNot_9 : decode cX6_whyNot 9 = .ok (.iaload, 1) := by decide +kernel
theorem dX6_whyNot_10 : decode cX6_whyNot 10 = .ok (.istore 4, 2) := by decide +kernel
theorem dX6_whyNot_12 : decode cX6_whyNot 12 = .ok (.iload 4, 2) := by decide +kernel
theorem dX6_whyNot_14 : decode cX6_whyNot 14 = .ok (.bipush 35, 2) := by decide +kernel
theorem dX6_whyNot_16 : decode cX6_whyNot 16 = .ok (.if_icmp .ne 5, 3) := by decide +kernel
theorem dX6_whyNot_19 : decode cX6_whyNot 19 = .ok (.iconst 1, 1) := by decide +kernel
theorem dX6_whyNot_20 : decode cX6_whyNot 20 = .ok (.ireturn, 1) := by decide +kernel
theorem dX6_whyNot_21 : decode cX6_whyNot 21 = .ok (.iload 4, 2) := by decide +kernel
theorem dX6_whyNot_23 : decode cX6_whyNot 23 = .ok (.bipush (-6), 2) := by decide +kernel
theorem dX6_whyNot_25 : decode cX6_whyNot 25 = .ok (.if_icmp .ne 16, 3) := by decide +kernel
theorem dX6_whyNot_28 : decode cX6_whyNot 28 = .ok (.iload_n 2, 1) := by decide +kernel
theorem dX6_whyNot_29 : decode cX6_whyNot 29 = .ok (.aload_n 0, 1) := by decide +kernel
theorem dX6_whyNot_30 : decode cX6_whyNot 30 = .ok (.getfield 7, 3) := by decide +kernel
theorem dX6_whyNot_33 : decode cX6_whyNot 33 = .ok (.bipush 36, 2) := by decide +kernel
theorem dX6_whyNot_35 : decode cX6_whyNot 35 = .ok (.iaload, 1) := by decide +kernel
theorem dX6_whyNot_36 : decode cX6_whyNot 36 = .ok (.if_icmp .ge 5, 3) := by decide +kernel
theorem dX6_whyNot_39 : decode cX6_whyNot 39 = .ok (.iconst 2, 1) := by decide +kernel
theorem dX6_whyNot_40 : decode cX6_whyNot 40 = .ok (.ireturn, 1) := by decide +kernel
theorem dX6_whyNot_41 : decode cX6_whyNot 41 = .ok (.aload_n 0, 1) := by decide +kernel
theorem dX6_whyNot_42 : decode cX6_whyNot 42 = .ok (.iload 4, 2) := by decide +kernel
theorem dX6_whyNot_44 : decode cX6_whyNot 44 = .ok (.bipush (-6), 2) := by decide +kernel
theorem dX6_whyNot_46 : decode cX6_whyNot 46 = .ok (.if_icmp .ne 7, 3) := by decide +kernel
theorem dX6_whyNot_49 : decode cX6_whyNot 49 = .ok (.iconst 0, 1) := by decide +kernel
theorem dX6_whyNot_50 : decode cX6_whyNot 50 = .ok (.goto 11, 3) := by decide +kernel
theorem dX6_whyNot_53 : decode cX6_whyNot 53 = .ok (.aload_n 0, 1) := by decide +kernel
theorem dX6_whyNot_54 : decode cX6_whyNot 54 = .ok (.iload_n 3, 1) := by decide +kernel
theorem dX6_whyNot_55 : decode cX6_whyNot 55 = .ok (.iload 4, 2) := by decide +kernel
theorem dX6_whyNot_57 : decode cX6_whyNot 57 = .ok (.iload_n 2, 1) := by decide +kernel
theorem dX6_whyNot_58 : decode cX6_whyNot 58 = .ok (.invokevirtual 74, 3) := by decide +kernel
theorem dX6_whyNot_61 : decode cX6_whyNot 61 = .ok (.putfield 78, 3) := by decide +kernel
theorem dX6_whyNot_64 : decode cX6_whyNot 64 = .ok (.aload_n 0, 1) := by decide +kernel
theorem dX6_whyNot_65 : decode cX6_whyNot 65 = .ok (.getfield 78, 3) := by decide +kernel
theorem dX6_whyNot_68 : decode cX6_whyNot 68 = .ok (.ifCond .ge 5, 3) := by decide +kernel
theorem dX6_whyNot_71 : decode cX6_whyNot 71 = .ok (.iconst 3, 1) := by decide +kernel
theorem dX6_whyNot_72 : decode cX6_whyNot 72 = .ok (.ireturn, 1) := by decide +kernel
theorem dX6_whyNot_73 : decode cX6_whyNot 73 = .ok (.iload 4, 2) := by decide +kernel
theorem dX6_whyNot_75 : decode cX6_whyNot 75 = .ok (.bipush (-6), 2) := by decide +kernel
theorem dX6_whyNot_77 : decode cX6_whyNot 77 = .ok (.if_icmp .ne 7, 3) := by decide +kernel
theorem dX6_whyNot_80 : decode cX6_whyNot 80 = .ok (.iconst 0, 1) := by decide +kernel
theorem dX6_whyNot_81 : decode cX6_whyNot 81 = .ok (.goto 7, 3) := by decide +kernel
theorem dX6_whyNot_84 : decode cX6_whyNot 84 = .ok (.iload 4, 2) := by decide +kernel
theorem dX6_whyNot_86 : decode cX6_whyNot 86 = .ok (.iconst 1, 1) := by decide +kernel
theorem dX6_whyNot_87 : decode cX6_whyNot 87 = .ok (.iadd, 1) := by decide +kernel
theorem dX6_whyNot_88 : decode cX6_whyNot 88 = .ok (.istore 5, 2) := by decide +kernel
theorem dX6_whyNot_90 : decode cX6_whyNot 90 = .ok (.iload 5, 2) := by decide +kernel
theorem dX6_whyNot_92 : decode cX6_whyNot 92 = .ok (.aload_n 0, 1) := by decide +kernel
theorem dX6_whyNot_93 : decode cX6_whyNot 93 = .ok (.getfield 78, 3) := by decide +kernel
theorem dX6_whyNot_96 : decode cX6_whyNot 96 = .ok (.if_icmp .gt 25, 3) := by decide +kernel
theorem dX6_whyNot_99 : decode cX6_whyNot 99 = .ok (.aload_n 0, 1) := by decide +kernel
theorem dX6_whyNot_100 : decode cX6_whyNot 100 = .ok (.iload_n 3, 1) := by decide +kernel
theorem dX6_whyNot_101 : decode cX6_whyNot 101 = .ok (.iload_n 3, 1) := by decide +kernel
theorem dX6_whyNot_102 : decode cX6_whyNot 102 = .ok (.iload 5, 2) := by decide +kernel
theorem dX6_whyNot_104 : decode cX6_whyNot 104 = .ok (.invokestatic 36, 3) := by decide +kernel
theorem dX6_whyNot_107 : decode cX6_whyNot 107 = .ok (.invokevirtual 81, 3) := by decide +kernel
theorem dX6_whyNot_110 : decode cX6_whyNot 110 = .ok (.ifCond .eq 5, 3) := by decide +kernel
theorem dX6_whyNot_113 : decode cX6_whyNot 113 = .ok (.iconst 4, 1) := by decide +kernel
theorem dX6_whyNot_114 : decode cX6_whyNot 114 = .ok (.ireturn, 1) := by decide +kernel
theorem dX6_whyNot_115 : decode cX6_whyNot 115 = .ok (.iinc 5 1, 3) := by decide +kernel
theorem dX6_whyNot_118 : decode cX6_whyNot 118 = .ok (.goto (-28), 3) := by decide +kernel
theorem dX6_whyNot_121 : decode cX6_whyNot 121 = .ok (.iconst 0, 1) := by decide +kernel
theorem dX6_whyNot_122 : decode cX6_whyNot 122 = .ok (.istore 5, 2) := by decide +kernel
theorem dX6_whyNot_124 : decode cX6_whyNot 124 = .ok (.iconst 0, 1) := by decide +kernel
theorem dX6_whyNot_125 : decode cX6_whyNot 125 = .ok (.istore 6, 2) := by decide +kernel
theorem dX6_whyNot_127 : decode cX6_whyNot 127 = .ok (.iload 6, 2) := by decide +kernel
theorem dX6_whyNot_129 : decode cX6_whyNot 129 = .ok (.iconst 3, 1) := by decide +kernel
theorem dX6_whyNot_130 : decode cX6_whyNot 130 = .ok (.if_icmp .ge 46, 3) := by decide +kernel
theorem dX6_whyNot_133 : decode cX6_whyNot 133 = .ok (.iload 5, 2) := by decide +kernel
theorem dX6_whyNot_135 : decode cX6_whyNot 135 = .ok (.aload_n 0, 1) := by decide +kernel
theorem dX6_whyNot_136 : decode cX6_whyNot 136 = .ok (.getfield 7, 3) := by decide +kernel
theorem dX6_whyNot_139 : decode cX6_whyNot 139 = .ok (.iconst 3, 1) := by decide +kernel
theorem dX6_whyNot_140 : decode cX6_whyNot 140 = .ok (.iload_n 3, 1) := by decide +kernel
theorem dX6_whyNot_141 : decode cX6_whyNot 141 = .ok (.imul, 1) := by decide +kernel
theorem dX6_whyNot_142 : decode cX6_whyNot 142 = .ok (.iload 6, 2) := by decide +kernel
theorem dX6_whyNot_144 : decode cX6_whyNot 144 = .ok (.iadd, 1) := by decide +kernel
theorem dX6_whyNot_145 : decode cX6_whyNot 145 = .ok (.iaload, 1) := by decide +kernel
theorem dX6_whyNot_146 : decode cX6_whyNot 146 = .ok (.aload_n 0, 1) := by decide +kernel
theorem dX6_whyNot_147 : decode cX6_whyNot 147 = .ok (.getfield 78, 3) := by decide +kernel
theorem dX6_whyNot_150 : decode cX6_whyNot 150 = .ok (.if_icmp .ne 16, 3) := by decide +kernel
theorem dX6_whyNot_153 : decode cX6_whyNot 153 = .ok (.aload_n 0, 1) := by decide +kernel
theorem dX6_whyNot_154 : decode cX6_whyNot 154 = .ok (.getfield 78, 3) := by decide +kernel
theorem dX6_whyNot_157 : decode cX6_whyNot 157 = .ok (.bipush 35, 2) := by decide +kernel
theorem dX6_whyNot_159 : decode cX6_whyNot 159 = .ok (.if_icmp .ge 7, 3) := by decide +kernel
theorem dX6_whyNot_162 : decode cX6_whyNot 162 = .ok (.iconst 1, 1) := by decide +kernel
theorem dX6_whyNot_163 : decode cX6_whyNot 163 = .ok (.goto 4, 3) := by decide +kernel
theorem dX6_whyNot_166 : decode cX6_whyNot 166 = .ok (.iconst 0, 1) := by decide +kernel
theorem dX6_whyNot_167 : decode cX6_whyNot 167 = .ok (.iadd, 1) := by decide +kernel
theorem dX6_whyNot_168 : decode cX6_whyNot 168 = .ok (.istore 5, 2) := by decide +kernel
theorem dX6_whyNot_170 : decode cX6_whyNot 170 = .ok (.iinc 6 1, 3) := by decide +kernel
theorem dX6_whyNot_173 : decode cX6_whyNot 173 = .ok (.goto (-46), 3) := by decide +kernel
theorem dX6_whyNot_176 : decode cX6_whyNot 176 = .ok (.iload 5, 2) := by decide +kernel
theorem dX6_whyNot_178 : decode cX6_whyNot 178 = .ok (.iconst 1, 1) := by decide +kernel
theorem dX6_whyNot_179 : decode cX6_whyNot 179 = .ok (.if_icmp .le 5, 3) := by decide +kernel
theorem dX6_whyNot_182 : decode cX6_whyNot 182 = .ok (.iconst 5, 1) := by decide +kernel
theorem dX6_whyNot_183 : decode cX6_whyNot 183 = .ok (.ireturn, 1) := by decide +kernel
theorem dX6_whyNot_184 : decode cX6_whyNot 184 = .ok (.iload_n 3, 1) := by decide +kernel
theorem dX6_whyNot_185 : decode cX6_whyNot 185 = .ok (.aload_n 0, 1) := by decide +kernel
theorem dX6_whyNot_186 : decode cX6_whyNot 186 = .ok (.getfield 78, 3) := by decide +kernel
theorem dX6_whyNot_189 : decode cX6_whyNot 189 = .ok (.invokestatic 36, 3) := by decide +kernel
theorem dX6_whyNot_192 : decode cX6_whyNot 192 = .ok (.istore 6, 2) := by decide +kernel
theorem dX6_whyNot_194 : decode cX6_whyNot 194 = .ok (.iload 6, 2) := by decide +kernel
theorem dX6_whyNot_196 : decode cX6_whyNot 196 = .ok (.ifCond .lt 27, 3) := by decide +kernel
theorem dX6_whyNot_199 : decode cX6_whyNot 199 = .ok (.iload 6, 2) := by decide +kernel
theorem dX6_whyNot_201 : decode cX6_whyNot 201 = .ok (.invokestatic 85, 3) := by decide +kernel
theorem dX6_whyNot_204 : decode cX6_whyNot 204 = .ok (.ifCond .eq 19, 3) := by decide +kernel
theorem dX6_whyNot_207 : decode cX6_whyNot 207 = .ok (.aload_n 0, 1) := by decide +kernel
theorem dX6_whyNot_208 : decode cX6_whyNot 208 = .ok (.iload 6, 2) := by decide +kernel
theorem dX6_whyNot_210 : decode cX6_whyNot 210 = .ok (.invokevirtual 61, 3) := by decide +kernel
theorem dX6_whyNot_213 : decode cX6_whyNot 213 = .ok (.iload 5, 2) := by decide +kernel
theorem dX6_whyNot_215 : decode cX6_whyNot 215 = .ok (.if_icmp .le 8, 3) := by decide +kernel
theorem dX6_whyNot_218 : decode cX6_whyNot 218 = .ok (.bipush 6, 2) := by decide +kernel
theorem dX6_whyNot_220 : decode cX6_whyNot 220 = .ok (.goto 4, 3) := by decide +kernel
theorem dX6_whyNot_223 : decode cX6_whyNot 223 = .ok (.iconst 0, 1) := by decide +kernel
theorem dX6_whyNot_224 : decode cX6_whyNot 224 = .ok (.ireturn, 1) := by decide +kernel
theorem dX6_otherOn_0 : decode cX6_otherOn 0 = .ok (.bipush (-6), 2) := by decide +kernel
theorem dX6_otherOn_2 : decode cX6_otherOn 2 = .ok (.istore_n 3, 1) := by decide +kernel
theorem dX6_otherOn_3 : decode cX6_otherOn 3 = .ok (.iconst 0, 1) := by decide +kernel
theorem dX6_otherOn_4 : decode cX6_otherOn 4 = .ok (.istore 4, 2) := by decide +kernel
theorem dX6_otherOn_6 : decode cX6_otherOn 6 = .ok (.iload 4, 2) := by decide +kernel
theorem dX6_otherOn_8 : decode cX6_otherOn 8 = .ok (.bipush 12, 2) := by decide +kernel
theorem dX6_otherOn_10 : decode cX6_otherOn 10 = .ok (.if_icmp .ge 38, 3) := by decide +kernel
theorem dX6_otherOn_13 : decode cX6_otherOn 13 = .ok (.iload 4, 2) := by decide +kernel
theorem dX6_otherOn_15 : decode cX6_otherOn 15 = .ok (.iconst 3, 1) := by decide +kernel
theorem dX6_otherOn_16 : decode cX6_otherOn 16 = .ok (.idiv, 1) := by decide +kernel
theorem dX6_otherOn_17 : decode cX6_otherOn 17 = .ok (.iload_n 1, 1) := by decide +kernel
theorem dX6_otherOn_18 : decode cX6_otherOn 18 = .ok (.if_icmp .eq 22, 3) := by decide +kernel
theorem dX6_otherOn_21 : decode cX6_otherOn 21 = .ok (.iload_n 2, 1) := by decide +kernel
theorem dX6_otherOn_22 : decode cX6_otherOn 22 = .ok (.ifCond .lt 18, 3) := by decide +kernel
theorem dX6_otherOn_25 : decode cX6_otherOn 25 = .ok (.aload_n 0, 1) := by decide +kernel
theorem dX6_otherOn_26 : decode cX6_otherOn 26 = .ok (.iload 4, 2) := by decide +kernel
theorem dX6_otherOn_28 : decode cX6_otherOn 28 = .ok (.invokevirtual 44, 3) := by decide +kernel
theorem dX6_otherOn_31 : decode cX6_otherOn 31 = .ok (.iload_n 2, 1) := by decide +kernel
theorem dX6_otherOn_32 : decode cX6_otherOn 32 = .ok (.if_icmp .ne 8, 3) := by decide +kernel
theorem dX6_otherOn_35 : decode cX6_otherOn 35 = .ok (.iload 4, 2) := by decide +kernel
theorem dX6_otherOn_37 : decode cX6_otherOn 37 = .ok (.goto 4, 3) := by decide +kernel
theorem dX6_otherOn_40 : decode cX6_otherOn 40 = .ok (.iload_n 3, 1) := by decide +kernel
theorem dX6_otherOn_41 : decode cX6_otherOn 41 = .ok (.istore_n 3, 1) := by decide +kernel
theorem dX6_otherOn_42 : decode cX6_otherOn 42 = .ok (.iinc 4 1, 3) := by decide +kernel
theorem dX6_otherOn_45 : decode cX6_otherOn 45 = .ok (.goto (-39), 3) := by decide +kernel
theorem dX6_otherOn_48 : decode cX6_otherOn 48 = .ok (.iload_n 3, 1) := by decide +kernel
theorem dX6_otherOn_49 : decode cX6_otherOn 49 = .ok (.ireturn, 1) := by decide +kernel
theorem dX6_doMove_0 : decode cX6_doMove 0 = .ok (.aload_n 0, 1) := by decide +kernel
theorem dX6_doMove_1 : decode cX6_doMove 1 = .ok (.iload_n 1, 1) := by decide +kernel
theorem dX6_doMove_2 : decode cX6_doMove 2 = .ok (.iload_n 2, 1) := by decide +kernel
theorem dX6_doMove_3 : decode cX6_doMove 3 = .ok (.invokevirtual 88, 3) := by decide +kernel
theorem dX6_doMove_6 : decode cX6_doMove 6 = .ok (.pop, 1) := by decide +kernel
theorem dX6_doMove_7 : decode cX6_doMove 7 = .ok (.aload_n 0, 1) := by decide +kernel
theorem dX6_doMove_8 : decode cX6_doMove 8 = .ok (.iload_n 1, 1) := by decide +kernel
theorem dX6_doMove_9 : decode cX6_doMove 9 = .ok (.iconst 3, 1) := by decide +kernel
theorem dX6_doMove_10 : decode cX6_doMove 10 = .ok (.idiv, 1) := by decide +kernel
theorem dX6_doMove_11 : decode cX6_doMove 11 = .ok (.iload_n 1, 1) := by decide +kernel
theorem dX6_doMove_12 : decode cX6_doMove 12 = .ok (.iconst 3, 1) := by decide +kernel
theorem dX6_doMove_13 : decode cX6_doMove 13 = .ok (.idiv, 1) := by decide +kernel
theorem dX6_doMove_14 : decode cX6_doMove 14 = .ok (.aload_n 0, 1) := by decide +kernel
theorem dX6_doMove_15 : decode cX6_doMove 15 = .ok (.getfield 78, 3) := by decide +kernel
theorem dX6_doMove_18 : decode cX6_doMove 18 = .ok (.invokestatic 36, 3) := by decide +kernel
theorem dX6_doMove_21 : decode cX6_doMove 21 = .ok (.invokevirtual 91, 3) := by decide +kernel
theorem dX6_doMove_24 : decode cX6_doMove 24 = .ok (.istore_n 3, 1) := by decide +kernel
theorem dX6_doMove_25 : decode cX6_doMove 25 = .ok (.iload_n 3, 1) := by decide +kernel
theorem dX6_doMove_26 : decode cX6_doMove 26 = .ok (.ifCond .lt 35, 3) := by decide +kernel
theorem dX6_doMove_29 : decode cX6_doMove 29 = .ok (.aload_n 0, 1) := by decide +kernel
theorem dX6_doMove_30 : decode cX6_doMove 30 = .ok (.getfield 7, 3) := by decide +kernel
theorem dX6_doMove_33 : decode cX6_doMove 33 = .ok (.iload_n 3, 1) := by decide +kernel
theorem dX6_doMove_34 : decode cX6_doMove 34 = .ok (.bipush (-6), 2) := by decide +kernel
theorem dX6_doMove_36 : decode cX6_doMove 36 = .ok (.iastore, 1) := by decide +kernel
theorem dX6_doMove_37 : decode cX6_doMove 37 = .ok (.aload_n 0, 1) := by decide +kernel
theorem dX6_doMove_38 : decode cX6_doMove 38 = .ok (.getfield 7, 3) := by decide +kernel
theorem dX6_doMove_41 : decode cX6_doMove 41 = .ok (.bipush 12, 2) := by decide +kernel
theorem dX6_doMove_43 : decode cX6_doMove 43 = .ok (.iload_n 3, 1) := by decide +kernel
theorem dX6_doMove_44 : decode cX6_doMove 44 = .ok (.iadd, 1) := by decide +kernel
theorem dX6_doMove_45 : decode cX6_doMove 45 = .ok (.dup2, 1) := by decide +kernel
theorem dX6_doMove_46 : decode cX6_doMove 46 = .ok (.iaload, 1) := by decide +kernel
theorem dX6_doMove_47 : decode cX6_doMove 47 = .ok (.iconst 1, 1) := by decide +kernel
theorem dX6_doMove_48 : decode cX6_doMove 48 = .ok (.iadd, 1) := by decide +kernel
theorem dX6_doMove_49 : decode cX6_doMove 49 = .ok (.iastore, 1) := by decide +kernel
theorem dX6_doMove_50 : decode cX6_doMove 50 = .ok (.aload_n 0, 1) := by decide +kernel
theorem dX6_doMove_51 : decode cX6_doMove 51 = .ok (.getfield 7, 3) := by decide +kernel
theorem dX6_doMove_54 : decode cX6_doMove 54 = .ok (.bipush 44, 2) := by decide +kernel
theorem dX6_doMove_56 : decode cX6_doMove 56 = .ok (.dup2, 1) := by decide +kernel
theorem dX6_doMove_57 : decode cX6_doMove 57 = .ok (.iaload, 1) := by decide +kernel
theorem dX6_doMove_58 : decode cX6_doMove 58 = .ok (.iconst 1, 1) := by decide +kernel
theorem dX6_doMove_59 : decode cX6_doMove 59 = .ok (.iadd, 1) := by decide +kernel
theorem dX6_doMove_60 : decode cX6_doMove 60 = .ok (.iastore, 1) := by decide +kernel
theorem dX6_doMove_61 : decode cX6_doMove 61 = .ok (.aload_n 0, 1) := by decide +kernel
theorem dX6_doMove_62 : decode cX6_doMove 62 = .ok (.getfield 7, 3) := by decide +kernel
theorem dX6_doMove_65 : decode cX6_doMove 65 = .ok (.iload_n 1, 1) := by decide +kernel
theorem dX6_doMove_66 : decode cX6_doMove 66 = .ok (.aload_n 0, 1) := by decide +kernel
theorem dX6_doMove_67 : decode cX6_doMove 67 = .ok (.getfield 78, 3) := by decide +kernel
theorem dX6_doMove_70 : decode cX6_doMove 70 = .ok (.iastore, 1) := by decide +kernel
theorem dX6_doMove_71 : decode cX6_doMove 71 = .ok (.aload_n 0, 1) := by decide +kernel
theorem dX6_doMove_72 : decode cX6_doMove 72 = .ok (.invokevirtual 94, 3) := by decide +kernel
theorem dX6_doMove_75 : decode cX6_doMove 75 = .ok (.return_, 1) := by decide +kernel
theorem dX6_canMove_0 : decode cX6_canMove 0 = .ok (.iconst 0, 1) := by decide +kernel
theorem dX6_canMove_1 : decode cX6_canMove 1 = .ok (.istore_n 2, 1) := by decide +kernel
theorem dX6_canMove_2 : decode cX6_canMove 2 = .ok (.iconst 0, 1) := by decide +kernel
theorem dX6_canMove_3 : decode cX6_canMove 3 = .ok (.istore_n 3, 1) := by decide +kernel
theorem dX6_canMove_4 : decode cX6_canMove 4 = .ok (.iload_n 3, 1) := by decide +kernel
theorem dX6_canMove_5 : decode cX6_canMove 5 = .ok (.iconst 3, 1) := by decide +kernel
theorem dX6_canMove_6 : decode cX6_canMove 6 = .ok (.if_icmp .ge 38, 3) := by decide +kernel
theorem dX6_canMove_9 : decode cX6_canMove 9 = .ok (.iload_n 2, 1) := by decide +kernel
theorem dX6_canMove_10 : decode cX6_canMove 10 = .ok (.ifCond .ne 22, 3) := by decide +kernel
theorem dX6_canMove_13 : decode cX6_canMove 13 = .ok (.aload_n 0, 1) := by decide +kernel
theorem dX6_canMove_14 : decode cX6_canMove 14 = .ok (.iconst 3, 1) := by decide +kernel
theorem dX6_canMove_15 : decode cX6_canMove 15 = .ok (.aload_n 0, 1) := by decide +kernel
theorem dX6_canMove_16 : decode cX6_canMove 16 = .ok (.getfield 7, 3) := by decide +kernel
theorem dX6_canMove_19 : decode cX6_canMove 19 = .ok (.bipush 40, 2) := by decide +kernel
theorem dX6_canMove_21 : decode cX6_canMove 21 = .ok (.iaload, 1) := by decide +kernel
theorem dX6_canMove_22 : decode cX6_canMove 22 = .ok (.imul, 1) := by decide +kernel
theorem dX6_canMove_23 : decode cX6_canMove 23 = .ok (.iload_n 3, 1) := by decide +kernel
theorem dX6_canMove_24 : decode cX6_canMove 24 = .ok (.iadd, 1) := by decide +kernel
theorem dX6_canMove_25 : decode cX6_canMove 25 = .ok (.iload_n 1, 1) := by decide +kernel
theorem dX6_canMove_26 : decode cX6_canMove 26 = .ok (.invokevirtual 88, 3) := by decide +kernel
theorem dX6_canMove_29 : decode cX6_canMove 29 = .ok (.ifCond .ne 7, 3) := by decide +kernel
theorem dX6_canMove_32 : decode cX6_canMove 32 = .ok (.iconst 1, 1) := by decide +kernel
theorem dX6_canMove_33 : decode cX6_canMove 33 = .ok (.goto 4, 3) := by decide +kernel
theorem dX6_canMove_36 : decode cX6_canMove 36 = .ok (.iconst 0, 1) := by decide +kernel
theorem dX6_canMove_37 : decode cX6_canMove 37 = .ok (.istore_n 2, 1) := by decide +kernel
theorem dX6_canMove_38 : decode cX6_canMove 38 = .ok (.iinc 3 1, 3) := by decide +kernel
theorem dX6_canMove_41 : decode cX6_canMove 41 = .ok (.goto (-37), 3) := by decide +kernel
theorem dX6_canMove_44 : decode cX6_canMove 44 = .ok (.iload_n 2, 1) := by decide +kernel
theorem dX6_canMove_45 : decode cX6_canMove 45 = .ok (.ireturn, 1) := by decide +kernel
theorem dX6_goOn_0 : decode cX6_goOn 0 = .ok (.aload_n 0, 1) := by decide +kernel
theorem dX6_goOn_1 : decode cX6_goOn 1 = .ok (.getfield 7, 3) := by decide +kernel
theorem dX6_goOn_4 : decode cX6_goOn 4 = .ok (.bipush 41, 2) := by decide +kernel
theorem dX6_goOn_6 : decode cX6_goOn 6 = .ok (.iaload, 1) := by decide +kernel
theorem dX6_goOn_7 : decode cX6_goOn 7 = .ok (.bipush 6, 2) := by decide +kernel
theorem dX6_goOn_9 : decode cX6_goOn 9 = .ok (.if_icmp .ne 24, 3) := by decide +kernel
theorem dX6_goOn_12 : decode cX6_goOn 12 = .ok (.aload_n 0, 1) := by decide +kernel
theorem dX6_goOn_13 : decode cX6_goOn 13 = .ok (.getfield 7, 3) := by decide +kernel
theorem dX6_goOn_16 : decode cX6_goOn 16 = .ok (.bipush 43, 2) := by decide +kernel
theorem dX6_goOn_18 : decode cX6_goOn 18 = .ok (.iaload, 1) := by decide +kernel
theorem dX6_goOn_19 : decode cX6_goOn 19 = .ok (.aload_n 0, 1) := by decide +kernel
theorem dX6_goOn_20 : decode cX6_goOn 20 = .ok (.getfield 7, 3) := by decide +kernel
theorem dX6_goOn_23 : decode cX6_goOn 23 = .ok (.bipush 38, 2) := by decide +kernel
theorem dX6_goOn_25 : decode cX6_goOn 25 = .ok (.iaload, 1) := by decide +kernel
theorem dX6_goOn_26 : decode cX6_goOn 26 = .ok (.if_icmp .gt 7, 3) := by decide +kernel
theorem dX6_goOn_29 : decode cX6_goOn 29 = .ok (.iconst 1, 1) := by decide +kernel
theorem dX6_goOn_30 : decode cX6_goOn 30 = .ok (.goto 4, 3) := by decide +kernel
theorem dX6_goOn_33 : decode cX6_goOn 33 = .ok (.iconst 0, 1) := by decide +kernel
theorem dX6_goOn_34 : decode cX6_goOn 34 = .ok (.istore_n 1, 1) := by decide +kernel
theorem dX6_goOn_35 : decode cX6_goOn 35 = .ok (.aload_n 0, 1) := by decide +kernel
theorem dX6_goOn_36 : decode cX6_goOn 36 = .ok (.getfield 7, 3) := by decide +kernel
theorem dX6_goOn_39 : decode cX6_goOn 39 = .ok (.bipush 41, 2) := by decide +kernel
theorem dX6_goOn_41 : decode cX6_goOn 41 = .ok (.bipush (-6), 2) := by decide +kernel
theorem dX6_goOn_43 : decode cX6_goOn 43 = .ok (.iastore, 1) := by decide +kernel
theorem dX6_goOn_44 : decode cX6_goOn 44 = .ok (.aload_n 0, 1) := by decide +kernel
theorem dX6_goOn_45 : decode cX6_goOn 45 = .ok (.invokevirtual 97, 3) := by decide +kernel
theorem dX6_goOn_48 : decode cX6_goOn 48 = .ok (.ifCond .ne 7, 3) := by decide +kernel
theorem dX6_goOn_51 : decode cX6_goOn 51 = .ok (.iload_n 1, 1) := by decide +kernel
theorem dX6_goOn_52 : decode cX6_goOn 52 = .ok (.ifCond .eq 4, 3) := by decide +kernel
theorem dX6_goOn_55 : decode cX6_goOn 55 = .ok (.return_, 1) := by decide +kernel
theorem dX6_goOn_56 : decode cX6_goOn 56 = .ok (.aload_n 0, 1) := by decide +kernel
theorem dX6_goOn_57 : decode cX6_goOn 57 = .ok (.getfield 7, 3) := by decide +kernel
theorem dX6_goOn_60 : decode cX6_goOn 60 = .ok (.bipush 40, 2) := by decide +kernel
theorem dX6_goOn_62 : decode cX6_goOn 62 = .ok (.aload_n 0, 1) := by decide +kernel
theorem dX6_goOn_63 : decode cX6_goOn 63 = .ok (.getfield 7, 3) := by decide +kernel
theorem dX6_goOn_66 : decode cX6_goOn 66 = .ok (.bipush 40, 2) := by decide +kernel
theorem dX6_goOn_68 : decode cX6_goOn 68 = .ok (.iaload, 1) := by decide +kernel
theorem dX6_goOn_69 : decode cX6_goOn 69 = .ok (.iconst 1, 1) := by decide +kernel
theorem dX6_goOn_70 : decode cX6_goOn 70 = .ok (.iadd, 1) := by decide +kernel
theorem dX6_goOn_71 : decode cX6_goOn 71 = .ok (.iconst 4, 1) := by decide +kernel
theorem dX6_goOn_72 : decode cX6_goOn 72 = .ok (.irem, 1) := by decide +kernel
theorem dX6_goOn_73 : decode cX6_goOn 73 = .ok (.iastore, 1) := by decide +kernel
theorem dX6_goOn_74 : decode cX6_goOn 74 = .ok (.aload_n 0, 1) := by decide +kernel
theorem dX6_goOn_75 : decode cX6_goOn 75 = .ok (.getfield 7, 3) := by decide +kernel
theorem dX6_goOn_78 : decode cX6_goOn 78 = .ok (.bipush 42, 2) := by decide +kernel
theorem dX6_goOn_80 : decode cX6_goOn 80 = .ok (.dup2, 1) := by decide +kernel
theorem dX6_goOn_81 : decode cX6_goOn 81 = .ok (.iaload, 1) := by decide +kernel
theorem dX6_goOn_82 : decode cX6_goOn 82 = .ok (.iconst 1, 1) := by decide +kernel
theorem dX6_goOn_83 : decode cX6_goOn 83 = .ok (.iadd, 1) := by decide +kernel
theorem dX6_goOn_84 : decode cX6_goOn 84 = .ok (.iastore, 1) := by decide +kernel
theorem dX6_goOn_85 : decode cX6_goOn 85 = .ok (.aload_n 0, 1) := by decide +kernel
theorem dX6_goOn_86 : decode cX6_goOn 86 = .ok (.getfield 7, 3) := by decide +kernel
theorem dX6_goOn_89 : decode cX6_goOn 89 = .ok (.bipush 43, 2) := by decide +kernel
theorem dX6_goOn_91 : decode cX6_goOn 91 = .ok (.iconst 0, 1) := by decide +kernel
theorem dX6_goOn_92 : decode cX6_goOn 92 = .ok (.iastore, 1) := by decide +kernel
theorem dX6_goOn_93 : decode cX6_goOn 93 = .ok (.iconst 0, 1) := by decide +kernel
theorem dX6_goOn_94 : decode cX6_goOn 94 = .ok (.istore_n 2, 1) := by decide +kernel
theorem dX6_goOn_95 : decode cX6_goOn 95 = .ok (.iload_n 2, 1) := by decide +kernel
theorem dX6_goOn_96 : decode cX6_goOn 96 = .ok (.iconst 4, 1) := by decide +kernel
theorem dX6_goOn_97 : decode cX6_goOn 97 = .ok (.if_icmp .ge 69, 3) := by decide +kernel
theorem dX6_goOn_100 : decode cX6_goOn 100 = .ok (.aload_n 0, 1) := by decide +kernel
theorem dX6_goOn_101 : decode cX6_goOn 101 = .ok (.getfield 7, 3) := by decide +kernel
theorem dX6_goOn_104 : decode cX6_goOn 104 = .ok (.bipush 24, 2) := by decide +kernel
theorem dX6_goOn_106 : decode cX6_goOn 106 = .ok (.iload_n 2, 1) := by decide +kernel
theorem dX6_goOn_107 : decode cX6_goOn 107 = .ok (.iadd, 1) := by decide +kernel
theorem dX6_goOn_108 : decode cX6_goOn 108 = .ok (.iaload, 1) := by decide +kernel
theorem dX6_goOn_109 : decode cX6_goOn 109 = .ok (.iconst 1, 1) := by decide +kernel
theorem dX6_goOn_110 : decode cX6_goOn 110 = .ok (.if_icmp .ne 50, 3) := by decide +kernel
theorem dX6_goOn_113 : decode cX6_goOn 113 = .ok (.aload_n 0, 1) := by decide +kernel
theorem dX6_goOn_114 : decode cX6_goOn 114 = .ok (.getfield 7, 3) := by decide +kernel
theorem dX6_goOn_117 : decode cX6_goOn 117 = .ok (.bipush 37, 2) := by decide +kernel
theorem dX6_goOn_119 : decode cX6_goOn 119 = .ok (.iaload, 1) := by decide +kernel
theorem dX6_goOn_120 : decode cX6_goOn 120 = .ok (.ifCond .le 40, 3) := by decide +kernel
theorem dX6_goOn_123 : decode cX6_goOn 123 = .ok (.aload_n 0, 1) := by decide +kernel
theorem dX6_goOn_124 : decode cX6_goOn 124 = .ok (.getfield 7, 3) := by decide +kernel
theorem dX6_goOn_127 : decode cX6_goOn 127 = .ok (.bipush 42, 2) := by decide +kernel
theorem dX6_goOn_129 : decode cX6_goOn 129 = .ok (.iaload, 1) := by decide +kernel
theorem dX6_goOn_130 : decode cX6_goOn 130 = .ok (.aload_n 0, 1) := by decide +kernel
theorem dX6_goOn_131 : decode cX6_goOn 131 = .ok (.getfield 7, 3) := by decide +kernel
theorem dX6_goOn_134 : decode cX6_goOn 134 = .ok (.bipush 32, 2) := by decide +kernel
theorem dX6_goOn_136 : decode cX6_goOn 136 = .ok (.iload_n 2, 1) := by decide +kernel
theorem dX6_goOn_137 : decode cX6_goOn 137 = .ok (.iadd, 1) := by decide +kernel
theorem dX6_goOn_138 : decode cX6_goOn 138 = .ok (.iaload, 1) := by decide +kernel
theorem dX6_goOn_139 : decode cX6_goOn 139 = .ok (.isub, 1) := by decide +kernel
theorem dX6_goOn_140 : decode cX6_goOn 140 = .ok (.aload_n 0, 1) := by decide +kernel
theorem dX6_goOn_141 : decode cX6_goOn 141 = .ok (.getfield 7, 3) := by decide +kernel
theorem dX6_goOn_144 : decode cX6_goOn 144 = .ok (.bipush 37, 2) := by decide +kernel
theorem dX6_goOn_146 : decode cX6_goOn 146 = .ok (.iaload, 1) := by decide +kernel
theorem dX6_goOn_147 : decode cX6_goOn 147 = .ok (.if_icmp .lt 13, 3) := by decide +kernel
theorem dX6_goOn_150 : decode cX6_goOn 150 = .ok (.aload_n 0, 1) := by decide +kernel
theorem dX6_goOn_151 : decode cX6_goOn 151 = .ok (.getfield 7, 3) := by decide +kernel
theorem dX6_goOn_154 : decode cX6_goOn 154 = .ok (.bipush 24, 2) := by decide +kernel
theorem dX6_goOn_156 : decode cX6_goOn 156 = .ok (.iload_n 2, 1) := by decide +kernel
theorem dX6_goOn_157 : decode cX6_goOn 157 = .ok (.iadd, 1) := by decide +kernel
theorem dX6_goOn_158 : decode cX6_goOn 158 = .ok (.iconst 0, 1) := by decide +kernel
theorem dX6_goOn_159 : decode cX6_goOn 159 = .ok (.iastore, 1) := by decide +kernel
theorem dX6_goOn_160 : decode cX6_goOn 160 = .ok (.iinc 2 1, 3) := by decide +kernel
theorem dX6_goOn_163 : decode cX6_goOn 163 = .ok (.goto (-68), 3) := by decide +kernel
theorem dX6_goOn_166 : decode cX6_goOn 166 = .ok (.return_, 1) := by decide +kernel
theorem dX6_draw_0 : decode cX6_draw 0 = .ok (.aload_n 0, 1) := by decide +kernel
theorem dX6_draw_1 : decode cX6_draw 1 = .ok (.getfield 7, 3) := by decide +kernel
theorem dX6_draw_4 : decode cX6_draw 4 = .ok (.bipush 39, 2) := by decide +kernel
theorem dX6_draw_6 : decode cX6_draw 6 = .ok (.aload_n 0, 1) := by decide +kernel
theorem dX6_draw_7 : decode cX6_draw 7 = .ok (.getfield 7, 3) := by decide +kernel
theorem dX6_draw_10 : decode cX6_draw 10 = .ok (.bipush 39, 2) := by decide +kernel
theorem dX6_draw_12 : decode cX6_draw 12 = .ok (.iaload, 1) := by decide +kernel
theorem dX6_draw_13 : decode cX6_draw 13 = .ok (.i2l, 1) := by decide +kernel
theorem dX6_draw_14 : decode cX6_draw 14 = .ok (.ldc2_w 101, 3) := by decide +kernel
theorem dX6_draw_17 : decode cX6_draw 17 = .ok (.lmul, 1) := by decide +kernel
theorem dX6_draw_18 : decode cX6_draw 18 = .ok (.ldc2_w 103, 3) := by decide +kernel
theorem dX6_draw_21 : decode cX6_draw 21 = .ok (.ladd, 1) := by decide +kernel
theorem dX6_draw_22 : decode cX6_draw 22 = .ok (.ldc2_w 105, 3) := by decide +kernel
theorem dX6_draw_25 : decode cX6_draw 25 = .ok (.lrem, 1) := by decide +kernel
theorem dX6_draw_26 : decode cX6_draw 26 = .ok (.l2i, 1) := by decide +kernel
theorem dX6_draw_27 : decode cX6_draw 27 = .ok (.iastore, 1) := by decide +kernel
theorem dX6_draw_28 : decode cX6_draw 28 = .ok (.iconst 1, 1) := by decide +kernel
theorem dX6_draw_29 : decode cX6_draw 29 = .ok (.aload_n 0, 1) := by decide +kernel
theorem dX6_draw_30 : decode cX6_draw 30 = .ok (.getfield 7, 3) := by decide +kernel
theorem dX6_draw_33 : decode cX6_draw 33 = .ok (.bipush 39, 2) := by decide +kernel
theorem dX6_draw_35 : decode cX6_draw 35 = .ok (.iaload, 1) := by decide +kernel
theorem dX6_draw_36 : decode cX6_draw 36 = .ok (.ldc 107, 2) := by decide +kernel
theorem dX6_draw_38 : decode cX6_draw 38 = .ok (.idiv, 1) := by decide +kernel
theorem dX6_draw_39 : decode cX6_draw 39 = .ok (.bipush 6, 2) := by decide +kernel
theorem dX6_draw_41 : decode cX6_draw 41 = .ok (.irem, 1) := by decide +kernel
theorem dX6_draw_42 : decode cX6_draw 42 = .ok (.iadd, 1) := by decide +kernel
theorem dX6_draw_43 : decode cX6_draw 43 = .ok (.ireturn, 1) := by decide +kernel
theorem dX6_least_0 : decode cX6_least 0 = .ok (.iload_n 0, 1) := by decide +kernel
theorem dX6_least_1 : decode cX6_least 1 = .ok (.ifCond .ne 7, 3) := by decide +kernel
theorem dX6_least_4 : decode cX6_least 4 = .ok (.iconst 1, 1) := by decide +kernel
theorem dX6_least_5 : decode cX6_least 5 = .ok (.goto 4, 3) := by decide +kernel
theorem dX6_least_8 : decode cX6_least 8 = .ok (.iconst 0, 1) := by decide +kernel
theorem dX6_least_9 : decode cX6_least 9 = .ok (.ireturn, 1) := by decide +kernel
theorem dX6_most_0 : decode cX6_most 0 = .ok (.iload_n 0, 1) := by decide +kernel
theorem dX6_most_1 : decode cX6_most 1 = .ok (.ifCond .ne 8, 3) := by decide +kernel
theorem dX6_most_4 : decode cX6_most 4 = .ok (.bipush 6, 2) := by decide +kernel
theorem dX6_most_6 : decode cX6_most 6 = .ok (.goto 14, 3) := by decide +kernel
theorem dX6_most_9 : decode cX6_most 9 = .ok (.iload_n 0, 1) := by decide +kernel
theorem dX6_most_10 : decode cX6_most 10 = .ok (.iconst 1, 1) := by decide +kernel
theorem dX6_most_11 : decode cX6_most 11 = .ok (.if_icmp .ne 8, 3) := by decide +kernel
theorem dX6_most_14 : decode cX6_most 14 = .ok (.bipush 40, 2) := by decide +kernel
theorem dX6_most_16 : decode cX6_most 16 = .ok (.goto 4, 3) := by decide +kernel
theorem dX6_most_19 : decode cX6_most 19 = .ok (.iconst 3, 1) := by decide +kernel
theorem dX6_most_20 : decode cX6_most 20 = .ok (.ireturn, 1) := by decide +kernel
theorem dX6_set_0 : decode cX6_set 0 = .ok (.iload_n 1, 1) := by decide +kernel
theorem dX6_set_1 : decode cX6_set 1 = .ok (.iconst 0, 1) := by decide +kernel
theorem dX6_set_2 : decode cX6_set 2 = .ok (.iconst 2, 1) := by decide +kernel
theorem dX6_set_3 : decode cX6_set 3 = .ok (.invokestatic 32, 3) := by decide +kernel
theorem dX6_set_6 : decode cX6_set 6 = .ok (.ifCond .eq 18, 3) := by decide +kernel
theorem dX6_set_9 : decode cX6_set 9 = .ok (.iload_n 2, 1) := by decide +kernel
theorem dX6_set_10 : decode cX6_set 10 = .ok (.iload_n 1, 1) := by decide +kernel
theorem dX6_set_11 : decode cX6_set 11 = .ok (.invokestatic 108, 3) := by decide +kernel
theorem dX6_set_14 : decode cX6_set 14 = .ok (.iload_n 1, 1) := by decide +kernel
theorem dX6_set_15 : decode cX6_set 15 = .ok (.invokestatic 111, 3) := by decide +kernel
theorem dX6_set_18 : decode cX6_set 18 = .ok (.invokestatic 32, 3) := by decide +kernel
theorem dX6_set_21 : decode cX6_set 21 = .ok (.ifCond .ne 6, 3) := by decide +kernel
theorem dX6_set_24 : decode cX6_set 24 = .ok (.bipush (-2), 2) := by decide +kernel
theorem dX6_set_26 : decode cX6_set 26 = .ok (.ireturn, 1) := by decide +kernel
theorem dX6_set_27 : decode cX6_set 27 = .ok (.aload_n 0, 1) := by decide +kernel
theorem dX6_set_28 : decode cX6_set 28 = .ok (.invokevirtual 68, 3) := by decide +kernel
theorem dX6_set_31 : decode cX6_set 31 = .ok (.aload_n 0, 1) := by decide +kernel
theorem dX6_set_32 : decode cX6_set 32 = .ok (.getfield 7, 3) := by decide +kernel
theorem dX6_set_35 : decode cX6_set 35 = .ok (.bipush 36, 2) := by decide +kernel
theorem dX6_set_37 : decode cX6_set 37 = .ok (.iload_n 1, 1) := by decide +kernel
theorem dX6_set_38 : decode cX6_set 38 = .ok (.iadd, 1) := by decide +kernel
theorem dX6_set_39 : decode cX6_set 39 = .ok (.iaload, 1) := by decide +kernel
theorem dX6_set_40 : decode cX6_set 40 = .ok (.istore_n 3, 1) := by decide +kernel
theorem dX6_set_41 : decode cX6_set 41 = .ok (.aload_n 0, 1) := by decide +kernel
theorem dX6_set_42 : decode cX6_set 42 = .ok (.getfield 7, 3) := by decide +kernel
theorem dX6_set_45 : decode cX6_set 45 = .ok (.bipush 36, 2) := by decide +kernel
theorem dX6_set_47 : decode cX6_set 47 = .ok (.iload_n 1, 1) := by decide +kernel
theorem dX6_set_48 : decode cX6_set 48 = .ok (.iadd, 1) := by decide +kernel
theorem dX6_set_49 : decode cX6_set 49 = .ok (.iload_n 2, 1) := by decide +kernel
theorem dX6_set_50 : decode cX6_set 50 = .ok (.iastore, 1) := by decide +kernel
theorem dX6_set_51 : decode cX6_set 51 = .ok (.iload_n 3, 1) := by decide +kernel
theorem dX6_set_52 : decode cX6_set 52 = .ok (.ireturn, 1) := by decide +kernel
theorem dX6_seed_0 : decode cX6_seed 0 = .ok (.iload_n 1, 1) := by decide +kernel
theorem dX6_seed_1 : decode cX6_seed 1 = .ok (.ifCond .ge 6, 3) := by decide +kernel
theorem dX6_seed_4 : decode cX6_seed 4 = .ok (.bipush (-2), 2) := by decide +kernel
theorem dX6_seed_6 : decode cX6_seed 6 = .ok (.ireturn, 1) := by decide +kernel
theorem dX6_seed_7 : decode cX6_seed 7 = .ok (.aload_n 0, 1) := by decide +kernel
theorem dX6_seed_8 : decode cX6_seed 8 = .ok (.invokevirtual 68, 3) := by decide +kernel
theorem dX6_seed_11 : decode cX6_seed 11 = .ok (.aload_n 0, 1) := by decide +kernel
theorem dX6_seed_12 : decode cX6_seed 12 = .ok (.getfield 7, 3) := by decide +kernel
theorem dX6_seed_15 : decode cX6_seed 15 = .ok (.bipush 39, 2) := by decide +kernel
theorem dX6_seed_17 : decode cX6_seed 17 = .ok (.iaload, 1) := by decide +kernel
theorem dX6_seed_18 : decode cX6_seed 18 = .ok (.istore_n 2, 1) := by decide +kernel
theorem dX6_seed_19 : decode cX6_seed 19 = .ok (.aload_n 0, 1) := by decide +kernel
theorem dX6_seed_20 : decode cX6_seed 20 = .ok (.getfield 7, 3) := by decide +kernel
theorem dX6_seed_23 : decode cX6_seed 23 = .ok (.bipush 39, 2) := by decide +kernel
theorem dX6_seed_25 : decode cX6_seed 25 = .ok (.iload_n 1, 1) := by decide +kernel
theorem dX6_seed_26 : decode cX6_seed 26 = .ok (.iastore, 1) := by decide +kernel
theorem dX6_seed_27 : decode cX6_seed 27 = .ok (.iload_n 2, 1) := by decide +kernel
theorem dX6_seed_28 : decode cX6_seed 28 = .ok (.ireturn, 1) := by decide +kernel
theorem dX6_hasCast_0 : decode cX6_hasCast 0 = .ok (.aload_n 0, 1) := by decide +kernel
theorem dX6_hasCast_1 : decode cX6_hasCast 1 = .ok (.getfield 7, 3) := by decide +kernel
theorem dX6_hasCast_4 : decode cX6_hasCast 4 = .ok (.bipush 41, 2) := by decide +kernel
theorem dX6_hasCast_6 : decode cX6_hasCast 6 = .ok (.iaload, 1) := by decide +kernel
theorem dX6_hasCast_7 : decode cX6_hasCast 7 = .ok (.bipush (-6), 2) := by decide +kernel
theorem dX6_hasCast_9 : decode cX6_hasCast 9 = .ok (.if_icmp .eq 7, 3) := by decide +kernel
theorem dX6_hasCast_12 : decode cX6_hasCast 12 = .ok (.iconst 1, 1) := by decide +kernel
theorem dX6_hasCast_13 : decode cX6_hasCast 13 = .ok (.goto 4, 3) := by decide +kernel
theorem dX6_hasCast_16 : decode cX6_hasCast 16 = .ok (.iconst 0, 1) := by decide +kernel
theorem dX6_hasCast_17 : decode cX6_hasCast 17 = .ok (.ireturn, 1) := by decide +kernel
theorem dX6_doCast_0 : decode cX6_doCast 0 = .ok (.aload_n 0, 1) := by decide +kernel
theorem dX6_doCast_1 : decode cX6_doCast 1 = .ok (.getfield 7, 3) := by decide +kernel
theorem dX6_doCast_4 : decode cX6_doCast 4 = .ok (.bipush 41, 2) := by decide +kernel
theorem dX6_doCast_6 : decode cX6_doCast 6 = .ok (.iload_n 1, 1) := by decide +kernel
theorem dX6_doCast_7 : decode cX6_doCast 7 = .ok (.iastore, 1) := by decide +kernel
theorem dX6_doCast_8 : decode cX6_doCast 8 = .ok (.aload_n 0, 1) := by decide +kernel
theorem dX6_doCast_9 : decode cX6_doCast 9 = .ok (.getfield 7, 3) := by decide +kernel
theorem dX6_doCast_12 : decode cX6_doCast 12 = .ok (.bipush 43, 2) := by decide +kernel
theorem dX6_doCast_14 : decode cX6_doCast 14 = .ok (.dup2, 1) := by decide +kernel
theorem dX6_doCast_15 : decode cX6_doCast 15 = .ok (.iaload, 1) := by decide +kernel
theorem dX6_doCast_16 : decode cX6_doCast 16 = .ok (.iconst 1, 1) := by decide +kernel
theorem dX6_doCast_17 : decode cX6_doCast 17 = .ok (.iadd, 1) := by decide +kernel
theorem dX6_doCast_18 : decode cX6_doCast 18 = .ok (.iastore, 1) := by decide +kernel
theorem dX6_doCast_19 : decode cX6_doCast 19 = .ok (.return_, 1) := by decide +kernel
theorem dX6_cast_0 : decode cX6_cast 0 = .ok (.aload_n 0, 1) := by decide +kernel
theorem dX6_cast_1 : decode cX6_cast 1 = .ok (.invokevirtual 97, 3) := by decide +kernel
theorem dX6_cast_4 : decode cX6_cast 4 = .ok (.ifCond .ne 10, 3) := by decide +kernel
theorem dX6_cast_7 : decode cX6_cast 7 = .ok (.aload_n 0, 1) := by decide +kernel
theorem dX6_cast_8 : decode cX6_cast 8 = .ok (.invokevirtual 114, 3) := by decide +kernel
theorem dX6_cast_11 : decode cX6_cast 11 = .ok (.ifCond .eq 6, 3) := by decide +kernel
theorem dX6_cast_14 : decode cX6_cast 14 = .ok (.bipush (-5), 2) := by decide +kernel
theorem dX6_cast_16 : decode cX6_cast 16 = .ok (.ireturn, 1) := by decide +kernel
theorem dX6_cast_17 : decode cX6_cast 17 = .ok (.aload_n 0, 1) := by decide +kernel
theorem dX6_cast_18 : decode cX6_cast 18 = .ok (.invokevirtual 68, 3) := by decide +kernel
theorem dX6_cast_21 : decode cX6_cast 21 = .ok (.aload_n 0, 1) := by decide +kernel
theorem dX6_cast_22 : decode cX6_cast 22 = .ok (.aload_n 0, 1) := by decide +kernel
theorem dX6_cast_23 : decode cX6_cast 23 = .ok (.invokevirtual 117, 3) := by decide +kernel
theorem dX6_cast_26 : decode cX6_cast 26 = .ok (.invokevirtual 120, 3) := by decide +kernel
theorem dX6_cast_29 : decode cX6_cast 29 = .ok (.aload_n 0, 1) := by decide +kernel
theorem dX6_cast_30 : decode cX6_cast 30 = .ok (.getfield 7, 3) := by decide +kernel
theorem dX6_cast_33 : decode cX6_cast 33 = .ok (.bipush 41, 2) := by decide +kernel
theorem dX6_cast_35 : decode cX6_cast 35 = .ok (.iaload, 1) := by decide +kernel
theorem dX6_cast_36 : decode cX6_cast 36 = .ok (.ireturn, 1) := by decide +kernel
theorem dX6_move_0 : decode cX6_move 0 = .ok (.iload_n 1, 1) := by decide +kernel
theorem dX6_move_1 : decode cX6_move 1 = .ok (.iconst 0, 1) := by decide +kernel
theorem dX6_move_2 : decode cX6_move 2 = .ok (.iconst 2, 1) := by decide +kernel
theorem dX6_move_3 : decode cX6_move 3 = .ok (.invokestatic 32, 3) := by decide +kernel
theorem dX6_move_6 : decode cX6_move 6 = .ok (.ifCond .ne 5, 3) := by decide +kernel
theorem dX6_move_9 : decode cX6_move 9 = .ok (.iconst (-1), 1) := by decide +kernel
theorem dX6_move_10 : decode cX6_move 10 = .ok (.ireturn, 1) := by decide +kernel
theorem dX6_move_11 : decode cX6_move 11 = .ok (.iconst 3, 1) := by decide +kernel
theorem dX6_move_12 : decode cX6_move 12 = .ok (.aload_n 0, 1) := by decide +kernel
theorem dX6_move_13 : decode cX6_move 13 = .ok (.getfield 7, 3) := by decide +kernel
theorem dX6_move_16 : decode cX6_move 16 = .ok (.bipush 40, 2) := by decide +kernel
theorem dX6_move_18 : decode cX6_move 18 = .ok (.iaload, 1) := by decide +kernel
theorem dX6_move_19 : decode cX6_move 19 = .ok (.imul, 1) := by decide +kernel
theorem dX6_move_20 : decode cX6_move 20 = .ok (.iload_n 1, 1) := by decide +kernel
theorem dX6_move_21 : decode cX6_move 21 = .ok (.iadd, 1) := by decide +kernel
theorem dX6_move_22 : decode cX6_move 22 = .ok (.istore_n 2, 1) := by decide +kernel
theorem dX6_move_23 : decode cX6_move 23 = .ok (.aload_n 0, 1) := by decide +kernel
theorem dX6_move_24 : decode cX6_move 24 = .ok (.invokevirtual 114, 3) := by decide +kernel
theorem dX6_move_27 : decode cX6_move 27 = .ok (.ifCond .eq 18, 3) := by decide +kernel
theorem dX6_move_30 : decode cX6_move 30 = .ok (.aload_n 0, 1) := by decide +kernel
theorem dX6_move_31 : decode cX6_move 31 = .ok (.iload_n 2, 1) := by decide +kernel
theorem dX6_move_32 : decode cX6_move 32 = .ok (.aload_n 0, 1) := by decide +kernel
theorem dX6_move_33 : decode cX6_move 33 = .ok (.getfield 7, 3) := by decide +kernel
theorem dX6_move_36 : decode cX6_move 36 = .ok (.bipush 41, 2) := by decide +kernel
theorem dX6_move_38 : decode cX6_move 38 = .ok (.iaload, 1) := by decide +kernel
theorem dX6_move_39 : decode cX6_move 39 = .ok (.invokevirtual 88, 3) := by decide +kernel
theorem dX6_move_42 : decode cX6_move 42 = .ok (.ifCond .le 6, 3) := by decide +kernel
theorem dX6_move_45 : decode cX6_move 45 = .ok (.bipush (-5), 2) := by decide +kernel
theorem dX6_move_47 : decode cX6_move 47 = .ok (.ireturn, 1) := by decide +kernel
theorem dX6_move_48 : decode cX6_move 48 = .ok (.aload_n 0, 1) := by decide +kernel
theorem dX6_move_49 : decode cX6_move 49 = .ok (.invokevirtual 68, 3) := by decide +kernel
theorem dX6_move_52 : decode cX6_move 52 = .ok (.aload_n 0, 1) := by decide +kernel
theorem dX6_move_53 : decode cX6_move 53 = .ok (.iload_n 2, 1) := by decide +kernel
theorem dX6_move_54 : decode cX6_move 54 = .ok (.aload_n 0, 1) := by decide +kernel
theorem dX6_move_55 : decode cX6_move 55 = .ok (.getfield 7, 3) := by decide +kernel
theorem dX6_move_58 : decode cX6_move 58 = .ok (.bipush 41, 2) := by decide +kernel
theorem dX6_move_60 : decode cX6_move 60 = .ok (.iaload, 1) := by decide +kernel
theorem dX6_move_61 : decode cX6_move 61 = .ok (.invokevirtual 124, 3) := by decide +kernel
theorem dX6_move_64 : decode cX6_move 64 = .ok (.aload_n 0, 1) := by decide +kernel
theorem dX6_move_65 : decode cX6_move 65 = .ok (.invokevirtual 128, 3) := by decide +kernel
theorem dX6_move_68 : decode cX6_move 68 = .ok (.aload_n 0, 1) := by decide +kernel
theorem dX6_move_69 : decode cX6_move 69 = .ok (.getfield 7, 3) := by decide +kernel
theorem dX6_move_72 : decode cX6_move 72 = .ok (.iload_n 2, 1) := by decide +kernel
theorem dX6_move_73 : decode cX6_move 73 = .ok (.iaload, 1) := by decide +kernel
theorem dX6_move_74 : decode cX6_move 74 = .ok (.ireturn, 1) := by decide +kernel
theorem dX6_skip_0 : decode cX6_skip 0 = .ok (.aload_n 0, 1) := by decide +kernel
theorem dX6_skip_1 : decode cX6_skip 1 = .ok (.invokevirtual 114, 3) := by decide +kernel
theorem dX6_skip_4 : decode cX6_skip 4 = .ok (.ifCond .eq 17, 3) := by decide +kernel
theorem dX6_skip_7 : decode cX6_skip 7 = .ok (.aload_n 0, 1) := by decide +kernel
theorem dX6_skip_8 : decode cX6_skip 8 = .ok (.aload_n 0, 1) := by decide +kernel
theorem dX6_skip_9 : decode cX6_skip 9 = .ok (.getfield 7, 3) := by decide +kernel
theorem dX6_skip_12 : decode cX6_skip 12 = .ok (.bipush 41, 2) := by decide +kernel
theorem dX6_skip_14 : decode cX6_skip 14 = .ok (.iaload, 1) := by decide +kernel
theorem dX6_skip_15 : decode cX6_skip 15 = .ok (.invokevirtual 131, 3) := by decide +kernel
theorem dX6_skip_18 : decode cX6_skip 18 = .ok (.ifCond .eq 6, 3) := by decide +kernel
theorem dX6_skip_21 : decode cX6_skip 21 = .ok (.bipush (-5), 2) := by decide +kernel
theorem dX6_skip_23 : decode cX6_skip 23 = .ok (.ireturn, 1) := by decide +kernel
theorem dX6_skip_24 : decode cX6_skip 24 = .ok (.aload_n 0, 1) := by decide +kernel
theorem dX6_skip_25 : decode cX6_skip 25 = .ok (.invokevirtual 68, 3) := by decide +kernel
theorem dX6_skip_28 : decode cX6_skip 28 = .ok (.aload_n 0, 1) := by decide +kernel
theorem dX6_skip_29 : decode cX6_skip 29 = .ok (.invokevirtual 128, 3) := by decide +kernel
theorem dX6_skip_32 : decode cX6_skip 32 = .ok (.aload_n 0, 1) := by decide +kernel
theorem dX6_skip_33 : decode cX6_skip 33 = .ok (.getfield 7, 3) := by decide +kernel
theorem dX6_skip_36 : decode cX6_skip 36 = .ok (.bipush 40, 2) := by decide +kernel
theorem dX6_skip_38 : decode cX6_skip 38 = .ok (.iaload, 1) := by decide +kernel
theorem dX6_skip_39 : decode cX6_skip 39 = .ok (.ireturn, 1) := by decide +kernel
theorem dX6_doPlay_0 : decode cX6_doPlay 0 = .ok (.iconst 0, 1) := by decide +kernel
theorem dX6_doPlay_1 : decode cX6_doPlay 1 = .ok (.istore_n 2, 1) := by decide +kernel
theorem dX6_doPlay_2 : decode cX6_doPlay 2 = .ok (.iload_n 2, 1) := by decide +kernel
theorem dX6_doPlay_3 : decode cX6_doPlay 3 = .ok (.iload_n 1, 1) := by decide +kernel
theorem dX6_doPlay_4 : decode cX6_doPlay 4 = .ok (.if_icmp .ge 59, 3) := by decide +kernel
theorem dX6_doPlay_7 : decode cX6_doPlay 7 = .ok (.aload_n 0, 1) := by decide +kernel
theorem dX6_doPlay_8 : decode cX6_doPlay 8 = .ok (.invokevirtual 97, 3) := by decide +kernel
theorem dX6_doPlay_11 : decode cX6_doPlay 11 = .ok (.ifCond .ne 52, 3) := by decide +kernel
theorem dX6_doPlay_14 : decode cX6_doPlay 14 = .ok (.aload_n 0, 1) := by decide +kernel
theorem dX6_doPlay_15 : decode cX6_doPlay 15 = .ok (.aload_n 0, 1) := by decide +kernel
theorem dX6_doPlay_16 : decode cX6_doPlay 16 = .ok (.invokevirtual 117, 3) := by decide +kernel
theorem dX6_doPlay_19 : decode cX6_doPlay 19 = .ok (.invokevirtual 120, 3) := by decide +kernel
theorem dX6_doPlay_22 : decode cX6_doPlay 22 = .ok (.aload_n 0, 1) := by decide +kernel
theorem dX6_doPlay_23 : decode cX6_doPlay 23 = .ok (.invokevirtual 134, 3) := by decide +kernel
theorem dX6_doPlay_26 : decode cX6_doPlay 26 = .ok (.istore_n 3, 1) := by decide +kernel
theorem dX6_doPlay_27 : decode cX6_doPlay 27 = .ok (.iload_n 3, 1) := by decide +kernel
theorem dX6_doPlay_28 : decode cX6_doPlay 28 = .ok (.ifCond .lt 25, 3) := by decide +kernel
theorem dX6_doPlay_31 : decode cX6_doPlay 31 = .ok (.aload_n 0, 1) := by decide +kernel
theorem dX6_doPlay_32 : decode cX6_doPlay 32 = .ok (.iconst 3, 1) := by decide +kernel
theorem dX6_doPlay_33 : decode cX6_doPlay 33 = .ok (.aload_n 0, 1) := by decide +kernel
theorem dX6_doPlay_34 : decode cX6_doPlay 34 = .ok (.getfield 7, 3) := by decide +kernel
theorem dX6_doPlay_37 : decode cX6_doPlay 37 = .ok (.bipush 40, 2) := by decide +kernel
theorem dX6_doPlay_39 : decode cX6_doPlay 39 = .ok (.iaload, 1) := by decide +kernel
theorem dX6_doPlay_40 : decode cX6_doPlay 40 = .ok (.imul, 1) := by decide +kernel
theorem dX6_doPlay_41 : decode cX6_doPlay 41 = .ok (.iload_n 3, 1) := by decide +kernel
theorem dX6_doPlay_42 : decode cX6_doPlay 42 = .ok (.iadd, 1) := by decide +kernel
theorem dX6_doPlay_43 : decode cX6_doPlay 43 = .ok (.aload_n 0, 1) := by decide +kernel
theorem dX6_doPlay_44 : decode cX6_doPlay 44 = .ok (.getfield 7, 3) := by decide +kernel
theorem dX6_doPlay_47 : decode cX6_doPlay 47 = .ok (.bipush 41, 2) := by decide +kernel
theorem dX6_doPlay_49 : decode cX6_doPlay 49 = .ok (.iaload, 1) := by decide +kernel
theorem dX6_doPlay_50 : decode cX6_doPlay 50 = .ok (.invokevirtual 124, 3) := by decide +kernel
theorem dX6_doPlay_53 : decode cX6_doPlay 53 = .ok (.aload_n 0, 1) := by decide +kernel
theorem dX6_doPlay_54 : decode cX6_doPlay 54 = .ok (.invokevirtual 128, 3) := by decide +kernel
theorem dX6_doPlay_57 : decode cX6_doPlay 57 = .ok (.iinc 2 1, 3) := by decide +kernel
theorem dX6_doPlay_60 : decode cX6_doPlay 60 = .ok (.goto (-58), 3) := by decide +kernel
theorem dX6_doPlay_63 : decode cX6_doPlay 63 = .ok (.iload_n 2, 1) := by decide +kernel
theorem dX6_doPlay_64 : decode cX6_doPlay 64 = .ok (.ireturn, 1) := by decide +kernel
theorem dX6_play_0 : decode cX6_play 0 = .ok (.iload_n 1, 1) := by decide +kernel
theorem dX6_play_1 : decode cX6_play 1 = .ok (.iconst 1, 1) := by decide +kernel
theorem dX6_play_2 : decode cX6_play 2 = .ok (.bipush 100, 2) := by decide +kernel
theorem dX6_play_4 : decode cX6_play 4 = .ok (.invokestatic 32, 3) := by decide +kernel
theorem dX6_play_7 : decode cX6_play 7 = .ok (.ifCond .ne 6, 3) := by decide +kernel
theorem dX6_play_10 : decode cX6_play 10 = .ok (.bipush (-2), 2) := by decide +kernel
theorem dX6_play_12 : decode cX6_play 12 = .ok (.ireturn, 1) := by decide +kernel
theorem dX6_play_13 : decode cX6_play 13 = .ok (.aload_n 0, 1) := by decide +kernel
theorem dX6_play_14 : decode cX6_play 14 = .ok (.invokevirtual 97, 3) := by decide +kernel
theorem dX6_play_17 : decode cX6_play 17 = .ok (.ifCond .ne 10, 3) := by decide +kernel
theorem dX6_play_20 : decode cX6_play 20 = .ok (.aload_n 0, 1) := by decide +kernel
theorem dX6_play_21 : decode cX6_play 21 = .ok (.invokevirtual 114, 3) := by decide +kernel
theorem dX6_play_24 : decode cX6_play 24 = .ok (.ifCond .eq 6, 3) := by decide +kernel
theorem dX6_play_27 : decode cX6_play 27 = .ok (.bipush (-5), 2) := by decide +kernel
theorem dX6_play_29 : decode cX6_play 29 = .ok (.ireturn, 1) := by decide +kernel
theorem dX6_play_30 : decode cX6_play 30 = .ok (.aload_n 0, 1) := by decide +kernel
theorem dX6_play_31 : decode cX6_play 31 = .ok (.invokevirtual 68, 3) := by decide +kernel
theorem dX6_play_34 : decode cX6_play 34 = .ok (.aload_n 0, 1) := by decide +kernel
theorem dX6_play_35 : decode cX6_play 35 = .ok (.iload_n 1, 1) := by decide +kernel
theorem dX6_play_36 : decode cX6_play 36 = .ok (.invokevirtual 137, 3) := by decide +kernel
theorem dX6_play_39 : decode cX6_play 39 = .ok (.ireturn, 1) := by decide +kernel
theorem dX6_read_0 : decode cX6_read 0 = .ok (.aload_n 0, 1) := by decide +kernel
theorem dX6_read_1 : decode cX6_read 1 = .ok (.invokevirtual 140, 3) := by decide +kernel
theorem dX6_read_4 : decode cX6_read 4 = .ok (.ifCond .lt 6, 3) := by decide +kernel
theorem dX6_read_7 : decode cX6_read 7 = .ok (.bipush (-3), 2) := by decide +kernel
theorem dX6_read_9 : decode cX6_read 9 = .ok (.ireturn, 1) := by decide +kernel
theorem dX6_read_10 : decode cX6_read 10 = .ok (.aload_n 0, 1) := by decide +kernel
theorem dX6_read_11 : decode cX6_read 11 = .ok (.invokevirtual 114, 3) := by decide +kernel
theorem dX6_read_14 : decode cX6_read 14 = .ok (.ifCond .eq 6, 3) := by decide +kernel
theorem dX6_read_17 : decode cX6_read 17 = .ok (.bipush (-5), 2) := by decide +kernel
theorem dX6_read_19 : decode cX6_read 19 = .ok (.ireturn, 1) := by decide +kernel
theorem dX6_read_20 : decode cX6_read 20 = .ok (.aload_n 0, 1) := by decide +kernel
theorem dX6_read_21 : decode cX6_read 21 = .ok (.invokevirtual 68, 3) := by decide +kernel
theorem dX6_read_24 : decode cX6_read 24 = .ok (.iconst 0, 1) := by decide +kernel
theorem dX6_read_25 : decode cX6_read 25 = .ok (.istore_n 1, 1) := by decide +kernel
theorem dX6_read_26 : decode cX6_read 26 = .ok (.iconst 1, 1) := by decide +kernel
theorem dX6_read_27 : decode cX6_read 27 = .ok (.istore_n 2, 1) := by decide +kernel
theorem dX6_read_28 : decode cX6_read 28 = .ok (.iconst 0, 1) := by decide +kernel
theorem dX6_read_29 : decode cX6_read 29 = .ok (.istore_n 3, 1) := by decide +kernel
theorem dX6_read_30 : decode cX6_read 30 = .ok (.iload_n 3, 1) := by decide +kernel
theorem dX6_read_31 : decode cX6_read 31 = .ok (.aload_n 0, 1) := by decide +kernel
theorem dX6_read_32 : decode cX6_read 32 = .ok (.getfield 143, 3) := by decide +kernel
theorem dX6_read_35 : decode cX6_read 35 = .ok (.if_icmp .ge 134, 3) := by decide +kernel
theorem dX6_read_38 : decode cX6_read 38 = .ok (.iload_n 2, 1) := by decide +kernel
theorem dX6_read_39 : decode cX6_read 39 = .ok (.ifCond .eq 130, 3) := by decide +kernel
theorem dX6_read_42 : decode cX6_read 42 = .ok (.aload_n 0, 1) := by decide +kernel
theorem dX6_read_43 : decode cX6_read 43 = .ok (.getfield 26, 3) := by decide +kernel
theorem dX6_read_46 : decode cX6_read 46 = .ok (.iload_n 3, 1) := by decide +kernel
theorem dX6_read_47 : decode cX6_read 47 = .ok (.iaload, 1) := by decide +kernel
theorem dX6_read_48 : decode cX6_read 48 = .ok (.bipush 48, 2) := by decide +kernel
theorem dX6_read_50 : decode cX6_read 50 = .ok (.isub, 1) := by decide +kernel
theorem dX6_read_51 : decode cX6_read 51 = .ok (.istore 4, 2) := by decide +kernel
theorem dX6_read_53 : decode cX6_read 53 = .ok (.iconst 3, 1) := by decide +kernel
theorem dX6_read_54 : decode cX6_read 54 = .ok (.aload_n 0, 1) := by decide +kernel
theorem dX6_read_55 : decode cX6_read 55 = .ok (.getfield 7, 3) := by decide +kernel
theorem dX6_read_58 : decode cX6_read 58 = .ok (.bipush 40, 2) := by decide +kernel
theorem dX6_read_60 : decode cX6_read 60 = .ok (.iaload, 1) := by decide +kernel
theorem dX6_read_61 : decode cX6_read 61 = .ok (.imul, 1) := by decide +kernel
theorem dX6_read_62 : decode cX6_read 62 = .ok (.aload_n 0, 1) := by decide +kernel
theorem dX6_read_63 : decode cX6_read 63 = .ok (.getfield 26, 3) := by decide +kernel
theorem dX6_read_66 : decode cX6_read 66 = .ok (.iload_n 3, 1) := by decide +kernel
theorem dX6_read_67 : decode cX6_read 67 = .ok (.iconst 1, 1) := by decide +kernel
theorem dX6_read_68 : decode cX6_read 68 = .ok (.iadd, 1) := by decide +kernel
theorem dX6_read_69 : decode cX6_read 69 = .ok (.iaload, 1) := by decide +kernel
theorem dX6_read_70 : decode cX6_read 70 = .ok (.iadd, 1) := by decide +kernel
theorem dX6_read_71 : decode cX6_read 71 = .ok (.bipush 97, 2) := by decide +kernel
theorem dX6_read_73 : decode cX6_read 73 = .ok (.isub, 1) := by decide +kernel
theorem dX6_read_74 : decode cX6_read 74 = .ok (.istore 5, 2) := by decide +kernel
theorem dX6_read_76 : decode cX6_read 76 = .ok (.aload_n 0, 1) := by decide +kernel
theorem dX6_read_77 : decode cX6_read 77 = .ok (.invokevirtual 97, 3) := by decide +kernel
theorem dX6_read_80 : decode cX6_read 80 = .ok (.ifCond .ne 43, 3) := by decide +kernel
theorem dX6_read_83 : decode cX6_read 83 = .ok (.aload_n 0, 1) := by decide +kernel
theorem dX6_read_84 : decode cX6_read 84 = .ok (.getfield 26, 3) := by decide +kernel
theorem dX6_read_87 : decode cX6_read 87 = .ok (.iload_n 3, 1) := by decide +kernel
theorem dX6_read_88 : decode cX6_read 88 = .ok (.iconst 1, 1) := by decide +kernel
theorem dX6_read_89 : decode cX6_read 89 = .ok (.iadd, 1) := by decide +kernel
theorem dX6_read_90 : decode cX6_read 90 = .ok (.iaload, 1) := by decide +kernel
theorem dX6_read_91 : decode cX6_read 91 = .ok (.bipush 45, 2) := by decide +kernel
theorem dX6_read_93 : decode cX6_read 93 = .ok (.if_icmp .ne 15, 3) := by decide +kernel
theorem dX6_read_96 : decode cX6_read 96 = .ok (.aload_n 0, 1) := by decide +kernel
theorem dX6_read_97 : decode cX6_read 97 = .ok (.iload 4, 2) := by decide +kernel
theorem dX6_read_99 : decode cX6_read 99 = .ok (.invokevirtual 131, 3) := by decide +kernel
theorem dX6_read_102 : decode cX6_read 102 = .ok (.ifCond .ne 21, 3) := by decide +kernel
theorem dX6_read_105 : decode cX6_read 105 = .ok (.goto 14, 3) := by decide +kernel
theorem dX6_read_108 : decode cX6_read 108 = .ok (.aload_n 0, 1) := by decide +kernel
theorem dX6_read_109 : decode cX6_read 109 = .ok (.iload 5, 2) := by decide +kernel
theorem dX6_read_111 : decode cX6_read 111 = .ok (.iload 4, 2) := by decide +kernel
theorem dX6_read_113 : decode cX6_read 113 = .ok (.invokevirtual 88, 3) := by decide +kernel
theorem dX6_read_116 : decode cX6_read 116 = .ok (.ifCond .ne 7, 3) := by decide +kernel
theorem dX6_read_119 : decode cX6_read 119 = .ok (.iconst 1, 1) := by decide +kernel
theorem dX6_read_120 : decode cX6_read 120 = .ok (.goto 4, 3) := by decide +kernel
theorem dX6_read_123 : decode cX6_read 123 = .ok (.iconst 0, 1) := by decide +kernel
theorem dX6_read_124 : decode cX6_read 124 = .ok (.istore_n 2, 1) := by decide +kernel
theorem dX6_read_125 : decode cX6_read 125 = .ok (.iload_n 2, 1) := by decide +kernel
theorem dX6_read_126 : decode cX6_read 126 = .ok (.ifCond .eq 37, 3) := by decide +kernel
theorem dX6_read_129 : decode cX6_read 129 = .ok (.aload_n 0, 1) := by decide +kernel
theorem dX6_read_130 : decode cX6_read 130 = .ok (.iload 4, 2) := by decide +kernel
theorem dX6_read_132 : decode cX6_read 132 = .ok (.invokevirtual 120, 3) := by decide +kernel
theorem dX6_read_135 : decode cX6_read 135 = .ok (.aload_n 0, 1) := by decide +kernel
theorem dX6_read_136 : decode cX6_read 136 = .ok (.getfield 26, 3) := by decide +kernel
theorem dX6_read_139 : decode cX6_read 139 = .ok (.iload_n 3, 1) := by decide +kernel
theorem dX6_read_140 : decode cX6_read 140 = .ok (.iconst 1, 1) := by decide +kernel
theorem dX6_read_141 : decode cX6_read 141 = .ok (.iadd, 1) := by decide +kernel
theorem dX6_read_142 : decode cX6_read 142 = .ok (.iaload, 1) := by decide +kernel
theorem dX6_read_143 : decode cX6_read 143 = .ok (.bipush 45, 2) := by decide +kernel
theorem dX6_read_145 : decode cX6_read 145 = .ok (.if_icmp .eq 11, 3) := by decide +kernel
theorem dX6_read_148 : decode cX6_read 148 = .ok (.aload_n 0, 1) := by decide +kernel
theorem dX6_read_149 : decode cX6_read 149 = .ok (.iload 5, 2) := by decide +kernel
theorem dX6_read_151 : decode cX6_read 151 = .ok (.iload 4, 2) := by decide +kernel
theorem dX6_read_153 : decode cX6_read 153 = .ok (.invokevirtual 124, 3) := by decide +kernel
theorem dX6_read_156 : decode cX6_read 156 = .ok (.aload_n 0, 1) := by decide +kernel
theorem dX6_read_157 : decode cX6_read 157 = .ok (.invokevirtual 128, 3) := by decide +kernel
theorem dX6_read_160 : decode cX6_read 160 = .ok (.iinc 1 1, 3) := by decide +kernel
theorem dX6_read_163 : decode cX6_read 163 = .ok (.iinc 3 2, 3) := by decide +kernel
theorem dX6_read_166 : decode cX6_read 166 = .ok (.goto (-136), 3) := by decide +kernel
theorem dX6_read_169 : decode cX6_read 169 = .ok (.aload_n 0, 1) := by decide +kernel
theorem dX6_read_170 : decode cX6_read 170 = .ok (.iconst 0, 1) := by decide +kernel
theorem dX6_read_171 : decode cX6_read 171 = .ok (.putfield 143, 3) := by decide +kernel
theorem dX6_read_174 : decode cX6_read 174 = .ok (.iload_n 1, 1) := by decide +kernel
theorem dX6_read_175 : decode cX6_read 175 = .ok (.ireturn, 1) := by decide +kernel
theorem dX6_lay_0 : decode cX6_lay 0 = .ok (.iload_n 1, 1) := by decide +kernel
theorem dX6_lay_1 : decode cX6_lay 1 = .ok (.invokestatic 146, 3) := by decide +kernel
theorem dX6_lay_4 : decode cX6_lay 4 = .ok (.ifCond .ne 5, 3) := by decide +kernel
theorem dX6_lay_7 : decode cX6_lay 7 = .ok (.iconst (-1), 1) := by decide +kernel
theorem dX6_lay_8 : decode cX6_lay 8 = .ok (.ireturn, 1) := by decide +kernel
theorem dX6_lay_9 : decode cX6_lay 9 = .ok (.iload_n 2, 1) := by decide +kernel
theorem dX6_lay_10 : decode cX6_lay 10 = .ok (.bipush (-6), 2) := by decide +kernel
theorem dX6_lay_12 : decode cX6_lay 12 = .ok (.if_icmp .eq 16, 3) := by decide +kernel
theorem dX6_lay_15 : decode cX6_lay 15 = .ok (.iload_n 2, 1) := by decide +kernel
theorem dX6_lay_16 : decode cX6_lay 16 = .ok (.iconst 0, 1) := by decide +kernel
theorem dX6_lay_17 : decode cX6_lay 17 = .ok (.bipush 35, 2) := by decide +kernel
theorem dX6_lay_19 : decode cX6_lay 19 = .ok (.invokestatic 32, 3) := by decide +kernel
theorem dX6_lay_22 : decode cX6_lay 22 = .ok (.ifCond .ne 6, 3) := by decide +kernel
theorem dX6_lay_25 : decode cX6_lay 25 = .ok (.bipush (-2), 2) := by decide +kernel
theorem dX6_lay_27 : decode cX6_lay 27 = .ok (.ireturn, 1) := by decide +kernel
theorem dX6_lay_28 : decode cX6_lay 28 = .ok (.iload_n 1, 1) := by decide +kernel
theorem dX6_lay_29 : decode cX6_lay 29 = .ok (.iconst 3, 1) := by decide +kernel
theorem dX6_lay_30 : decode cX6_lay 30 = .ok (.idiv, 1) := by decide +kernel
theorem dX6_lay_31 : decode cX6_lay 31 = .ok (.istore_n 3, 1) := by decide +kernel
theorem dX6_lay_32 : decode cX6_lay 32 = .ok (.iload_n 3, 1) := by decide +kernel
theorem dX6_lay_33 : decode cX6_lay 33 = .ok (.iload_n 2, 1) := by decide +kernel
theorem dX6_lay_34 : decode cX6_lay 34 = .ok (.invokestatic 36, 3) := by decide +kernel
theorem dX6_lay_37 : decode cX6_lay 37 = .ok (.istore 4, 2) := by decide +kernel
theorem dX6_lay_39 : decode cX6_lay 39 = .ok (.iconst 0, 1) := by decide +kernel
theorem dX6_lay_40 : decode cX6_lay 40 = .ok (.istore 5, 2) := by decide +kernel
theorem dX6_lay_42 : decode cX6_lay 42 = .ok (.iconst 3, 1) := by decide +kernel
theorem dX6_lay_43 : decode cX6_lay 43 = .ok (.iload_n 3, 1) := by decide +kernel
theorem dX6_lay_44 : decode cX6_lay 44 = .ok (.imul, 1) := by decide +kernel
theorem dX6_lay_45 : decode cX6_lay 45 = .ok (.istore 6, 2) := by decide +kernel
theorem dX6_lay_47 : decode cX6_lay 47 = .ok (.iload 6, 2) := by decide +kernel
theorem dX6_lay_49 : decode cX6_lay 49 = .ok (.iconst 3, 1) := by decide +kernel
theorem dX6_lay_50 : decode cX6_lay 50 = .ok (.iload_n 3, 1) := by decide +kernel
theorem dX6_lay_51 : decode cX6_lay 51 = .ok (.imul, 1) := by decide +kernel
theorem dX6_lay_52 : decode cX6_lay 52 = .ok (.iconst 3, 1) := by decide +kernel
theorem dX6_lay_53 : decode cX6_lay 53 = .ok (.iadd, 1) := by decide +kernel
theorem dX6_lay_54 : decode cX6_lay 54 = .ok (.if_icmp .ge 46, 3) := by decide +kernel
theorem dX6_lay_57 : decode cX6_lay 57 = .ok (.iload 5, 2) := by decide +kernel
theorem dX6_lay_59 : decode cX6_lay 59 = .ok (.iload 6, 2) := by decide +kernel
theorem dX6_lay_61 : decode cX6_lay 61 = .ok (.iload_n 1, 1) := by decide +kernel
theorem dX6_lay_62 : decode cX6_lay 62 = .ok (.if_icmp .eq 28, 3) := by decide +kernel
theorem dX6_lay_65 : decode cX6_lay 65 = .ok (.aload_n 0, 1) := by decide +kernel
theorem dX6_lay_66 : decode cX6_lay 66 = .ok (.getfield 7, 3) := by decide +kernel
theorem dX6_lay_69 : decode cX6_lay 69 = .ok (.iload 6, 2) := by decide +kernel
theorem dX6_lay_71 : decode cX6_lay 71 = .ok (.iaload, 1) := by decide +kernel
theorem dX6_lay_72 : decode cX6_lay 72 = .ok (.iload_n 2, 1) := by decide +kernel
theorem dX6_lay_73 : decode cX6_lay 73 = .ok (.if_icmp .ne 17, 3) := by decide +kernel
theorem dX6_lay_76 : decode cX6_lay 76 = .ok (.iload_n 2, 1) := by decide +kernel
theorem dX6_lay_77 : decode cX6_lay 77 = .ok (.iconst 0, 1) := by decide +kernel
theorem dX6_lay_78 : decode cX6_lay 78 = .ok (.bipush 34, 2) := by decide +kernel
theorem dX6_lay_80 : decode cX6_lay 80 = .ok (.invokestatic 32, 3) := by decide +kernel
theorem dX6_lay_83 : decode cX6_lay 83 = .ok (.ifCond .eq 7, 3) := by decide +kernel
theorem dX6_lay_86 : decode cX6_lay 86 = .ok (.iconst 1, 1) := by decide +kernel
theorem dX6_lay_87 : decode cX6_lay 87 = .ok (.goto 4, 3) := by decide +kernel
theorem dX6_lay_90 : decode cX6_lay 90 = .ok (.iconst 0, 1) := by decide +kernel
theorem dX6_lay_91 : decode cX6_lay 91 = .ok (.iadd, 1) := by decide +kernel
theorem dX6_lay_92 : decode cX6_lay 92 = .ok (.istore 5, 2) := by decide +kernel
theorem dX6_lay_94 : decode cX6_lay 94 = .ok (.iinc 6 1, 3) := by decide +kernel
theorem dX6_lay_97 : decode cX6_lay 97 = .ok (.goto (-50), 3) := by decide +kernel
theorem dX6_lay_100 : decode cX6_lay 100 = .ok (.aload_n 0, 1) := by decide +kernel
theorem dX6_lay_101 : decode cX6_lay 101 = .ok (.iload_n 3, 1) := by decide +kernel
theorem dX6_lay_102 : decode cX6_lay 102 = .ok (.iload 4, 2) := by decide +kernel
theorem dX6_lay_104 : decode cX6_lay 104 = .ok (.invokevirtual 91, 3) := by decide +kernel
theorem dX6_lay_107 : decode cX6_lay 107 = .ok (.ifCond .ge 18, 3) := by decide +kernel
theorem dX6_lay_110 : decode cX6_lay 110 = .ok (.iload 5, 2) := by decide +kernel
theorem dX6_lay_112 : decode cX6_lay 112 = .ok (.iconst 1, 1) := by decide +kernel
theorem dX6_lay_113 : decode cX6_lay 113 = .ok (.if_icmp .gt 12, 3) := by decide +kernel
theorem dX6_lay_116 : decode cX6_lay 116 = .ok (.aload_n 0, 1) := by decide +kernel
theorem dX6_lay_117 : decode cX6_lay 117 = .ok (.iload 4, 2) := by decide +kernel
theorem dX6_lay_119 : decode cX6_lay 119 = .ok (.invokevirtual 71, 3) := by decide +kernel
theorem dX6_lay_122 : decode cX6_lay 122 = .ok (.ifCond .eq 6, 3) := by decide +kernel
theorem dX6_lay_125 : decode cX6_lay 125 = .ok (.bipush (-5), 2) := by decide +kernel
theorem dX6_lay_127 : decode cX6_lay 127 = .ok (.ireturn, 1) := by decide +kernel
theorem dX6_lay_128 : decode cX6_lay 128 = .ok (.aload_n 0, 1) := by decide +kernel
theorem dX6_lay_129 : decode cX6_lay 129 = .ok (.invokevirtual 68, 3) := by decide +kernel
theorem dX6_lay_132 : decode cX6_lay 132 = .ok (.aload_n 0, 1) := by decide +kernel
theorem dX6_lay_133 : decode cX6_lay 133 = .ok (.getfield 7, 3) := by decide +kernel
theorem dX6_lay_136 : decode cX6_lay 136 = .ok (.iload_n 1, 1) := by decide +kernel
theorem dX6_lay_137 : decode cX6_lay 137 = .ok (.iaload, 1) := by decide +kernel
theorem dX6_lay_138 : decode cX6_lay 138 = .ok (.istore 6, 2) := by decide +kernel
theorem dX6_lay_140 : decode cX6_lay 140 = .ok (.aload_n 0, 1) := by decide +kernel
theorem dX6_lay_141 : decode cX6_lay 141 = .ok (.getfield 7, 3) := by decide +kernel
theorem dX6_lay_144 : decode cX6_lay 144 = .ok (.iload_n 1, 1) := by decide +kernel
theorem dX6_lay_145 : decode cX6_lay 145 = .ok (.iload_n 2, 1) := by decide +kernel
theorem dX6_lay_146 : decode cX6_lay 146 = .ok (.iastore, 1) := by decide +kernel
