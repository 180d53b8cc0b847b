theorem dX0_isInPair_1 : decode cX0_isInPair 1 = .ok (.getfield 9, 3) := by decide +kernel
theorem dX0_isInPair_4 : decode cX0_isInPair 4 = .ok (.iload_n 1, 1) := by decide +kernel
theorem dX0_isInPair_5 : decode cX0_isInPair 5 = .ok (.iaload, 1) := by decide +kernel
theorem dX0_isInPair_6 : decode cX0_isInPair 6 = .ok (.invokestatic 38, 3) := by decide +kernel
theorem dX0_isInPair_9 : decode cX0_isInPair 9 = .ok (.ifCond .eq 21, 3) := by decide +kernel
theorem dX0_isInPair_12 : decode cX0_isInPair 12 = .ok (.aload_n 0, 1) := by decide +kernel
theorem dX0_isInPair_13 : decode cX0_isInPair 13 = .ok (.iload_n 1, 1) := by decide +kernel
theorem dX0_isInPair_14 : decode cX0_isInPair 14 = .ok (.aload_n 0, 1) := by decide +kernel
theorem dX0_isInPair_15 : decode cX0_isInPair 15 = .ok (.getfield 9, 3) := by decide +kernel
theorem dX0_isInPair_18 : decode cX0_isInPair 18 = .ok (.iload_n 1, 1) := by decide +kernel
theorem dX0_isInPair_19 : decode cX0_isInPair 19 = .ok (.iaload, 1) := by decide +kernel
theorem dX0_isInPair_20 : decode cX0_isInPair 20 = .ok (.invokevirtual 42, 3) := by decide +kernel
theorem dX0_isInPair_23 : decode cX0_isInPair 23 = .ok (.ifCond .le 7, 3) := by decide +kernel
theorem dX0_isInPair_26 : decode cX0_isInPair 26 = .ok (.iconst 1, 1) := by decide +kernel
theorem dX0_isInPair_27 : decode cX0_isInPair 27 = .ok (.goto 4, 3) := by decide +kernel
theorem dX0_isInPair_30 : decode cX0_isInPair 30 = .ok (.iconst 0, 1) := by decide +kernel
theorem dX0_isInPair_31 : decode cX0_isInPair 31 = .ok (.ireturn, 1) := by decide +kernel
set_option maxRecDepth 20000 in
theorem ggX0_isFullFor_X0_matesAt : GoodIn wsX0_isFullFor wsX0_matesAt := goodIn_r _ [5, 6, 7, 8, 9, 10, 11] (by decide +kernel) (by decide +kernel)
set_option maxRecDepth 20000 in
theorem gX0_isFullFor_X0_matesAt : GoodIn wsX0_isFullFor (wsV RX0 42 RX0 yX0_matesAt wsX0_matesAt) := goodIn_app (goodIn_of _ (by decide +kernel)) ggX0_isFullFor_X0_matesAt
theorem dX0_isFullFor_0 : decode cX0_isFullFor 0 = .ok (.iload_n 2, 1) := by decide +kernel
theorem dX0_isFullFor_1 : decode cX0_isFullFor 1 = .ok (.bipush (-6), 2) := by decide +kernel
theorem dX0_isFullFor_3 : decode cX0_isFullFor 3 = .ok (.if_icmp .eq 23, 3) := by decide +kernel
theorem dX0_isFullFor_6 : decode cX0_isFullFor 6 = .ok (.iload_n 2, 1) := by decide +kernel
theorem dX0_isFullFor_7 : decode cX0_isFullFor 7 = .ok (.bipush 35, 2) := by decide +kernel
theorem dX0_isFullFor_9 : decode cX0_isFullFor 9 = .ok (.if_icmp .eq 17, 3) := by decide +kernel
theorem dX0_isFullFor_12 : decode cX0_isFullFor 12 = .ok (.aload_n 0, 1) := by decide +kernel
theorem dX0_isFullFor_13 : decode cX0_isFullFor 13 = .ok (.iload_n 1, 1) := by decide +kernel
theorem dX0_isFullFor_14 : decode cX0_isFullFor 14 = .ok (.iload_n 2, 1) := by decide +kernel
theorem dX0_isFullFor_15 : decode cX0_isFullFor 15 = .ok (.invokevirtual 42, 3) := by decide +kernel
theorem dX0_isFullFor_18 : decode cX0_isFullFor 18 = .ok (.iconst 2, 1) := by decide +kernel
theorem dX0_isFullFor_19 : decode cX0_isFullFor 19 = .ok (.if_icmp .lt 7, 3) := by decide +kernel
theorem dX0_isFullFor_22 : decode cX0_isFullFor 22 = .ok (.iconst 1, 1) := by decide +kernel
theorem dX0_isFullFor_23 : decode cX0_isFullFor 23 = .ok (.goto 4, 3) := by decide +kernel
theorem dX0_isFullFor_26 : decode cX0_isFullFor 26 = .ok (.iconst 0, 1) := by decide +kernel
theorem dX0_isFullFor_27 : decode cX0_isFullFor 27 = .ok (.ireturn, 1) := by decide +kernel
set_option maxRecDepth 20000 in
theorem ggX0_hasRoomFor_X0_rivalsAt : GoodIn wsX0_hasRoomFor wsX0_rivalsAt := goodIn_r _ [5, 6, 7, 8, 9, 29, 30, 31, 32, 33] (by decide +kernel) (by decide +kernel)
set_option maxRecDepth 20000 in
theorem gX0_hasRoomFor_X0_rivalsAt : GoodIn wsX0_hasRoomFor (wsV RX0 45 RX0 yX0_rivalsAt wsX0_rivalsAt) := goodIn_app (goodIn_of _ (by decide +kernel)) ggX0_hasRoomFor_X0_rivalsAt
set_option maxRecDepth 20000 in
theorem ggX0_hasRoomFor_X0_isFullFor : GoodIn wsX0_hasRoomFor wsX0_isFullFor := goodIn_r _ [13, 14, 15, 16, 4, 17, 6, 29, 30, 31, 32, 33] (by decide +kernel) (by decide +kernel)
set_option maxRecDepth 20000 in
theorem gX0_hasRoomFor_X0_isFullFor : GoodIn wsX0_hasRoomFor (wsV RX0 48 RX0 yX0_isFullFor wsX0_isFullFor) := goodIn_app (goodIn_of _ (by decide +kernel)) ggX0_hasRoomFor_X0_isFullFor
set_option maxRecDepth 20000 in
theorem ggX0_hasRoomFor_X0_isFallenAt : GoodIn wsX0_hasRoomFor wsX0_isFallenAt := goodIn_r _ [21, 7, 8, 9, 22, 23, 24, 4, 25, 26, 27, 28, 29, 30, 31, 32, 33] (by decide +kernel) (by decide +kernel)
set_option maxRecDepth 20000 in
theorem gX0_hasRoomFor_X0_isFallenAt : GoodIn wsX0_hasRoomFor (wsV RX0 52 RX0 yX0_isFallenAt wsX0_isFallenAt) := goodIn_app (goodIn_of _ (by decide +kernel)) ggX0_hasRoomFor_X0_isFallenAt
theorem dX0_hasRoomFor_0 : decode cX0_hasRoomFor 0 = .ok (.iload_n 1, 1) := by decide +kernel
theorem dX0_hasRoomFor_1 : decode cX0_hasRoomFor 1 = .ok (.iconst 3, 1) := by decide +kernel
theorem dX0_hasRoomFor_2 : decode cX0_hasRoomFor 2 = .ok (.idiv, 1) := by decide +kernel
theorem dX0_hasRoomFor_3 : decode cX0_hasRoomFor 3 = .ok (.istore_n 3, 1) := by decide +kernel
theorem dX0_hasRoomFor_4 : decode cX0_hasRoomFor 4 = .ok (.aload_n 0, 1) := by decide +kernel
theorem dX0_hasRoomFor_5 : decode cX0_hasRoomFor 5 = .ok (.iload_n 3, 1) := by decide +kernel
theorem dX0_hasRoomFor_6 : decode cX0_hasRoomFor 6 = .ok (.iload_n 2, 1) := by decide +kernel
theorem dX0_hasRoomFor_7 : decode cX0_hasRoomFor 7 = .ok (.invokevirtual 45, 3) := by decide +kernel
theorem dX0_hasRoomFor_10 : decode cX0_hasRoomFor 10 = .ok (.ifCond .ne 25, 3) := by decide +kernel
theorem dX0_hasRoomFor_13 : decode cX0_hasRoomFor 13 = .ok (.aload_n 0, 1) := by decide +kernel
theorem dX0_hasRoomFor_14 : decode cX0_hasRoomFor 14 = .ok (.iload_n 1, 1) := by decide +kernel
theorem dX0_hasRoomFor_15 : decode cX0_hasRoomFor 15 = .ok (.iload_n 2, 1) := by decide +kernel
theorem dX0_hasRoomFor_16 : decode cX0_hasRoomFor 16 = .ok (.invokevirtual 48, 3) := by decide +kernel
theorem dX0_hasRoomFor_19 : decode cX0_hasRoomFor 19 = .ok (.ifCond .ne 16, 3) := by decide +kernel
theorem dX0_hasRoomFor_22 : decode cX0_hasRoomFor 22 = .ok (.aload_n 0, 1) := by decide +kernel
theorem dX0_hasRoomFor_23 : decode cX0_hasRoomFor 23 = .ok (.iload_n 3, 1) := by decide +kernel
theorem dX0_hasRoomFor_24 : decode cX0_hasRoomFor 24 = .ok (.iload_n 2, 1) := by decide +kernel
theorem dX0_hasRoomFor_25 : decode cX0_hasRoomFor 25 = .ok (.invokevirtual 52, 3) := by decide +kernel
theorem dX0_hasRoomFor_28 : decode cX0_hasRoomFor 28 = .ok (.ifCond .ne 7, 3) := by decide +kernel
theorem dX0_hasRoomFor_31 : decode cX0_hasRoomFor 31 = .ok (.iconst 1, 1) := by decide +kernel
theorem dX0_hasRoomFor_32 : decode cX0_hasRoomFor 32 = .ok (.goto 4, 3) := by decide +kernel
theorem dX0_hasRoomFor_35 : decode cX0_hasRoomFor 35 = .ok (.iconst 0, 1) := by decide +kernel
theorem dX0_hasRoomFor_36 : decode cX0_hasRoomFor 36 = .ok (.ireturn, 1) := by decide +kernel
theorem dX0_homeOf_0 : decode cX0_homeOf 0 = .ok (.iconst 0, 1) := by decide +kernel
theorem dX0_homeOf_1 : decode cX0_homeOf 1 = .ok (.istore_n 2, 1) := by decide +kernel
theorem dX0_homeOf_2 : decode cX0_homeOf 2 = .ok (.iload_n 1, 1) := by decide +kernel
theorem dX0_homeOf_3 : decode cX0_homeOf 3 = .ok (.iconst 3, 1) := by decide +kernel
theorem dX0_homeOf_4 : decode cX0_homeOf 4 = .ok (.imul, 1) := by decide +kernel
theorem dX0_homeOf_5 : decode cX0_homeOf 5 = .ok (.istore_n 3, 1) := by decide +kernel
theorem dX0_homeOf_6 : decode cX0_homeOf 6 = .ok (.iload_n 3, 1) := by decide +kernel
theorem dX0_homeOf_7 : decode cX0_homeOf 7 = .ok (.iload_n 1, 1) := by decide +kernel
theorem dX0_homeOf_8 : decode cX0_homeOf 8 = .ok (.iconst 3, 1) := by decide +kernel
theorem dX0_homeOf_9 : decode cX0_homeOf 9 = .ok (.imul, 1) := by decide +kernel
theorem dX0_homeOf_10 : decode cX0_homeOf 10 = .ok (.iconst 3, 1) := by decide +kernel
theorem dX0_homeOf_11 : decode cX0_homeOf 11 = .ok (.iadd, 1) := by decide +kernel
theorem dX0_homeOf_12 : decode cX0_homeOf 12 = .ok (.if_icmp .ge 23, 3) := by decide +kernel
theorem dX0_homeOf_15 : decode cX0_homeOf 15 = .ok (.aload_n 0, 1) := by decide +kernel
theorem dX0_homeOf_16 : decode cX0_homeOf 16 = .ok (.getfield 9, 3) := by decide +kernel
theorem dX0_homeOf_19 : decode cX0_homeOf 19 = .ok (.iload_n 3, 1) := by decide +kernel
theorem dX0_homeOf_20 : decode cX0_homeOf 20 = .ok (.iaload, 1) := by decide +kernel
theorem dX0_homeOf_21 : decode cX0_homeOf 21 = .ok (.bipush 35, 2) := by decide +kernel
theorem dX0_homeOf_23 : decode cX0_homeOf 23 = .ok (.if_icmp .ne 6, 3) := by decide +kernel
theorem dX0_homeOf_26 : decode cX0_homeOf 26 = .ok (.iinc 2 1, 3) := by decide +kernel
theorem dX0_homeOf_29 : decode cX0_homeOf 29 = .ok (.iinc 3 1, 3) := by decide +kernel
theorem dX0_homeOf_32 : decode cX0_homeOf 32 = .ok (.goto (-26), 3) := by decide +kernel
theorem dX0_homeOf_35 : decode cX0_homeOf 35 = .ok (.iload_n 2, 1) := by decide +kernel
theorem dX0_homeOf_36 : decode cX0_homeOf 36 = .ok (.ireturn, 1) := by decide +kernel
set_option maxRecDepth 20000 in
theorem ggX0_winner_X0_homeOf : GoodIn wsX0_winner wsX0_homeOf := goodIn_r _ [5, 6, 7, 8, 9, 10, 11] (by decide +kernel) (by decide +kernel)
set_option maxRecDepth 20000 in
theorem gX0_winner_X0_homeOf : GoodIn wsX0_winner (wsV RX0 55 RX0 yX0_homeOf wsX0_homeOf) := goodIn_app (goodIn_of _ (by decide +kernel)) ggX0_winner_X0_homeOf
theorem dX0_winner_0 : decode cX0_winner 0 = .ok (.iconst 0, 1) := by decide +kernel
theorem dX0_winner_1 : decode cX0_winner 1 = .ok (.istore_n 1, 1) := by decide +kernel
theorem dX0_winner_2 : decode cX0_winner 2 = .ok (.iload_n 1, 1) := by decide +kernel
theorem dX0_winner_3 : decode cX0_winner 3 = .ok (.iconst 4, 1) := by decide +kernel
theorem dX0_winner_4 : decode cX0_winner 4 = .ok (.if_icmp .ge 20, 3) := by decide +kernel
theorem dX0_winner_7 : decode cX0_winner 7 = .ok (.aload_n 0, 1) := by decide +kernel
theorem dX0_winner_8 : decode cX0_winner 8 = .ok (.iload_n 1, 1) := by decide +kernel
theorem dX0_winner_9 : decode cX0_winner 9 = .ok (.invokevirtual 55, 3) := by decide +kernel
theorem dX0_winner_12 : decode cX0_winner 12 = .ok (.iconst 3, 1) := by decide +kernel
theorem dX0_winner_13 : decode cX0_winner 13 = .ok (.if_icmp .ne 5, 3) := by decide +kernel
theorem dX0_winner_16 : decode cX0_winner 16 = .ok (.iload_n 1, 1) := by decide +kernel
theorem dX0_winner_17 : decode cX0_winner 17 = .ok (.ireturn, 1) := by decide +kernel
theorem dX0_winner_18 : decode cX0_winner 18 = .ok (.iinc 1 1, 3) := by decide +kernel
theorem dX0_winner_21 : decode cX0_winner 21 = .ok (.goto (-19), 3) := by decide +kernel
theorem dX0_winner_24 : decode cX0_winner 24 = .ok (.bipush (-6), 2) := by decide +kernel
theorem dX0_winner_26 : decode cX0_winner 26 = .ok (.ireturn, 1) := by decide +kernel
theorem dX0_sentBackInAll_0 : decode cX0_sentBackInAll 0 = .ok (.iconst 0, 1) := by decide +kernel
theorem dX0_sentBackInAll_1 : decode cX0_sentBackInAll 1 = .ok (.istore_n 1, 1) := by decide +kernel
theorem dX0_sentBackInAll_2 : decode cX0_sentBackInAll 2 = .ok (.iconst 0, 1) := by decide +kernel
theorem dX0_sentBackInAll_3 : decode cX0_sentBackInAll 3 = .ok (.istore_n 2, 1) := by decide +kernel
theorem dX0_sentBackInAll_4 : decode cX0_sentBackInAll 4 = .ok (.iload_n 2, 1) := by decide +kernel
theorem dX0_sentBackInAll_5 : decode cX0_sentBackInAll 5 = .ok (.bipush 12, 2) := by decide +kernel
theorem dX0_sentBackInAll_7 : decode cX0_sentBackInAll 7 = .ok (.if_icmp .ge 18, 3) := by decide +kernel
theorem dX0_sentBackInAll_10 : decode cX0_sentBackInAll 10 = .ok (.iload_n 1, 1) := by decide +kernel
theorem dX0_sentBackInAll_11 : decode cX0_sentBackInAll 11 = .ok (.aload_n 0, 1) := by decide +kernel
theorem dX0_sentBackInAll_12 : decode cX0_sentBackInAll 12 = .ok (.getfield 15, 3) := by decide +kernel
theorem dX0_sentBackInAll_15 : decode cX0_sentBackInAll 15 = .ok (.iload_n 2, 1) := by decide +kernel
theorem dX0_sentBackInAll_16 : decode cX0_sentBackInAll 16 = .ok (.iaload, 1) := by decide +kernel
theorem dX0_sentBackInAll_17 : decode cX0_sentBackInAll 17 = .ok (.iadd, 1) := by decide +kernel
theorem dX0_sentBackInAll_18 : decode cX0_sentBackInAll 18 = .ok (.istore_n 1, 1) := by decide +kernel
theorem dX0_sentBackInAll_19 : decode cX0_sentBackInAll 19 = .ok (.iinc 2 1, 3) := by decide +kernel
theorem dX0_sentBackInAll_22 : decode cX0_sentBackInAll 22 = .ok (.goto (-18), 3) := by decide +kernel
theorem dX0_sentBackInAll_25 : decode cX0_sentBackInAll 25 = .ok (.iload_n 1, 1) := by decide +kernel
theorem dX0_sentBackInAll_26 : decode cX0_sentBackInAll 26 = .ok (.ireturn, 1) := by decide +kernel
set_option maxRecDepth 20000 in
theorem ggX0_bridgeState_X5_bridgeOn : GoodIn wsX0_bridgeState wsX5_bridgeOn := goodIn_r _ [4] (by decide +kernel) (by decide +kernel)
set_option maxRecDepth 20000 in
theorem gX0_bridgeState_X5_bridgeOn_n59 : GoodIn wsX0_bridgeState (wsX5_bridgeOn) := ggX0_bridgeState_X5_bridgeOn
theorem dX0_bridgeState_0 : decode cX0_bridgeState 0 = .ok (.iload_n 1, 1) := by decide +kernel
theorem dX0_bridgeState_1 : decode cX0_bridgeState 1 = .ok (.invokestatic 59, 3) := by decide +kernel
theorem dX0_bridgeState_4 : decode cX0_bridgeState 4 = .ok (.istore_n 2, 1) := by decide +kernel
theorem dX0_bridgeState_5 : decode cX0_bridgeState 5 = .ok (.iload_n 2, 1) := by decide +kernel
theorem dX0_bridgeState_6 : decode cX0_bridgeState 6 = .ok (.bipush (-6), 2) := by decide +kernel
theorem dX0_bridgeState_8 : decode cX0_bridgeState 8 = .ok (.if_icmp .ne 7, 3) := by decide +kernel
theorem dX0_bridgeState_11 : decode cX0_bridgeState 11 = .ok (.iconst 0, 1) := by decide +kernel
theorem dX0_bridgeState_12 : decode cX0_bridgeState 12 = .ok (.goto 9, 3) := by decide +kernel
theorem dX0_bridgeState_15 : decode cX0_bridgeState 15 = .ok (.aload_n 0, 1) := by decide +kernel
theorem dX0_bridgeState_16 : decode cX0_bridgeState 16 = .ok (.getfield 18, 3) := by decide +kernel
theorem dX0_bridgeState_19 : decode cX0_bridgeState 19 = .ok (.iload_n 2, 1) := by decide +kernel
theorem dX0_bridgeState_20 : decode cX0_bridgeState 20 = .ok (.iaload, 1) := by decide +kernel
theorem dX0_bridgeState_21 : decode cX0_bridgeState 21 = .ok (.ireturn, 1) := by decide +kernel
set_option maxRecDepth 20000 in
theorem ggX0_isFallenAt_X5_ringField : GoodIn wsX0_isFallenAt wsX5_ringField := goodIn_r _ [3] (by decide +kernel) (by decide +kernel)
set_option maxRecDepth 20000 in
theorem gX0_isFallenAt_X5_ringField_n34 : GoodIn wsX0_isFallenAt (wsX5_ringField) := ggX0_isFallenAt_X5_ringField
set_option maxRecDepth 20000 in
theorem ggX0_isFallenAt_X0_bridgeState : GoodIn wsX0_isFallenAt wsX0_bridgeState := goodIn_r _ [8, 9, 10, 2, 11, 12, 13, 14, 15, 16] (by decide +kernel) (by decide +kernel)
set_option maxRecDepth 20000 in
theorem gX0_isFallenAt_X0_bridgeState : GoodIn wsX0_isFallenAt (wsV RX0 62 RX0 yX0_bridgeState wsX0_bridgeState) := goodIn_app (goodIn_of _ (by decide +kernel)) ggX0_isFallenAt_X0_bridgeState
theorem dX0_isFallenAt_0 : decode cX0_isFallenAt 0 = .ok (.aload_n 0, 1) := by decide +kernel
theorem dX0_isFallenAt_1 : decode cX0_isFallenAt 1 = .ok (.iload_n 1, 1) := by decide +kernel
theorem dX0_isFallenAt_2 : decode cX0_isFallenAt 2 = .ok (.iload_n 2, 1) := by decide +kernel
theorem dX0_isFallenAt_3 : decode cX0_isFallenAt 3 = .ok (.invokestatic 34, 3) := by decide +kernel
theorem dX0_isFallenAt_6 : decode cX0_isFallenAt 6 = .ok (.invokevirtual 62, 3) := by decide +kernel
theorem dX0_isFallenAt_9 : decode cX0_isFallenAt 9 = .ok (.iconst 3, 1) := by decide +kernel
theorem dX0_isFallenAt_10 : decode cX0_isFallenAt 10 = .ok (.if_icmp .ne 7, 3) := by decide +kernel
theorem dX0_isFallenAt_13 : decode cX0_isFallenAt 13 = .ok (.iconst 1, 1) := by decide +kernel
theorem dX0_isFallenAt_14 : decode cX0_isFallenAt 14 = .ok (.goto 4, 3) := by decide +kernel
theorem dX0_isFallenAt_17 : decode cX0_isFallenAt 17 = .ok (.iconst 0, 1) := by decide +kernel
theorem dX0_isFallenAt_18 : decode cX0_isFallenAt 18 = .ok (.ireturn, 1) := by decide +kernel
theorem dX0_fallenSet_0 : decode cX0_fallenSet 0 = .ok (.iconst 0, 1) := by decide +kernel
theorem dX0_fallenSet_1 : decode cX0_fallenSet 1 = .ok (.istore_n 1, 1) := by decide +kernel
theorem dX0_fallenSet_2 : decode cX0_fallenSet 2 = .ok (.iconst 0, 1) := by decide +kernel
theorem dX0_fallenSet_3 : decode cX0_fallenSet 3 = .ok (.istore_n 2, 1) := by decide +kernel
theorem dX0_fallenSet_4 : decode cX0_fallenSet 4 = .ok (.iload_n 2, 1) := by decide +kernel
theorem dX0_fallenSet_5 : decode cX0_fallenSet 5 = .ok (.iconst 4, 1) := by decide +kernel
theorem dX0_fallenSet_6 : decode cX0_fallenSet 6 = .ok (.if_icmp .ge 25, 3) := by decide +kernel
theorem dX0_fallenSet_9 : decode cX0_fallenSet 9 = .ok (.aload_n 0, 1) := by decide +kernel
theorem dX0_fallenSet_10 : decode cX0_fallenSet 10 = .ok (.getfield 18, 3) := by decide +kernel
theorem dX0_fallenSet_13 : decode cX0_fallenSet 13 = .ok (.iload_n 2, 1) := by decide +kernel
theorem dX0_fallenSet_14 : decode cX0_fallenSet 14 = .ok (.iaload, 1) := by decide +kernel
theorem dX0_fallenSet_15 : decode cX0_fallenSet 15 = .ok (.iconst 3, 1) := by decide +kernel
theorem dX0_fallenSet_16 : decode cX0_fallenSet 16 = .ok (.if_icmp .ne 9, 3) := by decide +kernel
theorem dX0_fallenSet_19 : decode cX0_fallenSet 19 = .ok (.iload_n 1, 1) := by decide +kernel
theorem dX0_fallenSet_20 : decode cX0_fallenSet 20 = .ok (.iconst 1, 1) := by decide +kernel
theorem dX0_fallenSet_21 : decode cX0_fallenSet 21 = .ok (.iload_n 2, 1) := by decide +kernel
theorem dX0_fallenSet_22 : decode cX0_fallenSet 22 = .ok (.ishl, 1) := by decide +kernel
theorem dX0_fallenSet_23 : decode cX0_fallenSet 23 = .ok (.ior, 1) := by decide +kernel
theorem dX0_fallenSet_24 : decode cX0_fallenSet 24 = .ok (.istore_n 1, 1) := by decide +kernel
theorem dX0_fallenSet_25 : decode cX0_fallenSet 25 = .ok (.iinc 2 1, 3) := by decide +kernel
theorem dX0_fallenSet_28 : decode cX0_fallenSet 28 = .ok (.goto (-24), 3) := by decide +kernel
theorem dX0_fallenSet_31 : decode cX0_fallenSet 31 = .ok (.iload_n 1, 1) := by decide +kernel
theorem dX0_fallenSet_32 : decode cX0_fallenSet 32 = .ok (.ireturn, 1) := by decide +kernel
set_option maxRecDepth 20000 in
theorem ggX0_target_X0_isFallenAt : GoodIn wsX0_target wsX0_isFallenAt := goodIn_r _ [5, 6, 7, 8, 9, 10, 11, 4, 12, 13, 14, 15, 16, 17, 18, 19, 20] (by decide +kernel) (by decide +kernel)
set_option maxRecDepth 20000 in
theorem gX0_target_X0_isFallenAt : GoodIn wsX0_target (wsV RX0 52 RX0 yX0_isFallenAt wsX0_isFallenAt) := goodIn_app (goodIn_of _ (by decide +kernel)) ggX0_target_X0_isFallenAt
theorem dX0_target_0 : decode cX0_target 0 = .ok (.iload_n 2, 1) := by decide +kernel
theorem dX0_target_1 : decode cX0_target 1 = .ok (.bipush (-6), 2) := by decide +kernel
theorem dX0_target_3 : decode cX0_target 3 = .ok (.if_icmp .ne 5, 3) := by decide +kernel
theorem dX0_target_6 : decode cX0_target 6 = .ok (.iconst 0, 1) := by decide +kernel
theorem dX0_target_7 : decode cX0_target 7 = .ok (.ireturn, 1) := by decide +kernel
theorem dX0_target_8 : decode cX0_target 8 = .ok (.iload_n 2, 1) := by decide +kernel
theorem dX0_target_9 : decode cX0_target 9 = .ok (.istore 4, 2) := by decide +kernel
theorem dX0_target_11 : decode cX0_target 11 = .ok (.iload_n 3, 1) := by decide +kernel
theorem dX0_target_12 : decode cX0_target 12 = .ok (.istore 5, 2) := by decide +kernel
theorem dX0_target_14 : decode cX0_target 14 = .ok (.iload 5, 2) := by decide +kernel
theorem dX0_target_16 : decode cX0_target 16 = .ok (.ifCond .le 36, 3) := by decide +kernel
theorem dX0_target_19 : decode cX0_target 19 = .ok (.iload 4, 2) := by decide +kernel
theorem dX0_target_21 : decode cX0_target 21 = .ok (.bipush 35, 2) := by decide +kernel
theorem dX0_target_23 : decode cX0_target 23 = .ok (.if_icmp .ge 29, 3) := by decide +kernel
theorem dX0_target_26 : decode cX0_target 26 = .ok (.iinc 4 1, 3) := by decide +kernel
theorem dX0_target_29 : decode cX0_target 29 = .ok (.iload 5, 2) := by decide +kernel
theorem dX0_target_31 : decode cX0_target 31 = .ok (.aload_n 0, 1) := by decide +kernel
theorem dX0_target_32 : decode cX0_target 32 = .ok (.iload_n 1, 1) := by decide +kernel
theorem dX0_target_33 : decode cX0_target 33 = .ok (.iload 4, 2) := by decide +kernel
theorem dX0_target_35 : decode cX0_target 35 = .ok (.invokevirtual 52, 3) := by decide +kernel
theorem dX0_target_38 : decode cX0_target 38 = .ok (.ifCond .eq 7, 3) := by decide +kernel
theorem dX0_target_41 : decode cX0_target 41 = .ok (.iconst 2, 1) := by decide +kernel
theorem dX0_target_42 : decode cX0_target 42 = .ok (.goto 4, 3) := by decide +kernel
theorem dX0_target_45 : decode cX0_target 45 = .ok (.iconst 1, 1) := by decide +kernel
theorem dX0_target_46 : decode cX0_target 46 = .ok (.isub, 1) := by decide +kernel
theorem dX0_target_47 : decode cX0_target 47 = .ok (.istore 5, 2) := by decide +kernel
theorem dX0_target_49 : decode cX0_target 49 = .ok (.goto (-35), 3) := by decide +kernel
theorem dX0_target_52 : decode cX0_target 52 = .ok (.iload 5, 2) := by decide +kernel
theorem dX0_target_54 : decode cX0_target 54 = .ok (.ifCond .ne 13, 3) := by decide +kernel
theorem dX0_target_57 : decode cX0_target 57 = .ok (.aload_n 0, 1) := by decide +kernel
theorem dX0_target_58 : decode cX0_target 58 = .ok (.iload_n 1, 1) := by decide +kernel
theorem dX0_target_59 : decode cX0_target 59 = .ok (.iload 4, 2) := by decide +kernel
theorem dX0_target_61 : decode cX0_target 61 = .ok (.invokevirtual 52, 3) := by decide +kernel
theorem dX0_target_64 : decode cX0_target 64 = .ok (.ifCond .eq 8, 3) := by decide +kernel
theorem dX0_target_67 : decode cX0_target 67 = .ok (.bipush (-6), 2) := by decide +kernel
theorem dX0_target_69 : decode cX0_target 69 = .ok (.goto 5, 3) := by decide +kernel
theorem dX0_target_72 : decode cX0_target 72 = .ok (.iload 4, 2) := by decide +kernel
theorem dX0_target_74 : decode cX0_target 74 = .ok (.ireturn, 1) := by decide +kernel
set_option maxRecDepth 20000 in
theorem ggX0_isBlockedOnWay_X0_rivalsAt : GoodIn wsX0_isBlockedOnWay wsX0_rivalsAt := goodIn_r _ [5, 6, 7, 8, 9, 10, 11, 12, 13, 14] (by decide +kernel) (by decide +kernel)
set_option maxRecDepth 20000 in
theorem gX0_isBlockedOnWay_X0_rivalsAt : GoodIn wsX0_isBlockedOnWay (wsV RX0 45 RX0 yX0_rivalsAt wsX0_rivalsAt) := goodIn_app (goodIn_of _ (by decide +kernel)) ggX0_isBlockedOnWay_X0_rivalsAt
theorem dX0_isBlockedOnWay_0 : decode cX0_isBlockedOnWay 0 = .ok (.iload_n 2, 1) := by decide +kernel
theorem dX0_isBlockedOnWay_1 : decode cX0_isBlockedOnWay 1 = .ok (.bipush (-6), 2) := by decide +kernel
theorem dX0_isBlockedOnWay_3 : decode cX0_isBlockedOnWay 3 = .ok (.if_icmp .ne 7, 3) := by decide +kernel
theorem dX0_isBlockedOnWay_6 : decode cX0_isBlockedOnWay 6 = .ok (.iconst 0, 1) := by decide +kernel
theorem dX0_isBlockedOnWay_7 : decode cX0_isBlockedOnWay 7 = .ok (.goto 6, 3) := by decide +kernel
theorem dX0_isBlockedOnWay_10 : decode cX0_isBlockedOnWay 10 = .ok (.iload_n 2, 1) := by decide +kernel
theorem dX0_isBlockedOnWay_11 : decode cX0_isBlockedOnWay 11 = .ok (.iconst 1, 1) := by decide +kernel
theorem dX0_isBlockedOnWay_12 : decode cX0_isBlockedOnWay 12 = .ok (.iadd, 1) := by decide +kernel
theorem dX0_isBlockedOnWay_13 : decode cX0_isBlockedOnWay 13 = .ok (.istore 4, 2) := by decide +kernel
theorem dX0_isBlockedOnWay_15 : decode cX0_isBlockedOnWay 15 = .ok (.iload 4, 2) := by decide +kernel
theorem dX0_isBlockedOnWay_17 : decode cX0_isBlockedOnWay 17 = .ok (.istore 5, 2) := by decide +kernel
theorem dX0_isBlockedOnWay_19 : decode cX0_isBlockedOnWay 19 = .ok (.iload 5, 2) := by decide +kernel
theorem dX0_isBlockedOnWay_21 : decode cX0_isBlockedOnWay 21 = .ok (.iload_n 3, 1) := by decide +kernel
theorem dX0_isBlockedOnWay_22 : decode cX0_isBlockedOnWay 22 = .ok (.if_icmp .gt 22, 3) := by decide +kernel
theorem dX0_isBlockedOnWay_25 : decode cX0_isBlockedOnWay 25 = .ok (.aload_n 0, 1) := by decide +kernel
theorem dX0_isBlockedOnWay_26 : decode cX0_isBlockedOnWay 26 = .ok (.iload_n 1, 1) := by decide +kernel
theorem dX0_isBlockedOnWay_27 : decode cX0_isBlockedOnWay 27 = .ok (.iload 5, 2) := by decide +kernel
theorem dX0_isBlockedOnWay_29 : decode cX0_isBlockedOnWay 29 = .ok (.invokevirtual 45, 3) := by decide +kernel
theorem dX0_isBlockedOnWay_32 : decode cX0_isBlockedOnWay 32 = .ok (.iconst 2, 1) := by decide +kernel
theorem dX0_isBlockedOnWay_33 : decode cX0_isBlockedOnWay 33 = .ok (.if_icmp .lt 5, 3) := by decide +kernel
theorem dX0_isBlockedOnWay_36 : decode cX0_isBlockedOnWay 36 = .ok (.iconst 1, 1) := by decide +kernel
theorem dX0_isBlockedOnWay_37 : decode cX0_isBlockedOnWay 37 = .ok (.ireturn, 1) := by decide +kernel
theorem dX0_isBlockedOnWay_38 : decode cX0_isBlockedOnWay 38 = .ok (.iinc 5 1, 3) := by decide +kernel
theorem dX0_isBlockedOnWay_41 : decode cX0_isBlockedOnWay 41 = .ok (.goto (-22), 3) := by decide +kernel
theorem dX0_isBlockedOnWay_44 : decode cX0_isBlockedOnWay 44 = .ok (.iconst 0, 1) := by decide +kernel
theorem dX0_isBlockedOnWay_45 : decode cX0_isBlockedOnWay 45 = .ok (.ireturn, 1) := by decide +kernel
set_option maxRecDepth 20000 in
theorem ggX0_sendRivalsBack_X5_ringField : GoodIn wsX0_sendRivalsBack wsX5_ringField := goodIn_r _ [5] (by decide +kernel) (by decide +kernel)
set_option maxRecDepth 20000 in
theorem gX0_sendRivalsBack_X5_ringField_n34 : GoodIn wsX0_sendRivalsBack (wsX5_ringField) := ggX0_sendRivalsBack_X5_ringField
theorem dX0_sendRivalsBack_0 : decode cX0_sendRivalsBack 0 = .ok (.iload_n 1, 1) := by decide +kernel
theorem dX0_sendRivalsBack_1 : decode cX0_sendRivalsBack 1 = .ok (.iload_n 2, 1) := by decide +kernel
theorem dX0_sendRivalsBack_2 : decode cX0_sendRivalsBack 2 = .ok (.invokestatic 34, 3) := by decide +kernel
theorem dX0_sendRivalsBack_5 : decode cX0_sendRivalsBack 5 = .ok (.istore_n 3, 1) := by decide +kernel
theorem dX0_sendRivalsBack_6 : decode cX0_sendRivalsBack 6 = .ok (.iconst 0, 1) := by decide +kernel
theorem dX0_sendRivalsBack_7 : decode cX0_sendRivalsBack 7 = .ok (.istore 4, 2) := by decide +kernel
theorem dX0_sendRivalsBack_9 : decode cX0_sendRivalsBack 9 = .ok (.iload 4, 2) := by decide +kernel
theorem dX0_sendRivalsBack_11 : decode cX0_sendRivalsBack 11 = .ok (.bipush 12, 2) := by decide +kernel
theorem dX0_sendRivalsBack_13 : decode cX0_sendRivalsBack 13 = .ok (.if_icmp .ge 61, 3) := by decide +kernel
theorem dX0_sendRivalsBack_16 : decode cX0_sendRivalsBack 16 = .ok (.iload_n 3, 1) := by decide +kernel
theorem dX0_sendRivalsBack_17 : decode cX0_sendRivalsBack 17 = .ok (.bipush (-6), 2) := by decide +kernel
theorem dX0_sendRivalsBack_19 : decode cX0_sendRivalsBack 19 = .ok (.if_icmp .eq 55, 3) := by decide +kernel
theorem dX0_sendRivalsBack_22 : decode cX0_sendRivalsBack 22 = .ok (.iload 4, 2) := by decide +kernel
theorem dX0_sendRivalsBack_24 : decode cX0_sendRivalsBack 24 = .ok (.iconst 3, 1) := by decide +kernel
theorem dX0_sendRivalsBack_25 : decode cX0_sendRivalsBack 25 = .ok (.idiv, 1) := by decide +kernel
theorem dX0_sendRivalsBack_26 : decode cX0_sendRivalsBack 26 = .ok (.iload_n 1, 1) := by decide +kernel
theorem dX0_sendRivalsBack_27 : decode cX0_sendRivalsBack 27 = .ok (.if_icmp .eq 41, 3) := by decide +kernel
theorem dX0_sendRivalsBack_30 : decode cX0_sendRivalsBack 30 = .ok (.iload 4, 2) := by decide +kernel
theorem dX0_sendRivalsBack_32 : decode cX0_sendRivalsBack 32 = .ok (.iconst 3, 1) := by decide +kernel
theorem dX0_sendRivalsBack_33 : decode cX0_sendRivalsBack 33 = .ok (.idiv, 1) := by decide +kernel
theorem dX0_sendRivalsBack_34 : decode cX0_sendRivalsBack 34 = .ok (.aload_n 0, 1) := by decide +kernel
theorem dX0_sendRivalsBack_35 : decode cX0_sendRivalsBack 35 = .ok (.getfield 9, 3) := by decide +kernel
theorem dX0_sendRivalsBack_38 : decode cX0_sendRivalsBack 38 = .ok (.iload 4, 2) := by decide +kernel
theorem dX0_sendRivalsBack_40 : decode cX0_sendRivalsBack 40 = .ok (.iaload, 1) := by decide +kernel
theorem dX0_sendRivalsBack_41 : decode cX0_sendRivalsBack 41 = .ok (.invokestatic 34, 3) := by decide +kernel
theorem dX0_sendRivalsBack_44 : decode cX0_sendRivalsBack 44 = .ok (.iload_n 3, 1) := by decide +kernel
theorem dX0_sendRivalsBack_45 : decode cX0_sendRivalsBack 45 = .ok (.if_icmp .ne 23, 3) := by decide +kernel
theorem dX0_sendRivalsBack_48 : decode cX0_sendRivalsBack 48 = .ok (.aload_n 0, 1) := by decide +kernel
theorem dX0_sendRivalsBack_49 : decode cX0_sendRivalsBack 49 = .ok (.getfield 9, 3) := by decide +kernel
theorem dX0_sendRivalsBack_52 : decode cX0_sendRivalsBack 52 = .ok (.iload 4, 2) := by decide +kernel
theorem dX0_sendRivalsBack_54 : decode cX0_sendRivalsBack 54 = .ok (.bipush (-6), 2) := by decide +kernel
theorem dX0_sendRivalsBack_56 : decode cX0_sendRivalsBack 56 = .ok (.iastore, 1) := by decide +kernel
theorem dX0_sendRivalsBack_57 : decode cX0_sendRivalsBack 57 = .ok (.aload_n 0, 1) := by decide +kernel
theorem dX0_sendRivalsBack_58 : decode cX0_sendRivalsBack 58 = .ok (.getfield 15, 3) := by decide +kernel
theorem dX0_sendRivalsBack_61 : decode cX0_sendRivalsBack 61 = .ok (.iload 4, 2) := by decide +kernel
theorem dX0_sendRivalsBack_63 : decode cX0_sendRivalsBack 63 = .ok (.dup2, 1) := by decide +kernel
theorem dX0_sendRivalsBack_64 : decode cX0_sendRivalsBack 64 = .ok (.iaload, 1) := by decide +kernel
theorem dX0_sendRivalsBack_65 : decode cX0_sendRivalsBack 65 = .ok (.iconst 1, 1) := by decide +kernel
theorem dX0_sendRivalsBack_66 : decode cX0_sendRivalsBack 66 = .ok (.iadd, 1) := by decide +kernel
theorem dX0_sendRivalsBack_67 : decode cX0_sendRivalsBack 67 = .ok (.iastore, 1) := by decide +kernel
theorem dX0_sendRivalsBack_68 : decode cX0_sendRivalsBack 68 = .ok (.iinc 4 1, 3) := by decide +kernel
theorem dX0_sendRivalsBack_71 : decode cX0_sendRivalsBack 71 = .ok (.goto (-62), 3) := by decide +kernel
theorem dX0_sendRivalsBack_74 : decode cX0_sendRivalsBack 74 = .ok (.return_, 1) := by decide +kernel
set_option maxRecDepth 20000 in
theorem ggX0_place_X0_strainAndFall : GoodIn wsX0_place wsX0_strainAndFall := goodIn_r _ [6, 7, 8, 9, 10, 11, 12, 5, 13, 1, 14, 15, 16, 17, 18, 19, 20, 21] (by decide +kernel) (by decide +kernel)
set_option maxRecDepth 20000 in
theorem gX0_place_X0_strainAndFall : GoodIn wsX0_place (wsV RX0 65 RX0 yX0_strainAndFall wsX0_strainAndFall) := goodIn_app (goodIn_of _ (by decide +kernel)) ggX0_place_X0_strainAndFall
theorem dX0_place_0 : decode cX0_place 0 = .ok (.aload_n 0, 1) := by decide +kernel
theorem dX0_place_1 : decode cX0_place 1 = .ok (.getfield 9, 3) := by decide +kernel
theorem dX0_place_4 : decode cX0_place 4 = .ok (.iload_n 1, 1) := by decide +kernel
theorem dX0_place_5 : decode cX0_place 5 = .ok (.iload_n 2, 1) := by decide +kernel
theorem dX0_place_6 : decode cX0_place 6 = .ok (.iastore, 1) := by decide +kernel
theorem dX0_place_7 : decode cX0_place 7 = .ok (.aload_n 0, 1) := by decide +kernel
theorem dX0_place_8 : decode cX0_place 8 = .ok (.iload_n 3, 1) := by decide +kernel
theorem dX0_place_9 : decode cX0_place 9 = .ok (.invokevirtual 65, 3) := by decide +kernel
theorem dX0_place_12 : decode cX0_place 12 = .ok (.return_, 1) := by decide +kernel
set_option maxRecDepth 20000 in
theorem ggX0_strainAndFall_X0_piecesOn : GoodIn wsX0_strainAndFall wsX0_piecesOn := goodIn_r _ [8, 9, 10, 11, 12, 13, 14, 15, 16, 17] (by decide +kernel) (by decide +kernel)
set_option maxRecDepth 20000 in
theorem gX0_strainAndFall_X0_piecesOn : GoodIn wsX0_strainAndFall (wsV RX0 69 RX0 yX0_piecesOn wsX0_piecesOn) := goodIn_app (goodIn_of _ (by decide +kernel)) ggX0_strainAndFall_X0_piecesOn
theorem dX0_strainAndFall_0 : decode cX0_strainAndFall 0 = .ok (.iconst 0, 1) := by decide +kernel
theorem dX0_strainAndFall_1 : decode cX0_strainAndFall 1 = .ok (.istore_n 2, 1) := by decide +kernel
theorem dX0_strainAndFall_2 : decode cX0_strainAndFall 2 = .ok (.iload_n 2, 1) := by decide +kernel
theorem dX0_strainAndFall_3 : decode cX0_strainAndFall 3 = .ok (.iconst 4, 1) := by decide +kernel
theorem dX0_strainAndFall_4 : decode cX0_strainAndFall 4 = .ok (.if_icmp .ge 83, 3) := by decide +kernel
theorem dX0_strainAndFall_7 : decode cX0_strainAndFall 7 = .ok (.aload_n 0, 1) := by decide +kernel
theorem dX0_strainAndFall_8 : decode cX0_strainAndFall 8 = .ok (.bipush 8, 2) := by decide +kernel
theorem dX0_strainAndFall_10 : decode cX0_strainAndFall 10 = .ok (.iload_n 2, 1) := by decide +kernel
theorem dX0_strainAndFall_11 : decode cX0_strainAndFall 11 = .ok (.imul, 1) := by decide +kernel
theorem dX0_strainAndFall_12 : decode cX0_strainAndFall 12 = .ok (.iconst 4, 1) := by decide +kernel
theorem dX0_strainAndFall_13 : decode cX0_strainAndFall 13 = .ok (.iadd, 1) := by decide +kernel
theorem dX0_strainAndFall_14 : decode cX0_strainAndFall 14 = .ok (.invokevirtual 69, 3) := by decide +kernel
theorem dX0_strainAndFall_17 : decode cX0_strainAndFall 17 = .ok (.istore_n 3, 1) := by decide +kernel
theorem dX0_strainAndFall_18 : decode cX0_strainAndFall 18 = .ok (.aload_n 0, 1) := by decide +kernel
theorem dX0_strainAndFall_19 : decode cX0_strainAndFall 19 = .ok (.getfield 18, 3) := by decide +kernel
theorem dX0_strainAndFall_22 : decode cX0_strainAndFall 22 = .ok (.iload_n 2, 1) := by decide +kernel
theorem dX0_strainAndFall_23 : decode cX0_strainAndFall 23 = .ok (.iaload, 1) := by decide +kernel
theorem dX0_strainAndFall_24 : decode cX0_strainAndFall 24 = .ok (.iconst 1, 1) := by decide +kernel
theorem dX0_strainAndFall_25 : decode cX0_strainAndFall 25 = .ok (.if_icmp .ne 18, 3) := by decide +kernel
theorem dX0_strainAndFall_28 : decode cX0_strainAndFall 28 = .ok (.iload_n 3, 1) := by decide +kernel
theorem dX0_strainAndFall_29 : decode cX0_strainAndFall 29 = .ok (.iconst 2, 1) := by decide +kernel
theorem dX0_strainAndFall_30 : decode cX0_strainAndFall 30 = .ok (.if_icmp .lt 13, 3) := by decide +kernel
theorem dX0_strainAndFall_33 : decode cX0_strainAndFall 33 = .ok (.aload_n 0, 1) := by decide +kernel
theorem dX0_strainAndFall_34 : decode cX0_strainAndFall 34 = .ok (.getfield 18, 3) := by decide +kernel
theorem dX0_strainAndFall_37 : decode cX0_strainAndFall 37 = .ok (.iload_n 2, 1) := by decide +kernel
theorem dX0_strainAndFall_38 : decode cX0_strainAndFall 38 = .ok (.iconst 2, 1) := by decide +kernel
theorem dX0_strainAndFall_39 : decode cX0_strainAndFall 39 = .ok (.iastore, 1) := by decide +kernel
theorem dX0_strainAndFall_40 : decode cX0_strainAndFall 40 = .ok (.goto 41, 3) := by decide +kernel
theorem dX0_strainAndFall_43 : decode cX0_strainAndFall 43 = .ok (.aload_n 0, 1) := by decide +kernel
theorem dX0_strainAndFall_44 : decode cX0_strainAndFall 44 = .ok (.getfield 18, 3) := by decide +kernel
theorem dX0_strainAndFall_47 : decode cX0_strainAndFall 47 = .ok (.iload_n 2, 1) := by decide +kernel
theorem dX0_strainAndFall_48 : decode cX0_strainAndFall 48 = .ok (.iaload, 1) := by decide +kernel
theorem dX0_strainAndFall_49 : decode cX0_strainAndFall 49 = .ok (.iconst 2, 1) := by decide +kernel
theorem dX0_strainAndFall_50 : decode cX0_strainAndFall 50 = .ok (.if_icmp .ne 31, 3) := by decide +kernel
theorem dX0_strainAndFall_53 : decode cX0_strainAndFall 53 = .ok (.iload_n 3, 1) := by decide +kernel
theorem dX0_strainAndFall_54 : decode cX0_strainAndFall 54 = .ok (.ifCond .ne 27, 3) := by decide +kernel
theorem dX0_strainAndFall_57 : decode cX0_strainAndFall 57 = .ok (.aload_n 0, 1) := by decide +kernel
theorem dX0_strainAndFall_58 : decode cX0_strainAndFall 58 = .ok (.getfield 18, 3) := by decide +kernel
theorem dX0_strainAndFall_61 : decode cX0_strainAndFall 61 = .ok (.iload_n 2, 1) := by decide +kernel
theorem dX0_strainAndFall_62 : decode cX0_strainAndFall 62 = .ok (.iconst 3, 1) := by decide +kernel
theorem dX0_strainAndFall_63 : decode cX0_strainAndFall 63 = .ok (.iastore, 1) := by decide +kernel
theorem dX0_strainAndFall_64 : decode cX0_strainAndFall 64 = .ok (.aload_n 0, 1) := by decide +kernel
theorem dX0_strainAndFall_65 : decode cX0_strainAndFall 65 = .ok (.getfield 21, 3) := by decide +kernel
theorem dX0_strainAndFall_68 : decode cX0_strainAndFall 68 = .ok (.iload_n 2, 1) := by decide +kernel
theorem dX0_strainAndFall_69 : decode cX0_strainAndFall 69 = .ok (.iload_n 1, 1) := by decide +kernel
theorem dX0_strainAndFall_70 : decode cX0_strainAndFall 70 = .ok (.iastore, 1) := by decide +kernel
theorem dX0_strainAndFall_71 : decode cX0_strainAndFall 71 = .ok (.aload_n 0, 1) := by decide +kernel
theorem dX0_strainAndFall_72 : decode cX0_strainAndFall 72 = .ok (.dup, 1) := by decide +kernel
theorem dX0_strainAndFall_73 : decode cX0_strainAndFall 73 = .ok (.getfield 24, 3) := by decide +kernel
theorem dX0_strainAndFall_76 : decode cX0_strainAndFall 76 = .ok (.iconst 1, 1) := by decide +kernel
theorem dX0_strainAndFall_77 : decode cX0_strainAndFall 77 = .ok (.iadd, 1) := by decide +kernel
theorem dX0_strainAndFall_78 : decode cX0_strainAndFall 78 = .ok (.putfield 24, 3) := by decide +kernel
theorem dX0_strainAndFall_81 : decode cX0_strainAndFall 81 = .ok (.iinc 2 1, 3) := by decide +kernel
theorem dX0_strainAndFall_84 : decode cX0_strainAndFall 84 = .ok (.goto (-82), 3) := by decide +kernel
theorem dX0_strainAndFall_87 : decode cX0_strainAndFall 87 = .ok (.return_, 1) := by decide +kernel
theorem dX0_mend_0 : decode cX0_mend 0 = .ok (.iconst 0, 1) := by decide +kernel
theorem dX0_mend_1 : decode cX0_mend 1 = .ok (.istore_n 3, 1) := by decide +kernel
theorem dX0_mend_2 : decode cX0_mend 2 = .ok (.iload_n 3, 1) := by decide +kernel
theorem dX0_mend_3 : decode cX0_mend 3 = .ok (.iconst 4, 1) := by decide +kernel
theorem dX0_mend_4 : decode cX0_mend 4 = .ok (.if_icmp .ge 42, 3) := by decide +kernel
theorem dX0_mend_7 : decode cX0_mend 7 = .ok (.aload_n 0, 1) := by decide +kernel
theorem dX0_mend_8 : decode cX0_mend 8 = .ok (.getfield 18, 3) := by decide +kernel
theorem dX0_mend_11 : decode cX0_mend 11 = .ok (.iload_n 3, 1) := by decide +kernel
theorem dX0_mend_12 : decode cX0_mend 12 = .ok (.iaload, 1) := by decide +kernel
theorem dX0_mend_13 : decode cX0_mend 13 = .ok (.iconst 3, 1) := by decide +kernel
theorem dX0_mend_14 : decode cX0_mend 14 = .ok (.if_icmp .ne 26, 3) := by decide +kernel
theorem dX0_mend_17 : decode cX0_mend 17 = .ok (.iload_n 2, 1) := by decide +kernel
theorem dX0_mend_18 : decode cX0_mend 18 = .ok (.ifCond .eq 22, 3) := by decide +kernel
theorem dX0_mend_21 : decode cX0_mend 21 = .ok (.iload_n 1, 1) := by decide +kernel
theorem dX0_mend_22 : decode cX0_mend 22 = .ok (.aload_n 0, 1) := by decide +kernel
theorem dX0_mend_23 : decode cX0_mend 23 = .ok (.getfield 21, 3) := by decide +kernel
theorem dX0_mend_26 : decode cX0_mend 26 = .ok (.iload_n 3, 1) := by decide +kernel
theorem dX0_mend_27 : decode cX0_mend 27 = .ok (.iaload, 1) := by decide +kernel
theorem dX0_mend_28 : decode cX0_mend 28 = .ok (.isub, 1) := by decide +kernel
theorem dX0_mend_29 : decode cX0_mend 29 = .ok (.iload_n 2, 1) := by decide +kernel
theorem dX0_mend_30 : decode cX0_mend 30 = .ok (.if_icmp .lt 10, 3) := by decide +kernel
theorem dX0_mend_33 : decode cX0_mend 33 = .ok (.aload_n 0, 1) := by decide +kernel
theorem dX0_mend_34 : decode cX0_mend 34 = .ok (.getfield 18, 3) := by decide +kernel
theorem dX0_mend_37 : decode cX0_mend 37 = .ok (.iload_n 3, 1) := by decide +kernel
theorem dX0_mend_38 : decode cX0_mend 38 = .ok (.iconst 1, 1) := by decide +kernel
theorem dX0_mend_39 : decode cX0_mend 39 = .ok (.iastore, 1) := by decide +kernel
theorem dX0_mend_40 : decode cX0_mend 40 = .ok (.iinc 3 1, 3) := by decide +kernel
theorem dX0_mend_43 : decode cX0_mend 43 = .ok (.goto (-41), 3) := by decide +kernel
theorem dX0_mend_46 : decode cX0_mend 46 = .ok (.return_, 1) := by decide +kernel
set_option maxRecDepth 20000 in
theorem ggX1_init_X0_init : GoodIn wsX1_init wsX0_init := goodIn_r _ [20, 21, 2, 3, 8, 22, 23, 24, 25, 26, 27, 28, 29, 30, 31] (by decide +kernel) (by decide +kernel)
set_option maxRecDepth 20000 in
theorem gX1_init_X0_init_n11 : GoodIn wsX1_init (wsX0_init) := ggX1_init_X0_init
theorem dX1_init_0 : decode cX1_init 0 = .ok (.aload_n 0, 1) := by decide +kernel
theorem dX1_init_1 : decode cX1_init 1 = .ok (.invokespecial 3, 3) := by decide +kernel
theorem dX1_init_4 : decode cX1_init 4 = .ok (.aload_n 0, 1) := by decide +kernel
theorem dX1_init_5 : decode cX1_init 5 = .ok (.new 9, 3) := by decide +kernel
theorem dX1_init_8 : decode cX1_init 8 = .ok (.dup, 1) := by decide +kernel
theorem dX1_init_9 : decode cX1_init 9 = .ok (.invokespecial 11, 3) := by decide +kernel
theorem dX1_init_12 : decode cX1_init 12 = .ok (.putfield 12, 3) := by decide +kernel
theorem dX1_init_15 : decode cX1_init 15 = .ok (.aload_n 0, 1) := by decide +kernel
theorem dX1_init_16 : decode cX1_init 16 = .ok (.iconst 3, 1) := by decide +kernel
theorem dX1_init_17 : decode cX1_init 17 = .ok (.newarray .int, 2) := by decide +kernel
theorem dX1_init_19 : decode cX1_init 19 = .ok (.putfield 18, 3) := by decide +kernel
theorem dX1_init_22 : decode cX1_init 22 = .ok (.aload_n 0, 1) := by decide +kernel
theorem dX1_init_23 : decode cX1_init 23 = .ok (.iconst 1, 1) := by decide +kernel
theorem dX1_init_24 : decode cX1_init 24 = .ok (.putfield 22, 3) := by decide +kernel
theorem dX1_init_27 : decode cX1_init 27 = .ok (.aload_n 0, 1) := by decide +kernel
theorem dX1_init_28 : decode cX1_init 28 = .ok (.iconst 0, 1) := by decide +kernel
theorem dX1_init_29 : decode cX1_init 29 = .ok (.putfield 26, 3) := by decide +kernel
theorem dX1_init_32 : decode cX1_init 32 = .ok (.aload_n 0, 1) := by decide +kernel
theorem dX1_init_33 : decode cX1_init 33 = .ok (.bipush (-6), 2) := by decide +kernel
theorem dX1_init_35 : decode cX1_init 35 = .ok (.putfield 29, 3) := by decide +kernel
theorem dX1_init_38 : decode cX1_init 38 = .ok (.aload_n 0, 1) := by decide +kernel
theorem dX1_init_39 : decode cX1_init 39 = .ok (.iconst 1, 1) := by decide +kernel
theorem dX1_init_40 : decode cX1_init 40 = .ok (.putfield 32, 3) := by decide +kernel
theorem dX1_init_43 : decode cX1_init 43 = .ok (.aload_n 0, 1) := by decide +kernel
theorem dX1_init_44 : decode cX1_init 44 = .ok (.iconst 0, 1) := by decide +kernel
theorem dX1_init_45 : decode cX1_init 45 = .ok (.putfield 35, 3) := by decide +kernel
theorem dX1_init_48 : decode cX1_init 48 = .ok (.getstatic 38, 3) := by decide +kernel
theorem dX1_init_51 : decode cX1_init 51 = .ok (.iconst 0, 1) := by decide +kernel
theorem dX1_init_52 : decode cX1_init 52 = .ok (.aload_n 0, 1) := by decide +kernel
theorem dX1_init_53 : decode cX1_init 53 = .ok (.getfield 18, 3) := by decide +kernel
theorem dX1_init_56 : decode cX1_init 56 = .ok (.iconst 0, 1) := by decide +kernel
theorem dX1_init_57 : decode cX1_init 57 = .ok (.iconst 3, 1) := by decide +kernel
theorem dX1_init_58 : decode cX1_init 58 = .ok (.invokestatic 41, 3) := by decide +kernel
theorem dX1_init_61 : decode cX1_init 61 = .ok (.return_, 1) := by decide +kernel
set_option maxRecDepth 20000 in
theorem ggX1_copyFrom_X0_copyFrom : GoodIn wsX1_copyFrom wsX0_copyFrom := goodIn_r _ [15, 16, 17, 4, 5, 6, 18, 19, 20, 21, 29, 30, 31, 32, 33] (by decide +kernel) (by decide +kernel)
set_option maxRecDepth 20000 in
theorem gX1_copyFrom_X0_copyFrom_n47 : GoodIn wsX1_copyFrom (wsX0_copyFrom) := ggX1_copyFrom_X0_copyFrom
theorem dX1_copyFrom_0 : decode cX1_copyFrom 0 = .ok (.aload_n 0, 1) := by decide +kernel
theorem dX1_copyFrom_1 : decode cX1_copyFrom 1 = .ok (.getfield 12, 3) := by decide +kernel
theorem dX1_copyFrom_4 : decode cX1_copyFrom 4 = .ok (.aload_n 1, 1) := by decide +kernel
theorem dX1_copyFrom_5 : decode cX1_copyFrom 5 = .ok (.getfield 12, 3) := by decide +kernel
theorem dX1_copyFrom_8 : decode cX1_copyFrom 8 = .ok (.invokevirtual 47, 3) := by decide +kernel
theorem dX1_copyFrom_11 : decode cX1_copyFrom 11 = .ok (.aload_n 1, 1) := by decide +kernel
theorem dX1_copyFrom_12 : decode cX1_copyFrom 12 = .ok (.getfield 18, 3) := by decide +kernel
theorem dX1_copyFrom_15 : decode cX1_copyFrom 15 = .ok (.iconst 0, 1) := by decide +kernel
theorem dX1_copyFrom_16 : decode cX1_copyFrom 16 = .ok (.aload_n 0, 1) := by decide +kernel
theorem dX1_copyFrom_17 : decode cX1_copyFrom 17 = .ok (.getfield 18, 3) := by decide +kernel
theorem dX1_copyFrom_20 : decode cX1_copyFrom 20 = .ok (.iconst 0, 1) := by decide +kernel
theorem dX1_copyFrom_21 : decode cX1_copyFrom 21 = .ok (.iconst 3, 1) := by decide +kernel
theorem dX1_copyFrom_22 : decode cX1_copyFrom 22 = .ok (.invokestatic 41, 3) := by decide +kernel
theorem dX1_copyFrom_25 : decode cX1_copyFrom 25 = .ok (.aload_n 0, 1) := by decide +kernel
theorem dX1_copyFrom_26 : decode cX1_copyFrom 26 = .ok (.aload_n 1, 1) := by decide +kernel
theorem dX1_copyFrom_27 : decode cX1_copyFrom 27 = .ok (.getfield 22, 3) := by decide +kernel
theorem dX1_copyFrom_30 : decode cX1_copyFrom 30 = .ok (.putfield 22, 3) := by decide +kernel
theorem dX1_copyFrom_33 : decode cX1_copyFrom 33 = .ok (.aload_n 0, 1) := by decide +kernel
theorem dX1_copyFrom_34 : decode cX1_copyFrom 34 = .ok (.aload_n 1, 1) := by decide +kernel
theorem dX1_copyFrom_35 : decode cX1_copyFrom 35 = .ok (.getfield 26, 3) := by decide +kernel
theorem dX1_copyFrom_38 : decode cX1_copyFrom 38 = .ok (.putfield 26, 3) := by decide +kernel
theorem dX1_copyFrom_41 : decode cX1_copyFrom 41 = .ok (.aload_n 0, 1) := by decide +kernel
theorem dX1_copyFrom_42 : decode cX1_copyFrom 42 = .ok (.aload_n 1, 1) := by decide +kernel
theorem dX1_copyFrom_43 : decode cX1_copyFrom 43 = .ok (.getfield 29, 3) := by decide +kernel
theorem dX1_copyFrom_46 : decode cX1_copyFrom 46 = .ok (.putfield 29, 3) := by decide +kernel
theorem dX1_copyFrom_49 : decode cX1_copyFrom 49 = .ok (.aload_n 0, 1) := by decide +kernel
theorem dX1_copyFrom_50 : decode cX1_copyFrom 50 = .ok (.aload_n 1, 1) := by decide +kernel
theorem dX1_copyFrom_51 : decode cX1_copyFrom 51 = .ok (.getfield 32, 3) := by decide +kernel
theorem dX1_copyFrom_54 : decode cX1_copyFrom 54 = .ok (.putfield 32, 3) := by decide +kernel
theorem dX1_copyFrom_57 : decode cX1_copyFrom 57 = .ok (.aload_n 0, 1) := by decide +kernel
theorem dX1_copyFrom_58 : decode cX1_copyFrom 58 = .ok (.aload_n 1, 1) := by decide +kernel
theorem dX1_copyFrom_59 : decode cX1_copyFrom 59 = .ok (.getfield 35, 3) := by decide +kernel
theorem dX1_copyFrom_62 : decode cX1_copyFrom 62 = .ok (.putfield 35, 3) := by decide +kernel
theorem dX1_copyFrom_65 : decode cX1_copyFrom 65 = .ok (.return_, 1) := by decide +kernel
set_option maxRecDepth 20000 in
theorem ggX1_isOver_X0_winner : GoodIn wsX1_isOver wsX0_winner := goodIn_r _ [5, 6, 7, 8, 3, 9, 10, 18, 19, 20, 21, 22] (by decide +kernel) (by decide +kernel)
set_option maxRecDepth 20000 in
theorem gX1_isOver_X0_winner_n51 : GoodIn wsX1_isOver (wsX0_winner) := ggX1_isOver_X0_winner
theorem dX1_isOver_0 : decode cX1_isOver 0 = .ok (.aload_n 0, 1) := by decide +kernel
theorem dX1_isOver_1 : decode cX1_isOver 1 = .ok (.getfield 12, 3) := by decide +kernel
theorem dX1_isOver_4 : decode cX1_isOver 4 = .ok (.invokevirtual 51, 3) := by decide +kernel
theorem dX1_isOver_7 : decode cX1_isOver 7 = .ok (.bipush (-6), 2) := by decide +kernel
theorem dX1_isOver_9 : decode cX1_isOver 9 = .ok (.if_icmp .eq 7, 3) := by decide +kernel
theorem dX1_isOver_12 : decode cX1_isOver 12 = .ok (.iconst 1, 1) := by decide +kernel
theorem dX1_isOver_13 : decode cX1_isOver 13 = .ok (.goto 4, 3) := by decide +kernel
theorem dX1_isOver_16 : decode cX1_isOver 16 = .ok (.iconst 0, 1) := by decide +kernel
theorem dX1_isOver_17 : decode cX1_isOver 17 = .ok (.ireturn, 1) := by decide +kernel
theorem dX1_hasThrow_0 : decode cX1_hasThrow 0 = .ok (.aload_n 0, 1) := by decide +kernel
theorem dX1_hasThrow_1 : decode cX1_hasThrow 1 = .ok (.getfield 29, 3) := by decide +kernel
theorem dX1_hasThrow_4 : decode cX1_hasThrow 4 = .ok (.bipush (-6), 2) := by decide +kernel
theorem dX1_hasThrow_6 : decode cX1_hasThrow 6 = .ok (.if_icmp .eq 7, 3) := by decide +kernel
theorem dX1_hasThrow_9 : decode cX1_hasThrow 9 = .ok (.iconst 1, 1) := by decide +kernel
theorem dX1_hasThrow_10 : decode cX1_hasThrow 10 = .ok (.goto 4, 3) := by decide +kernel
theorem dX1_hasThrow_13 : decode cX1_hasThrow 13 = .ok (.iconst 0, 1) := by decide +kernel
theorem dX1_hasThrow_14 : decode cX1_hasThrow 14 = .ok (.ireturn, 1) := by decide +kernel
set_option maxRecDepth 20000 in
theorem ggX1_reason_X0_target : GoodIn wsX1_reason wsX0_target := goodIn_r _ [6, 7, 8, 9, 4, 10, 11, 12, 13, 14, 15, 16, 17, 18, 19, 20, 45, 46, 47, 48, 49] (by decide +kernel) (by decide +kernel)
set_option maxRecDepth 20000 in
theorem gX1_reason_X0_target_n58 : GoodIn wsX1_reason (wsX0_target) := ggX1_reason_X0_target
set_option maxRecDepth 20000 in
theorem ggX1_reason_X0_isBlockedOnWay : GoodIn wsX1_reason wsX0_isBlockedOnWay := goodIn_r _ [23, 24, 25, 26, 4, 27, 28, 11, 12, 13, 45, 46, 47, 48, 49] (by decide +kernel) (by decide +kernel)
set_option maxRecDepth 20000 in
theorem gX1_reason_X0_isBlockedOnWay_n62 : GoodIn wsX1_reason (wsX0_isBlockedOnWay) := ggX1_reason_X0_isBlockedOnWay
set_option maxRecDepth 20000 in
theorem ggX1_reason_X0_isFullFor : GoodIn wsX1_reason wsX0_isFullFor := goodIn_r _ [31, 32, 33, 34, 4, 35, 28, 45, 46, 47, 48, 49] (by decide +kernel) (by decide +kernel)
set_option maxRecDepth 20000 in
theorem gX1_reason_X0_isFullFor_n66 : GoodIn wsX1_reason (wsX0_isFullFor) := ggX1_reason_X0_isFullFor
set_option maxRecDepth 20000 in
theorem ggX1_reason_X5_ringField : GoodIn wsX1_reason wsX5_ringField := goodIn_r _ [13] (by decide +kernel) (by decide +kernel)
set_option maxRecDepth 20000 in
theorem gX1_reason_X5_ringField_n70 : GoodIn wsX1_reason (wsX5_ringField) := ggX1_reason_X5_ringField
set_option maxRecDepth 20000 in
theorem ggX1_reason_X5_isSafe : GoodIn wsX1_reason wsX5_isSafe := goodIn_r _ [37] (by decide +kernel) (by decide +kernel)
set_option maxRecDepth 20000 in
theorem gX1_reason_X5_isSafe_n74 : GoodIn wsX1_reason (wsX5_isSafe) := ggX1_reason_X5_isSafe
set_option maxRecDepth 20000 in
theorem ggX1_reason_X0_rivalsAt : GoodIn wsX1_reason wsX0_rivalsAt := goodIn_r _ [27, 28, 11, 12, 13, 45, 46, 47, 48, 49] (by decide +kernel) (by decide +kernel)
set_option maxRecDepth 20000 in
theorem gX1_reason_X0_rivalsAt_n78 : GoodIn wsX1_reason (wsX0_rivalsAt) := ggX1_reason_X0_rivalsAt
theorem dX1_reason_0 : decode cX1_reason 0 = .ok (.iload_n 1, 1) := by decide +kernel
theorem dX1_reason_1 : decode cX1_reason 1 = .ok (.iconst 3, 1) := by decide +kernel
theorem dX1_reason_2 : decode cX1_reason 2 = .ok (.idiv, 1) := by decide +kernel
theorem dX1_reason_3 : decode cX1_reason 3 = .ok (.istore_n 3, 1) := by decide +kernel
theorem dX1_reason_4 : decode cX1_reason 4 = .ok (.aload_n 0, 1) := by decide +kernel
theorem dX1_reason_5 : decode cX1_reason 5 = .ok (.getfield 12, 3) := by decide +kernel
theorem dX1_reason_8 : decode cX1_reason 8 = .ok (.getfield 55, 3) := by decide +kernel
theorem dX1_reason_11 : decode cX1_reason 11 = .ok (.iload_n 1, 1) := by decide +kernel
theorem dX1_reason_12 : decode cX1_reason 12 = .ok (.iaload, 1) := by decide +kernel
theorem dX1_reason_13 : decode cX1_reason 13 = .ok (.istore 4, 2) := by decide +kernel
theorem dX1_reason_15 : decode cX1_reason 15 = .ok (.iload 4, 2) := by decide +kernel
theorem dX1_reason_17 : decode cX1_reason 17 = .ok (.bipush 35, 2) := by decide +kernel
theorem dX1_reason_19 : decode cX1_reason 19 = .ok (.if_icmp .ne 5, 3) := by decide +kernel
theorem dX1_reason_22 : decode cX1_reason 22 = .ok (.iconst 1, 1) := by decide +kernel
theorem dX1_reason_23 : decode cX1_reason 23 = .ok (.ireturn, 1) := by decide +kernel
theorem dX1_reason_24 : decode cX1_reason 24 = .ok (.iload 4, 2) := by decide +kernel
theorem dX1_reason_26 : decode cX1_reason 26 = .ok (.bipush (-6), 2) := by decide +kernel
theorem dX1_reason_28 : decode cX1_reason 28 = .ok (.if_icmp .ne 15, 3) := by decide +kernel
theorem dX1_reason_31 : decode cX1_reason 31 = .ok (.iload_n 2, 1) := by decide +kernel
theorem dX1_reason_32 : decode cX1_reason 32 = .ok (.aload_n 0, 1) := by decide +kernel
theorem dX1_reason_33 : decode cX1_reason 33 = .ok (.getfield 18, 3) := by decide +kernel
theorem dX1_reason_36 : decode cX1_reason 36 = .ok (.iconst 0, 1) := by decide +kernel
theorem dX1_reason_37 : decode cX1_reason 37 = .ok (.iaload, 1) := by decide +kernel
theorem dX1_reason_38 : decode cX1_reason 38 = .ok (.if_icmp .ge 5, 3) := by decide +kernel
theorem dX1_reason_41 : decode cX1_reason 41 = .ok (.iconst 2, 1) := by decide +kernel
theorem dX1_reason_42 : decode cX1_reason 42 = .ok (.ireturn, 1) := by decide +kernel
theorem dX1_reason_43 : decode cX1_reason 43 = .ok (.aload_n 0, 1) := by decide +kernel
theorem dX1_reason_44 : decode cX1_reason 44 = .ok (.getfield 12, 3) := by decide +kernel
theorem dX1_reason_47 : decode cX1_reason 47 = .ok (.iload_n 3, 1) := by decide +kernel
theorem dX1_reason_48 : decode cX1_reason 48 = .ok (.iload 4, 2) := by decide +kernel
theorem dX1_reason_50 : decode cX1_reason 50 = .ok (.iload_n 2, 1) := by decide +kernel
theorem dX1_reason_51 : decode cX1_reason 51 = .ok (.invokevirtual 58, 3) := by decide +kernel
theorem dX1_reason_54 : decode cX1_reason 54 = .ok (.istore 5, 2) := by decide +kernel
theorem dX1_reason_56 : decode cX1_reason 56 = .ok (.iload 5, 2) := by decide +kernel
theorem dX1_reason_58 : decode cX1_reason 58 = .ok (.bipush (-6), 2) := by decide +kernel
theorem dX1_reason_60 : decode cX1_reason 60 = .ok (.if_icmp .ne 5, 3) := by decide +kernel
theorem dX1_reason_63 : decode cX1_reason 63 = .ok (.iconst 3, 1) := by decide +kernel
theorem dX1_reason_64 : decode cX1_reason 64 = .ok (.ireturn, 1) := by decide +kernel
theorem dX1_reason_65 : decode cX1_reason 65 = .ok (.aload_n 0, 1) := by decide +kernel
theorem dX1_reason_66 : decode cX1_reason 66 = .ok (.getfield 12, 3) := by decide +kernel
theorem dX1_reason_69 : decode cX1_reason 69 = .ok (.iload_n 3, 1) := by decide +kernel
theorem dX1_reason_70 : decode cX1_reason 70 = .ok (.iload 4, 2) := by decide +kernel
theorem dX1_reason_72 : decode cX1_reason 72 = .ok (.iload 5, 2) := by decide +kernel
theorem dX1_reason_74 : decode cX1_reason 74 = .ok (.invokevirtual 62, 3) := by decide +kernel
theorem dX1_reason_77 : decode cX1_reason 77 = .ok (.ifCond .eq 5, 3) := by decide +kernel
theorem dX1_reason_80 : decode cX1_reason 80 = .ok (.iconst 4, 1) := by decide +kernel
theorem dX1_reason_81 : decode cX1_reason 81 = .ok (.ireturn, 1) := by decide +kernel
theorem dX1_reason_82 : decode cX1_reason 82 = .ok (.aload_n 0, 1) := by decide +kernel
theorem dX1_reason_83 : decode cX1_reason 83 = .ok (.getfield 12, 3) := by decide +kernel
theorem dX1_reason_86 : decode cX1_reason 86 = .ok (.iload_n 1, 1) := by decide +kernel
theorem dX1_reason_87 : decode cX1_reason 87 = .ok (.iload 5, 2) := by decide +kernel
theorem dX1_reason_89 : decode cX1_reason 89 = .ok (.invokevirtual 66, 3) := by decide +kernel
theorem dX1_reason_92 : decode cX1_reason 92 = .ok (.ifCond .eq 5, 3) := by decide +kernel
theorem dX1_reason_95 : decode cX1_reason 95 = .ok (.iconst 5, 1) := by decide +kernel
theorem dX1_reason_96 : decode cX1_reason 96 = .ok (.ireturn, 1) := by decide +kernel
theorem dX1_reason_97 : decode cX1_reason 97 = .ok (.iload_n 3, 1) := by decide +kernel
theorem dX1_reason_98 : decode cX1_reason 98 = .ok (.iload 5, 2) := by decide +kernel
theorem dX1_reason_100 : decode cX1_reason 100 = .ok (.invokestatic 70, 3) := by decide +kernel
theorem dX1_reason_103 : decode cX1_reason 103 = .ok (.invokestatic 74, 3) := by decide +kernel
theorem dX1_reason_106 : decode cX1_reason 106 = .ok (.ifCond .eq 19, 3) := by decide +kernel
theorem dX1_reason_109 : decode cX1_reason 109 = .ok (.aload_n 0, 1) := by decide +kernel
theorem dX1_reason_110 : decode cX1_reason 110 = .ok (.getfield 12, 3) := by decide +kernel
theorem dX1_reason_113 : decode cX1_reason 113 = .ok (.iload_n 3, 1) := by decide +kernel
theorem dX1_reason_114 : decode cX1_reason 114 = .ok (.iload 5, 2) := by decide +kernel
theorem dX1_reason_116 : decode cX1_reason 116 = .ok (.invokevirtual 78, 3) := by decide +kernel
theorem dX1_reason_119 : decode cX1_reason 119 = .ok (.ifCond .le 6, 3) := by decide +kernel
theorem dX1_reason_122 : decode cX1_reason 122 = .ok (.bipush 6, 2) := by decide +kernel
theorem dX1_reason_124 : decode cX1_reason 124 = .ok (.ireturn, 1) := by decide +kernel
theorem dX1_reason_125 : decode cX1_reason 125 = .ok (.iconst 0, 1) := by decide +kernel
theorem dX1_reason_126 : decode cX1_reason 126 = .ok (.ireturn, 1) := by decide +kernel
set_option maxRecDepth 20000 in
theorem ggX1_canMoveBy_X1_reason : GoodIn wsX1_canMoveBy wsX1_reason := goodIn_r _ [6, 7, 8, 9, 10, 11, 12, 13, 14, 15, 16, 17, 18, 19, 20, 21, 22, 23, 24, 25, 26, 27, 28, 29, 30, 31, 32, 33, 34, 35, 36, 37, 38, 39, 40, 41, 42, 43, 44, 45, 46, 47, 48, 49, 50, 51, 52, 53, 54, 55] (by decide +kernel) (by decide +kernel)
set_option maxRecDepth 20000 in
theorem gX1_canMoveBy_X1_reason : GoodIn wsX1_canMoveBy (wsV RX1 81 RX1 yX1_reason wsX1_reason) := goodIn_app (goodIn_of _ (by decide +kernel)) ggX1_canMoveBy_X1_reason
theorem dX1_canMoveBy_0 : decode cX1_canMoveBy 0 = .ok (.aload_n 0, 1) := by decide +kernel
theorem dX1_canMoveBy_1 : decode cX1_canMoveBy 1 = .ok (.getfield 26, 3) := by decide +kernel
theorem dX1_canMoveBy_4 : decode cX1_canMoveBy 4 = .ok (.iconst 3, 1) := by decide +kernel
theorem dX1_canMoveBy_5 : decode cX1_canMoveBy 5 = .ok (.imul, 1) := by decide +kernel
theorem dX1_canMoveBy_6 : decode cX1_canMoveBy 6 = .ok (.istore_n 2, 1) := by decide +kernel
theorem dX1_canMoveBy_7 : decode cX1_canMoveBy 7 = .ok (.iload_n 2, 1) := by decide +kernel
theorem dX1_canMoveBy_8 : decode cX1_canMoveBy 8 = .ok (.aload_n 0, 1) := by decide +kernel
theorem dX1_canMoveBy_9 : decode cX1_canMoveBy 9 = .ok (.getfield 26, 3) := by decide +kernel
theorem dX1_canMoveBy_12 : decode cX1_canMoveBy 12 = .ok (.iconst 3, 1) := by decide +kernel
theorem dX1_canMoveBy_13 : decode cX1_canMoveBy 13 = .ok (.imul, 1) := by decide +kernel
theorem dX1_canMoveBy_14 : decode cX1_canMoveBy 14 = .ok (.iconst 3, 1) := by decide +kernel
theorem dX1_canMoveBy_15 : decode cX1_canMoveBy 15 = .ok (.iadd, 1) := by decide +kernel
theorem dX1_canMoveBy_16 : decode cX1_canMoveBy 16 = .ok (.if_icmp .ge 20, 3) := by decide +kernel
theorem dX1_canMoveBy_19 : decode cX1_canMoveBy 19 = .ok (.aload_n 0, 1) := by decide +kernel
theorem dX1_canMoveBy_20 : decode cX1_canMoveBy 20 = .ok (.iload_n 2, 1) := by decide +kernel
theorem dX1_canMoveBy_21 : decode cX1_canMoveBy 21 = .ok (.iload_n 1, 1) := by decide +kernel
theorem dX1_canMoveBy_22 : decode cX1_canMoveBy 22 = .ok (.invokevirtual 81, 3) := by decide +kernel
theorem dX1_canMoveBy_25 : decode cX1_canMoveBy 25 = .ok (.ifCond .ne 5, 3) := by decide +kernel
theorem dX1_canMoveBy_28 : decode cX1_canMoveBy 28 = .ok (.iconst 1, 1) := by decide +kernel
theorem dX1_canMoveBy_29 : decode cX1_canMoveBy 29 = .ok (.ireturn, 1) := by decide +kernel
theorem dX1_canMoveBy_30 : decode cX1_canMoveBy 30 = .ok (.iinc 2 1, 3) := by decide +kernel
theorem dX1_canMoveBy_33 : decode cX1_canMoveBy 33 = .ok (.goto (-26), 3) := by decide +kernel
theorem dX1_canMoveBy_36 : decode cX1_canMoveBy 36 = .ok (.iconst 0, 1) := by decide +kernel
theorem dX1_canMoveBy_37 : decode cX1_canMoveBy 37 = .ok (.ireturn, 1) := by decide +kernel
set_option maxRecDepth 20000 in
theorem ggX1_bestPiece_X1_reason : GoodIn wsX1_bestPiece wsX1_reason := goodIn_r _ [7, 8, 9, 10, 11, 12, 13, 14, 15, 16, 17, 18, 19, 20, 21, 22, 23, 24, 25, 26, 27, 28, 29, 30, 31, 32, 33, 34, 35, 36, 37, 38, 39, 40, 41, 42, 43, 44, 51, 52, 53, 54, 55, 56, 57, 58, 59, 60, 61, 62] (by decide +kernel) (by decide +kernel)
set_option maxRecDepth 20000 in
theorem gX1_bestPiece_X1_reason : GoodIn wsX1_bestPiece (wsV RX1 81 RX1 yX1_reason wsX1_reason) := goodIn_app (goodIn_of _ (by decide +kernel)) ggX1_bestPiece_X1_reason
set_option maxRecDepth 20000 in
theorem ggX1_bestPiece_X1_worthOfMove : GoodIn wsX1_bestPiece wsX1_worthOfMove := goodIn_r _ [48, 8, 1, 2, 10, 11, 12, 13, 14, 15, 16, 17, 18, 19, 20, 21, 22, 23, 24, 25, 26, 27, 32, 33, 34, 35, 49, 50, 40, 41, 42, 51, 52, 53, 54, 55, 56, 57, 58, 59, 60, 61, 62] (by decide +kernel) (by decide +kernel)
set_option maxRecDepth 20000 in
theorem gX1_bestPiece_X1_worthOfMove : GoodIn wsX1_bestPiece (wsV RX1 84 RX1 yX1_worthOfMove wsX1_worthOfMove) := goodIn_app (goodIn_of _ (by decide +kernel)) ggX1_bestPiece_X1_worthOfMove
theorem dX1_bestPiece_0 : decode cX1_bestPiece 0 = .ok (.bipush (-6), 2) := by decide +kernel
theorem dX1_bestPiece_2 : decode cX1_bestPiece 2 = .ok (.istore_n 1, 1) := by decide +kernel
theorem dX1_bestPiece_3 : decode cX1_bestPiece 3 = .ok (.iconst 0, 1) := by decide +kernel
theorem dX1_bestPiece_4 : decode cX1_bestPiece 4 = .ok (.istore_n 2, 1) := by decide +kernel
theorem dX1_bestPiece_5 : decode cX1_bestPiece 5 = .ok (.aload_n 0, 1) := by decide +kernel
theorem dX1_bestPiece_6 : decode cX1_bestPiece 6 = .ok (.getfield 26, 3) := by decide +kernel
theorem dX1_bestPiece_9 : decode cX1_bestPiece 9 = .ok (.iconst 3, 1) := by decide +kernel
theorem dX1_bestPiece_10 : decode cX1_bestPiece 10 = .ok (.imul, 1) := by decide +kernel
theorem dX1_bestPiece_11 : decode cX1_bestPiece 11 = .ok (.istore_n 3, 1) := by decide +kernel
theorem dX1_bestPiece_12 : decode cX1_bestPiece 12 = .ok (.iload_n 3, 1) := by decide +kernel
theorem dX1_bestPiece_13 : decode cX1_bestPiece 13 = .ok (.aload_n 0, 1) := by decide +kernel
theorem dX1_bestPiece_14 : decode cX1_bestPiece 14 = .ok (.getfield 26, 3) := by decide +kernel
theorem dX1_bestPiece_17 : decode cX1_bestPiece 17 = .ok (.iconst 3, 1) := by decide +kernel
theorem dX1_bestPiece_18 : decode cX1_bestPiece 18 = .ok (.imul, 1) := by decide +kernel
theorem dX1_bestPiece_19 : decode cX1_bestPiece 19 = .ok (.iconst 3, 1) := by decide +kernel
theorem dX1_bestPiece_20 : decode cX1_bestPiece 20 = .ok (.iadd, 1) := by decide +kernel
theorem dX1_bestPiece_21 : decode cX1_bestPiece 21 = .ok (.if_icmp .ge 45, 3) := by decide +kernel
theorem dX1_bestPiece_24 : decode cX1_bestPiece 24 = .ok (.aload_n 0, 1) := by decide +kernel
theorem dX1_bestPiece_25 : decode cX1_bestPiece 25 = .ok (.iload_n 3, 1) := by decide +kernel
theorem dX1_bestPiece_26 : decode cX1_bestPiece 26 = .ok (.aload_n 0, 1) := by decide +kernel
theorem dX1_bestPiece_27 : decode cX1_bestPiece 27 = .ok (.getfield 29, 3) := by decide +kernel
theorem dX1_bestPiece_30 : decode cX1_bestPiece 30 = .ok (.invokevirtual 81, 3) := by decide +kernel
theorem dX1_bestPiece_33 : decode cX1_bestPiece 33 = .ok (.ifCond .ne 27, 3) := by decide +kernel
theorem dX1_bestPiece_36 : decode cX1_bestPiece 36 = .ok (.aload_n 0, 1) := by decide +kernel
theorem dX1_bestPiece_37 : decode cX1_bestPiece 37 = .ok (.iload_n 3, 1) := by decide +kernel
theorem dX1_bestPiece_38 : decode cX1_bestPiece 38 = .ok (.invokevirtual 84, 3) := by decide +kernel
theorem dX1_bestPiece_41 : decode cX1_bestPiece 41 = .ok (.istore 4, 2) := by decide +kernel
theorem dX1_bestPiece_43 : decode cX1_bestPiece 43 = .ok (.iload_n 1, 1) := by decide +kernel
theorem dX1_bestPiece_44 : decode cX1_bestPiece 44 = .ok (.bipush (-6), 2) := by decide +kernel
theorem dX1_bestPiece_46 : decode cX1_bestPiece 46 = .ok (.if_icmp .eq 9, 3) := by decide +kernel
theorem dX1_bestPiece_49 : decode cX1_bestPiece 49 = .ok (.iload 4, 2) := by decide +kernel
theorem dX1_bestPiece_51 : decode cX1_bestPiece 51 = .ok (.iload_n 2, 1) := by decide +kernel
theorem dX1_bestPiece_52 : decode cX1_bestPiece 52 = .ok (.if_icmp .le 8, 3) := by decide +kernel
theorem dX1_bestPiece_55 : decode cX1_bestPiece 55 = .ok (.iload_n 3, 1) := by decide +kernel
theorem dX1_bestPiece_56 : decode cX1_bestPiece 56 = .ok (.istore_n 1, 1) := by decide +kernel
theorem dX1_bestPiece_57 : decode cX1_bestPiece 57 = .ok (.iload 4, 2) := by decide +kernel
theorem dX1_bestPiece_59 : decode cX1_bestPiece 59 = .ok (.istore_n 2, 1) := by decide +kernel
theorem dX1_bestPiece_60 : decode cX1_bestPiece 60 = .ok (.iinc 3 1, 3) := by decide +kernel
theorem dX1_bestPiece_63 : decode cX1_bestPiece 63 = .ok (.goto (-51), 3) := by decide +kernel
theorem dX1_bestPiece_66 : decode cX1_bestPiece 66 = .ok (.iload_n 1, 1) := by decide +kernel
theorem dX1_bestPiece_67 : decode cX1_bestPiece 67 = .ok (.ireturn, 1) := by decide +kernel
set_option maxRecDepth 20000 in
theorem ggX1_worthOfMove_X0_target : GoodIn wsX1_worthOfMove wsX0_target := goodIn_r _ [7, 8, 9, 10, 5, 11, 12, 13, 14, 15, 16, 17, 18, 19, 20, 21, 38, 39, 40, 41, 42] (by decide +kernel) (by decide +kernel)
set_option maxRecDepth 20000 in
theorem gX1_worthOfMove_X0_target_n58 : GoodIn wsX1_worthOfMove (wsX0_target) := ggX1_worthOfMove_X0_target
set_option maxRecDepth 20000 in
theorem ggX1_worthOfMove_X0_rivalsAt : GoodIn wsX1_worthOfMove wsX0_rivalsAt := goodIn_r _ [24, 25, 12, 13, 14, 38, 39, 40, 41, 42] (by decide +kernel) (by decide +kernel)
set_option maxRecDepth 20000 in
theorem gX1_worthOfMove_X0_rivalsAt_n78 : GoodIn wsX1_worthOfMove (wsX0_rivalsAt) := ggX1_worthOfMove_X0_rivalsAt
set_option maxRecDepth 20000 in
theorem ggX1_worthOfMove_X5_isOnRing : GoodIn wsX1_worthOfMove wsX5_isOnRing := goodIn_r _ [27] (by decide +kernel) (by decide +kernel)
set_option maxRecDepth 20000 in
theorem gX1_worthOfMove_X5_isOnRing_n88 : GoodIn wsX1_worthOfMove (wsX5_isOnRing) := ggX1_worthOfMove_X5_isOnRing
set_option maxRecDepth 20000 in
theorem ggX1_worthOfMove_X0_matesAt : GoodIn wsX1_worthOfMove wsX0_matesAt := goodIn_r _ [30, 25, 38, 39, 40, 41, 42] (by decide +kernel) (by decide +kernel)
set_option maxRecDepth 20000 in
theorem gX1_worthOfMove_X0_matesAt_n91 : GoodIn wsX1_worthOfMove (wsX0_matesAt) := ggX1_worthOfMove_X0_matesAt
theorem dX1_worthOfMove_0 : decode cX1_worthOfMove 0 = .ok (.aload_n 0, 1) := by decide +kernel
theorem dX1_worthOfMove_1 : decode cX1_worthOfMove 1 = .ok (.getfield 12, 3) := by decide +kernel
theorem dX1_worthOfMove_4 : decode cX1_worthOfMove 4 = .ok (.getfield 55, 3) := by decide +kernel
theorem dX1_worthOfMove_7 : decode cX1_worthOfMove 7 = .ok (.iload_n 1, 1) := by decide +kernel
theorem dX1_worthOfMove_8 : decode cX1_worthOfMove 8 = .ok (.iaload, 1) := by decide +kernel
theorem dX1_worthOfMove_9 : decode cX1_worthOfMove 9 = .ok (.istore_n 2, 1) := by decide +kernel
theorem dX1_worthOfMove_10 : decode cX1_worthOfMove 10 = .ok (.aload_n 0, 1) := by decide +kernel
theorem dX1_worthOfMove_11 : decode cX1_worthOfMove 11 = .ok (.getfield 12, 3) := by decide +kernel
theorem dX1_worthOfMove_14 : decode cX1_worthOfMove 14 = .ok (.aload_n 0, 1) := by decide +kernel
theorem dX1_worthOfMove_15 : decode cX1_worthOfMove 15 = .ok (.getfield 26, 3) := by decide +kernel
theorem dX1_worthOfMove_18 : decode cX1_worthOfMove 18 = .ok (.iload_n 2, 1) := by decide +kernel
theorem dX1_worthOfMove_19 : decode cX1_worthOfMove 19 = .ok (.aload_n 0, 1) := by decide +kernel
theorem dX1_worthOfMove_20 : decode cX1_worthOfMove 20 = .ok (.getfield 29, 3) := by decide +kernel
theorem dX1_worthOfMove_23 : decode cX1_worthOfMove 23 = .ok (.invokevirtual 58, 3) := by decide +kernel
theorem dX1_worthOfMove_26 : decode cX1_worthOfMove 26 = .ok (.istore_n 3, 1) := by decide +kernel
theorem dX1_worthOfMove_27 : decode cX1_worthOfMove 27 = .ok (.iconst 0, 1) := by decide +kernel
theorem dX1_worthOfMove_28 : decode cX1_worthOfMove 28 = .ok (.istore 4, 2) := by decide +kernel
theorem dX1_worthOfMove_30 : decode cX1_worthOfMove 30 = .ok (.iload_n 3, 1) := by decide +kernel
theorem dX1_worthOfMove_31 : decode cX1_worthOfMove 31 = .ok (.bipush 35, 2) := by decide +kernel
theorem dX1_worthOfMove_33 : decode cX1_worthOfMove 33 = .ok (.if_icmp .ne 9, 3) := by decide +kernel
theorem dX1_worthOfMove_36 : decode cX1_worthOfMove 36 = .ok (.iconst 3, 1) := by decide +kernel
theorem dX1_worthOfMove_37 : decode cX1_worthOfMove 37 = .ok (.istore 4, 2) := by decide +kernel
theorem dX1_worthOfMove_39 : decode cX1_worthOfMove 39 = .ok (.goto 46, 3) := by decide +kernel
theorem dX1_worthOfMove_42 : decode cX1_worthOfMove 42 = .ok (.aload_n 0, 1) := by decide +kernel
theorem dX1_worthOfMove_43 : decode cX1_worthOfMove 43 = .ok (.getfield 12, 3) := by decide +kernel
theorem dX1_worthOfMove_46 : decode cX1_worthOfMove 46 = .ok (.aload_n 0, 1) := by decide +kernel
theorem dX1_worthOfMove_47 : decode cX1_worthOfMove 47 = .ok (.getfield 26, 3) := by decide +kernel
theorem dX1_worthOfMove_50 : decode cX1_worthOfMove 50 = .ok (.iload_n 3, 1) := by decide +kernel
theorem dX1_worthOfMove_51 : decode cX1_worthOfMove 51 = .ok (.invokevirtual 78, 3) := by decide +kernel
theorem dX1_worthOfMove_54 : decode cX1_worthOfMove 54 = .ok (.ifCond .le 9, 3) := by decide +kernel
theorem dX1_worthOfMove_57 : decode cX1_worthOfMove 57 = .ok (.iconst 2, 1) := by decide +kernel
theorem dX1_worthOfMove_58 : decode cX1_worthOfMove 58 = .ok (.istore 4, 2) := by decide +kernel
theorem dX1_worthOfMove_60 : decode cX1_worthOfMove 60 = .ok (.goto 25, 3) := by decide +kernel
theorem dX1_worthOfMove_63 : decode cX1_worthOfMove 63 = .ok (.iload_n 3, 1) := by decide +kernel
theorem dX1_worthOfMove_64 : decode cX1_worthOfMove 64 = .ok (.invokestatic 88, 3) := by decide +kernel
theorem dX1_worthOfMove_67 : decode cX1_worthOfMove 67 = .ok (.ifCond .eq 18, 3) := by decide +kernel
theorem dX1_worthOfMove_70 : decode cX1_worthOfMove 70 = .ok (.aload_n 0, 1) := by decide +kernel
theorem dX1_worthOfMove_71 : decode cX1_worthOfMove 71 = .ok (.getfield 12, 3) := by decide +kernel
theorem dX1_worthOfMove_74 : decode cX1_worthOfMove 74 = .ok (.iload_n 1, 1) := by decide +kernel
theorem dX1_worthOfMove_75 : decode cX1_worthOfMove 75 = .ok (.iload_n 3, 1) := by decide +kernel
theorem dX1_worthOfMove_76 : decode cX1_worthOfMove 76 = .ok (.invokevirtual 91, 3) := by decide +kernel
theorem dX1_worthOfMove_79 : decode cX1_worthOfMove 79 = .ok (.ifCond .le 6, 3) := by decide +kernel
theorem dX1_worthOfMove_82 : decode cX1_worthOfMove 82 = .ok (.iconst 1, 1) := by decide +kernel
theorem dX1_worthOfMove_83 : decode cX1_worthOfMove 83 = .ok (.istore 4, 2) := by decide +kernel
theorem dX1_worthOfMove_85 : decode cX1_worthOfMove 85 = .ok (.iload 4, 2) := by decide +kernel
theorem dX1_worthOfMove_87 : decode cX1_worthOfMove 87 = .ok (.bipush 100, 2) := by decide +kernel
theorem dX1_worthOfMove_89 : decode cX1_worthOfMove 89 = .ok (.imul, 1) := by decide +kernel
theorem dX1_worthOfMove_90 : decode cX1_worthOfMove 90 = .ok (.iload_n 2, 1) := by decide +kernel
theorem dX1_worthOfMove_91 : decode cX1_worthOfMove 91 = .ok (.iadd, 1) := by decide +kernel
theorem dX1_worthOfMove_92 : decode cX1_worthOfMove 92 = .ok (.ireturn, 1) := by decide +kernel
set_option maxRecDepth 20000 in
theorem ggX1_throwByX_X5_nextX : GoodIn wsX1_throwByX wsX5_nextX := goodIn_r _ [4, 5, 6, 7] (by decide +kernel) (by decide +kernel)
set_option maxRecDepth 20000 in
theorem gX1_throwByX_X5_nextX_n94 : GoodIn wsX1_throwByX (wsX5_nextX) := ggX1_throwByX_X5_nextX
set_option maxRecDepth 20000 in
theorem ggX1_throwByX_X5_castOf : GoodIn wsX1_throwByX wsX5_castOf := goodIn_r _ [9, 10] (by decide +kernel) (by decide +kernel)
set_option maxRecDepth 20000 in
theorem gX1_throwByX_X5_castOf_n97 : GoodIn wsX1_throwByX (wsX5_castOf) := ggX1_throwByX_X5_castOf
set_option maxRecDepth 20000 in
theorem ggX1_throwByX_X1_takeThrow : GoodIn wsX1_throwByX wsX1_takeThrow := goodIn_r _ [15, 16, 17, 18, 19, 20, 21, 22, 23, 24] (by decide +kernel) (by decide +kernel)
set_option maxRecDepth 20000 in
theorem gX1_throwByX_X1_takeThrow : GoodIn wsX1_throwByX (wsV RX1 100 RX1 yX1_takeThrow wsX1_takeThrow) := goodIn_app (goodIn_of _ (by decide +kernel)) ggX1_throwByX_X1_takeThrow
theorem dX1_throwByX_0 : decode cX1_throwByX 0 = .ok (.aload_n 0, 1) := by decide +kernel
theorem dX1_throwByX_1 : decode cX1_throwByX 1 = .ok (.aload_n 0, 1) := by decide +kernel
theorem dX1_throwByX_2 : decode cX1_throwByX 2 = .ok (.getfield 22, 3) := by decide +kernel
theorem dX1_throwByX_5 : decode cX1_throwByX 5 = .ok (.invokestatic 94, 3) := by decide +kernel
theorem dX1_throwByX_8 : decode cX1_throwByX 8 = .ok (.putfield 22, 3) := by decide +kernel
theorem dX1_throwByX_11 : decode cX1_throwByX 11 = .ok (.aload_n 0, 1) := by decide +kernel
theorem dX1_throwByX_12 : decode cX1_throwByX 12 = .ok (.aload_n 0, 1) := by decide +kernel
theorem dX1_throwByX_13 : decode cX1_throwByX 13 = .ok (.getfield 22, 3) := by decide +kernel
theorem dX1_throwByX_16 : decode cX1_throwByX 16 = .ok (.invokestatic 97, 3) := by decide +kernel
theorem dX1_throwByX_19 : decode cX1_throwByX 19 = .ok (.invokevirtual 100, 3) := by decide +kernel
theorem dX1_throwByX_22 : decode cX1_throwByX 22 = .ok (.return_, 1) := by decide +kernel
theorem dX1_takeThrow_0 : decode cX1_takeThrow 0 = .ok (.aload_n 0, 1) := by decide +kernel
theorem dX1_takeThrow_1 : decode cX1_takeThrow 1 = .ok (.iload_n 1, 1) := by decide +kernel
theorem dX1_takeThrow_2 : decode cX1_takeThrow 2 = .ok (.putfield 29, 3) := by decide +kernel
theorem dX1_takeThrow_5 : decode cX1_takeThrow 5 = .ok (.aload_n 0, 1) := by decide +kernel
theorem dX1_takeThrow_6 : decode cX1_takeThrow 6 = .ok (.dup, 1) := by decide +kernel
theorem dX1_takeThrow_7 : decode cX1_takeThrow 7 = .ok (.getfield 35, 3) := by decide +kernel
theorem dX1_takeThrow_10 : decode cX1_takeThrow 10 = .ok (.iconst 1, 1) := by decide +kernel
theorem dX1_takeThrow_11 : decode cX1_takeThrow 11 = .ok (.iadd, 1) := by decide +kernel
theorem dX1_takeThrow_12 : decode cX1_takeThrow 12 = .ok (.putfield 35, 3) := by decide +kernel
theorem dX1_takeThrow_15 : decode cX1_takeThrow 15 = .ok (.return_, 1) := by decide +kernel
set_option maxRecDepth 20000 in
theorem ggX1_moveByThrow_X0_target : GoodIn wsX1_moveByThrow wsX0_target := goodIn_r _ [8, 9, 10, 11, 6, 12, 13, 14, 15, 16, 17, 18, 19, 20, 21, 22, 73, 74, 75, 76, 77] (by decide +kernel) (by decide +kernel)
set_option maxRecDepth 20000 in
theorem gX1_moveByThrow_X0_target_n58 : GoodIn wsX1_moveByThrow (wsX0_target) := ggX1_moveByThrow_X0_target
set_option maxRecDepth 20000 in
theorem ggX1_moveByThrow_X0_sendRivalsBack : GoodIn wsX1_moveByThrow wsX0_sendRivalsBack := goodIn_r _ [25, 26, 27, 13, 14, 15, 73, 74, 75, 76, 77] (by decide +kernel) (by decide +kernel)
set_option maxRecDepth 20000 in
theorem gX1_moveByThrow_X0_sendRivalsBack_n104 : GoodIn wsX1_moveByThrow (wsX0_sendRivalsBack) := ggX1_moveByThrow_X0_sendRivalsBack
set_option maxRecDepth 20000 in
theorem ggX1_moveByThrow_X0_place : GoodIn wsX1_moveByThrow wsX0_place := goodIn_r _ [30, 26, 31, 32, 33, 6, 34, 20, 35, 36, 37, 38, 39, 40, 13, 14, 15, 73, 74, 75, 76, 77] (by decide +kernel) (by decide +kernel)
set_option maxRecDepth 20000 in
theorem gX1_moveByThrow_X0_place_n108 : GoodIn wsX1_moveByThrow (wsX0_place) := ggX1_moveByThrow_X0_place
set_option maxRecDepth 20000 in
theorem ggX1_moveByThrow_X1_endThrow : GoodIn wsX1_moveByThrow wsX1_endThrow := goodIn_r _ [45, 3, 46, 47, 48, 49, 50, 44, 51, 1, 52, 6, 53, 54, 55, 56, 57, 58, 26, 59, 60, 61, 62, 2, 4, 63, 64, 65, 20, 35, 66, 67, 68, 69, 70, 71, 72, 73, 74, 75, 76, 77] (by decide +kernel) (by decide +kernel)
set_option maxRecDepth 20000 in
theorem gX1_moveByThrow_X1_endThrow : GoodIn wsX1_moveByThrow (wsV RX1 112 RX1 yX1_endThrow wsX1_endThrow) := goodIn_app (goodIn_of _ (by decide +kernel)) ggX1_moveByThrow_X1_endThrow
theorem dX1_moveByThrow_0 : decode cX1_moveByThrow 0 = .ok (.aload_n 0, 1) := by decide +kernel
theorem dX1_moveByThrow_1 : decode cX1_moveByThrow 1 = .ok (.getfield 12, 3) := by decide +kernel
theorem dX1_moveByThrow_4 : decode cX1_moveByThrow 4 = .ok (.aload_n 0, 1) := by decide +kernel
theorem dX1_moveByThrow_5 : decode cX1_moveByThrow 5 = .ok (.getfield 26, 3) := by decide +kernel
theorem dX1_moveByThrow_8 : decode cX1_moveByThrow 8 = .ok (.aload_n 0, 1) := by decide +kernel
theorem dX1_moveByThrow_9 : decode cX1_moveByThrow 9 = .ok (.getfield 12, 3) := by decide +kernel
theorem dX1_moveByThrow_12 : decode cX1_moveByThrow 12 = .ok (.getfield 55, 3) := by decide +kernel
theorem dX1_moveByThrow_15 : decode cX1_moveByThrow 15 = .ok (.iload_n 1, 1) := by decide +kernel
theorem dX1_moveByThrow_16 : decode cX1_moveByThrow 16 = .ok (.iaload, 1) := by decide +kernel
theorem dX1_moveByThrow_17 : decode cX1_moveByThrow 17 = .ok (.aload_n 0, 1) := by decide +kernel
theorem dX1_moveByThrow_18 : decode cX1_moveByThrow 18 = .ok (.getfield 29, 3) := by decide +kernel
theorem dX1_moveByThrow_21 : decode cX1_moveByThrow 21 = .ok (.invokevirtual 58, 3) := by decide +kernel
theorem dX1_moveByThrow_24 : decode cX1_moveByThrow 24 = .ok (.istore_n 2, 1) := by decide +kernel
theorem dX1_moveByThrow_25 : decode cX1_moveByThrow 25 = .ok (.aload_n 0, 1) := by decide +kernel
theorem dX1_moveByThrow_26 : decode cX1_moveByThrow 26 = .ok (.getfield 12, 3) := by decide +kernel
theorem dX1_moveByThrow_29 : decode cX1_moveByThrow 29 = .ok (.aload_n 0, 1) := by decide +kernel
theorem dX1_moveByThrow_30 : decode cX1_moveByThrow 30 = .ok (.getfield 26, 3) := by decide +kernel
theorem dX1_moveByThrow_33 : decode cX1_moveByThrow 33 = .ok (.iload_n 2, 1) := by decide +kernel
theorem dX1_moveByThrow_34 : decode cX1_moveByThrow 34 = .ok (.invokevirtual 104, 3) := by decide +kernel
theorem dX1_moveByThrow_37 : decode cX1_moveByThrow 37 = .ok (.aload_n 0, 1) := by decide +kernel
theorem dX1_moveByThrow_38 : decode cX1_moveByThrow 38 = .ok (.getfield 12, 3) := by decide +kernel
theorem dX1_moveByThrow_41 : decode cX1_moveByThrow 41 = .ok (.iload_n 1, 1) := by decide +kernel
theorem dX1_moveByThrow_42 : decode cX1_moveByThrow 42 = .ok (.iload_n 2, 1) := by decide +kernel
theorem dX1_moveByThrow_43 : decode cX1_moveByThrow 43 = .ok (.aload_n 0, 1) := by decide +kernel
theorem dX1_moveByThrow_44 : decode cX1_moveByThrow 44 = .ok (.getfield 32, 3) := by decide +kernel
theorem dX1_moveByThrow_47 : decode cX1_moveByThrow 47 = .ok (.invokevirtual 108, 3) := by decide +kernel
theorem dX1_moveByThrow_50 : decode cX1_moveByThrow 50 = .ok (.aload_n 0, 1) := by decide +kernel
theorem dX1_moveByThrow_51 : decode cX1_moveByThrow 51 = .ok (.invokevirtual 112, 3) := by decide +kernel
theorem dX1_moveByThrow_54 : decode cX1_moveByThrow 54 = .ok (.iload_n 2, 1) := by decide +kernel
theorem dX1_moveByThrow_55 : decode cX1_moveByThrow 55 = .ok (.ireturn, 1) := by decide +kernel
set_option maxRecDepth 20000 in
theorem ggX1_endThrow_X1_isOver : GoodIn wsX1_endThrow wsX1_isOver := goodIn_r _ [8, 9, 10, 11, 12, 13, 14, 15, 16, 17, 18, 30, 31, 32, 33, 34, 35, 36, 37, 38, 39, 40, 41] (by decide +kernel) (by decide +kernel)
set_option maxRecDepth 20000 in
theorem gX1_endThrow_X1_isOver : GoodIn wsX1_endThrow (wsV RX1 115 RX1 yX1_isOver wsX1_isOver) := goodIn_app (goodIn_of _ (by decide +kernel)) ggX1_endThrow_X1_isOver
set_option maxRecDepth 20000 in
theorem ggX1_endThrow_X1_beginTurn : GoodIn wsX1_endThrow wsX1_beginTurn := goodIn_r _ [22, 23, 24, 2, 9, 3, 25, 11, 26, 27, 28, 29, 30, 31, 32, 33, 34, 35, 36, 37, 38, 39, 40, 41] (by decide +kernel) (by decide +kernel)
set_option maxRecDepth 20000 in
theorem gX1_endThrow_X1_beginTurn : GoodIn wsX1_endThrow (wsV RX1 119 RX1 yX1_beginTurn wsX1_beginTurn) := goodIn_app (goodIn_of _ (by decide +kernel)) ggX1_endThrow_X1_beginTurn
theorem dX1_endThrow_0 : decode cX1_endThrow 0 = .ok (.aload_n 0, 1) := by decide +kernel
theorem dX1_endThrow_1 : decode cX1_endThrow 1 = .ok (.getfield 29, 3) := by decide +kernel
theorem dX1_endThrow_4 : decode cX1_endThrow 4 = .ok (.bipush 6, 2) := by decide +kernel
theorem dX1_endThrow_6 : decode cX1_endThrow 6 = .ok (.if_icmp .ne 20, 3) := by decide +kernel
theorem dX1_endThrow_9 : decode cX1_endThrow 9 = .ok (.aload_n 0, 1) := by decide +kernel
theorem dX1_endThrow_10 : decode cX1_endThrow 10 = .ok (.getfield 35, 3) := by decide +kernel
theorem dX1_endThrow_13 : decode cX1_endThrow 13 = .ok (.aload_n 0, 1) := by decide +kernel
theorem dX1_endThrow_14 : decode cX1_endThrow 14 = .ok (.getfield 18, 3) := by decide +kernel
theorem dX1_endThrow_17 : decode cX1_endThrow 17 = .ok (.iconst 2, 1) := by decide +kernel
theorem dX1_endThrow_18 : decode cX1_endThrow 18 = .ok (.iaload, 1) := by decide +kernel
theorem dX1_endThrow_19 : decode cX1_endThrow 19 = .ok (.if_icmp .gt 7, 3) := by decide +kernel
theorem dX1_endThrow_22 : decode cX1_endThrow 22 = .ok (.iconst 1, 1) := by decide +kernel
theorem dX1_endThrow_23 : decode cX1_endThrow 23 = .ok (.goto 4, 3) := by decide +kernel
theorem dX1_endThrow_26 : decode cX1_endThrow 26 = .ok (.iconst 0, 1) := by decide +kernel
theorem dX1_endThrow_27 : decode cX1_endThrow 27 = .ok (.istore_n 1, 1) := by decide +kernel
theorem dX1_endThrow_28 : decode cX1_endThrow 28 = .ok (.aload_n 0, 1) := by decide +kernel
theorem dX1_endThrow_29 : decode cX1_endThrow 29 = .ok (.bipush (-6), 2) := by decide +kernel
theorem dX1_endThrow_31 : decode cX1_endThrow 31 = .ok (.putfield 29, 3) := by decide +kernel
theorem dX1_endThrow_34 : decode cX1_endThrow 34 = .ok (.iload_n 1, 1) := by decide +kernel
theorem dX1_endThrow_35 : decode cX1_endThrow 35 = .ok (.ifCond .ne 14, 3) := by decide +kernel
theorem dX1_endThrow_38 : decode cX1_endThrow 38 = .ok (.aload_n 0, 1) := by decide +kernel
theorem dX1_endThrow_39 : decode cX1_endThrow 39 = .ok (.invokevirtual 115, 3) := by decide +kernel
theorem dX1_endThrow_42 : decode cX1_endThrow 42 = .ok (.ifCond .ne 7, 3) := by decide +kernel
theorem dX1_endThrow_45 : decode cX1_endThrow 45 = .ok (.aload_n 0, 1) := by decide +kernel
theorem dX1_endThrow_46 : decode cX1_endThrow 46 = .ok (.invokevirtual 119, 3) := by decide +kernel
theorem dX1_endThrow_49 : decode cX1_endThrow 49 = .ok (.return_, 1) := by decide +kernel
set_option maxRecDepth 20000 in
theorem ggX1_beginTurn_X0_mend : GoodIn wsX1_beginTurn wsX0_mend := goodIn_r _ [9, 10, 11, 19, 20, 21, 22, 23] (by decide +kernel) (by decide +kernel)
set_option maxRecDepth 20000 in
theorem gX1_beginTurn_X0_mend_n122 : GoodIn wsX1_beginTurn (wsX0_mend) := ggX1_beginTurn_X0_mend
theorem dX1_beginTurn_0 : decode cX1_beginTurn 0 = .ok (.aload_n 0, 1) := by decide +kernel
theorem dX1_beginTurn_1 : decode cX1_beginTurn 1 = .ok (.aload_n 0, 1) := by decide +kernel
theorem dX1_beginTurn_2 : decode cX1_beginTurn 2 = .ok (.getfield 26, 3) := by decide +kernel
theorem dX1_beginTurn_5 : decode cX1_beginTurn 5 = .ok (.iconst 1, 1) := by decide +kernel
theorem dX1_beginTurn_6 : decode cX1_beginTurn 6 = .ok (.iadd, 1) := by decide +kernel
theorem dX1_beginTurn_7 : decode cX1_beginTurn 7 = .ok (.iconst 4, 1) := by decide +kernel
theorem dX1_beginTurn_8 : decode cX1_beginTurn 8 = .ok (.irem, 1) := by decide +kernel
theorem dX1_beginTurn_9 : decode cX1_beginTurn 9 = .ok (.putfield 26, 3) := by decide +kernel
theorem dX1_beginTurn_12 : decode cX1_beginTurn 12 = .ok (.aload_n 0, 1) := by decide +kernel
theorem dX1_beginTurn_13 : decode cX1_beginTurn 13 = .ok (.dup, 1) := by decide +kernel
theorem dX1_beginTurn_14 : decode cX1_beginTurn 14 = .ok (.getfield 32, 3) := by decide +kernel
theorem dX1_beginTurn_17 : decode cX1_beginTurn 17 = .ok (.iconst 1, 1) := by decide +kernel
theorem dX1_beginTurn_18 : decode cX1_beginTurn 18 = .ok (.iadd, 1) := by decide +kernel
theorem dX1_beginTurn_19 : decode cX1_beginTurn 19 = .ok (.putfield 32, 3) := by decide +kernel
theorem dX1_beginTurn_22 : decode cX1_beginTurn 22 = .ok (.aload_n 0, 1) := by decide +kernel
theorem dX1_beginTurn_23 : decode cX1_beginTurn 23 = .ok (.iconst 0, 1) := by decide +kernel
theorem dX1_beginTurn_24 : decode cX1_beginTurn 24 = .ok (.putfield 35, 3) := by decide +kernel
theorem dX1_beginTurn_27 : decode cX1_beginTurn 27 = .ok (.aload_n 0, 1) := by decide +kernel
theorem dX1_beginTurn_28 : decode cX1_beginTurn 28 = .ok (.getfield 12, 3) := by decide +kernel
theorem dX1_beginTurn_31 : decode cX1_beginTurn 31 = .ok (.aload_n 0, 1) := by decide +kernel
theorem dX1_beginTurn_32 : decode cX1_beginTurn 32 = .ok (.getfield 32, 3) := by decide +kernel
theorem dX1_beginTurn_35 : decode cX1_beginTurn 35 = .ok (.aload_n 0, 1) := by decide +kernel
theorem dX1_beginTurn_36 : decode cX1_beginTurn 36 = .ok (.getfield 18, 3) := by decide +kernel
theorem dX1_beginTurn_39 : decode cX1_beginTurn 39 = .ok (.iconst 1, 1) := by decide +kernel
theorem dX1_beginTurn_40 : decode cX1_beginTurn 40 = .ok (.iaload, 1) := by decide +kernel
theorem dX1_beginTurn_41 : decode cX1_beginTurn 41 = .ok (.invokevirtual 122, 3) := by decide +kernel
theorem dX1_beginTurn_44 : decode cX1_beginTurn 44 = .ok (.return_, 1) := by decide +kernel
set_option maxRecDepth 20000 in
theorem ggX1_playOn_X1_isOver : GoodIn wsX1_playOn wsX1_isOver := goodIn_r _ [5, 6, 7, 8, 9, 10, 11, 12, 13, 14, 15, 117, 118, 119, 120, 121, 122, 123, 124, 125, 126, 127, 128] (by decide +kernel) (by decide +kernel)
set_option maxRecDepth 20000 in
theorem gX1_playOn_X1_isOver : GoodIn wsX1_playOn (wsV RX1 115 RX1 yX1_isOver wsX1_isOver) := goodIn_app (goodIn_of _ (by decide +kernel)) ggX1_playOn_X1_isOver
set_option maxRecDepth 20000 in
theorem ggX1_playOn_X1_throwByX : GoodIn wsX1_playOn wsX1_throwByX := goodIn_r _ [19, 20, 21, 22, 23, 24, 25, 26, 27, 28, 29, 30, 31, 32, 4, 33, 34, 35, 117, 118, 119, 120, 121, 122, 123] (by decide +kernel) (by decide +kernel)
set_option maxRecDepth 20000 in
theorem gX1_playOn_X1_throwByX : GoodIn wsX1_playOn (wsV RX1 125 RX1 yX1_throwByX wsX1_throwByX) := goodIn_app (goodIn_of _ (by decide +kernel)) ggX1_playOn_X1_throwByX
set_option maxRecDepth 20000 in
theorem ggX1_playOn_X1_bestPiece : GoodIn wsX1_playOn wsX1_bestPiece := goodIn_r _ [39, 40, 34, 41, 42, 43, 4, 44, 6, 45, 46, 8, 47, 48, 49, 50, 51, 52, 53, 22, 54, 55, 56, 57, 58, 59, 60, 61, 62, 63, 64, 65, 66, 67, 68, 15, 69, 70, 71, 72, 73, 74, 75, 76, 77, 78, 79, 80, 81, 82, 83, 117, 118, 119, 120, 121, 122, 123, 124, 125, 126, 127, 128] (by decide +kernel) (by decide +kernel)
set_option maxRecDepth 20000 in
theorem gX1_playOn_X1_bestPiece : GoodIn wsX1_playOn (wsV RX1 128 RX1 yX1_bestPiece wsX1_bestPiece) := goodIn_app (goodIn_of _ (by decide +kernel)) ggX1_playOn_X1_bestPiece
set_option maxRecDepth 20000 in
theorem ggX1_playOn_X1_endThrow : GoodIn wsX1_playOn wsX1_endThrow := goodIn_r _ [87, 34, 35, 45, 1, 2, 3, 4, 5, 6, 7, 8, 9, 10, 11, 12, 13, 14, 15, 88, 89, 90, 91, 40, 92, 93, 94, 95, 59, 96, 117, 118, 119, 120, 121, 122, 123, 124, 125, 126, 127, 128] (by decide +kernel) (by decide +kernel)
set_option maxRecDepth 20000 in
theorem gX1_playOn_X1_endThrow : GoodIn wsX1_playOn (wsV RX1 112 RX1 yX1_endThrow wsX1_endThrow) := goodIn_app (goodIn_of _ (by decide +kernel)) ggX1_playOn_X1_endThrow
set_option maxRecDepth 20000 in
theorem ggX1_playOn_X1_moveByThrow : GoodIn wsX1_playOn wsX1_moveByThrow := goodIn_r _ [100, 6, 40, 34, 92, 46, 8, 47, 48, 49, 50, 51, 52, 53, 22, 54, 55, 56, 57, 58, 59, 60, 61, 101, 102, 103, 15, 104, 105, 106, 107, 108, 109, 110, 111, 96, 112, 113, 114, 115, 116, 84, 85, 86, 4, 87, 35, 45, 1, 2, 3, 5, 7, 9, 10, 11, 12, 13, 14, 88, 89, 90, 91, 93, 94, 95, 117, 118, 119, 120, 121, 122, 123, 124, 125, 126, 127, 128] (by decide +kernel) (by decide +kernel)
set_option maxRecDepth 20000 in
theorem gX1_playOn_X1_moveByThrow : GoodIn wsX1_playOn (wsV RX1 131 RX1 yX1_moveByThrow wsX1_moveByThrow) := goodIn_app (goodIn_of _ (by decide +kernel)) ggX1_playOn_X1_moveByThrow
theorem dX1_playOn_0 : decode cX1_playOn 0 = .ok (.iconst 0, 1) := by decide +kernel
theorem dX1_playOn_1 : decode cX1_playOn 1 = .ok (.istore_n 2, 1) := by decide +kernel
theorem dX1_playOn_2 : decode cX1_playOn 2 = .ok (.iload_n 2, 1) := by decide +kernel
theorem dX1_playOn_3 : decode cX1_playOn 3 = .ok (.iload_n 1, 1) := by decide +kernel
theorem dX1_playOn_4 : decode cX1_playOn 4 = .ok (.if_icmp .ge 44, 3) := by decide +kernel
theorem dX1_playOn_7 : decode cX1_playOn 7 = .ok (.aload_n 0, 1) := by decide +kernel
theorem dX1_playOn_8 : decode cX1_playOn 8 = .ok (.invokevirtual 115, 3) := by decide +kernel
theorem dX1_playOn_11 : decode cX1_playOn 11 = .ok (.ifCond .ne 37, 3) := by decide +kernel
theorem dX1_playOn_14 : decode cX1_playOn 14 = .ok (.aload_n 0, 1) := by decide +kernel
theorem dX1_playOn_15 : decode cX1_playOn 15 = .ok (.invokevirtual 125, 3) := by decide +kernel
theorem dX1_playOn_18 : decode cX1_playOn 18 = .ok (.aload_n 0, 1) := by decide +kernel
theorem dX1_playOn_19 : decode cX1_playOn 19 = .ok (.invokevirtual 128, 3) := by decide +kernel
theorem dX1_playOn_22 : decode cX1_playOn 22 = .ok (.istore_n 3, 1) := by decide +kernel
theorem dX1_playOn_23 : decode cX1_playOn 23 = .ok (.iload_n 3, 1) := by decide +kernel
theorem dX1_playOn_24 : decode cX1_playOn 24 = .ok (.bipush (-6), 2) := by decide +kernel
theorem dX1_playOn_26 : decode cX1_playOn 26 = .ok (.if_icmp .ne 10, 3) := by decide +kernel
theorem dX1_playOn_29 : decode cX1_playOn 29 = .ok (.aload_n 0, 1) := by decide +kernel
theorem dX1_playOn_30 : decode cX1_playOn 30 = .ok (.invokevirtual 112, 3) := by decide +kernel
theorem dX1_playOn_33 : decode cX1_playOn 33 = .ok (.goto 9, 3) := by decide +kernel
theorem dX1_playOn_36 : decode cX1_playOn 36 = .ok (.aload_n 0, 1) := by decide +kernel
theorem dX1_playOn_37 : decode cX1_playOn 37 = .ok (.iload_n 3, 1) := by decide +kernel
theorem dX1_playOn_38 : decode cX1_playOn 38 = .ok (.invokevirtual 131, 3) := by decide +kernel
theorem dX1_playOn_41 : decode cX1_playOn 41 = .ok (.pop, 1) := by decide +kernel
theorem dX1_playOn_42 : decode cX1_playOn 42 = .ok (.iinc 2 1, 3) := by decide +kernel
theorem dX1_playOn_45 : decode cX1_playOn 45 = .ok (.goto (-43), 3) := by decide +kernel
theorem dX1_playOn_48 : decode cX1_playOn 48 = .ok (.iload_n 2, 1) := by decide +kernel
theorem dX1_playOn_49 : decode cX1_playOn 49 = .ok (.ireturn, 1) := by decide +kernel
set_option maxRecDepth 20000 in
theorem ggX1_makeMove_X1_canMoveBy : GoodIn wsX1_makeMove wsX1_canMoveBy := goodIn_r _ [6, 1, 7, 8, 9, 5, 10, 11, 12, 13, 14, 15, 16, 17, 18, 19, 20, 21, 22, 23, 24, 25, 26, 27, 28, 29, 30, 31, 32, 33, 34, 35, 36, 37, 38, 39, 40, 41, 42, 43, 44, 45, 46, 47, 98, 99, 100, 101, 102, 103, 104, 105, 106, 107, 108, 109] (by decide +kernel) (by decide +kernel)
set_option maxRecDepth 20000 in
theorem gX1_makeMove_X1_canMoveBy : GoodIn wsX1_makeMove (wsV RX1 134 RX1 yX1_canMoveBy wsX1_canMoveBy) := goodIn_app (goodIn_of _ (by decide +kernel)) ggX1_makeMove_X1_canMoveBy
set_option maxRecDepth 20000 in
theorem ggX1_makeMove_X1_takeThrow : GoodIn wsX1_makeMove wsX1_takeThrow := goodIn_r _ [51, 52, 53, 98, 99, 100, 101, 102, 103, 104] (by decide +kernel) (by decide +kernel)
set_option maxRecDepth 20000 in
theorem gX1_makeMove_X1_takeThrow : GoodIn wsX1_makeMove (wsV RX1 100 RX1 yX1_takeThrow wsX1_takeThrow) := goodIn_app (goodIn_of _ (by decide +kernel)) ggX1_makeMove_X1_takeThrow
set_option maxRecDepth 20000 in
theorem ggX1_makeMove_X1_endThrow : GoodIn wsX1_makeMove wsX1_endThrow := goodIn_r _ [57, 52, 53, 12, 58, 59, 60, 5, 61, 11, 62, 14, 63, 64, 65, 66, 67, 68, 38, 69, 70, 71, 72, 1, 73, 74, 75, 76, 28, 77, 98, 99, 100, 101, 102, 103, 104, 105, 106, 107, 108, 109] (by decide +kernel) (by decide +kernel)
set_option maxRecDepth 20000 in
theorem gX1_makeMove_X1_endThrow : GoodIn wsX1_makeMove (wsV RX1 112 RX1 yX1_endThrow wsX1_endThrow) := goodIn_app (goodIn_of _ (by decide +kernel)) ggX1_makeMove_X1_endThrow
set_option maxRecDepth 20000 in
theorem ggX1_makeMove_X1_reason : GoodIn wsX1_makeMove wsX1_reason := goodIn_r _ [10, 11, 12, 13, 14, 15, 16, 17, 18, 19, 20, 21, 22, 23, 24, 25, 26, 27, 28, 29, 30, 31, 32, 33, 34, 35, 36, 37, 38, 39, 40, 41, 42, 43, 44, 45, 46, 47, 98, 99, 100, 101, 102, 103, 104, 105, 106, 107, 108, 109] (by decide +kernel) (by decide +kernel)
set_option maxRecDepth 20000 in
theorem gX1_makeMove_X1_reason : GoodIn wsX1_makeMove (wsV RX1 81 RX1 yX1_reason wsX1_reason) := goodIn_app (goodIn_of _ (by decide +kernel)) ggX1_makeMove_X1_reason
set_option maxRecDepth 20000 in
theorem ggX1_makeMove_X1_moveByThrow : GoodIn wsX1_makeMove wsX1_moveByThrow := goodIn_r _ [81, 11, 1, 52, 73, 13, 14, 15, 16, 17, 18, 19, 20, 21, 22, 23, 24, 25, 26, 27, 28, 29, 30, 82, 83, 84, 38, 85, 86, 87, 88, 89, 90, 91, 92, 77, 93, 94, 95, 96, 97, 54, 55, 56, 5, 57, 53, 12, 58, 59, 60, 61, 62, 63, 64, 65, 66, 67, 68, 69, 70, 71, 72, 74, 75, 76, 98, 99, 100, 101, 102, 103, 104, 105, 106, 107, 108, 109] (by decide +kernel) (by decide +kernel)
set_option maxRecDepth 20000 in
theorem gX1_makeMove_X1_moveByThrow : GoodIn wsX1_makeMove (wsV RX1 131 RX1 yX1_moveByThrow wsX1_moveByThrow) := goodIn_app (goodIn_of _ (by decide +kernel)) ggX1_makeMove_X1_moveByThrow
theorem dX1_makeMove_0 : decode cX1_makeMove 0 = .ok (.iload_n 2, 1) := by decide +kernel
theorem dX1_makeMove_1 : decode cX1_makeMove 1 = .ok (.bipush (-6), 2) := by decide +kernel
theorem dX1_makeMove_3 : decode cX1_makeMove 3 = .ok (.if_icmp .ne 24, 3) := by decide +kernel
theorem dX1_makeMove_6 : decode cX1_makeMove 6 = .ok (.aload_n 0, 1) := by decide +kernel
theorem dX1_makeMove_7 : decode cX1_makeMove 7 = .ok (.iload_n 1, 1) := by decide +kernel
theorem dX1_makeMove_8 : decode cX1_makeMove 8 = .ok (.invokevirtual 134, 3) := by decide +kernel
theorem dX1_makeMove_11 : decode cX1_makeMove 11 = .ok (.ifCond .eq 5, 3) := by decide +kernel
theorem dX1_makeMove_14 : decode cX1_makeMove 14 = .ok (.iconst 0, 1) := by decide +kernel
theorem dX1_makeMove_15 : decode cX1_makeMove 15 = .ok (.ireturn, 1) := by decide +kernel
theorem dX1_makeMove_16 : decode cX1_makeMove 16 = .ok (.aload_n 0, 1) := by decide +kernel
theorem dX1_makeMove_17 : decode cX1_makeMove 17 = .ok (.iload_n 1, 1) := by decide +kernel
theorem dX1_makeMove_18 : decode cX1_makeMove 18 = .ok (.invokevirtual 100, 3) := by decide +kernel
theorem dX1_makeMove_21 : decode cX1_makeMove 21 = .ok (.aload_n 0, 1) := by decide +kernel
theorem dX1_makeMove_22 : decode cX1_makeMove 22 = .ok (.invokevirtual 112, 3) := by decide +kernel
theorem dX1_makeMove_25 : decode cX1_makeMove 25 = .ok (.iconst 1, 1) := by decide +kernel
theorem dX1_makeMove_26 : decode cX1_makeMove 26 = .ok (.ireturn, 1) := by decide +kernel
theorem dX1_makeMove_27 : decode cX1_makeMove 27 = .ok (.aload_n 0, 1) := by decide +kernel
theorem dX1_makeMove_28 : decode cX1_makeMove 28 = .ok (.getfield 26, 3) := by decide +kernel
theorem dX1_makeMove_31 : decode cX1_makeMove 31 = .ok (.iconst 3, 1) := by decide +kernel
theorem dX1_makeMove_32 : decode cX1_makeMove 32 = .ok (.imul, 1) := by decide +kernel
theorem dX1_makeMove_33 : decode cX1_makeMove 33 = .ok (.iload_n 2, 1) := by decide +kernel
theorem dX1_makeMove_34 : decode cX1_makeMove 34 = .ok (.iadd, 1) := by decide +kernel
theorem dX1_makeMove_35 : decode cX1_makeMove 35 = .ok (.istore_n 3, 1) := by decide +kernel
theorem dX1_makeMove_36 : decode cX1_makeMove 36 = .ok (.aload_n 0, 1) := by decide +kernel
theorem dX1_makeMove_37 : decode cX1_makeMove 37 = .ok (.iload_n 3, 1) := by decide +kernel
theorem dX1_makeMove_38 : decode cX1_makeMove 38 = .ok (.iload_n 1, 1) := by decide +kernel
theorem dX1_makeMove_39 : decode cX1_makeMove 39 = .ok (.invokevirtual 81, 3) := by decide +kernel
theorem dX1_makeMove_42 : decode cX1_makeMove 42 = .ok (.ifCond .eq 5, 3) := by decide +kernel
theorem dX1_makeMove_45 : decode cX1_makeMove 45 = .ok (.iconst 0, 1) := by decide +kernel
theorem dX1_makeMove_46 : decode cX1_makeMove 46 = .ok (.ireturn, 1) := by decide +kernel
theorem dX1_makeMove_47 : decode cX1_makeMove 47 = .ok (.aload_n 0, 1) := by decide +kernel
theorem dX1_makeMove_48 : decode cX1_makeMove 48 = .ok (.iload_n 1, 1) := by decide +kernel
theorem dX1_makeMove_49 : decode cX1_makeMove 49 = .ok (.invokevirtual 100, 3) := by decide +kernel
theorem dX1_makeMove_52 : decode cX1_makeMove 52 = .ok (.aload_n 0, 1) := by decide +kernel
theorem dX1_makeMove_53 : decode cX1_makeMove 53 = .ok (.iload_n 3, 1) := by decide +kernel
theorem dX1_makeMove_54 : decode cX1_makeMove 54 = .ok (.invokevirtual 131, 3) := by decide +kernel
theorem dX1_makeMove_57 : decode cX1_makeMove 57 = .ok (.pop, 1) := by decide +kernel
theorem dX1_makeMove_58 : decode cX1_makeMove 58 = .ok (.iconst 1, 1) := by decide +kernel
theorem dX1_makeMove_59 : decode cX1_makeMove 59 = .ok (.ireturn, 1) := by decide +kernel
set_option maxRecDepth 20000 in
theorem ggX1_turnsUntilMended_X5_bridgeOn : GoodIn wsX1_turnsUntilMended wsX5_bridgeOn := goodIn_r _ [10] (by decide +kernel) (by decide +kernel)
set_option maxRecDepth 20000 in
theorem gX1_turnsUntilMended_X5_bridgeOn_n137 : GoodIn wsX1_turnsUntilMended (wsX5_bridgeOn) := ggX1_turnsUntilMended_X5_bridgeOn
