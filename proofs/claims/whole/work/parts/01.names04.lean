theorem dX6_lay_147 : decode cX6_lay 147 = .ok (.aload_n 0, 1) := by decide +kernel
theorem dX6_lay_148 : decode cX6_lay 148 = .ok (.invokevirtual 94, 3) := by decide +kernel
theorem dX6_lay_151 : decode cX6_lay 151 = .ok (.iload 6, 2) := by decide +kernel
theorem dX6_lay_153 : decode cX6_lay 153 = .ok (.ireturn, 1) := by decide +kernel
theorem dX6_piece_0 : decode cX6_piece 0 = .ok (.iload_n 1, 1) := by decide +kernel
theorem dX6_piece_1 : decode cX6_piece 1 = .ok (.invokestatic 146, 3) := by decide +kernel
theorem dX6_piece_4 : decode cX6_piece 4 = .ok (.ifCond .ne 5, 3) := by decide +kernel
theorem dX6_piece_7 : decode cX6_piece 7 = .ok (.iconst (-1), 1) := by decide +kernel
theorem dX6_piece_8 : decode cX6_piece 8 = .ok (.ireturn, 1) := by decide +kernel
theorem dX6_piece_9 : decode cX6_piece 9 = .ok (.iload_n 2, 1) := by decide +kernel
theorem dX6_piece_10 : decode cX6_piece 10 = .ok (.tableswitch 75 0 3 #[30, 37, 43, 65], 30) := by decide +kernel
theorem dX6_piece_40 : decode cX6_piece 40 = .ok (.aload_n 0, 1) := by decide +kernel
theorem dX6_piece_41 : decode cX6_piece 41 = .ok (.getfield 7, 3) := by decide +kernel
theorem dX6_piece_44 : decode cX6_piece 44 = .ok (.iload_n 1, 1) := by decide +kernel
theorem dX6_piece_45 : decode cX6_piece 45 = .ok (.iaload, 1) := by decide +kernel
theorem dX6_piece_46 : decode cX6_piece 46 = .ok (.ireturn, 1) := by decide +kernel
theorem dX6_piece_47 : decode cX6_piece 47 = .ok (.aload_n 0, 1) := by decide +kernel
theorem dX6_piece_48 : decode cX6_piece 48 = .ok (.iload_n 1, 1) := by decide +kernel
theorem dX6_piece_49 : decode cX6_piece 49 = .ok (.invokevirtual 44, 3) := by decide +kernel
theorem dX6_piece_52 : decode cX6_piece 52 = .ok (.ireturn, 1) := by decide +kernel
theorem dX6_piece_53 : decode cX6_piece 53 = .ok (.aload_n 0, 1) := by decide +kernel
theorem dX6_piece_54 : decode cX6_piece 54 = .ok (.iload_n 1, 1) := by decide +kernel
theorem dX6_piece_55 : decode cX6_piece 55 = .ok (.iconst 3, 1) := by decide +kernel
theorem dX6_piece_56 : decode cX6_piece 56 = .ok (.idiv, 1) := by decide +kernel
theorem dX6_piece_57 : decode cX6_piece 57 = .ok (.aload_n 0, 1) := by decide +kernel
theorem dX6_piece_58 : decode cX6_piece 58 = .ok (.iload_n 1, 1) := by decide +kernel
theorem dX6_piece_59 : decode cX6_piece 59 = .ok (.invokevirtual 44, 3) := by decide +kernel
theorem dX6_piece_62 : decode cX6_piece 62 = .ok (.invokevirtual 48, 3) := by decide +kernel
theorem dX6_piece_65 : decode cX6_piece 65 = .ok (.iconst 1, 1) := by decide +kernel
theorem dX6_piece_66 : decode cX6_piece 66 = .ok (.if_icmp .le 7, 3) := by decide +kernel
theorem dX6_piece_69 : decode cX6_piece 69 = .ok (.iconst 1, 1) := by decide +kernel
theorem dX6_piece_70 : decode cX6_piece 70 = .ok (.goto 4, 3) := by decide +kernel
theorem dX6_piece_73 : decode cX6_piece 73 = .ok (.iconst 0, 1) := by decide +kernel
theorem dX6_piece_74 : decode cX6_piece 74 = .ok (.ireturn, 1) := by decide +kernel
theorem dX6_piece_75 : decode cX6_piece 75 = .ok (.aload_n 0, 1) := by decide +kernel
theorem dX6_piece_76 : decode cX6_piece 76 = .ok (.getfield 7, 3) := by decide +kernel
theorem dX6_piece_79 : decode cX6_piece 79 = .ok (.bipush 12, 2) := by decide +kernel
theorem dX6_piece_81 : decode cX6_piece 81 = .ok (.iload_n 1, 1) := by decide +kernel
theorem dX6_piece_82 : decode cX6_piece 82 = .ok (.iadd, 1) := by decide +kernel
theorem dX6_piece_83 : decode cX6_piece 83 = .ok (.iaload, 1) := by decide +kernel
theorem dX6_piece_84 : decode cX6_piece 84 = .ok (.ireturn, 1) := by decide +kernel
theorem dX6_piece_85 : decode cX6_piece 85 = .ok (.bipush (-2), 2) := by decide +kernel
theorem dX6_piece_87 : decode cX6_piece 87 = .ok (.ireturn, 1) := by decide +kernel
theorem dX6_lowestOn_0 : decode cX6_lowestOn 0 = .ok (.bipush (-6), 2) := by decide +kernel
theorem dX6_lowestOn_2 : decode cX6_lowestOn 2 = .ok (.istore_n 2, 1) := by decide +kernel
theorem dX6_lowestOn_3 : decode cX6_lowestOn 3 = .ok (.bipush 11, 2) := by decide +kernel
theorem dX6_lowestOn_5 : decode cX6_lowestOn 5 = .ok (.istore_n 3, 1) := by decide +kernel
theorem dX6_lowestOn_6 : decode cX6_lowestOn 6 = .ok (.iload_n 3, 1) := by decide +kernel
theorem dX6_lowestOn_7 : decode cX6_lowestOn 7 = .ok (.ifCond .lt 24, 3) := by decide +kernel
theorem dX6_lowestOn_10 : decode cX6_lowestOn 10 = .ok (.aload_n 0, 1) := by decide +kernel
theorem dX6_lowestOn_11 : decode cX6_lowestOn 11 = .ok (.iload_n 3, 1) := by decide +kernel
theorem dX6_lowestOn_12 : decode cX6_lowestOn 12 = .ok (.invokevirtual 44, 3) := by decide +kernel
theorem dX6_lowestOn_15 : decode cX6_lowestOn 15 = .ok (.iload_n 1, 1) := by decide +kernel
theorem dX6_lowestOn_16 : decode cX6_lowestOn 16 = .ok (.if_icmp .ne 7, 3) := by decide +kernel
theorem dX6_lowestOn_19 : decode cX6_lowestOn 19 = .ok (.iload_n 3, 1) := by decide +kernel
theorem dX6_lowestOn_20 : decode cX6_lowestOn 20 = .ok (.goto 4, 3) := by decide +kernel
theorem dX6_lowestOn_23 : decode cX6_lowestOn 23 = .ok (.iload_n 2, 1) := by decide +kernel
theorem dX6_lowestOn_24 : decode cX6_lowestOn 24 = .ok (.istore_n 2, 1) := by decide +kernel
theorem dX6_lowestOn_25 : decode cX6_lowestOn 25 = .ok (.iinc 3 (-1), 3) := by decide +kernel
theorem dX6_lowestOn_28 : decode cX6_lowestOn 28 = .ok (.goto (-22), 3) := by decide +kernel
theorem dX6_lowestOn_31 : decode cX6_lowestOn 31 = .ok (.iload_n 2, 1) := by decide +kernel
theorem dX6_lowestOn_32 : decode cX6_lowestOn 32 = .ok (.ireturn, 1) := by decide +kernel
theorem dX6_bridgeOn_0 : decode cX6_bridgeOn 0 = .ok (.iload_n 1, 1) := by decide +kernel
theorem dX6_bridgeOn_1 : decode cX6_bridgeOn 1 = .ok (.bipush 8, 2) := by decide +kernel
theorem dX6_bridgeOn_3 : decode cX6_bridgeOn 3 = .ok (.idiv, 1) := by decide +kernel
theorem dX6_bridgeOn_4 : decode cX6_bridgeOn 4 = .ok (.istore_n 2, 1) := by decide +kernel
theorem dX6_bridgeOn_5 : decode cX6_bridgeOn 5 = .ok (.iload_n 1, 1) := by decide +kernel
theorem dX6_bridgeOn_6 : decode cX6_bridgeOn 6 = .ok (.invokestatic 40, 3) := by decide +kernel
theorem dX6_bridgeOn_9 : decode cX6_bridgeOn 9 = .ok (.ifCond .ne 7, 3) := by decide +kernel
theorem dX6_bridgeOn_12 : decode cX6_bridgeOn 12 = .ok (.iconst 0, 1) := by decide +kernel
theorem dX6_bridgeOn_13 : decode cX6_bridgeOn 13 = .ok (.goto 38, 3) := by decide +kernel
theorem dX6_bridgeOn_16 : decode cX6_bridgeOn 16 = .ok (.aload_n 0, 1) := by decide +kernel
theorem dX6_bridgeOn_17 : decode cX6_bridgeOn 17 = .ok (.getfield 7, 3) := by decide +kernel
theorem dX6_bridgeOn_20 : decode cX6_bridgeOn 20 = .ok (.bipush 24, 2) := by decide +kernel
theorem dX6_bridgeOn_22 : decode cX6_bridgeOn 22 = .ok (.iload_n 2, 1) := by decide +kernel
theorem dX6_bridgeOn_23 : decode cX6_bridgeOn 23 = .ok (.iadd, 1) := by decide +kernel
theorem dX6_bridgeOn_24 : decode cX6_bridgeOn 24 = .ok (.iaload, 1) := by decide +kernel
theorem dX6_bridgeOn_25 : decode cX6_bridgeOn 25 = .ok (.iconst 1, 1) := by decide +kernel
theorem dX6_bridgeOn_26 : decode cX6_bridgeOn 26 = .ok (.if_icmp .ne 7, 3) := by decide +kernel
theorem dX6_bridgeOn_29 : decode cX6_bridgeOn 29 = .ok (.iconst 3, 1) := by decide +kernel
theorem dX6_bridgeOn_30 : decode cX6_bridgeOn 30 = .ok (.goto 21, 3) := by decide +kernel
theorem dX6_bridgeOn_33 : decode cX6_bridgeOn 33 = .ok (.aload_n 0, 1) := by decide +kernel
theorem dX6_bridgeOn_34 : decode cX6_bridgeOn 34 = .ok (.getfield 7, 3) := by decide +kernel
theorem dX6_bridgeOn_37 : decode cX6_bridgeOn 37 = .ok (.bipush 28, 2) := by decide +kernel
theorem dX6_bridgeOn_39 : decode cX6_bridgeOn 39 = .ok (.iload_n 2, 1) := by decide +kernel
theorem dX6_bridgeOn_40 : decode cX6_bridgeOn 40 = .ok (.iadd, 1) := by decide +kernel
theorem dX6_bridgeOn_41 : decode cX6_bridgeOn 41 = .ok (.iaload, 1) := by decide +kernel
theorem dX6_bridgeOn_42 : decode cX6_bridgeOn 42 = .ok (.iconst 1, 1) := by decide +kernel
theorem dX6_bridgeOn_43 : decode cX6_bridgeOn 43 = .ok (.if_icmp .ne 7, 3) := by decide +kernel
theorem dX6_bridgeOn_46 : decode cX6_bridgeOn 46 = .ok (.iconst 2, 1) := by decide +kernel
theorem dX6_bridgeOn_47 : decode cX6_bridgeOn 47 = .ok (.goto 4, 3) := by decide +kernel
theorem dX6_bridgeOn_50 : decode cX6_bridgeOn 50 = .ok (.iconst 1, 1) := by decide +kernel
theorem dX6_bridgeOn_51 : decode cX6_bridgeOn 51 = .ok (.ireturn, 1) := by decide +kernel
theorem dX6_mendedIn_0 : decode cX6_mendedIn 0 = .ok (.aload_n 0, 1) := by decide +kernel
theorem dX6_mendedIn_1 : decode cX6_mendedIn 1 = .ok (.iload_n 1, 1) := by decide +kernel
theorem dX6_mendedIn_2 : decode cX6_mendedIn 2 = .ok (.invokevirtual 71, 3) := by decide +kernel
theorem dX6_mendedIn_5 : decode cX6_mendedIn 5 = .ok (.ifCond .eq 13, 3) := by decide +kernel
theorem dX6_mendedIn_8 : decode cX6_mendedIn 8 = .ok (.aload_n 0, 1) := by decide +kernel
theorem dX6_mendedIn_9 : decode cX6_mendedIn 9 = .ok (.getfield 7, 3) := by decide +kernel
theorem dX6_mendedIn_12 : decode cX6_mendedIn 12 = .ok (.bipush 37, 2) := by decide +kernel
theorem dX6_mendedIn_14 : decode cX6_mendedIn 14 = .ok (.iaload, 1) := by decide +kernel
theorem dX6_mendedIn_15 : decode cX6_mendedIn 15 = .ok (.ifCond .ne 6, 3) := by decide +kernel
theorem dX6_mendedIn_18 : decode cX6_mendedIn 18 = .ok (.bipush (-6), 2) := by decide +kernel
theorem dX6_mendedIn_20 : decode cX6_mendedIn 20 = .ok (.ireturn, 1) := by decide +kernel
theorem dX6_mendedIn_21 : decode cX6_mendedIn 21 = .ok (.aload_n 0, 1) := by decide +kernel
theorem dX6_mendedIn_22 : decode cX6_mendedIn 22 = .ok (.getfield 7, 3) := by decide +kernel
theorem dX6_mendedIn_25 : decode cX6_mendedIn 25 = .ok (.bipush 37, 2) := by decide +kernel
theorem dX6_mendedIn_27 : decode cX6_mendedIn 27 = .ok (.iaload, 1) := by decide +kernel
theorem dX6_mendedIn_28 : decode cX6_mendedIn 28 = .ok (.aload_n 0, 1) := by decide +kernel
theorem dX6_mendedIn_29 : decode cX6_mendedIn 29 = .ok (.getfield 7, 3) := by decide +kernel
theorem dX6_mendedIn_32 : decode cX6_mendedIn 32 = .ok (.bipush 42, 2) := by decide +kernel
theorem dX6_mendedIn_34 : decode cX6_mendedIn 34 = .ok (.iaload, 1) := by decide +kernel
theorem dX6_mendedIn_35 : decode cX6_mendedIn 35 = .ok (.aload_n 0, 1) := by decide +kernel
theorem dX6_mendedIn_36 : decode cX6_mendedIn 36 = .ok (.getfield 7, 3) := by decide +kernel
theorem dX6_mendedIn_39 : decode cX6_mendedIn 39 = .ok (.bipush 32, 2) := by decide +kernel
theorem dX6_mendedIn_41 : decode cX6_mendedIn 41 = .ok (.iload_n 1, 1) := by decide +kernel
theorem dX6_mendedIn_42 : decode cX6_mendedIn 42 = .ok (.bipush 8, 2) := by decide +kernel
theorem dX6_mendedIn_44 : decode cX6_mendedIn 44 = .ok (.idiv, 1) := by decide +kernel
theorem dX6_mendedIn_45 : decode cX6_mendedIn 45 = .ok (.iadd, 1) := by decide +kernel
theorem dX6_mendedIn_46 : decode cX6_mendedIn 46 = .ok (.iaload, 1) := by decide +kernel
theorem dX6_mendedIn_47 : decode cX6_mendedIn 47 = .ok (.isub, 1) := by decide +kernel
theorem dX6_mendedIn_48 : decode cX6_mendedIn 48 = .ok (.isub, 1) := by decide +kernel
theorem dX6_mendedIn_49 : decode cX6_mendedIn 49 = .ok (.istore_n 2, 1) := by decide +kernel
theorem dX6_mendedIn_50 : decode cX6_mendedIn 50 = .ok (.iload_n 2, 1) := by decide +kernel
theorem dX6_mendedIn_51 : decode cX6_mendedIn 51 = .ok (.iconst 1, 1) := by decide +kernel
theorem dX6_mendedIn_52 : decode cX6_mendedIn 52 = .ok (.if_icmp .ge 7, 3) := by decide +kernel
theorem dX6_mendedIn_55 : decode cX6_mendedIn 55 = .ok (.iconst 1, 1) := by decide +kernel
theorem dX6_mendedIn_56 : decode cX6_mendedIn 56 = .ok (.goto 4, 3) := by decide +kernel
theorem dX6_mendedIn_59 : decode cX6_mendedIn 59 = .ok (.iload_n 2, 1) := by decide +kernel
theorem dX6_mendedIn_60 : decode cX6_mendedIn 60 = .ok (.ireturn, 1) := by decide +kernel
theorem dX6_field_0 : decode cX6_field 0 = .ok (.iload_n 1, 1) := by decide +kernel
theorem dX6_field_1 : decode cX6_field 1 = .ok (.iconst 0, 1) := by decide +kernel
theorem dX6_field_2 : decode cX6_field 2 = .ok (.bipush 31, 2) := by decide +kernel
theorem dX6_field_4 : decode cX6_field 4 = .ok (.invokestatic 32, 3) := by decide +kernel
theorem dX6_field_7 : decode cX6_field 7 = .ok (.ifCond .ne 5, 3) := by decide +kernel
theorem dX6_field_10 : decode cX6_field 10 = .ok (.iconst (-1), 1) := by decide +kernel
theorem dX6_field_11 : decode cX6_field 11 = .ok (.ireturn, 1) := by decide +kernel
theorem dX6_field_12 : decode cX6_field 12 = .ok (.iload_n 2, 1) := by decide +kernel
theorem dX6_field_13 : decode cX6_field 13 = .ok (.tableswitch 72 0 4 #[35, 41, 47, 60, 66], 35) := by decide +kernel
theorem dX6_field_48 : decode cX6_field 48 = .ok (.aload_n 0, 1) := by decide +kernel
theorem dX6_field_49 : decode cX6_field 49 = .ok (.iload_n 1, 1) := by decide +kernel
theorem dX6_field_50 : decode cX6_field 50 = .ok (.invokevirtual 61, 3) := by decide +kernel
theorem dX6_field_53 : decode cX6_field 53 = .ok (.ireturn, 1) := by decide +kernel
theorem dX6_field_54 : decode cX6_field 54 = .ok (.aload_n 0, 1) := by decide +kernel
theorem dX6_field_55 : decode cX6_field 55 = .ok (.iload_n 1, 1) := by decide +kernel
theorem dX6_field_56 : decode cX6_field 56 = .ok (.invokevirtual 149, 3) := by decide +kernel
theorem dX6_field_59 : decode cX6_field 59 = .ok (.ireturn, 1) := by decide +kernel
theorem dX6_field_60 : decode cX6_field 60 = .ok (.iload_n 1, 1) := by decide +kernel
theorem dX6_field_61 : decode cX6_field 61 = .ok (.invokestatic 85, 3) := by decide +kernel
theorem dX6_field_64 : decode cX6_field 64 = .ok (.ifCond .eq 7, 3) := by decide +kernel
theorem dX6_field_67 : decode cX6_field 67 = .ok (.iconst 1, 1) := by decide +kernel
theorem dX6_field_68 : decode cX6_field 68 = .ok (.goto 4, 3) := by decide +kernel
theorem dX6_field_71 : decode cX6_field 71 = .ok (.iconst 0, 1) := by decide +kernel
theorem dX6_field_72 : decode cX6_field 72 = .ok (.ireturn, 1) := by decide +kernel
theorem dX6_field_73 : decode cX6_field 73 = .ok (.aload_n 0, 1) := by decide +kernel
theorem dX6_field_74 : decode cX6_field 74 = .ok (.iload_n 1, 1) := by decide +kernel
theorem dX6_field_75 : decode cX6_field 75 = .ok (.invokevirtual 152, 3) := by decide +kernel
theorem dX6_field_78 : decode cX6_field 78 = .ok (.ireturn, 1) := by decide +kernel
theorem dX6_field_79 : decode cX6_field 79 = .ok (.aload_n 0, 1) := by decide +kernel
theorem dX6_field_80 : decode cX6_field 80 = .ok (.iload_n 1, 1) := by decide +kernel
theorem dX6_field_81 : decode cX6_field 81 = .ok (.invokevirtual 155, 3) := by decide +kernel
theorem dX6_field_84 : decode cX6_field 84 = .ok (.ireturn, 1) := by decide +kernel
theorem dX6_field_85 : decode cX6_field 85 = .ok (.bipush (-2), 2) := by decide +kernel
theorem dX6_field_87 : decode cX6_field 87 = .ok (.ireturn, 1) := by decide +kernel
theorem dX6_why_0 : decode cX6_why 0 = .ok (.iload_n 1, 1) := by decide +kernel
theorem dX6_why_1 : decode cX6_why 1 = .ok (.invokestatic 146, 3) := by decide +kernel
theorem dX6_why_4 : decode cX6_why 4 = .ok (.ifCond .ne 7, 3) := by decide +kernel
theorem dX6_why_7 : decode cX6_why 7 = .ok (.iconst (-1), 1) := by decide +kernel
theorem dX6_why_8 : decode cX6_why 8 = .ok (.goto 24, 3) := by decide +kernel
theorem dX6_why_11 : decode cX6_why 11 = .ok (.iload_n 2, 1) := by decide +kernel
theorem dX6_why_12 : decode cX6_why 12 = .ok (.iconst 1, 1) := by decide +kernel
theorem dX6_why_13 : decode cX6_why 13 = .ok (.bipush 6, 2) := by decide +kernel
theorem dX6_why_15 : decode cX6_why 15 = .ok (.invokestatic 32, 3) := by decide +kernel
theorem dX6_why_18 : decode cX6_why 18 = .ok (.ifCond .eq 12, 3) := by decide +kernel
theorem dX6_why_21 : decode cX6_why 21 = .ok (.aload_n 0, 1) := by decide +kernel
theorem dX6_why_22 : decode cX6_why 22 = .ok (.iload_n 1, 1) := by decide +kernel
theorem dX6_why_23 : decode cX6_why 23 = .ok (.iload_n 2, 1) := by decide +kernel
theorem dX6_why_24 : decode cX6_why 24 = .ok (.invokevirtual 88, 3) := by decide +kernel
theorem dX6_why_27 : decode cX6_why 27 = .ok (.goto 5, 3) := by decide +kernel
theorem dX6_why_30 : decode cX6_why 30 = .ok (.bipush (-2), 2) := by decide +kernel
theorem dX6_why_32 : decode cX6_why 32 = .ok (.ireturn, 1) := by decide +kernel
theorem dX6_fallenBridges_0 : decode cX6_fallenBridges 0 = .ok (.iconst 0, 1) := by decide +kernel
theorem dX6_fallenBridges_1 : decode cX6_fallenBridges 1 = .ok (.istore_n 1, 1) := by decide +kernel
theorem dX6_fallenBridges_2 : decode cX6_fallenBridges 2 = .ok (.iconst 0, 1) := by decide +kernel
theorem dX6_fallenBridges_3 : decode cX6_fallenBridges 3 = .ok (.istore_n 2, 1) := by decide +kernel
theorem dX6_fallenBridges_4 : decode cX6_fallenBridges 4 = .ok (.iload_n 2, 1) := by decide +kernel
theorem dX6_fallenBridges_5 : decode cX6_fallenBridges 5 = .ok (.iconst 4, 1) := by decide +kernel
theorem dX6_fallenBridges_6 : decode cX6_fallenBridges 6 = .ok (.if_icmp .ge 23, 3) := by decide +kernel
theorem dX6_fallenBridges_9 : decode cX6_fallenBridges 9 = .ok (.iload_n 1, 1) := by decide +kernel
theorem dX6_fallenBridges_10 : decode cX6_fallenBridges 10 = .ok (.aload_n 0, 1) := by decide +kernel
theorem dX6_fallenBridges_11 : decode cX6_fallenBridges 11 = .ok (.getfield 7, 3) := by decide +kernel
theorem dX6_fallenBridges_14 : decode cX6_fallenBridges 14 = .ok (.bipush 24, 2) := by decide +kernel
theorem dX6_fallenBridges_16 : decode cX6_fallenBridges 16 = .ok (.iload_n 2, 1) := by decide +kernel
theorem dX6_fallenBridges_17 : decode cX6_fallenBridges 17 = .ok (.iadd, 1) := by decide +kernel
theorem dX6_fallenBridges_18 : decode cX6_fallenBridges 18 = .ok (.iaload, 1) := by decide +kernel
theorem dX6_fallenBridges_19 : decode cX6_fallenBridges 19 = .ok (.iload_n 2, 1) := by decide +kernel
theorem dX6_fallenBridges_20 : decode cX6_fallenBridges 20 = .ok (.ishl, 1) := by decide +kernel
theorem dX6_fallenBridges_21 : decode cX6_fallenBridges 21 = .ok (.ior, 1) := by decide +kernel
theorem dX6_fallenBridges_22 : decode cX6_fallenBridges 22 = .ok (.istore_n 1, 1) := by decide +kernel
theorem dX6_fallenBridges_23 : decode cX6_fallenBridges 23 = .ok (.iinc 2 1, 3) := by decide +kernel
theorem dX6_fallenBridges_26 : decode cX6_fallenBridges 26 = .ok (.goto (-22), 3) := by decide +kernel
theorem dX6_fallenBridges_29 : decode cX6_fallenBridges 29 = .ok (.iload_n 1, 1) := by decide +kernel
theorem dX6_fallenBridges_30 : decode cX6_fallenBridges 30 = .ok (.ireturn, 1) := by decide +kernel
theorem dX6_count_0 : decode cX6_count 0 = .ok (.iload_n 1, 1) := by decide +kernel
theorem dX6_count_1 : decode cX6_count 1 = .ok (.iconst 0, 1) := by decide +kernel
theorem dX6_count_2 : decode cX6_count 2 = .ok (.bipush 7, 2) := by decide +kernel
theorem dX6_count_4 : decode cX6_count 4 = .ok (.invokestatic 32, 3) := by decide +kernel
theorem dX6_count_7 : decode cX6_count 7 = .ok (.ifCond .eq 13, 3) := by decide +kernel
theorem dX6_count_10 : decode cX6_count 10 = .ok (.aload_n 0, 1) := by decide +kernel
theorem dX6_count_11 : decode cX6_count 11 = .ok (.getfield 7, 3) := by decide +kernel
theorem dX6_count_14 : decode cX6_count 14 = .ok (.bipush 36, 2) := by decide +kernel
theorem dX6_count_16 : decode cX6_count 16 = .ok (.iload_n 1, 1) := by decide +kernel
theorem dX6_count_17 : decode cX6_count 17 = .ok (.iadd, 1) := by decide +kernel
theorem dX6_count_18 : decode cX6_count 18 = .ok (.iaload, 1) := by decide +kernel
theorem dX6_count_19 : decode cX6_count 19 = .ok (.ireturn, 1) := by decide +kernel
theorem dX6_count_20 : decode cX6_count 20 = .ok (.iload_n 1, 1) := by decide +kernel
theorem dX6_count_21 : decode cX6_count 21 = .ok (.bipush 9, 2) := by decide +kernel
theorem dX6_count_23 : decode cX6_count 23 = .ok (.bipush 12, 2) := by decide +kernel
theorem dX6_count_25 : decode cX6_count 25 = .ok (.invokestatic 32, 3) := by decide +kernel
theorem dX6_count_28 : decode cX6_count 28 = .ok (.ifCond .eq 12, 3) := by decide +kernel
theorem dX6_count_31 : decode cX6_count 31 = .ok (.aload_n 0, 1) := by decide +kernel
theorem dX6_count_32 : decode cX6_count 32 = .ok (.iload_n 1, 1) := by decide +kernel
theorem dX6_count_33 : decode cX6_count 33 = .ok (.bipush 9, 2) := by decide +kernel
theorem dX6_count_35 : decode cX6_count 35 = .ok (.isub, 1) := by decide +kernel
theorem dX6_count_36 : decode cX6_count 36 = .ok (.invokevirtual 51, 3) := by decide +kernel
theorem dX6_count_39 : decode cX6_count 39 = .ok (.ireturn, 1) := by decide +kernel
theorem dX6_count_40 : decode cX6_count 40 = .ok (.iload_n 1, 1) := by decide +kernel
theorem dX6_count_41 : decode cX6_count 41 = .ok (.tableswitch 91 8 17 #[55, 91, 91, 91, 91, 60, 68, 73, 81, 86], 55) := by decide +kernel
theorem dX6_count_96 : decode cX6_count 96 = .ok (.aload_n 0, 1) := by decide +kernel
theorem dX6_count_97 : decode cX6_count 97 = .ok (.invokevirtual 54, 3) := by decide +kernel
theorem dX6_count_100 : decode cX6_count 100 = .ok (.ireturn, 1) := by decide +kernel
theorem dX6_count_101 : decode cX6_count 101 = .ok (.aload_n 0, 1) := by decide +kernel
theorem dX6_count_102 : decode cX6_count 102 = .ok (.getfield 7, 3) := by decide +kernel
theorem dX6_count_105 : decode cX6_count 105 = .ok (.bipush 44, 2) := by decide +kernel
theorem dX6_count_107 : decode cX6_count 107 = .ok (.iaload, 1) := by decide +kernel
theorem dX6_count_108 : decode cX6_count 108 = .ok (.ireturn, 1) := by decide +kernel
theorem dX6_count_109 : decode cX6_count 109 = .ok (.aload_n 0, 1) := by decide +kernel
theorem dX6_count_110 : decode cX6_count 110 = .ok (.invokevirtual 158, 3) := by decide +kernel
theorem dX6_count_113 : decode cX6_count 113 = .ok (.ireturn, 1) := by decide +kernel
theorem dX6_count_114 : decode cX6_count 114 = .ok (.aload_n 0, 1) := by decide +kernel
theorem dX6_count_115 : decode cX6_count 115 = .ok (.getfield 7, 3) := by decide +kernel
theorem dX6_count_118 : decode cX6_count 118 = .ok (.bipush 45, 2) := by decide +kernel
theorem dX6_count_120 : decode cX6_count 120 = .ok (.iaload, 1) := by decide +kernel
theorem dX6_count_121 : decode cX6_count 121 = .ok (.ireturn, 1) := by decide +kernel
theorem dX6_count_122 : decode cX6_count 122 = .ok (.aload_n 0, 1) := by decide +kernel
theorem dX6_count_123 : decode cX6_count 123 = .ok (.getfield 143, 3) := by decide +kernel
theorem dX6_count_126 : decode cX6_count 126 = .ok (.ireturn, 1) := by decide +kernel
theorem dX6_count_127 : decode cX6_count 127 = .ok (.aload_n 0, 1) := by decide +kernel
theorem dX6_count_128 : decode cX6_count 128 = .ok (.getfield 64, 3) := by decide +kernel
theorem dX6_count_131 : decode cX6_count 131 = .ok (.ireturn, 1) := by decide +kernel
theorem dX6_count_132 : decode cX6_count 132 = .ok (.bipush (-2), 2) := by decide +kernel
theorem dX6_count_134 : decode cX6_count 134 = .ok (.ireturn, 1) := by decide +kernel
theorem dX6_kindOf_0 : decode cX6_kindOf 0 = .ok (.aload_n 0, 1) := by decide +kernel
theorem dX6_kindOf_1 : decode cX6_kindOf 1 = .ok (.iload_n 1, 1) := by decide +kernel
theorem dX6_kindOf_2 : decode cX6_kindOf 2 = .ok (.iload_n 2, 1) := by decide +kernel
theorem dX6_kindOf_3 : decode cX6_kindOf 3 = .ok (.invokevirtual 88, 3) := by decide +kernel
theorem dX6_kindOf_6 : decode cX6_kindOf 6 = .ok (.pop, 1) := by decide +kernel
theorem dX6_kindOf_7 : decode cX6_kindOf 7 = .ok (.iload_n 1, 1) := by decide +kernel
theorem dX6_kindOf_8 : decode cX6_kindOf 8 = .ok (.iconst 3, 1) := by decide +kernel
theorem dX6_kindOf_9 : decode cX6_kindOf 9 = .ok (.idiv, 1) := by decide +kernel
theorem dX6_kindOf_10 : decode cX6_kindOf 10 = .ok (.istore_n 3, 1) := by decide +kernel
theorem dX6_kindOf_11 : decode cX6_kindOf 11 = .ok (.iload_n 3, 1) := by decide +kernel
theorem dX6_kindOf_12 : decode cX6_kindOf 12 = .ok (.aload_n 0, 1) := by decide +kernel
theorem dX6_kindOf_13 : decode cX6_kindOf 13 = .ok (.getfield 78, 3) := by decide +kernel
theorem dX6_kindOf_16 : decode cX6_kindOf 16 = .ok (.invokestatic 36, 3) := by decide +kernel
theorem dX6_kindOf_19 : decode cX6_kindOf 19 = .ok (.istore 4, 2) := by decide +kernel
theorem dX6_kindOf_21 : decode cX6_kindOf 21 = .ok (.aload_n 0, 1) := by decide +kernel
theorem dX6_kindOf_22 : decode cX6_kindOf 22 = .ok (.iload_n 3, 1) := by decide +kernel
theorem dX6_kindOf_23 : decode cX6_kindOf 23 = .ok (.iload 4, 2) := by decide +kernel
theorem dX6_kindOf_25 : decode cX6_kindOf 25 = .ok (.invokevirtual 48, 3) := by decide +kernel
theorem dX6_kindOf_28 : decode cX6_kindOf 28 = .ok (.istore 5, 2) := by decide +kernel
theorem dX6_kindOf_30 : decode cX6_kindOf 30 = .ok (.aload_n 0, 1) := by decide +kernel
theorem dX6_kindOf_31 : decode cX6_kindOf 31 = .ok (.getfield 78, 3) := by decide +kernel
theorem dX6_kindOf_34 : decode cX6_kindOf 34 = .ok (.bipush 35, 2) := by decide +kernel
theorem dX6_kindOf_36 : decode cX6_kindOf 36 = .ok (.if_icmp .ne 7, 3) := by decide +kernel
theorem dX6_kindOf_39 : decode cX6_kindOf 39 = .ok (.iconst 3, 1) := by decide +kernel
theorem dX6_kindOf_40 : decode cX6_kindOf 40 = .ok (.goto 27, 3) := by decide +kernel
theorem dX6_kindOf_43 : decode cX6_kindOf 43 = .ok (.aload_n 0, 1) := by decide +kernel
theorem dX6_kindOf_44 : decode cX6_kindOf 44 = .ok (.iload_n 3, 1) := by decide +kernel
theorem dX6_kindOf_45 : decode cX6_kindOf 45 = .ok (.iload 4, 2) := by decide +kernel
theorem dX6_kindOf_47 : decode cX6_kindOf 47 = .ok (.invokevirtual 91, 3) := by decide +kernel
theorem dX6_kindOf_50 : decode cX6_kindOf 50 = .ok (.ifCond .lt 7, 3) := by decide +kernel
theorem dX6_kindOf_53 : decode cX6_kindOf 53 = .ok (.iconst 2, 1) := by decide +kernel
theorem dX6_kindOf_54 : decode cX6_kindOf 54 = .ok (.goto 13, 3) := by decide +kernel
theorem dX6_kindOf_57 : decode cX6_kindOf 57 = .ok (.iload 5, 2) := by decide +kernel
theorem dX6_kindOf_59 : decode cX6_kindOf 59 = .ok (.ifCond .le 7, 3) := by decide +kernel
theorem dX6_kindOf_62 : decode cX6_kindOf 62 = .ok (.iconst 1, 1) := by decide +kernel
theorem dX6_kindOf_63 : decode cX6_kindOf 63 = .ok (.goto 4, 3) := by decide +kernel
theorem dX6_kindOf_66 : decode cX6_kindOf 66 = .ok (.iconst 0, 1) := by decide +kernel
theorem dX6_kindOf_67 : decode cX6_kindOf 67 = .ok (.ireturn, 1) := by decide +kernel
theorem dX6_bestPiece_0 : decode cX6_bestPiece 0 = .ok (.bipush (-6), 2) := by decide +kernel
theorem dX6_bestPiece_2 : decode cX6_bestPiece 2 = .ok (.istore_n 1, 1) := by decide +kernel
theorem dX6_bestPiece_3 : decode cX6_bestPiece 3 = .ok (.iconst 0, 1) := by decide +kernel
theorem dX6_bestPiece_4 : decode cX6_bestPiece 4 = .ok (.istore_n 2, 1) := by decide +kernel
theorem dX6_bestPiece_5 : decode cX6_bestPiece 5 = .ok (.iconst 0, 1) := by decide +kernel
theorem dX6_bestPiece_6 : decode cX6_bestPiece 6 = .ok (.istore_n 3, 1) := by decide +kernel
theorem dX6_bestPiece_7 : decode cX6_bestPiece 7 = .ok (.iload_n 3, 1) := by decide +kernel
theorem dX6_bestPiece_8 : decode cX6_bestPiece 8 = .ok (.iconst 3, 1) := by decide +kernel
theorem dX6_bestPiece_9 : decode cX6_bestPiece 9 = .ok (.if_icmp .ge 97, 3) := by decide +kernel
theorem dX6_bestPiece_12 : decode cX6_bestPiece 12 = .ok (.iconst 3, 1) := by decide +kernel
theorem dX6_bestPiece_13 : decode cX6_bestPiece 13 = .ok (.aload_n 0, 1) := by decide +kernel
theorem dX6_bestPiece_14 : decode cX6_bestPiece 14 = .ok (.getfield 7, 3) := by decide +kernel
theorem dX6_bestPiece_17 : decode cX6_bestPiece 17 = .ok (.bipush 40, 2) := by decide +kernel
theorem dX6_bestPiece_19 : decode cX6_bestPiece 19 = .ok (.iaload, 1) := by decide +kernel
theorem dX6_bestPiece_20 : decode cX6_bestPiece 20 = .ok (.imul, 1) := by decide +kernel
theorem dX6_bestPiece_21 : decode cX6_bestPiece 21 = .ok (.iload_n 3, 1) := by decide +kernel
theorem dX6_bestPiece_22 : decode cX6_bestPiece 22 = .ok (.iadd, 1) := by decide +kernel
theorem dX6_bestPiece_23 : decode cX6_bestPiece 23 = .ok (.istore 4, 2) := by decide +kernel
theorem dX6_bestPiece_25 : decode cX6_bestPiece 25 = .ok (.aload_n 0, 1) := by decide +kernel
theorem dX6_bestPiece_26 : decode cX6_bestPiece 26 = .ok (.iload 4, 2) := by decide +kernel
theorem dX6_bestPiece_28 : decode cX6_bestPiece 28 = .ok (.aload_n 0, 1) := by decide +kernel
theorem dX6_bestPiece_29 : decode cX6_bestPiece 29 = .ok (.getfield 7, 3) := by decide +kernel
theorem dX6_bestPiece_32 : decode cX6_bestPiece 32 = .ok (.bipush 41, 2) := by decide +kernel
theorem dX6_bestPiece_34 : decode cX6_bestPiece 34 = .ok (.iaload, 1) := by decide +kernel
theorem dX6_bestPiece_35 : decode cX6_bestPiece 35 = .ok (.invokevirtual 88, 3) := by decide +kernel
theorem dX6_bestPiece_38 : decode cX6_bestPiece 38 = .ok (.ifCond .ne 62, 3) := by decide +kernel
theorem dX6_bestPiece_41 : decode cX6_bestPiece 41 = .ok (.bipush 100, 2) := by decide +kernel
theorem dX6_bestPiece_43 : decode cX6_bestPiece 43 = .ok (.aload_n 0, 1) := by decide +kernel
theorem dX6_bestPiece_44 : decode cX6_bestPiece 44 = .ok (.iload 4, 2) := by decide +kernel
theorem dX6_bestPiece_46 : decode cX6_bestPiece 46 = .ok (.aload_n 0, 1) := by decide +kernel
theorem dX6_bestPiece_47 : decode cX6_bestPiece 47 = .ok (.getfield 7, 3) := by decide +kernel
theorem dX6_bestPiece_50 : decode cX6_bestPiece 50 = .ok (.bipush 41, 2) := by decide +kernel
theorem dX6_bestPiece_52 : decode cX6_bestPiece 52 = .ok (.iaload, 1) := by decide +kernel
theorem dX6_bestPiece_53 : decode cX6_bestPiece 53 = .ok (.invokevirtual 161, 3) := by decide +kernel
theorem dX6_bestPiece_56 : decode cX6_bestPiece 56 = .ok (.imul, 1) := by decide +kernel
theorem dX6_bestPiece_57 : decode cX6_bestPiece 57 = .ok (.aload_n 0, 1) := by decide +kernel
theorem dX6_bestPiece_58 : decode cX6_bestPiece 58 = .ok (.getfield 7, 3) := by decide +kernel
theorem dX6_bestPiece_61 : decode cX6_bestPiece 61 = .ok (.iload 4, 2) := by decide +kernel
theorem dX6_bestPiece_63 : decode cX6_bestPiece 63 = .ok (.iaload, 1) := by decide +kernel
theorem dX6_bestPiece_64 : decode cX6_bestPiece 64 = .ok (.bipush (-6), 2) := by decide +kernel
theorem dX6_bestPiece_66 : decode cX6_bestPiece 66 = .ok (.if_icmp .ne 7, 3) := by decide +kernel
theorem dX6_bestPiece_69 : decode cX6_bestPiece 69 = .ok (.iconst 0, 1) := by decide +kernel
theorem dX6_bestPiece_70 : decode cX6_bestPiece 70 = .ok (.goto 12, 3) := by decide +kernel
theorem dX6_bestPiece_73 : decode cX6_bestPiece 73 = .ok (.aload_n 0, 1) := by decide +kernel
theorem dX6_bestPiece_74 : decode cX6_bestPiece 74 = .ok (.getfield 7, 3) := by decide +kernel
theorem dX6_bestPiece_77 : decode cX6_bestPiece 77 = .ok (.iload 4, 2) := by decide +kernel
theorem dX6_bestPiece_79 : decode cX6_bestPiece 79 = .ok (.iaload, 1) := by decide +kernel
theorem dX6_bestPiece_80 : decode cX6_bestPiece 80 = .ok (.iconst 1, 1) := by decide +kernel
theorem dX6_bestPiece_81 : decode cX6_bestPiece 81 = .ok (.iadd, 1) := by decide +kernel
theorem dX6_bestPiece_82 : decode cX6_bestPiece 82 = .ok (.iadd, 1) := by decide +kernel
theorem dX6_bestPiece_83 : decode cX6_bestPiece 83 = .ok (.istore 5, 2) := by decide +kernel
theorem dX6_bestPiece_85 : decode cX6_bestPiece 85 = .ok (.iload_n 1, 1) := by decide +kernel
theorem dX6_bestPiece_86 : decode cX6_bestPiece 86 = .ok (.ifCond .lt 9, 3) := by decide +kernel
theorem dX6_bestPiece_89 : decode cX6_bestPiece 89 = .ok (.iload 5, 2) := by decide +kernel
theorem dX6_bestPiece_91 : decode cX6_bestPiece 91 = .ok (.iload_n 2, 1) := by decide +kernel
theorem dX6_bestPiece_92 : decode cX6_bestPiece 92 = .ok (.if_icmp .le 8, 3) := by decide +kernel
theorem dX6_bestPiece_95 : decode cX6_bestPiece 95 = .ok (.iload_n 3, 1) := by decide +kernel
theorem dX6_bestPiece_96 : decode cX6_bestPiece 96 = .ok (.istore_n 1, 1) := by decide +kernel
theorem dX6_bestPiece_97 : decode cX6_bestPiece 97 = .ok (.iload 5, 2) := by decide +kernel
theorem dX6_bestPiece_99 : decode cX6_bestPiece 99 = .ok (.istore_n 2, 1) := by decide +kernel
theorem dX6_bestPiece_100 : decode cX6_bestPiece 100 = .ok (.iinc 3 1, 3) := by decide +kernel
theorem dX6_bestPiece_103 : decode cX6_bestPiece 103 = .ok (.goto (-96), 3) := by decide +kernel
theorem dX6_bestPiece_106 : decode cX6_bestPiece 106 = .ok (.iload_n 1, 1) := by decide +kernel
theorem dX6_bestPiece_107 : decode cX6_bestPiece 107 = .ok (.ireturn, 1) := by decide +kernel
theorem dX6_best_0 : decode cX6_best 0 = .ok (.aload_n 0, 1) := by decide +kernel
theorem dX6_best_1 : decode cX6_best 1 = .ok (.invokevirtual 114, 3) := by decide +kernel
theorem dX6_best_4 : decode cX6_best 4 = .ok (.ifCond .eq 10, 3) := by decide +kernel
theorem dX6_best_7 : decode cX6_best 7 = .ok (.aload_n 0, 1) := by decide +kernel
theorem dX6_best_8 : decode cX6_best 8 = .ok (.invokevirtual 134, 3) := by decide +kernel
theorem dX6_best_11 : decode cX6_best 11 = .ok (.goto 5, 3) := by decide +kernel
theorem dX6_best_14 : decode cX6_best 14 = .ok (.bipush (-5), 2) := by decide +kernel
theorem dX6_best_16 : decode cX6_best 16 = .ok (.ireturn, 1) := by decide +kernel
theorem dX6_throwsNeeded_0 : decode cX6_throwsNeeded 0 = .ok (.iload_n 1, 1) := by decide +kernel
theorem dX6_throwsNeeded_1 : decode cX6_throwsNeeded 1 = .ok (.iconst 3, 1) := by decide +kernel
theorem dX6_throwsNeeded_2 : decode cX6_throwsNeeded 2 = .ok (.idiv, 1) := by decide +kernel
theorem dX6_throwsNeeded_3 : decode cX6_throwsNeeded 3 = .ok (.istore_n 2, 1) := by decide +kernel
theorem dX6_throwsNeeded_4 : decode cX6_throwsNeeded 4 = .ok (.aload_n 0, 1) := by decide +kernel
theorem dX6_throwsNeeded_5 : decode cX6_throwsNeeded 5 = .ok (.getfield 29, 3) := by decide +kernel
theorem dX6_throwsNeeded_8 : decode cX6_throwsNeeded 8 = .ok (.bipush 35, 2) := by decide +kernel
theorem dX6_throwsNeeded_10 : decode cX6_throwsNeeded 10 = .ok (.iconst 0, 1) := by decide +kernel
theorem dX6_throwsNeeded_11 : decode cX6_throwsNeeded 11 = .ok (.iastore, 1) := by decide +kernel
theorem dX6_throwsNeeded_12 : decode cX6_throwsNeeded 12 = .ok (.bipush 34, 2) := by decide +kernel
theorem dX6_throwsNeeded_14 : decode cX6_throwsNeeded 14 = .ok (.istore_n 3, 1) := by decide +kernel
theorem dX6_throwsNeeded_15 : decode cX6_throwsNeeded 15 = .ok (.iload_n 3, 1) := by decide +kernel
theorem dX6_throwsNeeded_16 : decode cX6_throwsNeeded 16 = .ok (.ifCond .lt 91, 3) := by decide +kernel
theorem dX6_throwsNeeded_19 : decode cX6_throwsNeeded 19 = .ok (.aload_n 0, 1) := by decide +kernel
theorem dX6_throwsNeeded_20 : decode cX6_throwsNeeded 20 = .ok (.getfield 29, 3) := by decide +kernel
theorem dX6_throwsNeeded_23 : decode cX6_throwsNeeded 23 = .ok (.iload_n 3, 1) := by decide +kernel
theorem dX6_throwsNeeded_24 : decode cX6_throwsNeeded 24 = .ok (.sipush 400, 3) := by decide +kernel
theorem dX6_throwsNeeded_27 : decode cX6_throwsNeeded 27 = .ok (.iastore, 1) := by decide +kernel
theorem dX6_throwsNeeded_28 : decode cX6_throwsNeeded 28 = .ok (.iconst 1, 1) := by decide +kernel
theorem dX6_throwsNeeded_29 : decode cX6_throwsNeeded 29 = .ok (.istore 4, 2) := by decide +kernel
theorem dX6_throwsNeeded_31 : decode cX6_throwsNeeded 31 = .ok (.iload 4, 2) := by decide +kernel
theorem dX6_throwsNeeded_33 : decode cX6_throwsNeeded 33 = .ok (.bipush 6, 2) := by decide +kernel
theorem dX6_throwsNeeded_35 : decode cX6_throwsNeeded 35 = .ok (.if_icmp .gt 66, 3) := by decide +kernel
theorem dX6_throwsNeeded_38 : decode cX6_throwsNeeded 38 = .ok (.aload_n 0, 1) := by decide +kernel
theorem dX6_throwsNeeded_39 : decode cX6_throwsNeeded 39 = .ok (.iload_n 2, 1) := by decide +kernel
theorem dX6_throwsNeeded_40 : decode cX6_throwsNeeded 40 = .ok (.iload_n 3, 1) := by decide +kernel
theorem dX6_throwsNeeded_41 : decode cX6_throwsNeeded 41 = .ok (.iload 4, 2) := by decide +kernel
theorem dX6_throwsNeeded_43 : decode cX6_throwsNeeded 43 = .ok (.invokevirtual 74, 3) := by decide +kernel
theorem dX6_throwsNeeded_46 : decode cX6_throwsNeeded 46 = .ok (.istore 5, 2) := by decide +kernel
theorem dX6_throwsNeeded_48 : decode cX6_throwsNeeded 48 = .ok (.aload_n 0, 1) := by decide +kernel
theorem dX6_throwsNeeded_49 : decode cX6_throwsNeeded 49 = .ok (.getfield 29, 3) := by decide +kernel
theorem dX6_throwsNeeded_52 : decode cX6_throwsNeeded 52 = .ok (.iload_n 3, 1) := by decide +kernel
theorem dX6_throwsNeeded_53 : decode cX6_throwsNeeded 53 = .ok (.iload 5, 2) := by decide +kernel
theorem dX6_throwsNeeded_55 : decode cX6_throwsNeeded 55 = .ok (.ifCond .lt 33, 3) := by decide +kernel
theorem dX6_throwsNeeded_58 : decode cX6_throwsNeeded 58 = .ok (.aload_n 0, 1) := by decide +kernel
theorem dX6_throwsNeeded_59 : decode cX6_throwsNeeded 59 = .ok (.getfield 29, 3) := by decide +kernel
theorem dX6_throwsNeeded_62 : decode cX6_throwsNeeded 62 = .ok (.iload 5, 2) := by decide +kernel
theorem dX6_throwsNeeded_64 : decode cX6_throwsNeeded 64 = .ok (.iaload, 1) := by decide +kernel
theorem dX6_throwsNeeded_65 : decode cX6_throwsNeeded 65 = .ok (.iconst 1, 1) := by decide +kernel
theorem dX6_throwsNeeded_66 : decode cX6_throwsNeeded 66 = .ok (.iadd, 1) := by decide +kernel
theorem dX6_throwsNeeded_67 : decode cX6_throwsNeeded 67 = .ok (.aload_n 0, 1) := by decide +kernel
theorem dX6_throwsNeeded_68 : decode cX6_throwsNeeded 68 = .ok (.getfield 29, 3) := by decide +kernel
theorem dX6_throwsNeeded_71 : decode cX6_throwsNeeded 71 = .ok (.iload_n 3, 1) := by decide +kernel
theorem dX6_throwsNeeded_72 : decode cX6_throwsNeeded 72 = .ok (.iaload, 1) := by decide +kernel
theorem dX6_throwsNeeded_73 : decode cX6_throwsNeeded 73 = .ok (.if_icmp .ge 15, 3) := by decide +kernel
theorem dX6_throwsNeeded_76 : decode cX6_throwsNeeded 76 = .ok (.aload_n 0, 1) := by decide +kernel
theorem dX6_throwsNeeded_77 : decode cX6_throwsNeeded 77 = .ok (.getfield 29, 3) := by decide +kernel
theorem dX6_throwsNeeded_80 : decode cX6_throwsNeeded 80 = .ok (.iload 5, 2) := by decide +kernel
theorem dX6_throwsNeeded_82 : decode cX6_throwsNeeded 82 = .ok (.iaload, 1) := by decide +kernel
theorem dX6_throwsNeeded_83 : decode cX6_throwsNeeded 83 = .ok (.iconst 1, 1) := by decide +kernel
theorem dX6_throwsNeeded_84 : decode cX6_throwsNeeded 84 = .ok (.iadd, 1) := by decide +kernel
theorem dX6_throwsNeeded_85 : decode cX6_throwsNeeded 85 = .ok (.goto 9, 3) := by decide +kernel
theorem dX6_throwsNeeded_88 : decode cX6_throwsNeeded 88 = .ok (.aload_n 0, 1) := by decide +kernel
theorem dX6_throwsNeeded_89 : decode cX6_throwsNeeded 89 = .ok (.getfield 29, 3) := by decide +kernel
theorem dX6_throwsNeeded_92 : decode cX6_throwsNeeded 92 = .ok (.iload_n 3, 1) := by decide +kernel
theorem dX6_throwsNeeded_93 : decode cX6_throwsNeeded 93 = .ok (.iaload, 1) := by decide +kernel
theorem dX6_throwsNeeded_94 : decode cX6_throwsNeeded 94 = .ok (.iastore, 1) := by decide +kernel
theorem dX6_throwsNeeded_95 : decode cX6_throwsNeeded 95 = .ok (.iinc 4 1, 3) := by decide +kernel
theorem dX6_throwsNeeded_98 : decode cX6_throwsNeeded 98 = .ok (.goto (-67), 3) := by decide +kernel
theorem dX6_throwsNeeded_101 : decode cX6_throwsNeeded 101 = .ok (.iinc 3 (-1), 3) := by decide +kernel
theorem dX6_throwsNeeded_104 : decode cX6_throwsNeeded 104 = .ok (.goto (-89), 3) := by decide +kernel
theorem dX6_throwsNeeded_107 : decode cX6_throwsNeeded 107 = .ok (.aload_n 0, 1) := by decide +kernel
theorem dX6_throwsNeeded_108 : decode cX6_throwsNeeded 108 = .ok (.getfield 7, 3) := by decide +kernel
theorem dX6_throwsNeeded_111 : decode cX6_throwsNeeded 111 = .ok (.iload_n 1, 1) := by decide +kernel
theorem dX6_throwsNeeded_112 : decode cX6_throwsNeeded 112 = .ok (.iaload, 1) := by decide +kernel
theorem dX6_throwsNeeded_113 : decode cX6_throwsNeeded 113 = .ok (.bipush (-6), 2) := by decide +kernel
theorem dX6_throwsNeeded_115 : decode cX6_throwsNeeded 115 = .ok (.if_icmp .ne 14, 3) := by decide +kernel
theorem dX6_throwsNeeded_118 : decode cX6_throwsNeeded 118 = .ok (.aload_n 0, 1) := by decide +kernel
theorem dX6_throwsNeeded_119 : decode cX6_throwsNeeded 119 = .ok (.getfield 29, 3) := by decide +kernel
theorem dX6_throwsNeeded_122 : decode cX6_throwsNeeded 122 = .ok (.iconst 0, 1) := by decide +kernel
theorem dX6_throwsNeeded_123 : decode cX6_throwsNeeded 123 = .ok (.iaload, 1) := by decide +kernel
theorem dX6_throwsNeeded_124 : decode cX6_throwsNeeded 124 = .ok (.iconst 1, 1) := by decide +kernel
theorem dX6_throwsNeeded_125 : decode cX6_throwsNeeded 125 = .ok (.iadd, 1) := by decide +kernel
theorem dX6_throwsNeeded_126 : decode cX6_throwsNeeded 126 = .ok (.goto 14, 3) := by decide +kernel
theorem dX6_throwsNeeded_129 : decode cX6_throwsNeeded 129 = .ok (.aload_n 0, 1) := by decide +kernel
theorem dX6_throwsNeeded_130 : decode cX6_throwsNeeded 130 = .ok (.getfield 29, 3) := by decide +kernel
theorem dX6_throwsNeeded_133 : decode cX6_throwsNeeded 133 = .ok (.aload_n 0, 1) := by decide +kernel
theorem dX6_throwsNeeded_134 : decode cX6_throwsNeeded 134 = .ok (.getfield 7, 3) := by decide +kernel
theorem dX6_throwsNeeded_137 : decode cX6_throwsNeeded 137 = .ok (.iload_n 1, 1) := by decide +kernel
theorem dX6_throwsNeeded_138 : decode cX6_throwsNeeded 138 = .ok (.iaload, 1) := by decide +kernel
theorem dX6_throwsNeeded_139 : decode cX6_throwsNeeded 139 = .ok (.iaload, 1) := by decide +kernel
theorem dX6_throwsNeeded_140 : decode cX6_throwsNeeded 140 = .ok (.ireturn, 1) := by decide +kernel
theorem dX6_needs_0 : decode cX6_needs 0 = .ok (.iload_n 1, 1) := by decide +kernel
theorem dX6_needs_1 : decode cX6_needs 1 = .ok (.invokestatic 146, 3) := by decide +kernel
theorem dX6_needs_4 : decode cX6_needs 4 = .ok (.ifCond .ne 7, 3) := by decide +kernel
theorem dX6_needs_7 : decode cX6_needs 7 = .ok (.iconst (-1), 1) := by decide +kernel
theorem dX6_needs_8 : decode cX6_needs 8 = .ok (.goto 22, 3) := by decide +kernel
theorem dX6_needs_11 : decode cX6_needs 11 = .ok (.iload_n 2, 1) := by decide +kernel
theorem dX6_needs_12 : decode cX6_needs 12 = .ok (.iconst 0, 1) := by decide +kernel
theorem dX6_needs_13 : decode cX6_needs 13 = .ok (.iconst 1, 1) := by decide +kernel
theorem dX6_needs_14 : decode cX6_needs 14 = .ok (.invokestatic 32, 3) := by decide +kernel
theorem dX6_needs_17 : decode cX6_needs 17 = .ok (.ifCond .eq 11, 3) := by decide +kernel
theorem dX6_needs_20 : decode cX6_needs 20 = .ok (.aload_n 0, 1) := by decide +kernel
theorem dX6_needs_21 : decode cX6_needs 21 = .ok (.iload_n 1, 1) := by decide +kernel
theorem dX6_needs_22 : decode cX6_needs 22 = .ok (.invokevirtual 164, 3) := by decide +kernel
theorem dX6_needs_25 : decode cX6_needs 25 = .ok (.goto 5, 3) := by decide +kernel
theorem dX6_needs_28 : decode cX6_needs 28 = .ok (.bipush (-2), 2) := by decide +kernel
theorem dX6_needs_30 : decode cX6_needs 30 = .ok (.ireturn, 1) := by decide +kernel
theorem dX6_nextCast_0 : decode cX6_nextCast 0 = .ok (.iload_n 1, 1) := by decide +kernel
theorem dX6_nextCast_1 : decode cX6_nextCast 1 = .ok (.iconst 0, 1) := by decide +kernel
theorem dX6_nextCast_2 : decode cX6_nextCast 2 = .ok (.bipush 99, 2) := by decide +kernel
theorem dX6_nextCast_4 : decode cX6_nextCast 4 = .ok (.invokestatic 32, 3) := by decide +kernel
theorem dX6_nextCast_7 : decode cX6_nextCast 7 = .ok (.ifCond .ne 6, 3) := by decide +kernel
theorem dX6_nextCast_10 : decode cX6_nextCast 10 = .ok (.bipush (-2), 2) := by decide +kernel
theorem dX6_nextCast_12 : decode cX6_nextCast 12 = .ok (.ireturn, 1) := by decide +kernel
theorem dX6_nextCast_13 : decode cX6_nextCast 13 = .ok (.aload_n 0, 1) := by decide +kernel
theorem dX6_nextCast_14 : decode cX6_nextCast 14 = .ok (.getfield 7, 3) := by decide +kernel
theorem dX6_nextCast_17 : decode cX6_nextCast 17 = .ok (.bipush 39, 2) := by decide +kernel
theorem dX6_nextCast_19 : decode cX6_nextCast 19 = .ok (.iaload, 1) := by decide +kernel
theorem dX6_nextCast_20 : decode cX6_nextCast 20 = .ok (.istore_n 2, 1) := by decide +kernel
theorem dX6_nextCast_21 : decode cX6_nextCast 21 = .ok (.iconst 0, 1) := by decide +kernel
theorem dX6_nextCast_22 : decode cX6_nextCast 22 = .ok (.istore_n 3, 1) := by decide +kernel
theorem dX6_nextCast_23 : decode cX6_nextCast 23 = .ok (.iconst 0, 1) := by decide +kernel
theorem dX6_nextCast_24 : decode cX6_nextCast 24 = .ok (.istore 4, 2) := by decide +kernel
theorem dX6_nextCast_26 : decode cX6_nextCast 26 = .ok (.iload 4, 2) := by decide +kernel
theorem dX6_nextCast_28 : decode cX6_nextCast 28 = .ok (.iload_n 1, 1) := by decide +kernel
theorem dX6_nextCast_29 : decode cX6_nextCast 29 = .ok (.if_icmp .gt 14, 3) := by decide +kernel
theorem dX6_nextCast_32 : decode cX6_nextCast 32 = .ok (.aload_n 0, 1) := by decide +kernel
theorem dX6_nextCast_33 : decode cX6_nextCast 33 = .ok (.invokevirtual 117, 3) := by decide +kernel
theorem dX6_nextCast_36 : decode cX6_nextCast 36 = .ok (.istore_n 3, 1) := by decide +kernel
theorem dX6_nextCast_37 : decode cX6_nextCast 37 = .ok (.iinc 4 1, 3) := by decide +kernel
theorem dX6_nextCast_40 : decode cX6_nextCast 40 = .ok (.goto (-14), 3) := by decide +kernel
theorem dX6_nextCast_43 : decode cX6_nextCast 43 = .ok (.aload_n 0, 1) := by decide +kernel
theorem dX6_nextCast_44 : decode cX6_nextCast 44 = .ok (.getfield 7, 3) := by decide +kernel
theorem dX6_nextCast_47 : decode cX6_nextCast 47 = .ok (.bipush 39, 2) := by decide +kernel
theorem dX6_nextCast_49 : decode cX6_nextCast 49 = .ok (.iload_n 2, 1) := by decide +kernel
theorem dX6_nextCast_50 : decode cX6_nextCast 50 = .ok (.iastore, 1) := by decide +kernel
theorem dX6_nextCast_51 : decode cX6_nextCast 51 = .ok (.iload_n 3, 1) := by decide +kernel
theorem dX6_nextCast_52 : decode cX6_nextCast 52 = .ok (.ireturn, 1) := by decide +kernel
theorem dX6_untilOver_0 : decode cX6_untilOver 0 = .ok (.aload_n 0, 1) := by decide +kernel
theorem dX6_untilOver_1 : decode cX6_untilOver 1 = .ok (.invokevirtual 114, 3) := by decide +kernel
theorem dX6_untilOver_4 : decode cX6_untilOver 4 = .ok (.ifCond .eq 6, 3) := by decide +kernel
theorem dX6_untilOver_7 : decode cX6_untilOver 7 = .ok (.bipush (-5), 2) := by decide +kernel
theorem dX6_untilOver_9 : decode cX6_untilOver 9 = .ok (.ireturn, 1) := by decide +kernel
theorem dX6_untilOver_10 : decode cX6_untilOver 10 = .ok (.aload_n 0, 1) := by decide +kernel
theorem dX6_untilOver_11 : decode cX6_untilOver 11 = .ok (.invokevirtual 167, 3) := by decide +kernel
theorem dX6_untilOver_14 : decode cX6_untilOver 14 = .ok (.aload_n 0, 1) := by decide +kernel
theorem dX6_untilOver_15 : decode cX6_untilOver 15 = .ok (.sipush 400, 3) := by decide +kernel
theorem dX6_untilOver_18 : decode cX6_untilOver 18 = .ok (.invokevirtual 137, 3) := by decide +kernel
theorem dX6_untilOver_21 : decode cX6_untilOver 21 = .ok (.istore_n 1, 1) := by decide +kernel
theorem dX6_untilOver_22 : decode cX6_untilOver 22 = .ok (.aload_n 0, 1) := by decide +kernel
theorem dX6_untilOver_23 : decode cX6_untilOver 23 = .ok (.invokevirtual 97, 3) := by decide +kernel
theorem dX6_untilOver_26 : decode cX6_untilOver 26 = .ok (.istore_n 2, 1) := by decide +kernel
theorem dX6_untilOver_27 : decode cX6_untilOver 27 = .ok (.aload_n 0, 1) := by decide +kernel
theorem dX6_untilOver_28 : decode cX6_untilOver 28 = .ok (.invokevirtual 170, 3) := by decide +kernel
theorem dX6_untilOver_31 : decode cX6_untilOver 31 = .ok (.iload_n 2, 1) := by decide +kernel
theorem dX6_untilOver_32 : decode cX6_untilOver 32 = .ok (.ifCond .eq 7, 3) := by decide +kernel
theorem dX6_untilOver_35 : decode cX6_untilOver 35 = .ok (.iload_n 1, 1) := by decide +kernel
theorem dX6_untilOver_36 : decode cX6_untilOver 36 = .ok (.goto 5, 3) := by decide +kernel
theorem dX6_untilOver_39 : decode cX6_untilOver 39 = .ok (.bipush (-6), 2) := by decide +kernel
theorem dX6_untilOver_41 : decode cX6_untilOver 41 = .ok (.ireturn, 1) := by decide +kernel
theorem dX6_put_0 : decode cX6_put 0 = .ok (.iconst 0, 1) := by decide +kernel
theorem dX6_put_1 : decode cX6_put 1 = .ok (.istore_n 3, 1) := by decide +kernel
theorem dX6_put_2 : decode cX6_put 2 = .ok (.lload_n 1, 1) := by decide +kernel
theorem dX6_put_3 : decode cX6_put 3 = .ok (.lstore 4, 2) := by decide +kernel
theorem dX6_put_5 : decode cX6_put 5 = .ok (.lload_n 1, 1) := by decide +kernel
theorem dX6_put_6 : decode cX6_put 6 = .ok (.lconst 0, 1) := by decide +kernel
theorem dX6_put_7 : decode cX6_put 7 = .ok (.lcmp, 1) := by decide +kernel
theorem dX6_put_8 : decode cX6_put 8 = .ok (.ifCond .eq 7, 3) := by decide +kernel
theorem dX6_put_11 : decode cX6_put 11 = .ok (.iconst 1, 1) := by decide +kernel
theorem dX6_put_12 : decode cX6_put 12 = .ok (.goto 4, 3) := by decide +kernel
theorem dX6_put_15 : decode cX6_put 15 = .ok (.iconst 0, 1) := by decide +kernel
theorem dX6_put_16 : decode cX6_put 16 = .ok (.istore 6, 2) := by decide +kernel
theorem dX6_put_18 : decode cX6_put 18 = .ok (.lload 4, 2) := by decide +kernel
theorem dX6_put_20 : decode cX6_put 20 = .ok (.lconst 0, 1) := by decide +kernel
theorem dX6_put_21 : decode cX6_put 21 = .ok (.lcmp, 1) := by decide +kernel
theorem dX6_put_22 : decode cX6_put 22 = .ok (.ifCond .eq 45, 3) := by decide +kernel
theorem dX6_put_25 : decode cX6_put 25 = .ok (.iload 6, 2) := by decide +kernel
theorem dX6_put_27 : decode cX6_put 27 = .ok (.ifCond .eq 24, 3) := by decide +kernel
theorem dX6_put_30 : decode cX6_put 30 = .ok (.lload 4, 2) := by decide +kernel
theorem dX6_put_32 : decode cX6_put 32 = .ok (.ldc2_w 173, 3) := by decide +kernel
theorem dX6_put_35 : decode cX6_put 35 = .ok (.land, 1) := by decide +kernel
theorem dX6_put_36 : decode cX6_put 36 = .ok (.l2i, 1) := by decide +kernel
theorem dX6_put_37 : decode cX6_put 37 = .ok (.bipush 33, 2) := by decide +kernel
theorem dX6_put_39 : decode cX6_put 39 = .ok (.bipush 126, 2) := by decide +kernel
theorem dX6_put_41 : decode cX6_put 41 = .ok (.invokestatic 32, 3) := by decide +kernel
theorem dX6_put_44 : decode cX6_put 44 = .ok (.ifCond .eq 7, 3) := by decide +kernel
theorem dX6_put_47 : decode cX6_put 47 = .ok (.iconst 1, 1) := by decide +kernel
theorem dX6_put_48 : decode cX6_put 48 = .ok (.goto 4, 3) := by decide +kernel
theorem dX6_put_51 : decode cX6_put 51 = .ok (.iconst 0, 1) := by decide +kernel
theorem dX6_put_52 : decode cX6_put 52 = .ok (.istore 6, 2) := by decide +kernel
theorem dX6_put_54 : decode cX6_put 54 = .ok (.iinc 3 1, 3) := by decide +kernel
theorem dX6_put_57 : decode cX6_put 57 = .ok (.lload 4, 2) := by decide +kernel
theorem dX6_put_59 : decode cX6_put 59 = .ok (.bipush 8, 2) := by decide +kernel
theorem dX6_put_61 : decode cX6_put 61 = .ok (.lushr, 1) := by decide +kernel
theorem dX6_put_62 : decode cX6_put 62 = .ok (.lstore 4, 2) := by decide +kernel
theorem dX6_put_64 : decode cX6_put 64 = .ok (.goto (-46), 3) := by decide +kernel
theorem dX6_put_67 : decode cX6_put 67 = .ok (.iload 6, 2) := by decide +kernel
theorem dX6_put_69 : decode cX6_put 69 = .ok (.ifCond .ne 6, 3) := by decide +kernel
theorem dX6_put_72 : decode cX6_put 72 = .ok (.bipush (-2), 2) := by decide +kernel
theorem dX6_put_74 : decode cX6_put 74 = .ok (.ireturn, 1) := by decide +kernel
theorem dX6_put_75 : decode cX6_put 75 = .ok (.aload_n 0, 1) := by decide +kernel
theorem dX6_put_76 : decode cX6_put 76 = .ok (.getfield 143, 3) := by decide +kernel
theorem dX6_put_79 : decode cX6_put 79 = .ok (.iload_n 3, 1) := by decide +kernel
theorem dX6_put_80 : decode cX6_put 80 = .ok (.iadd, 1) := by decide +kernel
theorem dX6_put_81 : decode cX6_put 81 = .ok (.bipush 60, 2) := by decide +kernel
theorem dX6_put_83 : decode cX6_put 83 = .ok (.if_icmp .le 6, 3) := by decide +kernel
theorem dX6_put_86 : decode cX6_put 86 = .ok (.bipush (-4), 2) := by decide +kernel
theorem dX6_put_88 : decode cX6_put 88 = .ok (.ireturn, 1) := by decide +kernel
theorem dX6_put_89 : decode cX6_put 89 = .ok (.iload_n 3, 1) := by decide +kernel
theorem dX6_put_90 : decode cX6_put 90 = .ok (.iconst 1, 1) := by decide +kernel
theorem dX6_put_91 : decode cX6_put 91 = .ok (.isub, 1) := by decide +kernel
theorem dX6_put_92 : decode cX6_put 92 = .ok (.istore 7, 2) := by decide +kernel
theorem dX6_put_94 : decode cX6_put 94 = .ok (.iload 7, 2) := by decide +kernel
theorem dX6_put_96 : decode cX6_put 96 = .ok (.ifCond .lt 40, 3) := by decide +kernel
theorem dX6_put_99 : decode cX6_put 99 = .ok (.aload_n 0, 1) := by decide +kernel
theorem dX6_put_100 : decode cX6_put 100 = .ok (.getfield 26, 3) := by decide +kernel
theorem dX6_put_103 : decode cX6_put 103 = .ok (.aload_n 0, 1) := by decide +kernel
theorem dX6_put_104 : decode cX6_put 104 = .ok (.getfield 143, 3) := by decide +kernel
theorem dX6_put_107 : decode cX6_put 107 = .ok (.lload_n 1, 1) := by decide +kernel
theorem dX6_put_108 : decode cX6_put 108 = .ok (.bipush 8, 2) := by decide +kernel
theorem dX6_put_110 : decode cX6_put 110 = .ok (.iload 7, 2) := by decide +kernel
theorem dX6_put_112 : decode cX6_put 112 = .ok (.imul, 1) := by decide +kernel
theorem dX6_put_113 : decode cX6_put 113 = .ok (.lshr, 1) := by decide +kernel
theorem dX6_put_114 : decode cX6_put 114 = .ok (.ldc2_w 173, 3) := by decide +kernel
theorem dX6_put_117 : decode cX6_put 117 = .ok (.land, 1) := by decide +kernel
theorem dX6_put_118 : decode cX6_put 118 = .ok (.l2i, 1) := by decide +kernel
theorem dX6_put_119 : decode cX6_put 119 = .ok (.iastore, 1) := by decide +kernel
theorem dX6_put_120 : decode cX6_put 120 = .ok (.aload_n 0, 1) := by decide +kernel
theorem dX6_put_121 : decode cX6_put 121 = .ok (.dup, 1) := by decide +kernel
theorem dX6_put_122 : decode cX6_put 122 = .ok (.getfield 143, 3) := by decide +kernel
theorem dX6_put_125 : decode cX6_put 125 = .ok (.iconst 1, 1) := by decide +kernel
theorem dX6_put_126 : decode cX6_put 126 = .ok (.iadd, 1) := by decide +kernel
theorem dX6_put_127 : decode cX6_put 127 = .ok (.putfield 143, 3) := by decide +kernel
theorem dX6_put_130 : decode cX6_put 130 = .ok (.iinc 7 (-1), 3) := by decide +kernel
theorem dX6_put_133 : decode cX6_put 133 = .ok (.goto (-39), 3) := by decide +kernel
theorem dX6_put_136 : decode cX6_put 136 = .ok (.aload_n 0, 1) := by decide +kernel
theorem dX6_put_137 : decode cX6_put 137 = .ok (.getfield 143, 3) := by decide +kernel
theorem dX6_put_140 : decode cX6_put 140 = .ok (.ireturn, 1) := by decide +kernel
theorem dX6_wipe_0 : decode cX6_wipe 0 = .ok (.aload_n 0, 1) := by decide +kernel
theorem dX6_wipe_1 : decode cX6_wipe 1 = .ok (.getfield 143, 3) := by decide +kernel
theorem dX6_wipe_4 : decode cX6_wipe 4 = .ok (.istore_n 1, 1) := by decide +kernel
theorem dX6_wipe_5 : decode cX6_wipe 5 = .ok (.aload_n 0, 1) := by decide +kernel
theorem dX6_wipe_6 : decode cX6_wipe 6 = .ok (.iconst 0, 1) := by decide +kernel
theorem dX6_wipe_7 : decode cX6_wipe 7 = .ok (.putfield 143, 3) := by decide +kernel
theorem dX6_wipe_10 : decode cX6_wipe 10 = .ok (.iload_n 1, 1) := by decide +kernel
theorem dX6_wipe_11 : decode cX6_wipe 11 = .ok (.ireturn, 1) := by decide +kernel
theorem dX6_findFault_0 : decode cX6_findFault 0 = .ok (.iconst 0, 1) := by decide +kernel
theorem dX6_findFault_1 : decode cX6_findFault 1 = .ok (.istore_n 1, 1) := by decide +kernel
theorem dX6_findFault_2 : decode cX6_findFault 2 = .ok (.iload_n 1, 1) := by decide +kernel
theorem dX6_findFault_3 : decode cX6_findFault 3 = .ok (.aload_n 0, 1) := by decide +kernel
theorem dX6_findFault_4 : decode cX6_findFault 4 = .ok (.getfield 143, 3) := by decide +kernel
theorem dX6_findFault_7 : decode cX6_findFault 7 = .ok (.if_icmp .ge 70, 3) := by decide +kernel
theorem dX6_findFault_10 : decode cX6_findFault 10 = .ok (.iload_n 1, 1) := by decide +kernel
theorem dX6_findFault_11 : decode cX6_findFault 11 = .ok (.iconst 2, 1) := by decide +kernel
theorem dX6_findFault_12 : decode cX6_findFault 12 = .ok (.irem, 1) := by decide +kernel
theorem dX6_findFault_13 : decode cX6_findFault 13 = .ok (.ifCond .ne 19, 3) := by decide +kernel
theorem dX6_findFault_16 : decode cX6_findFault 16 = .ok (.aload_n 0, 1) := by decide +kernel
theorem dX6_findFault_17 : decode cX6_findFault 17 = .ok (.getfield 26, 3) := by decide +kernel
theorem dX6_findFault_20 : decode cX6_findFault 20 = .ok (.iload_n 1, 1) := by decide +kernel
theorem dX6_findFault_21 : decode cX6_findFault 21 = .ok (.iaload, 1) := by decide +kernel
theorem dX6_findFault_22 : decode cX6_findFault 22 = .ok (.bipush 49, 2) := by decide +kernel
theorem dX6_findFault_24 : decode cX6_findFault 24 = .ok (.bipush 54, 2) := by decide +kernel
theorem dX6_findFault_26 : decode cX6_findFault 26 = .ok (.invokestatic 32, 3) := by decide +kernel
theorem dX6_findFault_29 : decode cX6_findFault 29 = .ok (.goto 35, 3) := by decide +kernel
theorem dX6_findFault_32 : decode cX6_findFault 32 = .ok (.aload_n 0, 1) := by decide +kernel
theorem dX6_findFault_33 : decode cX6_findFault 33 = .ok (.getfield 26, 3) := by decide +kernel
theorem dX6_findFault_36 : decode cX6_findFault 36 = .ok (.iload_n 1, 1) := by decide +kernel
theorem dX6_findFault_37 : decode cX6_findFault 37 = .ok (.iaload, 1) := by decide +kernel
theorem dX6_findFault_38 : decode cX6_findFault 38 = .ok (.bipush 97, 2) := by decide +kernel
theorem dX6_findFault_40 : decode cX6_findFault 40 = .ok (.bipush 99, 2) := by decide +kernel
theorem dX6_findFault_42 : decode cX6_findFault 42 = .ok (.invokestatic 32, 3) := by decide +kernel
theorem dX6_findFault_45 : decode cX6_findFault 45 = .ok (.ifCond .ne 14, 3) := by decide +kernel
theorem dX6_findFault_48 : decode cX6_findFault 48 = .ok (.aload_n 0, 1) := by decide +kernel
theorem dX6_findFault_49 : decode cX6_findFault 49 = .ok (.getfield 26, 3) := by decide +kernel
theorem dX6_findFault_52 : decode cX6_findFault 52 = .ok (.iload_n 1, 1) := by decide +kernel
theorem dX6_findFault_53 : decode cX6_findFault 53 = .ok (.iaload, 1) := by decide +kernel
theorem dX6_findFault_54 : decode cX6_findFault 54 = .ok (.bipush 45, 2) := by decide +kernel
theorem dX6_findFault_56 : decode cX6_findFault 56 = .ok (.if_icmp .ne 7, 3) := by decide +kernel
theorem dX6_findFault_59 : decode cX6_findFault 59 = .ok (.iconst 1, 1) := by decide +kernel
theorem dX6_findFault_60 : decode cX6_findFault 60 = .ok (.goto 4, 3) := by decide +kernel
theorem dX6_findFault_63 : decode cX6_findFault 63 = .ok (.iconst 0, 1) := by decide +kernel
theorem dX6_findFault_64 : decode cX6_findFault 64 = .ok (.istore_n 2, 1) := by decide +kernel
theorem dX6_findFault_65 : decode cX6_findFault 65 = .ok (.iload_n 2, 1) := by decide +kernel
theorem dX6_findFault_66 : decode cX6_findFault 66 = .ok (.ifCond .ne 5, 3) := by decide +kernel
theorem dX6_findFault_69 : decode cX6_findFault 69 = .ok (.iload_n 1, 1) := by decide +kernel
theorem dX6_findFault_70 : decode cX6_findFault 70 = .ok (.ireturn, 1) := by decide +kernel
theorem dX6_findFault_71 : decode cX6_findFault 71 = .ok (.iinc 1 1, 3) := by decide +kernel
theorem dX6_findFault_74 : decode cX6_findFault 74 = .ok (.goto (-72), 3) := by decide +kernel
theorem dX6_findFault_77 : decode cX6_findFault 77 = .ok (.aload_n 0, 1) := by decide +kernel
theorem dX6_findFault_78 : decode cX6_findFault 78 = .ok (.getfield 143, 3) := by decide +kernel
theorem dX6_findFault_81 : decode cX6_findFault 81 = .ok (.iconst 2, 1) := by decide +kernel
theorem dX6_findFault_82 : decode cX6_findFault 82 = .ok (.irem, 1) := by decide +kernel
theorem dX6_findFault_83 : decode cX6_findFault 83 = .ok (.ifCond .ne 15, 3) := by decide +kernel
theorem dX6_findFault_86 : decode cX6_findFault 86 = .ok (.aload_n 0, 1) := by decide +kernel
theorem dX6_findFault_87 : decode cX6_findFault 87 = .ok (.getfield 143, 3) := by decide +kernel
theorem dX6_findFault_90 : decode cX6_findFault 90 = .ok (.ifCond .le 8, 3) := by decide +kernel
theorem dX6_findFault_93 : decode cX6_findFault 93 = .ok (.bipush (-6), 2) := by decide +kernel
theorem dX6_findFault_95 : decode cX6_findFault 95 = .ok (.goto 7, 3) := by decide +kernel
theorem dX6_findFault_98 : decode cX6_findFault 98 = .ok (.aload_n 0, 1) := by decide +kernel
theorem dX6_findFault_99 : decode cX6_findFault 99 = .ok (.getfield 143, 3) := by decide +kernel
theorem dX6_findFault_102 : decode cX6_findFault 102 = .ok (.ireturn, 1) := by decide +kernel
theorem dX6_fault_0 : decode cX6_fault 0 = .ok (.aload_n 0, 1) := by decide +kernel
theorem dX6_fault_1 : decode cX6_fault 1 = .ok (.invokevirtual 140, 3) := by decide +kernel
theorem dX6_fault_4 : decode cX6_fault 4 = .ok (.ireturn, 1) := by decide +kernel
theorem dJ9_max_7cf53_0 : decode cJ9_max_7cf53 0 = .ok (.iload_n 0, 1) := by decide +kernel
theorem dJ9_max_7cf53_1 : decode cJ9_max_7cf53 1 = .ok (.iload_n 1, 1) := by decide +kernel
theorem dJ9_max_7cf53_2 : decode cJ9_max_7cf53 2 = .ok (.if_icmp .lt 7, 3) := by decide +kernel
theorem dJ9_max_7cf53_5 : decode cJ9_max_7cf53 5 = .ok (.iload_n 0, 1) := by decide +kernel
theorem dJ9_max_7cf53_6 : decode cJ9_max_7cf53 6 = .ok (.goto 4, 3) := by decide +kernel
theorem dJ9_max_7cf53_9 : decode cJ9_max_7cf53 9 = .ok (.iload_n 1, 1) := by decide +kernel
theorem dJ9_max_7cf53_10 : decode cJ9_max_7cf53 10 = .ok (.ireturn, 1) := by decide +kernel
theorem dJ9_min_7cf53_0 : decode cJ9_min_7cf53 0 = .ok (.iload_n 0, 1) := by decide +kernel
theorem dJ9_min_7cf53_1 : decode cJ9_min_7cf53 1 = .ok (.iload_n 1, 1) := by decide +kernel
theorem dJ9_min_7cf53_2 : decode cJ9_min_7cf53 2 = .ok (.if_icmp .gt 7, 3) := by decide +kernel
theorem dJ9_min_7cf53_5 : decode cJ9_min_7cf53 5 = .ok (.iload_n 0, 1) := by decide +kernel
theorem dJ9_min_7cf53_6 : decode cJ9_min_7cf53 6 = .ok (.goto 4, 3) := by decide +kernel
theorem dJ9_min_7cf53_9 : decode cJ9_min_7cf53 9 = .ok (.iload_n 1, 1) := by decide +kernel
theorem dJ9_min_7cf53_10 : decode cJ9_min_7cf53 10 = .ok (.ireturn, 1) := by decide +kernel
theorem dL_law_0 : decode cL_law 0 = .ok (.new 7, 3) := by decide +kernel
theorem dL_law_3 : decode cL_law 3 = .ok (.dup, 1) := by decide +kernel
theorem dL_law_4 : decode cL_law 4 = .ok (.invokespecial 9, 3) := by decide +kernel
theorem dL_law_7 : decode cL_law 7 = .ok (.astore_n 1, 1) := by decide +kernel
theorem dL_law_8 : decode cL_law 8 = .ok (.new 10, 3) := by decide +kernel
theorem dL_law_11 : decode cL_law 11 = .ok (.dup, 1) := by decide +kernel
theorem dL_law_12 : decode cL_law 12 = .ok (.invokespecial 12, 3) := by decide +kernel
theorem dL_law_15 : decode cL_law 15 = .ok (.astore_n 2, 1) := by decide +kernel
theorem dL_law_16 : decode cL_law 16 = .ok (.iconst 0, 1) := by decide +kernel
theorem dL_law_17 : decode cL_law 17 = .ok (.istore_n 3, 1) := by decide +kernel
theorem dL_law_18 : decode cL_law 18 = .ok (.iload_n 3, 1) := by decide +kernel
theorem dL_law_19 : decode cL_law 19 = .ok (.aload_n 0, 1) := by decide +kernel
theorem dL_law_20 : decode cL_law 20 = .ok (.arraylength, 1) := by decide +kernel
theorem dL_law_21 : decode cL_law 21 = .ok (.iconst 3, 1) := by decide +kernel
theorem dL_law_22 : decode cL_law 22 = .ok (.isub, 1) := by decide +kernel
theorem dL_law_23 : decode cL_law 23 = .ok (.if_icmp .gt 635, 3) := by decide +kernel
theorem dL_law_26 : decode cL_law 26 = .ok (.aload_n 0, 1) := by decide +kernel
theorem dL_law_27 : decode cL_law 27 = .ok (.iload_n 3, 1) := by decide +kernel
theorem dL_law_28 : decode cL_law 28 = .ok (.iaload, 1) := by decide +kernel
theorem dL_law_29 : decode cL_law 29 = .ok (.bipush 31, 2) := by decide +kernel
theorem dL_law_31 : decode cL_law 31 = .ok (.iand, 1) := by decide +kernel
theorem dL_law_32 : decode cL_law 32 = .ok (.tableswitch 620 0 21 #[104, 137, 160, 173, 196, 209, 232, 245, 278, 311, 344, 377, 400, 413, 446, 469, 482, 535, 548, 561, 574, 597], 104) := by decide +kernel
theorem dL_law_136 : decode cL_law 136 = .ok (.aload_n 1, 1) := by decide +kernel
theorem dL_law_137 : decode cL_law 137 = .ok (.aload_n 0, 1) := by decide +kernel
theorem dL_law_138 : decode cL_law 138 = .ok (.iload_n 3, 1) := by decide +kernel
theorem dL_law_139 : decode cL_law 139 = .ok (.iconst 1, 1) := by decide +kernel
theorem dL_law_140 : decode cL_law 140 = .ok (.iadd, 1) := by decide +kernel
theorem dL_law_141 : decode cL_law 141 = .ok (.iaload, 1) := by decide +kernel
theorem dL_law_142 : decode cL_law 142 = .ok (.aload_n 0, 1) := by decide +kernel
theorem dL_law_143 : decode cL_law 143 = .ok (.iload_n 3, 1) := by decide +kernel
theorem dL_law_144 : decode cL_law 144 = .ok (.iconst 2, 1) := by decide +kernel
theorem dL_law_145 : decode cL_law 145 = .ok (.iadd, 1) := by decide +kernel
theorem dL_law_146 : decode cL_law 146 = .ok (.iaload, 1) := by decide +kernel
theorem dL_law_147 : decode cL_law 147 = .ok (.invokevirtual 13, 3) := by decide +kernel
theorem dL_law_150 : decode cL_law 150 = .ok (.aload_n 2, 1) := by decide +kernel
theorem dL_law_151 : decode cL_law 151 = .ok (.aload_n 0, 1) := by decide +kernel
theorem dL_law_152 : decode cL_law 152 = .ok (.iload_n 3, 1) := by decide +kernel
theorem dL_law_153 : decode cL_law 153 = .ok (.iconst 1, 1) := by decide +kernel
theorem dL_law_154 : decode cL_law 154 = .ok (.iadd, 1) := by decide +kernel
theorem dL_law_155 : decode cL_law 155 = .ok (.iaload, 1) := by decide +kernel
theorem dL_law_156 : decode cL_law 156 = .ok (.aload_n 0, 1) := by decide +kernel
theorem dL_law_157 : decode cL_law 157 = .ok (.iload_n 3, 1) := by decide +kernel
theorem dL_law_158 : decode cL_law 158 = .ok (.iconst 2, 1) := by decide +kernel
theorem dL_law_159 : decode cL_law 159 = .ok (.iadd, 1) := by decide +kernel
theorem dL_law_160 : decode cL_law 160 = .ok (.iaload, 1) := by decide +kernel
theorem dL_law_161 : decode cL_law 161 = .ok (.invokevirtual 17, 3) := by decide +kernel
theorem dL_law_164 : decode cL_law 164 = .ok (.if_icmp .eq 488, 3) := by decide +kernel
theorem dL_law_167 : decode cL_law 167 = .ok (.iconst 0, 1) := by decide +kernel
theorem dL_law_168 : decode cL_law 168 = .ok (.ireturn, 1) := by decide +kernel
theorem dL_law_169 : decode cL_law 169 = .ok (.aload_n 1, 1) := by decide +kernel
theorem dL_law_170 : decode cL_law 170 = .ok (.aload_n 0, 1) := by decide +kernel
theorem dL_law_171 : decode cL_law 171 = .ok (.iload_n 3, 1) := by decide +kernel
theorem dL_law_172 : decode cL_law 172 = .ok (.iconst 1, 1) := by decide +kernel
theorem dL_law_173 : decode cL_law 173 = .ok (.iadd, 1) := by decide +kernel
theorem dL_law_174 : decode cL_law 174 = .ok (.iaload, 1) := by decide +kernel
theorem dL_law_175 : decode cL_law 175 = .ok (.invokevirtual 18, 3) := by decide +kernel
theorem dL_law_178 : decode cL_law 178 = .ok (.aload_n 2, 1) := by decide +kernel
theorem dL_law_179 : decode cL_law 179 = .ok (.aload_n 0, 1) := by decide +kernel
theorem dL_law_180 : decode cL_law 180 = .ok (.iload_n 3, 1) := by decide +kernel
theorem dL_law_181 : decode cL_law 181 = .ok (.iconst 1, 1) := by decide +kernel
theorem dL_law_182 : decode cL_law 182 = .ok (.iadd, 1) := by decide +kernel
theorem dL_law_183 : decode cL_law 183 = .ok (.iaload, 1) := by decide +kernel
theorem dL_law_184 : decode cL_law 184 = .ok (.invokevirtual 22, 3) := by decide +kernel
theorem dL_law_187 : decode cL_law 187 = .ok (.if_icmp .eq 465, 3) := by decide +kernel
theorem dL_law_190 : decode cL_law 190 = .ok (.iconst 0, 1) := by decide +kernel
theorem dL_law_191 : decode cL_law 191 = .ok (.ireturn, 1) := by decide +kernel
theorem dL_law_192 : decode cL_law 192 = .ok (.aload_n 1, 1) := by decide +kernel
theorem dL_law_193 : decode cL_law 193 = .ok (.invokevirtual 23, 3) := by decide +kernel
theorem dL_law_196 : decode cL_law 196 = .ok (.aload_n 2, 1) := by decide +kernel
theorem dL_law_197 : decode cL_law 197 = .ok (.invokevirtual 27, 3) := by decide +kernel
theorem dL_law_200 : decode cL_law 200 = .ok (.if_icmp .eq 452, 3) := by decide +kernel
theorem dL_law_203 : decode cL_law 203 = .ok (.iconst 0, 1) := by decide +kernel
theorem dL_law_204 : decode cL_law 204 = .ok (.ireturn, 1) := by decide +kernel
theorem dL_law_205 : decode cL_law 205 = .ok (.aload_n 1, 1) := by decide +kernel
theorem dL_law_206 : decode cL_law 206 = .ok (.aload_n 0, 1) := by decide +kernel
theorem dL_law_207 : decode cL_law 207 = .ok (.iload_n 3, 1) := by decide +kernel
theorem dL_law_208 : decode cL_law 208 = .ok (.iconst 1, 1) := by decide +kernel
theorem dL_law_209 : decode cL_law 209 = .ok (.iadd, 1) := by decide +kernel
theorem dL_law_210 : decode cL_law 210 = .ok (.iaload, 1) := by decide +kernel
theorem dL_law_211 : decode cL_law 211 = .ok (.invokevirtual 28, 3) := by decide +kernel
theorem dL_law_214 : decode cL_law 214 = .ok (.aload_n 2, 1) := by decide +kernel
theorem dL_law_215 : decode cL_law 215 = .ok (.aload_n 0, 1) := by decide +kernel
theorem dL_law_216 : decode cL_law 216 = .ok (.iload_n 3, 1) := by decide +kernel
theorem dL_law_217 : decode cL_law 217 = .ok (.iconst 1, 1) := by decide +kernel
theorem dL_law_218 : decode cL_law 218 = .ok (.iadd, 1) := by decide +kernel
theorem dL_law_219 : decode cL_law 219 = .ok (.iaload, 1) := by decide +kernel
theorem dL_law_220 : decode cL_law 220 = .ok (.invokevirtual 31, 3) := by decide +kernel
theorem dL_law_223 : decode cL_law 223 = .ok (.if_icmp .eq 429, 3) := by decide +kernel
theorem dL_law_226 : decode cL_law 226 = .ok (.iconst 0, 1) := by decide +kernel
theorem dL_law_227 : decode cL_law 227 = .ok (.ireturn, 1) := by decide +kernel
theorem dL_law_228 : decode cL_law 228 = .ok (.aload_n 1, 1) := by decide +kernel
theorem dL_law_229 : decode cL_law 229 = .ok (.invokevirtual 32, 3) := by decide +kernel
theorem dL_law_232 : decode cL_law 232 = .ok (.aload_n 2, 1) := by decide +kernel
theorem dL_law_233 : decode cL_law 233 = .ok (.invokevirtual 35, 3) := by decide +kernel
theorem dL_law_236 : decode cL_law 236 = .ok (.if_icmp .eq 416, 3) := by decide +kernel
theorem dL_law_239 : decode cL_law 239 = .ok (.iconst 0, 1) := by decide +kernel
theorem dL_law_240 : decode cL_law 240 = .ok (.ireturn, 1) := by decide +kernel
theorem dL_law_241 : decode cL_law 241 = .ok (.aload_n 1, 1) := by decide +kernel
theorem dL_law_242 : decode cL_law 242 = .ok (.aload_n 0, 1) := by decide +kernel
theorem dL_law_243 : decode cL_law 243 = .ok (.iload_n 3, 1) := by decide +kernel
theorem dL_law_244 : decode cL_law 244 = .ok (.iconst 1, 1) := by decide +kernel
theorem dL_law_245 : decode cL_law 245 = .ok (.iadd, 1) := by decide +kernel
theorem dL_law_246 : decode cL_law 246 = .ok (.iaload, 1) := by decide +kernel
theorem dL_law_247 : decode cL_law 247 = .ok (.invokevirtual 36, 3) := by decide +kernel
theorem dL_law_250 : decode cL_law 250 = .ok (.aload_n 2, 1) := by decide +kernel
theorem dL_law_251 : decode cL_law 251 = .ok (.aload_n 0, 1) := by decide +kernel
theorem dL_law_252 : decode cL_law 252 = .ok (.iload_n 3, 1) := by decide +kernel
theorem dL_law_253 : decode cL_law 253 = .ok (.iconst 1, 1) := by decide +kernel
theorem dL_law_254 : decode cL_law 254 = .ok (.iadd, 1) := by decide +kernel
theorem dL_law_255 : decode cL_law 255 = .ok (.iaload, 1) := by decide +kernel
theorem dL_law_256 : decode cL_law 256 = .ok (.invokevirtual 39, 3) := by decide +kernel
theorem dL_law_259 : decode cL_law 259 = .ok (.if_icmp .eq 393, 3) := by decide +kernel
theorem dL_law_262 : decode cL_law 262 = .ok (.iconst 0, 1) := by decide +kernel
theorem dL_law_263 : decode cL_law 263 = .ok (.ireturn, 1) := by decide +kernel
theorem dL_law_264 : decode cL_law 264 = .ok (.aload_n 1, 1) := by decide +kernel
theorem dL_law_265 : decode cL_law 265 = .ok (.invokevirtual 40, 3) := by decide +kernel
theorem dL_law_268 : decode cL_law 268 = .ok (.aload_n 2, 1) := by decide +kernel
theorem dL_law_269 : decode cL_law 269 = .ok (.invokevirtual 43, 3) := by decide +kernel
theorem dL_law_272 : decode cL_law 272 = .ok (.if_icmp .eq 380, 3) := by decide +kernel
theorem dL_law_275 : decode cL_law 275 = .ok (.iconst 0, 1) := by decide +kernel
theorem dL_law_276 : decode cL_law 276 = .ok (.ireturn, 1) := by decide +kernel
theorem dL_law_277 : decode cL_law 277 = .ok (.aload_n 1, 1) := by decide +kernel
theorem dL_law_278 : decode cL_law 278 = .ok (.aload_n 0, 1) := by decide +kernel
theorem dL_law_279 : decode cL_law 279 = .ok (.iload_n 3, 1) := by decide +kernel
theorem dL_law_280 : decode cL_law 280 = .ok (.iconst 1, 1) := by decide +kernel
theorem dL_law_281 : decode cL_law 281 = .ok (.iadd, 1) := by decide +kernel
theorem dL_law_282 : decode cL_law 282 = .ok (.iaload, 1) := by decide +kernel
theorem dL_law_283 : decode cL_law 283 = .ok (.aload_n 0, 1) := by decide +kernel
theorem dL_law_284 : decode cL_law 284 = .ok (.iload_n 3, 1) := by decide +kernel
theorem dL_law_285 : decode cL_law 285 = .ok (.iconst 2, 1) := by decide +kernel
theorem dL_law_286 : decode cL_law 286 = .ok (.iadd, 1) := by decide +kernel
theorem dL_law_287 : decode cL_law 287 = .ok (.iaload, 1) := by decide +kernel
theorem dL_law_288 : decode cL_law 288 = .ok (.invokevirtual 44, 3) := by decide +kernel
theorem dL_law_291 : decode cL_law 291 = .ok (.aload_n 2, 1) := by decide +kernel
theorem dL_law_292 : decode cL_law 292 = .ok (.aload_n 0, 1) := by decide +kernel
theorem dL_law_293 : decode cL_law 293 = .ok (.iload_n 3, 1) := by decide +kernel
theorem dL_law_294 : decode cL_law 294 = .ok (.iconst 1, 1) := by decide +kernel
theorem dL_law_295 : decode cL_law 295 = .ok (.iadd, 1) := by decide +kernel
theorem dL_law_296 : decode cL_law 296 = .ok (.iaload, 1) := by decide +kernel
theorem dL_law_297 : decode cL_law 297 = .ok (.aload_n 0, 1) := by decide +kernel
theorem dL_law_298 : decode cL_law 298 = .ok (.iload_n 3, 1) := by decide +kernel
theorem dL_law_299 : decode cL_law 299 = .ok (.iconst 2, 1) := by decide +kernel
theorem dL_law_300 : decode cL_law 300 = .ok (.iadd, 1) := by decide +kernel
theorem dL_law_301 : decode cL_law 301 = .ok (.iaload, 1) := by decide +kernel
theorem dL_law_302 : decode cL_law 302 = .ok (.invokevirtual 47, 3) := by decide +kernel
theorem dL_law_305 : decode cL_law 305 = .ok (.if_icmp .eq 347, 3) := by decide +kernel
theorem dL_law_308 : decode cL_law 308 = .ok (.iconst 0, 1) := by decide +kernel
theorem dL_law_309 : decode cL_law 309 = .ok (.ireturn, 1) := by decide +kernel
theorem dL_law_310 : decode cL_law 310 = .ok (.aload_n 1, 1) := by decide +kernel
theorem dL_law_311 : decode cL_law 311 = .ok (.aload_n 0, 1) := by decide +kernel
theorem dL_law_312 : decode cL_law 312 = .ok (.iload_n 3, 1) := by decide +kernel
theorem dL_law_313 : decode cL_law 313 = .ok (.iconst 1, 1) := by decide +kernel
theorem dL_law_314 : decode cL_law 314 = .ok (.iadd, 1) := by decide +kernel
theorem dL_law_315 : decode cL_law 315 = .ok (.iaload, 1) := by decide +kernel
theorem dL_law_316 : decode cL_law 316 = .ok (.aload_n 0, 1) := by decide +kernel
theorem dL_law_317 : decode cL_law 317 = .ok (.iload_n 3, 1) := by decide +kernel
theorem dL_law_318 : decode cL_law 318 = .ok (.iconst 2, 1) := by decide +kernel
theorem dL_law_319 : decode cL_law 319 = .ok (.iadd, 1) := by decide +kernel
theorem dL_law_320 : decode cL_law 320 = .ok (.iaload, 1) := by decide +kernel
theorem dL_law_321 : decode cL_law 321 = .ok (.invokevirtual 48, 3) := by decide +kernel
theorem dL_law_324 : decode cL_law 324 = .ok (.aload_n 2, 1) := by decide +kernel
theorem dL_law_325 : decode cL_law 325 = .ok (.aload_n 0, 1) := by decide +kernel
theorem dL_law_326 : decode cL_law 326 = .ok (.iload_n 3, 1) := by decide +kernel
theorem dL_law_327 : decode cL_law 327 = .ok (.iconst 1, 1) := by decide +kernel
theorem dL_law_328 : decode cL_law 328 = .ok (.iadd, 1) := by decide +kernel
theorem dL_law_329 : decode cL_law 329 = .ok (.iaload, 1) := by decide +kernel
theorem dL_law_330 : decode cL_law 330 = .ok (.aload_n 0, 1) := by decide +kernel
theorem dL_law_331 : decode cL_law 331 = .ok (.iload_n 3, 1) := by decide +kernel
theorem dL_law_332 : decode cL_law 332 = .ok (.iconst 2, 1) := by decide +kernel
theorem dL_law_333 : decode cL_law 333 = .ok (.iadd, 1) := by decide +kernel
theorem dL_law_334 : decode cL_law 334 = .ok (.iaload, 1) := by decide +kernel
theorem dL_law_335 : decode cL_law 335 = .ok (.invokevirtual 51, 3) := by decide +kernel
theorem dL_law_338 : decode cL_law 338 = .ok (.if_icmp .eq 314, 3) := by decide +kernel
theorem dL_law_341 : decode cL_law 341 = .ok (.iconst 0, 1) := by decide +kernel
theorem dL_law_342 : decode cL_law 342 = .ok (.ireturn, 1) := by decide +kernel
theorem dL_law_343 : decode cL_law 343 = .ok (.aload_n 1, 1) := by decide +kernel
theorem dL_law_344 : decode cL_law 344 = .ok (.aload_n 0, 1) := by decide +kernel
theorem dL_law_345 : decode cL_law 345 = .ok (.iload_n 3, 1) := by decide +kernel
theorem dL_law_346 : decode cL_law 346 = .ok (.iconst 1, 1) := by decide +kernel
theorem dL_law_347 : decode cL_law 347 = .ok (.iadd, 1) := by decide +kernel
theorem dL_law_348 : decode cL_law 348 = .ok (.iaload, 1) := by decide +kernel
theorem dL_law_349 : decode cL_law 349 = .ok (.aload_n 0, 1) := by decide +kernel
theorem dL_law_350 : decode cL_law 350 = .ok (.iload_n 3, 1) := by decide +kernel
theorem dL_law_351 : decode cL_law 351 = .ok (.iconst 2, 1) := by decide +kernel
theorem dL_law_352 : decode cL_law 352 = .ok (.iadd, 1) := by decide +kernel
theorem dL_law_353 : decode cL_law 353 = .ok (.iaload, 1) := by decide +kernel
theorem dL_law_354 : decode cL_law 354 = .ok (.invokevirtual 52, 3) := by decide +kernel
theorem dL_law_357 : decode cL_law 357 = .ok (.aload_n 2, 1) := by decide +kernel
theorem dL_law_358 : decode cL_law 358 = .ok (.aload_n 0, 1) := by decide +kernel
theorem dL_law_359 : decode cL_law 359 = .ok (.iload_n 3, 1) := by decide +kernel
theorem dL_law_360 : decode cL_law 360 = .ok (.iconst 1, 1) := by decide +kernel
theorem dL_law_361 : decode cL_law 361 = .ok (.iadd, 1) := by decide +kernel
theorem dL_law_362 : decode cL_law 362 = .ok (.iaload, 1) := by decide +kernel
theorem dL_law_363 : decode cL_law 363 = .ok (.aload_n 0, 1) := by decide +kernel
theorem dL_law_364 : decode cL_law 364 = .ok (.iload_n 3, 1) := by decide +kernel
theorem dL_law_365 : decode cL_law 365 = .ok (.iconst 2, 1) := by decide +kernel
theorem dL_law_366 : decode cL_law 366 = .ok (.iadd, 1) := by decide +kernel
theorem dL_law_367 : decode cL_law 367 = .ok (.iaload, 1) := by decide +kernel
theorem dL_law_368 : decode cL_law 368 = .ok (.invokevirtual 55, 3) := by decide +kernel
theorem dL_law_371 : decode cL_law 371 = .ok (.if_icmp .eq 281, 3) := by decide +kernel
theorem dL_law_374 : decode cL_law 374 = .ok (.iconst 0, 1) := by decide +kernel
theorem dL_law_375 : decode cL_law 375 = .ok (.ireturn, 1) := by decide +kernel
theorem dL_law_376 : decode cL_law 376 = .ok (.aload_n 1, 1) := by decide +kernel
theorem dL_law_377 : decode cL_law 377 = .ok (.aload_n 0, 1) := by decide +kernel
theorem dL_law_378 : decode cL_law 378 = .ok (.iload_n 3, 1) := by decide +kernel
theorem dL_law_379 : decode cL_law 379 = .ok (.iconst 1, 1) := by decide +kernel
theorem dL_law_380 : decode cL_law 380 = .ok (.iadd, 1) := by decide +kernel
theorem dL_law_381 : decode cL_law 381 = .ok (.iaload, 1) := by decide +kernel
theorem dL_law_382 : decode cL_law 382 = .ok (.aload_n 0, 1) := by decide +kernel
theorem dL_law_383 : decode cL_law 383 = .ok (.iload_n 3, 1) := by decide +kernel
theorem dL_law_384 : decode cL_law 384 = .ok (.iconst 2, 1) := by decide +kernel
theorem dL_law_385 : decode cL_law 385 = .ok (.iadd, 1) := by decide +kernel
theorem dL_law_386 : decode cL_law 386 = .ok (.iaload, 1) := by decide +kernel
theorem dL_law_387 : decode cL_law 387 = .ok (.invokevirtual 56, 3) := by decide +kernel
theorem dL_law_390 : decode cL_law 390 = .ok (.aload_n 2, 1) := by decide +kernel
theorem dL_law_391 : decode cL_law 391 = .ok (.aload_n 0, 1) := by decide +kernel
theorem dL_law_392 : decode cL_law 392 = .ok (.iload_n 3, 1) := by decide +kernel
theorem dL_law_393 : decode cL_law 393 = .ok (.iconst 1, 1) := by decide +kernel
theorem dL_law_394 : decode cL_law 394 = .ok (.iadd, 1) := by decide +kernel
theorem dL_law_395 : decode cL_law 395 = .ok (.iaload, 1) := by decide +kernel
theorem dL_law_396 : decode cL_law 396 = .ok (.aload_n 0, 1) := by decide +kernel
theorem dL_law_397 : decode cL_law 397 = .ok (.iload_n 3, 1) := by decide +kernel
theorem dL_law_398 : decode cL_law 398 = .ok (.iconst 2, 1) := by decide +kernel
theorem dL_law_399 : decode cL_law 399 = .ok (.iadd, 1) := by decide +kernel
theorem dL_law_400 : decode cL_law 400 = .ok (.iaload, 1) := by decide +kernel
theorem dL_law_401 : decode cL_law 401 = .ok (.invokevirtual 59, 3) := by decide +kernel
theorem dL_law_404 : decode cL_law 404 = .ok (.if_icmp .eq 248, 3) := by decide +kernel
theorem dL_law_407 : decode cL_law 407 = .ok (.iconst 0, 1) := by decide +kernel
theorem dL_law_408 : decode cL_law 408 = .ok (.ireturn, 1) := by decide +kernel
theorem dL_law_409 : decode cL_law 409 = .ok (.aload_n 1, 1) := by decide +kernel
theorem dL_law_410 : decode cL_law 410 = .ok (.aload_n 0, 1) := by decide +kernel
theorem dL_law_411 : decode cL_law 411 = .ok (.iload_n 3, 1) := by decide +kernel
theorem dL_law_412 : decode cL_law 412 = .ok (.iconst 1, 1) := by decide +kernel
theorem dL_law_413 : decode cL_law 413 = .ok (.iadd, 1) := by decide +kernel
theorem dL_law_414 : decode cL_law 414 = .ok (.iaload, 1) := by decide +kernel
theorem dL_law_415 : decode cL_law 415 = .ok (.invokevirtual 60, 3) := by decide +kernel
theorem dL_law_418 : decode cL_law 418 = .ok (.aload_n 2, 1) := by decide +kernel
theorem dL_law_419 : decode cL_law 419 = .ok (.aload_n 0, 1) := by decide +kernel
theorem dL_law_420 : decode cL_law 420 = .ok (.iload_n 3, 1) := by decide +kernel
theorem dL_law_421 : decode cL_law 421 = .ok (.iconst 1, 1) := by decide +kernel
theorem dL_law_422 : decode cL_law 422 = .ok (.iadd, 1) := by decide +kernel
theorem dL_law_423 : decode cL_law 423 = .ok (.iaload, 1) := by decide +kernel
theorem dL_law_424 : decode cL_law 424 = .ok (.invokevirtual 63, 3) := by decide +kernel
theorem dL_law_427 : decode cL_law 427 = .ok (.if_icmp .eq 225, 3) := by decide +kernel
theorem dL_law_430 : decode cL_law 430 = .ok (.iconst 0, 1) := by decide +kernel
theorem dL_law_431 : decode cL_law 431 = .ok (.ireturn, 1) := by decide +kernel
theorem dL_law_432 : decode cL_law 432 = .ok (.aload_n 1, 1) := by decide +kernel
theorem dL_law_433 : decode cL_law 433 = .ok (.invokevirtual 64, 3) := by decide +kernel
theorem dL_law_436 : decode cL_law 436 = .ok (.aload_n 2, 1) := by decide +kernel
theorem dL_law_437 : decode cL_law 437 = .ok (.invokevirtual 67, 3) := by decide +kernel
theorem dL_law_440 : decode cL_law 440 = .ok (.if_icmp .eq 212, 3) := by decide +kernel
theorem dL_law_443 : decode cL_law 443 = .ok (.iconst 0, 1) := by decide +kernel
theorem dL_law_444 : decode cL_law 444 = .ok (.ireturn, 1) := by decide +kernel
theorem dL_law_445 : decode cL_law 445 = .ok (.aload_n 1, 1) := by decide +kernel
theorem dL_law_446 : decode cL_law 446 = .ok (.aload_n 0, 1) := by decide +kernel
theorem dL_law_447 : decode cL_law 447 = .ok (.iload_n 3, 1) := by decide +kernel
theorem dL_law_448 : decode cL_law 448 = .ok (.iconst 1, 1) := by decide +kernel
theorem dL_law_449 : decode cL_law 449 = .ok (.iadd, 1) := by decide +kernel
theorem dL_law_450 : decode cL_law 450 = .ok (.iaload, 1) := by decide +kernel
theorem dL_law_451 : decode cL_law 451 = .ok (.aload_n 0, 1) := by decide +kernel
theorem dL_law_452 : decode cL_law 452 = .ok (.iload_n 3, 1) := by decide +kernel
theorem dL_law_453 : decode cL_law 453 = .ok (.iconst 2, 1) := by decide +kernel
theorem dL_law_454 : decode cL_law 454 = .ok (.iadd, 1) := by decide +kernel
theorem dL_law_455 : decode cL_law 455 = .ok (.iaload, 1) := by decide +kernel
theorem dL_law_456 : decode cL_law 456 = .ok (.invokevirtual 68, 3) := by decide +kernel
theorem dL_law_459 : decode cL_law 459 = .ok (.aload_n 2, 1) := by decide +kernel
theorem dL_law_460 : decode cL_law 460 = .ok (.aload_n 0, 1) := by decide +kernel
theorem dL_law_461 : decode cL_law 461 = .ok (.iload_n 3, 1) := by decide +kernel
theorem dL_law_462 : decode cL_law 462 = .ok (.iconst 1, 1) := by decide +kernel
theorem dL_law_463 : decode cL_law 463 = .ok (.iadd, 1) := by decide +kernel
theorem dL_law_464 : decode cL_law 464 = .ok (.iaload, 1) := by decide +kernel
theorem dL_law_465 : decode cL_law 465 = .ok (.aload_n 0, 1) := by decide +kernel
theorem dL_law_466 : decode cL_law 466 = .ok (.iload_n 3, 1) := by decide +kernel
theorem dL_law_467 : decode cL_law 467 = .ok (.iconst 2, 1) := by decide +kernel
theorem dL_law_468 : decode cL_law 468 = .ok (.iadd, 1) := by decide +kernel
theorem dL_law_469 : decode cL_law 469 = .ok (.iaload, 1) := by decide +kernel
theorem dL_law_470 : decode cL_law 470 = .ok (.invokevirtual 71, 3) := by decide +kernel
theorem dL_law_473 : decode cL_law 473 = .ok (.if_icmp .eq 179, 3) := by decide +kernel
theorem dL_law_476 : decode cL_law 476 = .ok (.iconst 0, 1) := by decide +kernel
theorem dL_law_477 : decode cL_law 477 = .ok (.ireturn, 1) := by decide +kernel
theorem dL_law_478 : decode cL_law 478 = .ok (.aload_n 1, 1) := by decide +kernel
theorem dL_law_479 : decode cL_law 479 = .ok (.aload_n 0, 1) := by decide +kernel
theorem dL_law_480 : decode cL_law 480 = .ok (.iload_n 3, 1) := by decide +kernel
theorem dL_law_481 : decode cL_law 481 = .ok (.iconst 1, 1) := by decide +kernel
theorem dL_law_482 : decode cL_law 482 = .ok (.iadd, 1) := by decide +kernel
theorem dL_law_483 : decode cL_law 483 = .ok (.iaload, 1) := by decide +kernel
theorem dL_law_484 : decode cL_law 484 = .ok (.invokevirtual 72, 3) := by decide +kernel
theorem dL_law_487 : decode cL_law 487 = .ok (.aload_n 2, 1) := by decide +kernel
theorem dL_law_488 : decode cL_law 488 = .ok (.aload_n 0, 1) := by decide +kernel
theorem dL_law_489 : decode cL_law 489 = .ok (.iload_n 3, 1) := by decide +kernel
theorem dL_law_490 : decode cL_law 490 = .ok (.iconst 1, 1) := by decide +kernel
theorem dL_law_491 : decode cL_law 491 = .ok (.iadd, 1) := by decide +kernel
theorem dL_law_492 : decode cL_law 492 = .ok (.iaload, 1) := by decide +kernel
theorem dL_law_493 : decode cL_law 493 = .ok (.invokevirtual 75, 3) := by decide +kernel
theorem dL_law_496 : decode cL_law 496 = .ok (.if_icmp .eq 156, 3) := by decide +kernel
theorem dL_law_499 : decode cL_law 499 = .ok (.iconst 0, 1) := by decide +kernel
theorem dL_law_500 : decode cL_law 500 = .ok (.ireturn, 1) := by decide +kernel
theorem dL_law_501 : decode cL_law 501 = .ok (.aload_n 1, 1) := by decide +kernel
theorem dL_law_502 : decode cL_law 502 = .ok (.invokevirtual 76, 3) := by decide +kernel
theorem dL_law_505 : decode cL_law 505 = .ok (.aload_n 2, 1) := by decide +kernel
theorem dL_law_506 : decode cL_law 506 = .ok (.invokevirtual 79, 3) := by decide +kernel
theorem dL_law_509 : decode cL_law 509 = .ok (.if_icmp .eq 143, 3) := by decide +kernel
theorem dL_law_512 : decode cL_law 512 = .ok (.iconst 0, 1) := by decide +kernel
theorem dL_law_513 : decode cL_law 513 = .ok (.ireturn, 1) := by decide +kernel
theorem dL_law_514 : decode cL_law 514 = .ok (.aload_n 1, 1) := by decide +kernel
theorem dL_law_515 : decode cL_law 515 = .ok (.aload_n 0, 1) := by decide +kernel
theorem dL_law_516 : decode cL_law 516 = .ok (.iload_n 3, 1) := by decide +kernel
theorem dL_law_517 : decode cL_law 517 = .ok (.iconst 1, 1) := by decide +kernel
theorem dL_law_518 : decode cL_law 518 = .ok (.iadd, 1) := by decide +kernel
theorem dL_law_519 : decode cL_law 519 = .ok (.iaload, 1) := by decide +kernel
theorem dL_law_520 : decode cL_law 520 = .ok (.i2l, 1) := by decide +kernel
theorem dL_law_521 : decode cL_law 521 = .ok (.bipush 32, 2) := by decide +kernel
theorem dL_law_523 : decode cL_law 523 = .ok (.lshl, 1) := by decide +kernel
theorem dL_law_524 : decode cL_law 524 = .ok (.aload_n 0, 1) := by decide +kernel
theorem dL_law_525 : decode cL_law 525 = .ok (.iload_n 3, 1) := by decide +kernel
theorem dL_law_526 : decode cL_law 526 = .ok (.iconst 2, 1) := by decide +kernel
theorem dL_law_527 : decode cL_law 527 = .ok (.iadd, 1) := by decide +kernel
theorem dL_law_528 : decode cL_law 528 = .ok (.iaload, 1) := by decide +kernel
theorem dL_law_529 : decode cL_law 529 = .ok (.i2l, 1) := by decide +kernel
theorem dL_law_530 : decode cL_law 530 = .ok (.ldc2_w 80, 3) := by decide +kernel
theorem dL_law_533 : decode cL_law 533 = .ok (.land, 1) := by decide +kernel
theorem dL_law_534 : decode cL_law 534 = .ok (.lor, 1) := by decide +kernel
theorem dL_law_535 : decode cL_law 535 = .ok (.invokevirtual 82, 3) := by decide +kernel
theorem dL_law_538 : decode cL_law 538 = .ok (.aload_n 2, 1) := by decide +kernel
theorem dL_law_539 : decode cL_law 539 = .ok (.aload_n 0, 1) := by decide +kernel
theorem dL_law_540 : decode cL_law 540 = .ok (.iload_n 3, 1) := by decide +kernel
theorem dL_law_541 : decode cL_law 541 = .ok (.iconst 1, 1) := by decide +kernel
theorem dL_law_542 : decode cL_law 542 = .ok (.iadd, 1) := by decide +kernel
theorem dL_law_543 : decode cL_law 543 = .ok (.iaload, 1) := by decide +kernel
theorem dL_law_544 : decode cL_law 544 = .ok (.i2l, 1) := by decide +kernel
theorem dL_law_545 : decode cL_law 545 = .ok (.bipush 32, 2) := by decide +kernel
theorem dL_law_547 : decode cL_law 547 = .ok (.lshl, 1) := by decide +kernel
theorem dL_law_548 : decode cL_law 548 = .ok (.aload_n 0, 1) := by decide +kernel
theorem dL_law_549 : decode cL_law 549 = .ok (.iload_n 3, 1) := by decide +kernel
theorem dL_law_550 : decode cL_law 550 = .ok (.iconst 2, 1) := by decide +kernel
theorem dL_law_551 : decode cL_law 551 = .ok (.iadd, 1) := by decide +kernel
theorem dL_law_552 : decode cL_law 552 = .ok (.iaload, 1) := by decide +kernel
theorem dL_law_553 : decode cL_law 553 = .ok (.i2l, 1) := by decide +kernel
theorem dL_law_554 : decode cL_law 554 = .ok (.ldc2_w 80, 3) := by decide +kernel
theorem dL_law_557 : decode cL_law 557 = .ok (.land, 1) := by decide +kernel
theorem dL_law_558 : decode cL_law 558 = .ok (.lor, 1) := by decide +kernel
theorem dL_law_559 : decode cL_law 559 = .ok (.invokevirtual 86, 3) := by decide +kernel
theorem dL_law_562 : decode cL_law 562 = .ok (.if_icmp .eq 90, 3) := by decide +kernel
theorem dL_law_565 : decode cL_law 565 = .ok (.iconst 0, 1) := by decide +kernel
theorem dL_law_566 : decode cL_law 566 = .ok (.ireturn, 1) := by decide +kernel
theorem dL_law_567 : decode cL_law 567 = .ok (.aload_n 1, 1) := by decide +kernel
theorem dL_law_568 : decode cL_law 568 = .ok (.invokevirtual 87, 3) := by decide +kernel
theorem dL_law_571 : decode cL_law 571 = .ok (.aload_n 2, 1) := by decide +kernel
theorem dL_law_572 : decode cL_law 572 = .ok (.invokevirtual 90, 3) := by decide +kernel
theorem dL_law_575 : decode cL_law 575 = .ok (.if_icmp .eq 77, 3) := by decide +kernel
theorem dL_law_578 : decode cL_law 578 = .ok (.iconst 0, 1) := by decide +kernel
theorem dL_law_579 : decode cL_law 579 = .ok (.ireturn, 1) := by decide +kernel
theorem dL_law_580 : decode cL_law 580 = .ok (.aload_n 1, 1) := by decide +kernel
theorem dL_law_581 : decode cL_law 581 = .ok (.invokevirtual 91, 3) := by decide +kernel
theorem dL_law_584 : decode cL_law 584 = .ok (.aload_n 2, 1) := by decide +kernel
theorem dL_law_585 : decode cL_law 585 = .ok (.invokevirtual 94, 3) := by decide +kernel
theorem dL_law_588 : decode cL_law 588 = .ok (.if_icmp .eq 64, 3) := by decide +kernel
theorem dL_law_591 : decode cL_law 591 = .ok (.iconst 0, 1) := by decide +kernel
theorem dL_law_592 : decode cL_law 592 = .ok (.ireturn, 1) := by decide +kernel
theorem dL_law_593 : decode cL_law 593 = .ok (.aload_n 1, 1) := by decide +kernel
theorem dL_law_594 : decode cL_law 594 = .ok (.invokevirtual 95, 3) := by decide +kernel
theorem dL_law_597 : decode cL_law 597 = .ok (.aload_n 2, 1) := by decide +kernel
theorem dL_law_598 : decode cL_law 598 = .ok (.invokevirtual 98, 3) := by decide +kernel
theorem dL_law_601 : decode cL_law 601 = .ok (.if_icmp .eq 51, 3) := by decide +kernel
theorem dL_law_604 : decode cL_law 604 = .ok (.iconst 0, 1) := by decide +kernel
theorem dL_law_605 : decode cL_law 605 = .ok (.ireturn, 1) := by decide +kernel
theorem dL_law_606 : decode cL_law 606 = .ok (.aload_n 1, 1) := by decide +kernel
theorem dL_law_607 : decode cL_law 607 = .ok (.aload_n 0, 1) := by decide +kernel
theorem dL_law_608 : decode cL_law 608 = .ok (.iload_n 3, 1) := by decide +kernel
theorem dL_law_609 : decode cL_law 609 = .ok (.iconst 1, 1) := by decide +kernel
theorem dL_law_610 : decode cL_law 610 = .ok (.iadd, 1) := by decide +kernel
theorem dL_law_611 : decode cL_law 611 = .ok (.iaload, 1) := by decide +kernel
theorem dL_law_612 : decode cL_law 612 = .ok (.invokevirtual 99, 3) := by decide +kernel
theorem dL_law_615 : decode cL_law 615 = .ok (.aload_n 2, 1) := by decide +kernel
theorem dL_law_616 : decode cL_law 616 = .ok (.aload_n 0, 1) := by decide +kernel
theorem dL_law_617 : decode cL_law 617 = .ok (.iload_n 3, 1) := by decide +kernel
theorem dL_law_618 : decode cL_law 618 = .ok (.iconst 1, 1) := by decide +kernel
theorem dL_law_619 : decode cL_law 619 = .ok (.iadd, 1) := by decide +kernel
theorem dL_law_620 : decode cL_law 620 = .ok (.iaload, 1) := by decide +kernel
theorem dL_law_621 : decode cL_law 621 = .ok (.invokevirtual 102, 3) := by decide +kernel
theorem dL_law_624 : decode cL_law 624 = .ok (.if_icmp .eq 28, 3) := by decide +kernel
theorem dL_law_627 : decode cL_law 627 = .ok (.iconst 0, 1) := by decide +kernel
theorem dL_law_628 : decode cL_law 628 = .ok (.ireturn, 1) := by decide +kernel
theorem dL_law_629 : decode cL_law 629 = .ok (.aload_n 1, 1) := by decide +kernel
theorem dL_law_630 : decode cL_law 630 = .ok (.aload_n 0, 1) := by decide +kernel
theorem dL_law_631 : decode cL_law 631 = .ok (.iload_n 3, 1) := by decide +kernel
theorem dL_law_632 : decode cL_law 632 = .ok (.iconst 1, 1) := by decide +kernel
theorem dL_law_633 : decode cL_law 633 = .ok (.iadd, 1) := by decide +kernel
theorem dL_law_634 : decode cL_law 634 = .ok (.iaload, 1) := by decide +kernel
theorem dL_law_635 : decode cL_law 635 = .ok (.invokevirtual 103, 3) := by decide +kernel
theorem dL_law_638 : decode cL_law 638 = .ok (.aload_n 2, 1) := by decide +kernel
theorem dL_law_639 : decode cL_law 639 = .ok (.aload_n 0, 1) := by decide +kernel
theorem dL_law_640 : decode cL_law 640 = .ok (.iload_n 3, 1) := by decide +kernel
theorem dL_law_641 : decode cL_law 641 = .ok (.iconst 1, 1) := by decide +kernel
theorem dL_law_642 : decode cL_law 642 = .ok (.iadd, 1) := by decide +kernel
theorem dL_law_643 : decode cL_law 643 = .ok (.iaload, 1) := by decide +kernel
theorem dL_law_644 : decode cL_law 644 = .ok (.invokevirtual 106, 3) := by decide +kernel
theorem dL_law_647 : decode cL_law 647 = .ok (.if_icmp .eq 5, 3) := by decide +kernel
theorem dL_law_650 : decode cL_law 650 = .ok (.iconst 0, 1) := by decide +kernel
theorem dL_law_651 : decode cL_law 651 = .ok (.ireturn, 1) := by decide +kernel
theorem dL_law_652 : decode cL_law 652 = .ok (.iinc 3 3, 3) := by decide +kernel
theorem dL_law_655 : decode cL_law 655 = .ok (.goto (-637), 3) := by decide +kernel
theorem dL_law_658 : decode cL_law 658 = .ok (.iconst 1, 1) := by decide +kernel
theorem dL_law_659 : decode cL_law 659 = .ok (.ireturn, 1) := by decide +kernel
