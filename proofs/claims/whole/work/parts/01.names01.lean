theorem dX0_init_0 : decode cX0_init 0 = .ok (.aload_n 0, 1) := by decide +kernel
theorem dX0_init_1 : decode cX0_init 1 = .ok (.invokespecial 3, 3) := by decide +kernel
theorem dX0_init_4 : decode cX0_init 4 = .ok (.aload_n 0, 1) := by decide +kernel
theorem dX0_init_5 : decode cX0_init 5 = .ok (.bipush 12, 2) := by decide +kernel
theorem dX0_init_7 : decode cX0_init 7 = .ok (.newarray .int, 2) := by decide +kernel
theorem dX0_init_9 : decode cX0_init 9 = .ok (.putfield 9, 3) := by decide +kernel
theorem dX0_init_12 : decode cX0_init 12 = .ok (.aload_n 0, 1) := by decide +kernel
theorem dX0_init_13 : decode cX0_init 13 = .ok (.bipush 12, 2) := by decide +kernel
theorem dX0_init_15 : decode cX0_init 15 = .ok (.newarray .int, 2) := by decide +kernel
theorem dX0_init_17 : decode cX0_init 17 = .ok (.putfield 15, 3) := by decide +kernel
theorem dX0_init_20 : decode cX0_init 20 = .ok (.aload_n 0, 1) := by decide +kernel
theorem dX0_init_21 : decode cX0_init 21 = .ok (.iconst 4, 1) := by decide +kernel
theorem dX0_init_22 : decode cX0_init 22 = .ok (.newarray .int, 2) := by decide +kernel
theorem dX0_init_24 : decode cX0_init 24 = .ok (.putfield 18, 3) := by decide +kernel
theorem dX0_init_27 : decode cX0_init 27 = .ok (.aload_n 0, 1) := by decide +kernel
theorem dX0_init_28 : decode cX0_init 28 = .ok (.iconst 4, 1) := by decide +kernel
theorem dX0_init_29 : decode cX0_init 29 = .ok (.newarray .int, 2) := by decide +kernel
theorem dX0_init_31 : decode cX0_init 31 = .ok (.putfield 21, 3) := by decide +kernel
theorem dX0_init_34 : decode cX0_init 34 = .ok (.aload_n 0, 1) := by decide +kernel
theorem dX0_init_35 : decode cX0_init 35 = .ok (.iconst 0, 1) := by decide +kernel
theorem dX0_init_36 : decode cX0_init 36 = .ok (.putfield 24, 3) := by decide +kernel
theorem dX0_init_39 : decode cX0_init 39 = .ok (.iconst 0, 1) := by decide +kernel
theorem dX0_init_40 : decode cX0_init 40 = .ok (.istore_n 1, 1) := by decide +kernel
theorem dX0_init_41 : decode cX0_init 41 = .ok (.iload_n 1, 1) := by decide +kernel
theorem dX0_init_42 : decode cX0_init 42 = .ok (.bipush 12, 2) := by decide +kernel
theorem dX0_init_44 : decode cX0_init 44 = .ok (.if_icmp .ge 17, 3) := by decide +kernel
theorem dX0_init_47 : decode cX0_init 47 = .ok (.aload_n 0, 1) := by decide +kernel
theorem dX0_init_48 : decode cX0_init 48 = .ok (.getfield 9, 3) := by decide +kernel
theorem dX0_init_51 : decode cX0_init 51 = .ok (.iload_n 1, 1) := by decide +kernel
theorem dX0_init_52 : decode cX0_init 52 = .ok (.bipush (-6), 2) := by decide +kernel
theorem dX0_init_54 : decode cX0_init 54 = .ok (.iastore, 1) := by decide +kernel
theorem dX0_init_55 : decode cX0_init 55 = .ok (.iinc 1 1, 3) := by decide +kernel
theorem dX0_init_58 : decode cX0_init 58 = .ok (.goto (-17), 3) := by decide +kernel
theorem dX0_init_61 : decode cX0_init 61 = .ok (.iconst 0, 1) := by decide +kernel
theorem dX0_init_62 : decode cX0_init 62 = .ok (.istore_n 1, 1) := by decide +kernel
theorem dX0_init_63 : decode cX0_init 63 = .ok (.iload_n 1, 1) := by decide +kernel
theorem dX0_init_64 : decode cX0_init 64 = .ok (.iconst 4, 1) := by decide +kernel
theorem dX0_init_65 : decode cX0_init 65 = .ok (.if_icmp .ge 16, 3) := by decide +kernel
theorem dX0_init_68 : decode cX0_init 68 = .ok (.aload_n 0, 1) := by decide +kernel
theorem dX0_init_69 : decode cX0_init 69 = .ok (.getfield 18, 3) := by decide +kernel
theorem dX0_init_72 : decode cX0_init 72 = .ok (.iload_n 1, 1) := by decide +kernel
theorem dX0_init_73 : decode cX0_init 73 = .ok (.iconst 1, 1) := by decide +kernel
theorem dX0_init_74 : decode cX0_init 74 = .ok (.iastore, 1) := by decide +kernel
theorem dX0_init_75 : decode cX0_init 75 = .ok (.iinc 1 1, 3) := by decide +kernel
theorem dX0_init_78 : decode cX0_init 78 = .ok (.goto (-15), 3) := by decide +kernel
theorem dX0_init_81 : decode cX0_init 81 = .ok (.return_, 1) := by decide +kernel
theorem dX0_copyFrom_0 : decode cX0_copyFrom 0 = .ok (.aload_n 1, 1) := by decide +kernel
theorem dX0_copyFrom_1 : decode cX0_copyFrom 1 = .ok (.getfield 9, 3) := by decide +kernel
theorem dX0_copyFrom_4 : decode cX0_copyFrom 4 = .ok (.iconst 0, 1) := by decide +kernel
theorem dX0_copyFrom_5 : decode cX0_copyFrom 5 = .ok (.aload_n 0, 1) := by decide +kernel
theorem dX0_copyFrom_6 : decode cX0_copyFrom 6 = .ok (.getfield 9, 3) := by decide +kernel
theorem dX0_copyFrom_9 : decode cX0_copyFrom 9 = .ok (.iconst 0, 1) := by decide +kernel
theorem dX0_copyFrom_10 : decode cX0_copyFrom 10 = .ok (.bipush 12, 2) := by decide +kernel
theorem dX0_copyFrom_12 : decode cX0_copyFrom 12 = .ok (.invokestatic 28, 3) := by decide +kernel
theorem dX0_copyFrom_15 : decode cX0_copyFrom 15 = .ok (.aload_n 1, 1) := by decide +kernel
theorem dX0_copyFrom_16 : decode cX0_copyFrom 16 = .ok (.getfield 15, 3) := by decide +kernel
theorem dX0_copyFrom_19 : decode cX0_copyFrom 19 = .ok (.iconst 0, 1) := by decide +kernel
theorem dX0_copyFrom_20 : decode cX0_copyFrom 20 = .ok (.aload_n 0, 1) := by decide +kernel
theorem dX0_copyFrom_21 : decode cX0_copyFrom 21 = .ok (.getfield 15, 3) := by decide +kernel
theorem dX0_copyFrom_24 : decode cX0_copyFrom 24 = .ok (.iconst 0, 1) := by decide +kernel
theorem dX0_copyFrom_25 : decode cX0_copyFrom 25 = .ok (.bipush 12, 2) := by decide +kernel
theorem dX0_copyFrom_27 : decode cX0_copyFrom 27 = .ok (.invokestatic 28, 3) := by decide +kernel
theorem dX0_copyFrom_30 : decode cX0_copyFrom 30 = .ok (.aload_n 1, 1) := by decide +kernel
theorem dX0_copyFrom_31 : decode cX0_copyFrom 31 = .ok (.getfield 18, 3) := by decide +kernel
theorem dX0_copyFrom_34 : decode cX0_copyFrom 34 = .ok (.iconst 0, 1) := by decide +kernel
theorem dX0_copyFrom_35 : decode cX0_copyFrom 35 = .ok (.aload_n 0, 1) := by decide +kernel
theorem dX0_copyFrom_36 : decode cX0_copyFrom 36 = .ok (.getfield 18, 3) := by decide +kernel
theorem dX0_copyFrom_39 : decode cX0_copyFrom 39 = .ok (.iconst 0, 1) := by decide +kernel
theorem dX0_copyFrom_40 : decode cX0_copyFrom 40 = .ok (.iconst 4, 1) := by decide +kernel
theorem dX0_copyFrom_41 : decode cX0_copyFrom 41 = .ok (.invokestatic 28, 3) := by decide +kernel
theorem dX0_copyFrom_44 : decode cX0_copyFrom 44 = .ok (.aload_n 1, 1) := by decide +kernel
theorem dX0_copyFrom_45 : decode cX0_copyFrom 45 = .ok (.getfield 21, 3) := by decide +kernel
theorem dX0_copyFrom_48 : decode cX0_copyFrom 48 = .ok (.iconst 0, 1) := by decide +kernel
theorem dX0_copyFrom_49 : decode cX0_copyFrom 49 = .ok (.aload_n 0, 1) := by decide +kernel
theorem dX0_copyFrom_50 : decode cX0_copyFrom 50 = .ok (.getfield 21, 3) := by decide +kernel
theorem dX0_copyFrom_53 : decode cX0_copyFrom 53 = .ok (.iconst 0, 1) := by decide +kernel
theorem dX0_copyFrom_54 : decode cX0_copyFrom 54 = .ok (.iconst 4, 1) := by decide +kernel
theorem dX0_copyFrom_55 : decode cX0_copyFrom 55 = .ok (.invokestatic 28, 3) := by decide +kernel
theorem dX0_copyFrom_58 : decode cX0_copyFrom 58 = .ok (.aload_n 0, 1) := by decide +kernel
theorem dX0_copyFrom_59 : decode cX0_copyFrom 59 = .ok (.aload_n 1, 1) := by decide +kernel
theorem dX0_copyFrom_60 : decode cX0_copyFrom 60 = .ok (.getfield 24, 3) := by decide +kernel
theorem dX0_copyFrom_63 : decode cX0_copyFrom 63 = .ok (.putfield 24, 3) := by decide +kernel
theorem dX0_copyFrom_66 : decode cX0_copyFrom 66 = .ok (.return_, 1) := by decide +kernel
theorem dX0_fieldOf_0 : decode cX0_fieldOf 0 = .ok (.iload_n 1, 1) := by decide +kernel
theorem dX0_fieldOf_1 : decode cX0_fieldOf 1 = .ok (.iconst 3, 1) := by decide +kernel
theorem dX0_fieldOf_2 : decode cX0_fieldOf 2 = .ok (.idiv, 1) := by decide +kernel
theorem dX0_fieldOf_3 : decode cX0_fieldOf 3 = .ok (.aload_n 0, 1) := by decide +kernel
theorem dX0_fieldOf_4 : decode cX0_fieldOf 4 = .ok (.getfield 9, 3) := by decide +kernel
theorem dX0_fieldOf_7 : decode cX0_fieldOf 7 = .ok (.iload_n 1, 1) := by decide +kernel
theorem dX0_fieldOf_8 : decode cX0_fieldOf 8 = .ok (.iaload, 1) := by decide +kernel
theorem dX0_fieldOf_9 : decode cX0_fieldOf 9 = .ok (.invokestatic 34, 3) := by decide +kernel
theorem dX0_fieldOf_12 : decode cX0_fieldOf 12 = .ok (.ireturn, 1) := by decide +kernel
theorem dX0_piecesOn_0 : decode cX0_piecesOn 0 = .ok (.iconst 0, 1) := by decide +kernel
theorem dX0_piecesOn_1 : decode cX0_piecesOn 1 = .ok (.istore_n 2, 1) := by decide +kernel
theorem dX0_piecesOn_2 : decode cX0_piecesOn 2 = .ok (.iconst 0, 1) := by decide +kernel
theorem dX0_piecesOn_3 : decode cX0_piecesOn 3 = .ok (.istore_n 3, 1) := by decide +kernel
theorem dX0_piecesOn_4 : decode cX0_piecesOn 4 = .ok (.iload_n 3, 1) := by decide +kernel
theorem dX0_piecesOn_5 : decode cX0_piecesOn 5 = .ok (.bipush 12, 2) := by decide +kernel
theorem dX0_piecesOn_7 : decode cX0_piecesOn 7 = .ok (.if_icmp .ge 28, 3) := by decide +kernel
theorem dX0_piecesOn_10 : decode cX0_piecesOn 10 = .ok (.iload_n 3, 1) := by decide +kernel
theorem dX0_piecesOn_11 : decode cX0_piecesOn 11 = .ok (.iconst 3, 1) := by decide +kernel
theorem dX0_piecesOn_12 : decode cX0_piecesOn 12 = .ok (.idiv, 1) := by decide +kernel
theorem dX0_piecesOn_13 : decode cX0_piecesOn 13 = .ok (.aload_n 0, 1) := by decide +kernel
theorem dX0_piecesOn_14 : decode cX0_piecesOn 14 = .ok (.getfield 9, 3) := by decide +kernel
theorem dX0_piecesOn_17 : decode cX0_piecesOn 17 = .ok (.iload_n 3, 1) := by decide +kernel
theorem dX0_piecesOn_18 : decode cX0_piecesOn 18 = .ok (.iaload, 1) := by decide +kernel
theorem dX0_piecesOn_19 : decode cX0_piecesOn 19 = .ok (.invokestatic 34, 3) := by decide +kernel
theorem dX0_piecesOn_22 : decode cX0_piecesOn 22 = .ok (.iload_n 1, 1) := by decide +kernel
theorem dX0_piecesOn_23 : decode cX0_piecesOn 23 = .ok (.if_icmp .ne 6, 3) := by decide +kernel
theorem dX0_piecesOn_26 : decode cX0_piecesOn 26 = .ok (.iinc 2 1, 3) := by decide +kernel
theorem dX0_piecesOn_29 : decode cX0_piecesOn 29 = .ok (.iinc 3 1, 3) := by decide +kernel
theorem dX0_piecesOn_32 : decode cX0_piecesOn 32 = .ok (.goto (-28), 3) := by decide +kernel
theorem dX0_piecesOn_35 : decode cX0_piecesOn 35 = .ok (.iload_n 2, 1) := by decide +kernel
theorem dX0_piecesOn_36 : decode cX0_piecesOn 36 = .ok (.ireturn, 1) := by decide +kernel
theorem dX0_lowestOn_0 : decode cX0_lowestOn 0 = .ok (.iconst 0, 1) := by decide +kernel
theorem dX0_lowestOn_1 : decode cX0_lowestOn 1 = .ok (.istore_n 2, 1) := by decide +kernel
theorem dX0_lowestOn_2 : decode cX0_lowestOn 2 = .ok (.iload_n 2, 1) := by decide +kernel
theorem dX0_lowestOn_3 : decode cX0_lowestOn 3 = .ok (.bipush 12, 2) := by decide +kernel
theorem dX0_lowestOn_5 : decode cX0_lowestOn 5 = .ok (.if_icmp .ge 27, 3) := by decide +kernel
theorem dX0_lowestOn_8 : decode cX0_lowestOn 8 = .ok (.iload_n 2, 1) := by decide +kernel
theorem dX0_lowestOn_9 : decode cX0_lowestOn 9 = .ok (.iconst 3, 1) := by decide +kernel
theorem dX0_lowestOn_10 : decode cX0_lowestOn 10 = .ok (.idiv, 1) := by decide +kernel
theorem dX0_lowestOn_11 : decode cX0_lowestOn 11 = .ok (.aload_n 0, 1) := by decide +kernel
theorem dX0_lowestOn_12 : decode cX0_lowestOn 12 = .ok (.getfield 9, 3) := by decide +kernel
theorem dX0_lowestOn_15 : decode cX0_lowestOn 15 = .ok (.iload_n 2, 1) := by decide +kernel
theorem dX0_lowestOn_16 : decode cX0_lowestOn 16 = .ok (.iaload, 1) := by decide +kernel
theorem dX0_lowestOn_17 : decode cX0_lowestOn 17 = .ok (.invokestatic 34, 3) := by decide +kernel
theorem dX0_lowestOn_20 : decode cX0_lowestOn 20 = .ok (.iload_n 1, 1) := by decide +kernel
theorem dX0_lowestOn_21 : decode cX0_lowestOn 21 = .ok (.if_icmp .ne 5, 3) := by decide +kernel
theorem dX0_lowestOn_24 : decode cX0_lowestOn 24 = .ok (.iload_n 2, 1) := by decide +kernel
theorem dX0_lowestOn_25 : decode cX0_lowestOn 25 = .ok (.ireturn, 1) := by decide +kernel
theorem dX0_lowestOn_26 : decode cX0_lowestOn 26 = .ok (.iinc 2 1, 3) := by decide +kernel
theorem dX0_lowestOn_29 : decode cX0_lowestOn 29 = .ok (.goto (-27), 3) := by decide +kernel
theorem dX0_lowestOn_32 : decode cX0_lowestOn 32 = .ok (.bipush (-6), 2) := by decide +kernel
theorem dX0_lowestOn_34 : decode cX0_lowestOn 34 = .ok (.ireturn, 1) := by decide +kernel
theorem dX0_rivalsAt_0 : decode cX0_rivalsAt 0 = .ok (.iload_n 1, 1) := by decide +kernel
theorem dX0_rivalsAt_1 : decode cX0_rivalsAt 1 = .ok (.iload_n 2, 1) := by decide +kernel
theorem dX0_rivalsAt_2 : decode cX0_rivalsAt 2 = .ok (.invokestatic 34, 3) := by decide +kernel
theorem dX0_rivalsAt_5 : decode cX0_rivalsAt 5 = .ok (.istore_n 3, 1) := by decide +kernel
theorem dX0_rivalsAt_6 : decode cX0_rivalsAt 6 = .ok (.iconst 0, 1) := by decide +kernel
theorem dX0_rivalsAt_7 : decode cX0_rivalsAt 7 = .ok (.istore 4, 2) := by decide +kernel
theorem dX0_rivalsAt_9 : decode cX0_rivalsAt 9 = .ok (.iconst 0, 1) := by decide +kernel
theorem dX0_rivalsAt_10 : decode cX0_rivalsAt 10 = .ok (.istore 5, 2) := by decide +kernel
theorem dX0_rivalsAt_12 : decode cX0_rivalsAt 12 = .ok (.iload 5, 2) := by decide +kernel
theorem dX0_rivalsAt_14 : decode cX0_rivalsAt 14 = .ok (.bipush 12, 2) := by decide +kernel
theorem dX0_rivalsAt_16 : decode cX0_rivalsAt 16 = .ok (.if_icmp .ge 44, 3) := by decide +kernel
theorem dX0_rivalsAt_19 : decode cX0_rivalsAt 19 = .ok (.iload_n 3, 1) := by decide +kernel
theorem dX0_rivalsAt_20 : decode cX0_rivalsAt 20 = .ok (.bipush (-6), 2) := by decide +kernel
theorem dX0_rivalsAt_22 : decode cX0_rivalsAt 22 = .ok (.if_icmp .eq 38, 3) := by decide +kernel
theorem dX0_rivalsAt_25 : decode cX0_rivalsAt 25 = .ok (.iload 5, 2) := by decide +kernel
theorem dX0_rivalsAt_27 : decode cX0_rivalsAt 27 = .ok (.iconst 3, 1) := by decide +kernel
theorem dX0_rivalsAt_28 : decode cX0_rivalsAt 28 = .ok (.idiv, 1) := by decide +kernel
theorem dX0_rivalsAt_29 : decode cX0_rivalsAt 29 = .ok (.iload_n 1, 1) := by decide +kernel
theorem dX0_rivalsAt_30 : decode cX0_rivalsAt 30 = .ok (.if_icmp .eq 24, 3) := by decide +kernel
theorem dX0_rivalsAt_33 : decode cX0_rivalsAt 33 = .ok (.iload 5, 2) := by decide +kernel
theorem dX0_rivalsAt_35 : decode cX0_rivalsAt 35 = .ok (.iconst 3, 1) := by decide +kernel
theorem dX0_rivalsAt_36 : decode cX0_rivalsAt 36 = .ok (.idiv, 1) := by decide +kernel
theorem dX0_rivalsAt_37 : decode cX0_rivalsAt 37 = .ok (.aload_n 0, 1) := by decide +kernel
theorem dX0_rivalsAt_38 : decode cX0_rivalsAt 38 = .ok (.getfield 9, 3) := by decide +kernel
theorem dX0_rivalsAt_41 : decode cX0_rivalsAt 41 = .ok (.iload 5, 2) := by decide +kernel
theorem dX0_rivalsAt_43 : decode cX0_rivalsAt 43 = .ok (.iaload, 1) := by decide +kernel
theorem dX0_rivalsAt_44 : decode cX0_rivalsAt 44 = .ok (.invokestatic 34, 3) := by decide +kernel
theorem dX0_rivalsAt_47 : decode cX0_rivalsAt 47 = .ok (.iload_n 3, 1) := by decide +kernel
theorem dX0_rivalsAt_48 : decode cX0_rivalsAt 48 = .ok (.if_icmp .ne 6, 3) := by decide +kernel
theorem dX0_rivalsAt_51 : decode cX0_rivalsAt 51 = .ok (.iinc 4 1, 3) := by decide +kernel
theorem dX0_rivalsAt_54 : decode cX0_rivalsAt 54 = .ok (.iinc 5 1, 3) := by decide +kernel
theorem dX0_rivalsAt_57 : decode cX0_rivalsAt 57 = .ok (.goto (-45), 3) := by decide +kernel
theorem dX0_rivalsAt_60 : decode cX0_rivalsAt 60 = .ok (.iload 4, 2) := by decide +kernel
theorem dX0_rivalsAt_62 : decode cX0_rivalsAt 62 = .ok (.ireturn, 1) := by decide +kernel
theorem dX0_matesAt_0 : decode cX0_matesAt 0 = .ok (.iload_n 1, 1) := by decide +kernel
theorem dX0_matesAt_1 : decode cX0_matesAt 1 = .ok (.iload_n 1, 1) := by decide +kernel
theorem dX0_matesAt_2 : decode cX0_matesAt 2 = .ok (.iconst 3, 1) := by decide +kernel
theorem dX0_matesAt_3 : decode cX0_matesAt 3 = .ok (.irem, 1) := by decide +kernel
theorem dX0_matesAt_4 : decode cX0_matesAt 4 = .ok (.isub, 1) := by decide +kernel
theorem dX0_matesAt_5 : decode cX0_matesAt 5 = .ok (.istore_n 3, 1) := by decide +kernel
theorem dX0_matesAt_6 : decode cX0_matesAt 6 = .ok (.iconst 0, 1) := by decide +kernel
theorem dX0_matesAt_7 : decode cX0_matesAt 7 = .ok (.istore 4, 2) := by decide +kernel
theorem dX0_matesAt_9 : decode cX0_matesAt 9 = .ok (.iload_n 3, 1) := by decide +kernel
theorem dX0_matesAt_10 : decode cX0_matesAt 10 = .ok (.istore 5, 2) := by decide +kernel
theorem dX0_matesAt_12 : decode cX0_matesAt 12 = .ok (.iload 5, 2) := by decide +kernel
theorem dX0_matesAt_14 : decode cX0_matesAt 14 = .ok (.iload_n 3, 1) := by decide +kernel
theorem dX0_matesAt_15 : decode cX0_matesAt 15 = .ok (.iconst 3, 1) := by decide +kernel
theorem dX0_matesAt_16 : decode cX0_matesAt 16 = .ok (.iadd, 1) := by decide +kernel
theorem dX0_matesAt_17 : decode cX0_matesAt 17 = .ok (.if_icmp .ge 29, 3) := by decide +kernel
theorem dX0_matesAt_20 : decode cX0_matesAt 20 = .ok (.iload 5, 2) := by decide +kernel
theorem dX0_matesAt_22 : decode cX0_matesAt 22 = .ok (.iload_n 1, 1) := by decide +kernel
theorem dX0_matesAt_23 : decode cX0_matesAt 23 = .ok (.if_icmp .eq 17, 3) := by decide +kernel
theorem dX0_matesAt_26 : decode cX0_matesAt 26 = .ok (.aload_n 0, 1) := by decide +kernel
theorem dX0_matesAt_27 : decode cX0_matesAt 27 = .ok (.getfield 9, 3) := by decide +kernel
theorem dX0_matesAt_30 : decode cX0_matesAt 30 = .ok (.iload 5, 2) := by decide +kernel
theorem dX0_matesAt_32 : decode cX0_matesAt 32 = .ok (.iaload, 1) := by decide +kernel
theorem dX0_matesAt_33 : decode cX0_matesAt 33 = .ok (.iload_n 2, 1) := by decide +kernel
theorem dX0_matesAt_34 : decode cX0_matesAt 34 = .ok (.if_icmp .ne 6, 3) := by decide +kernel
theorem dX0_matesAt_37 : decode cX0_matesAt 37 = .ok (.iinc 4 1, 3) := by decide +kernel
theorem dX0_matesAt_40 : decode cX0_matesAt 40 = .ok (.iinc 5 1, 3) := by decide +kernel
theorem dX0_matesAt_43 : decode cX0_matesAt 43 = .ok (.goto (-31), 3) := by decide +kernel
theorem dX0_matesAt_46 : decode cX0_matesAt 46 = .ok (.iload 4, 2) := by decide +kernel
theorem dX0_matesAt_48 : decode cX0_matesAt 48 = .ok (.ireturn, 1) := by decide +kernel
theorem dX0_isInPair_0 : decode cX0_isInPair 0 = .ok (.aload_n 0, 1) := by decide +kernel
theorem dX0_isInPair_1 : decode cX0_isInPair 1 = .ok (.getfield 9, 3) := by decide +kernel
theorem dX0_isInPair_4 : decode cX0_isInPair 4 = .ok (.iload_n 1, 1) := by decide +kernel
theorem dX0_isInPair_5 : decode cX0_isInPair 5 = .ok (.iaload, 1) := by decide +kernel
theorem dX0_isInPair_6 : decode cX0_isInPair 6 = .ok (.invokestatic 38, 3) := by decide +kernel
theorem dX0_isInPair_9 : decode cX0_isInPair 9 = .ok (.ifCond .eq 21, 3) := by decide +kernel
theorem dX0_isInPair_12 : decode cX0_isInPair 12 = .ok (.aload_n 0, 1) := by decide +kernel
theorem dX0_isInPair_13 : decode cX0_isInPair 13 = .ok (.iload_n 1, 1) := by decide +kernel
theorem dX0_isInPair_14 : decode cX0_isInPair 14 = .ok (.aload_n 0, 1) := by decide +kernel
theorem dX0_isInPair_15 : decode cX0_isInPair 15 = .ok (.getfield 9, 3) := by decide +kernel
theorem dX0_isInPair_18 : decode cX0_isInPair 18 = .ok (.iload_n 1, 1) := by decide +kernel
theorem dX0_isInPair_19 : decode cX0_isInPair 19 = .ok (.iaload, 1) := by decide +kernel
theorem dX0_isInPair_20 : decode cX0_isInPair 20 = .ok (.invokevirtual 42, 3) := by decide +kernel
theorem dX0_isInPair_23 : decode cX0_isInPair 23 = .ok (.ifCond .le 7, 3) := by decide +kernel
theorem dX0_isInPair_26 : decode cX0_isInPair 26 = .ok (.iconst 1, 1) := by decide +kernel
theorem dX0_isInPair_27 : decode cX0_isInPair 27 = .ok (.goto 4, 3) := by decide +kernel
theorem dX0_isInPair_30 : decode cX0_isInPair 30 = .ok (.iconst 0, 1) := by decide +kernel
theorem dX0_isInPair_31 : decode cX0_isInPair 31 = .ok (.ireturn, 1) := by decide +kernel
theorem dX0_isFullFor_0 : decode cX0_isFullFor 0 = .ok (.iload_n 2, 1) := by decide +kernel
theorem dX0_isFullFor_1 : decode cX0_isFullFor 1 = .ok (.bipush (-6), 2) := by decide +kernel
theorem dX0_isFullFor_3 : decode cX0_isFullFor 3 = .ok (.if_icmp .eq 23, 3) := by decide +kernel
theorem dX0_isFullFor_6 : decode cX0_isFullFor 6 = .ok (.iload_n 2, 1) := by decide +kernel
theorem dX0_isFullFor_7 : decode cX0_isFullFor 7 = .ok (.bipush 35, 2) := by decide +kernel
theorem dX0_isFullFor_9 : decode cX0_isFullFor 9 = .ok (.if_icmp .eq 17, 3) := by decide +kernel
theorem dX0_isFullFor_12 : decode cX0_isFullFor 12 = .ok (.aload_n 0, 1) := by decide +kernel
theorem dX0_isFullFor_13 : decode cX0_isFullFor 13 = .ok (.iload_n 1, 1) := by decide +kernel
theorem dX0_isFullFor_14 : decode cX0_isFullFor 14 = .ok (.iload_n 2, 1) := by decide +kernel
theorem dX0_isFullFor_15 : decode cX0_isFullFor 15 = .ok (.invokevirtual 42, 3) := by decide +kernel
theorem dX0_isFullFor_18 : decode cX0_isFullFor 18 = .ok (.iconst 2, 1) := by decide +kernel
theorem dX0_isFullFor_19 : decode cX0_isFullFor 19 = .ok (.if_icmp .lt 7, 3) := by decide +kernel
theorem dX0_isFullFor_22 : decode cX0_isFullFor 22 = .ok (.iconst 1, 1) := by decide +kernel
theorem dX0_isFullFor_23 : decode cX0_isFullFor 23 = .ok (.goto 4, 3) := by decide +kernel
theorem dX0_isFullFor_26 : decode cX0_isFullFor 26 = .ok (.iconst 0, 1) := by decide +kernel
theorem dX0_isFullFor_27 : decode cX0_isFullFor 27 = .ok (.ireturn, 1) := by decide +kernel
theorem dX0_hasRoomFor_0 : decode cX0_hasRoomFor 0 = .ok (.iload_n 1, 1) := by decide +kernel
theorem dX0_hasRoomFor_1 : decode cX0_hasRoomFor 1 = .ok (.iconst 3, 1) := by decide +kernel
theorem dX0_hasRoomFor_2 : decode cX0_hasRoomFor 2 = .ok (.idiv, 1) := by decide +kernel
theorem dX0_hasRoomFor_3 : decode cX0_hasRoomFor 3 = .ok (.istore_n 3, 1) := by decide +kernel
theorem dX0_hasRoomFor_4 : decode cX0_hasRoomFor 4 = .ok (.aload_n 0, 1) := by decide +kernel
theorem dX0_hasRoomFor_5 : decode cX0_hasRoomFor 5 = .ok (.iload_n 3, 1) := by decide +kernel
theorem dX0_hasRoomFor_6 : decode cX0_hasRoomFor 6 = .ok (.iload_n 2, 1) := by decide +kernel
theorem dX0_hasRoomFor_7 : decode cX0_hasRoomFor 7 = .ok (.invokevirtual 45, 3) := by decide +kernel
theorem dX0_hasRoomFor_10 : decode cX0_hasRoomFor 10 = .ok (.ifCond .ne 25, 3) := by decide +kernel
theorem dX0_hasRoomFor_13 : decode cX0_hasRoomFor 13 = .ok (.aload_n 0, 1) := by decide +kernel
theorem dX0_hasRoomFor_14 : decode cX0_hasRoomFor 14 = .ok (.iload_n 1, 1) := by decide +kernel
theorem dX0_hasRoomFor_15 : decode cX0_hasRoomFor 15 = .ok (.iload_n 2, 1) := by decide +kernel
theorem dX0_hasRoomFor_16 : decode cX0_hasRoomFor 16 = .ok (.invokevirtual 48, 3) := by decide +kernel
theorem dX0_hasRoomFor_19 : decode cX0_hasRoomFor 19 = .ok (.ifCond .ne 16, 3) := by decide +kernel
theorem dX0_hasRoomFor_22 : decode cX0_hasRoomFor 22 = .ok (.aload_n 0, 1) := by decide +kernel
theorem dX0_hasRoomFor_23 : decode cX0_hasRoomFor 23 = .ok (.iload_n 3, 1) := by decide +kernel
theorem dX0_hasRoomFor_24 : decode cX0_hasRoomFor 24 = .ok (.iload_n 2, 1) := by decide +kernel
theorem dX0_hasRoomFor_25 : decode cX0_hasRoomFor 25 = .ok (.invokevirtual 52, 3) := by decide +kernel
theorem dX0_hasRoomFor_28 : decode cX0_hasRoomFor 28 = .ok (.ifCond .ne 7, 3) := by decide +kernel
theorem dX0_hasRoomFor_31 : decode cX0_hasRoomFor 31 = .ok (.iconst 1, 1) := by decide +kernel
theorem dX0_hasRoomFor_32 : decode cX0_hasRoomFor 32 = .ok (.goto 4, 3) := by decide +kernel
theorem dX0_hasRoomFor_35 : decode cX0_hasRoomFor 35 = .ok (.iconst 0, 1) := by decide +kernel
theorem dX0_hasRoomFor_36 : decode cX0_hasRoomFor 36 = .ok (.ireturn, 1) := by decide +kernel
theorem dX0_homeOf_0 : decode cX0_homeOf 0 = .ok (.iconst 0, 1) := by decide +kernel
theorem dX0_homeOf_1 : decode cX0_homeOf 1 = .ok (.istore_n 2, 1) := by decide +kernel
theorem dX0_homeOf_2 : decode cX0_homeOf 2 = .ok (.iload_n 1, 1) := by decide +kernel
theorem dX0_homeOf_3 : decode cX0_homeOf 3 = .ok (.iconst 3, 1) := by decide +kernel
theorem dX0_homeOf_4 : decode cX0_homeOf 4 = .ok (.imul, 1) := by decide +kernel
theorem dX0_homeOf_5 : decode cX0_homeOf 5 = .ok (.istore_n 3, 1) := by decide +kernel
theorem dX0_homeOf_6 : decode cX0_homeOf 6 = .ok (.iload_n 3, 1) := by decide +kernel
theorem dX0_homeOf_7 : decode cX0_homeOf 7 = .ok (.iload_n 1, 1) := by decide +kernel
theorem dX0_homeOf_8 : decode cX0_homeOf 8 = .ok (.iconst 3, 1) := by decide +kernel
theorem dX0_homeOf_9 : decode cX0_homeOf 9 = .ok (.imul, 1) := by decide +kernel
theorem dX0_homeOf_10 : decode cX0_homeOf 10 = .ok (.iconst 3, 1) := by decide +kernel
theorem dX0_homeOf_11 : decode cX0_homeOf 11 = .ok (.iadd, 1) := by decide +kernel
theorem dX0_homeOf_12 : decode cX0_homeOf 12 = .ok (.if_icmp .ge 23, 3) := by decide +kernel
theorem dX0_homeOf_15 : decode cX0_homeOf 15 = .ok (.aload_n 0, 1) := by decide +kernel
theorem dX0_homeOf_16 : decode cX0_homeOf 16 = .ok (.getfield 9, 3) := by decide +kernel
theorem dX0_homeOf_19 : decode cX0_homeOf 19 = .ok (.iload_n 3, 1) := by decide +kernel
theorem dX0_homeOf_20 : decode cX0_homeOf 20 = .ok (.iaload, 1) := by decide +kernel
theorem dX0_homeOf_21 : decode cX0_homeOf 21 = .ok (.bipush 35, 2) := by decide +kernel
theorem dX0_homeOf_23 : decode cX0_homeOf 23 = .ok (.if_icmp .ne 6, 3) := by decide +kernel
theorem dX0_homeOf_26 : decode cX0_homeOf 26 = .ok (.iinc 2 1, 3) := by decide +kernel
theorem dX0_homeOf_29 : decode cX0_homeOf 29 = .ok (.iinc 3 1, 3) := by decide +kernel
theorem dX0_homeOf_32 : decode cX0_homeOf 32 = .ok (.goto (-26), 3) := by decide +kernel
theorem dX0_homeOf_35 : decode cX0_homeOf 35 = .ok (.iload_n 2, 1) := by decide +kernel
theorem dX0_homeOf_36 : decode cX0_homeOf 36 = .ok (.ireturn, 1) := by decide +kernel
theorem dX0_winner_0 : decode cX0_winner 0 = .ok (.iconst 0, 1) := by decide +kernel
theorem dX0_winner_1 : decode cX0_winner 1 = .ok (.istore_n 1, 1) := by decide +kernel
theorem dX0_winner_2 : decode cX0_winner 2 = .ok (.iload_n 1, 1) := by decide +kernel
theorem dX0_winner_3 : decode cX0_winner 3 = .ok (.iconst 4, 1) := by decide +kernel
theorem dX0_winner_4 : decode cX0_winner 4 = .ok (.if_icmp .ge 20, 3) := by decide +kernel
theorem dX0_winner_7 : decode cX0_winner 7 = .ok (.aload_n 0, 1) := by decide +kernel
theorem dX0_winner_8 : decode cX0_winner 8 = .ok (.iload_n 1, 1) := by decide +kernel
theorem dX0_winner_9 : decode cX0_winner 9 = .ok (.invokevirtual 55, 3) := by decide +kernel
theorem dX0_winner_12 : decode cX0_winner 12 = .ok (.iconst 3, 1) := by decide +kernel
theorem dX0_winner_13 : decode cX0_winner 13 = .ok (.if_icmp .ne 5, 3) := by decide +kernel
theorem dX0_winner_16 : decode cX0_winner 16 = .ok (.iload_n 1, 1) := by decide +kernel
theorem dX0_winner_17 : decode cX0_winner 17 = .ok (.ireturn, 1) := by decide +kernel
theorem dX0_winner_18 : decode cX0_winner 18 = .ok (.iinc 1 1, 3) := by decide +kernel
theorem dX0_winner_21 : decode cX0_winner 21 = .ok (.goto (-19), 3) := by decide +kernel
theorem dX0_winner_24 : decode cX0_winner 24 = .ok (.bipush (-6), 2) := by decide +kernel
theorem dX0_winner_26 : decode cX0_winner 26 = .ok (.ireturn, 1) := by decide +kernel
theorem dX0_sentBackInAll_0 : decode cX0_sentBackInAll 0 = .ok (.iconst 0, 1) := by decide +kernel
theorem dX0_sentBackInAll_1 : decode cX0_sentBackInAll 1 = .ok (.istore_n 1, 1) := by decide +kernel
theorem dX0_sentBackInAll_2 : decode cX0_sentBackInAll 2 = .ok (.iconst 0, 1) := by decide +kernel
theorem dX0_sentBackInAll_3 : decode cX0_sentBackInAll 3 = .ok (.istore_n 2, 1) := by decide +kernel
theorem dX0_sentBackInAll_4 : decode cX0_sentBackInAll 4 = .ok (.iload_n 2, 1) := by decide +kernel
theorem dX0_sentBackInAll_5 : decode cX0_sentBackInAll 5 = .ok (.bipush 12, 2) := by decide +kernel
theorem dX0_sentBackInAll_7 : decode cX0_sentBackInAll 7 = .ok (.if_icmp .ge 18, 3) := by decide +kernel
theorem dX0_sentBackInAll_10 : decode cX0_sentBackInAll 10 = .ok (.iload_n 1, 1) := by decide +kernel
theorem dX0_sentBackInAll_11 : decode cX0_sentBackInAll 11 = .ok (.aload_n 0, 1) := by decide +kernel
theorem dX0_sentBackInAll_12 : decode cX0_sentBackInAll 12 = .ok (.getfield 15, 3) := by decide +kernel
theorem dX0_sentBackInAll_15 : decode cX0_sentBackInAll 15 = .ok (.iload_n 2, 1) := by decide +kernel
theorem dX0_sentBackInAll_16 : decode cX0_sentBackInAll 16 = .ok (.iaload, 1) := by decide +kernel
theorem dX0_sentBackInAll_17 : decode cX0_sentBackInAll 17 = .ok (.iadd, 1) := by decide +kernel
theorem dX0_sentBackInAll_18 : decode cX0_sentBackInAll 18 = .ok (.istore_n 1, 1) := by decide +kernel
theorem dX0_sentBackInAll_19 : decode cX0_sentBackInAll 19 = .ok (.iinc 2 1, 3) := by decide +kernel
theorem dX0_sentBackInAll_22 : decode cX0_sentBackInAll 22 = .ok (.goto (-18), 3) := by decide +kernel
theorem dX0_sentBackInAll_25 : decode cX0_sentBackInAll 25 = .ok (.iload_n 1, 1) := by decide +kernel
theorem dX0_sentBackInAll_26 : decode cX0_sentBackInAll 26 = .ok (.ireturn, 1) := by decide +kernel
theorem dX0_bridgeState_0 : decode cX0_bridgeState 0 = .ok (.iload_n 1, 1) := by decide +kernel
theorem dX0_bridgeState_1 : decode cX0_bridgeState 1 = .ok (.invokestatic 59, 3) := by decide +kernel
theorem dX0_bridgeState_4 : decode cX0_bridgeState 4 = .ok (.istore_n 2, 1) := by decide +kernel
theorem dX0_bridgeState_5 : decode cX0_bridgeState 5 = .ok (.iload_n 2, 1) := by decide +kernel
theorem dX0_bridgeState_6 : decode cX0_bridgeState 6 = .ok (.bipush (-6), 2) := by decide +kernel
theorem dX0_bridgeState_8 : decode cX0_bridgeState 8 = .ok (.if_icmp .ne 7, 3) := by decide +kernel
theorem dX0_bridgeState_11 : decode cX0_bridgeState 11 = .ok (.iconst 0, 1) := by decide +kernel
theorem dX0_bridgeState_12 : decode cX0_bridgeState 12 = .ok (.goto 9, 3) := by decide +kernel
theorem dX0_bridgeState_15 : decode cX0_bridgeState 15 = .ok (.aload_n 0, 1) := by decide +kernel
theorem dX0_bridgeState_16 : decode cX0_bridgeState 16 = .ok (.getfield 18, 3) := by decide +kernel
theorem dX0_bridgeState_19 : decode cX0_bridgeState 19 = .ok (.iload_n 2, 1) := by decide +kernel
theorem dX0_bridgeState_20 : decode cX0_bridgeState 20 = .ok (.iaload, 1) := by decide +kernel
theorem dX0_bridgeState_21 : decode cX0_bridgeState 21 = .ok (.ireturn, 1) := by decide +kernel
theorem dX0_isFallenAt_0 : decode cX0_isFallenAt 0 = .ok (.iload_n 1, 1) := by decide +kernel
theorem dX0_isFallenAt_1 : decode cX0_isFallenAt 1 = .ok (.iload_n 2, 1) := by decide +kernel
theorem dX0_isFallenAt_2 : decode cX0_isFallenAt 2 = .ok (.invokestatic 34, 3) := by decide +kernel
theorem dX0_isFallenAt_5 : decode cX0_isFallenAt 5 = .ok (.invokestatic 59, 3) := by decide +kernel
theorem dX0_isFallenAt_8 : decode cX0_isFallenAt 8 = .ok (.istore_n 3, 1) := by decide +kernel
theorem dX0_isFallenAt_9 : decode cX0_isFallenAt 9 = .ok (.iload_n 3, 1) := by decide +kernel
theorem dX0_isFallenAt_10 : decode cX0_isFallenAt 10 = .ok (.bipush (-6), 2) := by decide +kernel
theorem dX0_isFallenAt_12 : decode cX0_isFallenAt 12 = .ok (.if_icmp .eq 17, 3) := by decide +kernel
theorem dX0_isFallenAt_15 : decode cX0_isFallenAt 15 = .ok (.aload_n 0, 1) := by decide +kernel
theorem dX0_isFallenAt_16 : decode cX0_isFallenAt 16 = .ok (.getfield 18, 3) := by decide +kernel
theorem dX0_isFallenAt_19 : decode cX0_isFallenAt 19 = .ok (.iload_n 3, 1) := by decide +kernel
theorem dX0_isFallenAt_20 : decode cX0_isFallenAt 20 = .ok (.iaload, 1) := by decide +kernel
theorem dX0_isFallenAt_21 : decode cX0_isFallenAt 21 = .ok (.iconst 3, 1) := by decide +kernel
theorem dX0_isFallenAt_22 : decode cX0_isFallenAt 22 = .ok (.if_icmp .ne 7, 3) := by decide +kernel
theorem dX0_isFallenAt_25 : decode cX0_isFallenAt 25 = .ok (.iconst 1, 1) := by decide +kernel
theorem dX0_isFallenAt_26 : decode cX0_isFallenAt 26 = .ok (.goto 4, 3) := by decide +kernel
theorem dX0_isFallenAt_29 : decode cX0_isFallenAt 29 = .ok (.iconst 0, 1) := by decide +kernel
theorem dX0_isFallenAt_30 : decode cX0_isFallenAt 30 = .ok (.ireturn, 1) := by decide +kernel
theorem dX0_fallenSet_0 : decode cX0_fallenSet 0 = .ok (.iconst 0, 1) := by decide +kernel
theorem dX0_fallenSet_1 : decode cX0_fallenSet 1 = .ok (.istore_n 1, 1) := by decide +kernel
theorem dX0_fallenSet_2 : decode cX0_fallenSet 2 = .ok (.iconst 0, 1) := by decide +kernel
theorem dX0_fallenSet_3 : decode cX0_fallenSet 3 = .ok (.istore_n 2, 1) := by decide +kernel
theorem dX0_fallenSet_4 : decode cX0_fallenSet 4 = .ok (.iload_n 2, 1) := by decide +kernel
theorem dX0_fallenSet_5 : decode cX0_fallenSet 5 = .ok (.iconst 4, 1) := by decide +kernel
theorem dX0_fallenSet_6 : decode cX0_fallenSet 6 = .ok (.if_icmp .ge 25, 3) := by decide +kernel
theorem dX0_fallenSet_9 : decode cX0_fallenSet 9 = .ok (.aload_n 0, 1) := by decide +kernel
theorem dX0_fallenSet_10 : decode cX0_fallenSet 10 = .ok (.getfield 18, 3) := by decide +kernel
theorem dX0_fallenSet_13 : decode cX0_fallenSet 13 = .ok (.iload_n 2, 1) := by decide +kernel
theorem dX0_fallenSet_14 : decode cX0_fallenSet 14 = .ok (.iaload, 1) := by decide +kernel
theorem dX0_fallenSet_15 : decode cX0_fallenSet 15 = .ok (.iconst 3, 1) := by decide +kernel
theorem dX0_fallenSet_16 : decode cX0_fallenSet 16 = .ok (.if_icmp .ne 9, 3) := by decide +kernel
theorem dX0_fallenSet_19 : decode cX0_fallenSet 19 = .ok (.iload_n 1, 1) := by decide +kernel
theorem dX0_fallenSet_20 : decode cX0_fallenSet 20 = .ok (.iconst 1, 1) := by decide +kernel
theorem dX0_fallenSet_21 : decode cX0_fallenSet 21 = .ok (.iload_n 2, 1) := by decide +kernel
theorem dX0_fallenSet_22 : decode cX0_fallenSet 22 = .ok (.ishl, 1) := by decide +kernel
theorem dX0_fallenSet_23 : decode cX0_fallenSet 23 = .ok (.ior, 1) := by decide +kernel
theorem dX0_fallenSet_24 : decode cX0_fallenSet 24 = .ok (.istore_n 1, 1) := by decide +kernel
theorem dX0_fallenSet_25 : decode cX0_fallenSet 25 = .ok (.iinc 2 1, 3) := by decide +kernel
theorem dX0_fallenSet_28 : decode cX0_fallenSet 28 = .ok (.goto (-24), 3) := by decide +kernel
theorem dX0_fallenSet_31 : decode cX0_fallenSet 31 = .ok (.iload_n 1, 1) := by decide +kernel
theorem dX0_fallenSet_32 : decode cX0_fallenSet 32 = .ok (.ireturn, 1) := by decide +kernel
theorem dX0_target_0 : decode cX0_target 0 = .ok (.iload_n 2, 1) := by decide +kernel
theorem dX0_target_1 : decode cX0_target 1 = .ok (.bipush (-6), 2) := by decide +kernel
theorem dX0_target_3 : decode cX0_target 3 = .ok (.if_icmp .ne 5, 3) := by decide +kernel
theorem dX0_target_6 : decode cX0_target 6 = .ok (.iconst 0, 1) := by decide +kernel
theorem dX0_target_7 : decode cX0_target 7 = .ok (.ireturn, 1) := by decide +kernel
theorem dX0_target_8 : decode cX0_target 8 = .ok (.iload_n 2, 1) := by decide +kernel
theorem dX0_target_9 : decode cX0_target 9 = .ok (.istore 4, 2) := by decide +kernel
theorem dX0_target_11 : decode cX0_target 11 = .ok (.iload_n 3, 1) := by decide +kernel
theorem dX0_target_12 : decode cX0_target 12 = .ok (.istore 5, 2) := by decide +kernel
theorem dX0_target_14 : decode cX0_target 14 = .ok (.iload 5, 2) := by decide +kernel
theorem dX0_target_16 : decode cX0_target 16 = .ok (.ifCond .le 36, 3) := by decide +kernel
theorem dX0_target_19 : decode cX0_target 19 = .ok (.iload 4, 2) := by decide +kernel
theorem dX0_target_21 : decode cX0_target 21 = .ok (.bipush 35, 2) := by decide +kernel
theorem dX0_target_23 : decode cX0_target 23 = .ok (.if_icmp .ge 29, 3) := by decide +kernel
theorem dX0_target_26 : decode cX0_target 26 = .ok (.iinc 4 1, 3) := by decide +kernel
theorem dX0_target_29 : decode cX0_target 29 = .ok (.iload 5, 2) := by decide +kernel
theorem dX0_target_31 : decode cX0_target 31 = .ok (.aload_n 0, 1) := by decide +kernel
theorem dX0_target_32 : decode cX0_target 32 = .ok (.iload_n 1, 1) := by decide +kernel
theorem dX0_target_33 : decode cX0_target 33 = .ok (.iload 4, 2) := by decide +kernel
theorem dX0_target_35 : decode cX0_target 35 = .ok (.invokevirtual 52, 3) := by decide +kernel
theorem dX0_target_38 : decode cX0_target 38 = .ok (.ifCond .eq 7, 3) := by decide +kernel
theorem dX0_target_41 : decode cX0_target 41 = .ok (.iconst 2, 1) := by decide +kernel
theorem dX0_target_42 : decode cX0_target 42 = .ok (.goto 4, 3) := by decide +kernel
theorem dX0_target_45 : decode cX0_target 45 = .ok (.iconst 1, 1) := by decide +kernel
theorem dX0_target_46 : decode cX0_target 46 = .ok (.isub, 1) := by decide +kernel
theorem dX0_target_47 : decode cX0_target 47 = .ok (.istore 5, 2) := by decide +kernel
theorem dX0_target_49 : decode cX0_target 49 = .ok (.goto (-35), 3) := by decide +kernel
theorem dX0_target_52 : decode cX0_target 52 = .ok (.iload 5, 2) := by decide +kernel
theorem dX0_target_54 : decode cX0_target 54 = .ok (.ifCond .ne 13, 3) := by decide +kernel
theorem dX0_target_57 : decode cX0_target 57 = .ok (.aload_n 0, 1) := by decide +kernel
theorem dX0_target_58 : decode cX0_target 58 = .ok (.iload_n 1, 1) := by decide +kernel
theorem dX0_target_59 : decode cX0_target 59 = .ok (.iload 4, 2) := by decide +kernel
theorem dX0_target_61 : decode cX0_target 61 = .ok (.invokevirtual 52, 3) := by decide +kernel
theorem dX0_target_64 : decode cX0_target 64 = .ok (.ifCond .eq 8, 3) := by decide +kernel
theorem dX0_target_67 : decode cX0_target 67 = .ok (.bipush (-6), 2) := by decide +kernel
theorem dX0_target_69 : decode cX0_target 69 = .ok (.goto 5, 3) := by decide +kernel
theorem dX0_target_72 : decode cX0_target 72 = .ok (.iload 4, 2) := by decide +kernel
theorem dX0_target_74 : decode cX0_target 74 = .ok (.ireturn, 1) := by decide +kernel
theorem dX0_isBlockedOnWay_0 : decode cX0_isBlockedOnWay 0 = .ok (.iload_n 2, 1) := by decide +kernel
theorem dX0_isBlockedOnWay_1 : decode cX0_isBlockedOnWay 1 = .ok (.bipush (-6), 2) := by decide +kernel
theorem dX0_isBlockedOnWay_3 : decode cX0_isBlockedOnWay 3 = .ok (.if_icmp .ne 7, 3) := by decide +kernel
theorem dX0_isBlockedOnWay_6 : decode cX0_isBlockedOnWay 6 = .ok (.iconst 0, 1) := by decide +kernel
theorem dX0_isBlockedOnWay_7 : decode cX0_isBlockedOnWay 7 = .ok (.goto 6, 3) := by decide +kernel
theorem dX0_isBlockedOnWay_10 : decode cX0_isBlockedOnWay 10 = .ok (.iload_n 2, 1) := by decide +kernel
theorem dX0_isBlockedOnWay_11 : decode cX0_isBlockedOnWay 11 = .ok (.iconst 1, 1) := by decide +kernel
theorem dX0_isBlockedOnWay_12 : decode cX0_isBlockedOnWay 12 = .ok (.iadd, 1) := by decide +kernel
theorem dX0_isBlockedOnWay_13 : decode cX0_isBlockedOnWay 13 = .ok (.istore 4, 2) := by decide +kernel
theorem dX0_isBlockedOnWay_15 : decode cX0_isBlockedOnWay 15 = .ok (.iload 4, 2) := by decide +kernel
theorem dX0_isBlockedOnWay_17 : decode cX0_isBlockedOnWay 17 = .ok (.istore 5, 2) := by decide +kernel
theorem dX0_isBlockedOnWay_19 : decode cX0_isBlockedOnWay 19 = .ok (.iload 5, 2) := by decide +kernel
theorem dX0_isBlockedOnWay_21 : decode cX0_isBlockedOnWay 21 = .ok (.iload_n 3, 1) := by decide +kernel
theorem dX0_isBlockedOnWay_22 : decode cX0_isBlockedOnWay 22 = .ok (.if_icmp .gt 22, 3) := by decide +kernel
theorem dX0_isBlockedOnWay_25 : decode cX0_isBlockedOnWay 25 = .ok (.aload_n 0, 1) := by decide +kernel
theorem dX0_isBlockedOnWay_26 : decode cX0_isBlockedOnWay 26 = .ok (.iload_n 1, 1) := by decide +kernel
theorem dX0_isBlockedOnWay_27 : decode cX0_isBlockedOnWay 27 = .ok (.iload 5, 2) := by decide +kernel
theorem dX0_isBlockedOnWay_29 : decode cX0_isBlockedOnWay 29 = .ok (.invokevirtual 45, 3) := by decide +kernel
theorem dX0_isBlockedOnWay_32 : decode cX0_isBlockedOnWay 32 = .ok (.iconst 2, 1) := by decide +kernel
theorem dX0_isBlockedOnWay_33 : decode cX0_isBlockedOnWay 33 = .ok (.if_icmp .lt 5, 3) := by decide +kernel
theorem dX0_isBlockedOnWay_36 : decode cX0_isBlockedOnWay 36 = .ok (.iconst 1, 1) := by decide +kernel
theorem dX0_isBlockedOnWay_37 : decode cX0_isBlockedOnWay 37 = .ok (.ireturn, 1) := by decide +kernel
theorem dX0_isBlockedOnWay_38 : decode cX0_isBlockedOnWay 38 = .ok (.iinc 5 1, 3) := by decide +kernel
theorem dX0_isBlockedOnWay_41 : decode cX0_isBlockedOnWay 41 = .ok (.goto (-22), 3) := by decide +kernel
theorem dX0_isBlockedOnWay_44 : decode cX0_isBlockedOnWay 44 = .ok (.iconst 0, 1) := by decide +kernel
theorem dX0_isBlockedOnWay_45 : decode cX0_isBlockedOnWay 45 = .ok (.ireturn, 1) := by decide +kernel
theorem dX0_sendRivalsBack_0 : decode cX0_sendRivalsBack 0 = .ok (.iload_n 1, 1) := by decide +kernel
theorem dX0_sendRivalsBack_1 : decode cX0_sendRivalsBack 1 = .ok (.iload_n 2, 1) := by decide +kernel
theorem dX0_sendRivalsBack_2 : decode cX0_sendRivalsBack 2 = .ok (.invokestatic 34, 3) := by decide +kernel
theorem dX0_sendRivalsBack_5 : decode cX0_sendRivalsBack 5 = .ok (.istore_n 3, 1) := by decide +kernel
theorem dX0_sendRivalsBack_6 : decode cX0_sendRivalsBack 6 = .ok (.iconst 0, 1) := by decide +kernel
theorem dX0_sendRivalsBack_7 : decode cX0_sendRivalsBack 7 = .ok (.istore 4, 2) := by decide +kernel
theorem dX0_sendRivalsBack_9 : decode cX0_sendRivalsBack 9 = .ok (.iload 4, 2) := by decide +kernel
theorem dX0_sendRivalsBack_11 : decode cX0_sendRivalsBack 11 = .ok (.bipush 12, 2) := by decide +kernel
theorem dX0_sendRivalsBack_13 : decode cX0_sendRivalsBack 13 = .ok (.if_icmp .ge 61, 3) := by decide +kernel
theorem dX0_sendRivalsBack_16 : decode cX0_sendRivalsBack 16 = .ok (.iload_n 3, 1) := by decide +kernel
theorem dX0_sendRivalsBack_17 : decode cX0_sendRivalsBack 17 = .ok (.bipush (-6), 2) := by decide +kernel
theorem dX0_sendRivalsBack_19 : decode cX0_sendRivalsBack 19 = .ok (.if_icmp .eq 55, 3) := by decide +kernel
theorem dX0_sendRivalsBack_22 : decode cX0_sendRivalsBack 22 = .ok (.iload 4, 2) := by decide +kernel
theorem dX0_sendRivalsBack_24 : decode cX0_sendRivalsBack 24 = .ok (.iconst 3, 1) := by decide +kernel
theorem dX0_sendRivalsBack_25 : decode cX0_sendRivalsBack 25 = .ok (.idiv, 1) := by decide +kernel
theorem dX0_sendRivalsBack_26 : decode cX0_sendRivalsBack 26 = .ok (.iload_n 1, 1) := by decide +kernel
theorem dX0_sendRivalsBack_27 : decode cX0_sendRivalsBack 27 = .ok (.if_icmp .eq 41, 3) := by decide +kernel
theorem dX0_sendRivalsBack_30 : decode cX0_sendRivalsBack 30 = .ok (.iload 4, 2) := by decide +kernel
theorem dX0_sendRivalsBack_32 : decode cX0_sendRivalsBack 32 = .ok (.iconst 3, 1) := by decide +kernel
theorem dX0_sendRivalsBack_33 : decode cX0_sendRivalsBack 33 = .ok (.idiv, 1) := by decide +kernel
theorem dX0_sendRivalsBack_34 : decode cX0_sendRivalsBack 34 = .ok (.aload_n 0, 1) := by decide +kernel
theorem dX0_sendRivalsBack_35 : decode cX0_sendRivalsBack 35 = .ok (.getfield 9, 3) := by decide +kernel
theorem dX0_sendRivalsBack_38 : decode cX0_sendRivalsBack 38 = .ok (.iload 4, 2) := by decide +kernel
theorem dX0_sendRivalsBack_40 : decode cX0_sendRivalsBack 40 = .ok (.iaload, 1) := by decide +kernel
theorem dX0_sendRivalsBack_41 : decode cX0_sendRivalsBack 41 = .ok (.invokestatic 34, 3) := by decide +kernel
theorem dX0_sendRivalsBack_44 : decode cX0_sendRivalsBack 44 = .ok (.iload_n 3, 1) := by decide +kernel
theorem dX0_sendRivalsBack_45 : decode cX0_sendRivalsBack 45 = .ok (.if_icmp .ne 23, 3) := by decide +kernel
theorem dX0_sendRivalsBack_48 : decode cX0_sendRivalsBack 48 = .ok (.aload_n 0, 1) := by decide +kernel
theorem dX0_sendRivalsBack_49 : decode cX0_sendRivalsBack 49 = .ok (.getfield 9, 3) := by decide +kernel
theorem dX0_sendRivalsBack_52 : decode cX0_sendRivalsBack 52 = .ok (.iload 4, 2) := by decide +kernel
theorem dX0_sendRivalsBack_54 : decode cX0_sendRivalsBack 54 = .ok (.bipush (-6), 2) := by decide +kernel
theorem dX0_sendRivalsBack_56 : decode cX0_sendRivalsBack 56 = .ok (.iastore, 1) := by decide +kernel
theorem dX0_sendRivalsBack_57 : decode cX0_sendRivalsBack 57 = .ok (.aload_n 0, 1) := by decide +kernel
theorem dX0_sendRivalsBack_58 : decode cX0_sendRivalsBack 58 = .ok (.getfield 15, 3) := by decide +kernel
theorem dX0_sendRivalsBack_61 : decode cX0_sendRivalsBack 61 = .ok (.iload 4, 2) := by decide +kernel
theorem dX0_sendRivalsBack_63 : decode cX0_sendRivalsBack 63 = .ok (.dup2, 1) := by decide +kernel
theorem dX0_sendRivalsBack_64 : decode cX0_sendRivalsBack 64 = .ok (.iaload, 1) := by decide +kernel
theorem dX0_sendRivalsBack_65 : decode cX0_sendRivalsBack 65 = .ok (.iconst 1, 1) := by decide +kernel
theorem dX0_sendRivalsBack_66 : decode cX0_sendRivalsBack 66 = .ok (.iadd, 1) := by decide +kernel
theorem dX0_sendRivalsBack_67 : decode cX0_sendRivalsBack 67 = .ok (.iastore, 1) := by decide +kernel
theorem dX0_sendRivalsBack_68 : decode cX0_sendRivalsBack 68 = .ok (.iinc 4 1, 3) := by decide +kernel
theorem dX0_sendRivalsBack_71 : decode cX0_sendRivalsBack 71 = .ok (.goto (-62), 3) := by decide +kernel
theorem dX0_sendRivalsBack_74 : decode cX0_sendRivalsBack 74 = .ok (.return_, 1) := by decide +kernel
theorem dX0_place_0 : decode cX0_place 0 = .ok (.aload_n 0, 1) := by decide +kernel
theorem dX0_place_1 : decode cX0_place 1 = .ok (.getfield 9, 3) := by decide +kernel
theorem dX0_place_4 : decode cX0_place 4 = .ok (.iload_n 1, 1) := by decide +kernel
theorem dX0_place_5 : decode cX0_place 5 = .ok (.iload_n 2, 1) := by decide +kernel
theorem dX0_place_6 : decode cX0_place 6 = .ok (.iastore, 1) := by decide +kernel
theorem dX0_place_7 : decode cX0_place 7 = .ok (.aload_n 0, 1) := by decide +kernel
theorem dX0_place_8 : decode cX0_place 8 = .ok (.iload_n 3, 1) := by decide +kernel
theorem dX0_place_9 : decode cX0_place 9 = .ok (.invokevirtual 62, 3) := by decide +kernel
theorem dX0_place_12 : decode cX0_place 12 = .ok (.return_, 1) := by decide +kernel
theorem dX0_strainAndFall_0 : decode cX0_strainAndFall 0 = .ok (.iconst 0, 1) := by decide +kernel
theorem dX0_strainAndFall_1 : decode cX0_strainAndFall 1 = .ok (.istore_n 2, 1) := by decide +kernel
theorem dX0_strainAndFall_2 : decode cX0_strainAndFall 2 = .ok (.iload_n 2, 1) := by decide +kernel
theorem dX0_strainAndFall_3 : decode cX0_strainAndFall 3 = .ok (.iconst 4, 1) := by decide +kernel
theorem dX0_strainAndFall_4 : decode cX0_strainAndFall 4 = .ok (.if_icmp .ge 83, 3) := by decide +kernel
theorem dX0_strainAndFall_7 : decode cX0_strainAndFall 7 = .ok (.aload_n 0, 1) := by decide +kernel
theorem dX0_strainAndFall_8 : decode cX0_strainAndFall 8 = .ok (.bipush 8, 2) := by decide +kernel
theorem dX0_strainAndFall_10 : decode cX0_strainAndFall 10 = .ok (.iload_n 2, 1) := by decide +kernel
theorem dX0_strainAndFall_11 : decode cX0_strainAndFall 11 = .ok (.imul, 1) := by decide +kernel
theorem dX0_strainAndFall_12 : decode cX0_strainAndFall 12 = .ok (.iconst 4, 1) := by decide +kernel
theorem dX0_strainAndFall_13 : decode cX0_strainAndFall 13 = .ok (.iadd, 1) := by decide +kernel
theorem dX0_strainAndFall_14 : decode cX0_strainAndFall 14 = .ok (.invokevirtual 66, 3) := by decide +kernel
theorem dX0_strainAndFall_17 : decode cX0_strainAndFall 17 = .ok (.istore_n 3, 1) := by decide +kernel
theorem dX0_strainAndFall_18 : decode cX0_strainAndFall 18 = .ok (.aload_n 0, 1) := by decide +kernel
theorem dX0_strainAndFall_19 : decode cX0_strainAndFall 19 = .ok (.getfield 18, 3) := by decide +kernel
theorem dX0_strainAndFall_22 : decode cX0_strainAndFall 22 = .ok (.iload_n 2, 1) := by decide +kernel
theorem dX0_strainAndFall_23 : decode cX0_strainAndFall 23 = .ok (.iaload, 1) := by decide +kernel
theorem dX0_strainAndFall_24 : decode cX0_strainAndFall 24 = .ok (.iconst 1, 1) := by decide +kernel
theorem dX0_strainAndFall_25 : decode cX0_strainAndFall 25 = .ok (.if_icmp .ne 18, 3) := by decide +kernel
theorem dX0_strainAndFall_28 : decode cX0_strainAndFall 28 = .ok (.iload_n 3, 1) := by decide +kernel
theorem dX0_strainAndFall_29 : decode cX0_strainAndFall 29 = .ok (.iconst 2, 1) := by decide +kernel
theorem dX0_strainAndFall_30 : decode cX0_strainAndFall 30 = .ok (.if_icmp .lt 13, 3) := by decide +kernel
theorem dX0_strainAndFall_33 : decode cX0_strainAndFall 33 = .ok (.aload_n 0, 1) := by decide +kernel
theorem dX0_strainAndFall_34 : decode cX0_strainAndFall 34 = .ok (.getfield 18, 3) := by decide +kernel
theorem dX0_strainAndFall_37 : decode cX0_strainAndFall 37 = .ok (.iload_n 2, 1) := by decide +kernel
theorem dX0_strainAndFall_38 : decode cX0_strainAndFall 38 = .ok (.iconst 2, 1) := by decide +kernel
theorem dX0_strainAndFall_39 : decode cX0_strainAndFall 39 = .ok (.iastore, 1) := by decide +kernel
theorem dX0_strainAndFall_40 : decode cX0_strainAndFall 40 = .ok (.goto 41, 3) := by decide +kernel
theorem dX0_strainAndFall_43 : decode cX0_strainAndFall 43 = .ok (.aload_n 0, 1) := by decide +kernel
theorem dX0_strainAndFall_44 : decode cX0_strainAndFall 44 = .ok (.getfield 18, 3) := by decide +kernel
theorem dX0_strainAndFall_47 : decode cX0_strainAndFall 47 = .ok (.iload_n 2, 1) := by decide +kernel
theorem dX0_strainAndFall_48 : decode cX0_strainAndFall 48 = .ok (.iaload, 1) := by decide +kernel
theorem dX0_strainAndFall_49 : decode cX0_strainAndFall 49 = .ok (.iconst 2, 1) := by decide +kernel
theorem dX0_strainAndFall_50 : decode cX0_strainAndFall 50 = .ok (.if_icmp .ne 31, 3) := by decide +kernel
theorem dX0_strainAndFall_53 : decode cX0_strainAndFall 53 = .ok (.iload_n 3, 1) := by decide +kernel
theorem dX0_strainAndFall_54 : decode cX0_strainAndFall 54 = .ok (.ifCond .ne 27, 3) := by decide +kernel
theorem dX0_strainAndFall_57 : decode cX0_strainAndFall 57 = .ok (.aload_n 0, 1) := by decide +kernel
theorem dX0_strainAndFall_58 : decode cX0_strainAndFall 58 = .ok (.getfield 18, 3) := by decide +kernel
theorem dX0_strainAndFall_61 : decode cX0_strainAndFall 61 = .ok (.iload_n 2, 1) := by decide +kernel
theorem dX0_strainAndFall_62 : decode cX0_strainAndFall 62 = .ok (.iconst 3, 1) := by decide +kernel
theorem dX0_strainAndFall_63 : decode cX0_strainAndFall 63 = .ok (.iastore, 1) := by decide +kernel
theorem dX0_strainAndFall_64 : decode cX0_strainAndFall 64 = .ok (.aload_n 0, 1) := by decide +kernel
theorem dX0_strainAndFall_65 : decode cX0_strainAndFall 65 = .ok (.getfield 21, 3) := by decide +kernel
theorem dX0_strainAndFall_68 : decode cX0_strainAndFall 68 = .ok (.iload_n 2, 1) := by decide +kernel
theorem dX0_strainAndFall_69 : decode cX0_strainAndFall 69 = .ok (.iload_n 1, 1) := by decide +kernel
theorem dX0_strainAndFall_70 : decode cX0_strainAndFall 70 = .ok (.iastore, 1) := by decide +kernel
theorem dX0_strainAndFall_71 : decode cX0_strainAndFall 71 = .ok (.aload_n 0, 1) := by decide +kernel
theorem dX0_strainAndFall_72 : decode cX0_strainAndFall 72 = .ok (.dup, 1) := by decide +kernel
theorem dX0_strainAndFall_73 : decode cX0_strainAndFall 73 = .ok (.getfield 24, 3) := by decide +kernel
theorem dX0_strainAndFall_76 : decode cX0_strainAndFall 76 = .ok (.iconst 1, 1) := by decide +kernel
theorem dX0_strainAndFall_77 : decode cX0_strainAndFall 77 = .ok (.iadd, 1) := by decide +kernel
theorem dX0_strainAndFall_78 : decode cX0_strainAndFall 78 = .ok (.putfield 24, 3) := by decide +kernel
theorem dX0_strainAndFall_81 : decode cX0_strainAndFall 81 = .ok (.iinc 2 1, 3) := by decide +kernel
theorem dX0_strainAndFall_84 : decode cX0_strainAndFall 84 = .ok (.goto (-82), 3) := by decide +kernel
theorem dX0_strainAndFall_87 : decode cX0_strainAndFall 87 = .ok (.return_, 1) := by decide +kernel
theorem dX0_mend_0 : decode cX0_mend 0 = .ok (.iconst 0, 1) := by decide +kernel
theorem dX0_mend_1 : decode cX0_mend 1 = .ok (.istore_n 3, 1) := by decide +kernel
theorem dX0_mend_2 : decode cX0_mend 2 = .ok (.iload_n 3, 1) := by decide +kernel
theorem dX0_mend_3 : decode cX0_mend 3 = .ok (.iconst 4, 1) := by decide +kernel
theorem dX0_mend_4 : decode cX0_mend 4 = .ok (.if_icmp .ge 42, 3) := by decide +kernel
theorem dX0_mend_7 : decode cX0_mend 7 = .ok (.aload_n 0, 1) := by decide +kernel
theorem dX0_mend_8 : decode cX0_mend 8 = .ok (.getfield 18, 3) := by decide +kernel
theorem dX0_mend_11 : decode cX0_mend 11 = .ok (.iload_n 3, 1) := by decide +kernel
theorem dX0_mend_12 : decode cX0_mend 12 = .ok (.iaload, 1) := by decide +kernel
theorem dX0_mend_13 : decode cX0_mend 13 = .ok (.iconst 3, 1) := by decide +kernel
theorem dX0_mend_14 : decode cX0_mend 14 = .ok (.if_icmp .ne 26, 3) := by decide +kernel
theorem dX0_mend_17 : decode cX0_mend 17 = .ok (.iload_n 2, 1) := by decide +kernel
theorem dX0_mend_18 : decode cX0_mend 18 = .ok (.ifCond .eq 22, 3) := by decide +kernel
theorem dX0_mend_21 : decode cX0_mend 21 = .ok (.iload_n 1, 1) := by decide +kernel
theorem dX0_mend_22 : decode cX0_mend 22 = .ok (.aload_n 0, 1) := by decide +kernel
theorem dX0_mend_23 : decode cX0_mend 23 = .ok (.getfield 21, 3) := by decide +kernel
theorem dX0_mend_26 : decode cX0_mend 26 = .ok (.iload_n 3, 1) := by decide +kernel
theorem dX0_mend_27 : decode cX0_mend 27 = .ok (.iaload, 1) := by decide +kernel
theorem dX0_mend_28 : decode cX0_mend 28 = .ok (.isub, 1) := by decide +kernel
theorem dX0_mend_29 : decode cX0_mend 29 = .ok (.iload_n 2, 1) := by decide +kernel
theorem dX0_mend_30 : decode cX0_mend 30 = .ok (.if_icmp .lt 10, 3) := by decide +kernel
theorem dX0_mend_33 : decode cX0_mend 33 = .ok (.aload_n 0, 1) := by decide +kernel
theorem dX0_mend_34 : decode cX0_mend 34 = .ok (.getfield 18, 3) := by decide +kernel
theorem dX0_mend_37 : decode cX0_mend 37 = .ok (.iload_n 3, 1) := by decide +kernel
theorem dX0_mend_38 : decode cX0_mend 38 = .ok (.iconst 1, 1) := by decide +kernel
theorem dX0_mend_39 : decode cX0_mend 39 = .ok (.iastore, 1) := by decide +kernel
theorem dX0_mend_40 : decode cX0_mend 40 = .ok (.iinc 3 1, 3) := by decide +kernel
theorem dX0_mend_43 : decode cX0_mend 43 = .ok (.goto (-41), 3) := by decide +kernel
theorem dX0_mend_46 : decode cX0_mend 46 = .ok (.return_, 1) := by decide +kernel
theorem dX1_init_0 : decode cX1_init 0 = .ok (.aload_n 0, 1) := by decide +kernel
theorem dX1_init_1 : decode cX1_init 1 = .ok (.invokespecial 3, 3) := by decide +kernel
theorem dX1_init_4 : decode cX1_init 4 = .ok (.aload_n 0, 1) := by decide +kernel
theorem dX1_init_5 : decode cX1_init 5 = .ok (.new 9, 3) := by decide +kernel
theorem dX1_init_8 : decode cX1_init 8 = .ok (.dup, 1) := by decide +kernel
theorem dX1_init_9 : decode cX1_init 9 = .ok (.invokespecial 11, 3) := by decide +kernel
theorem dX1_init_12 : decode cX1_init 12 = .ok (.putfield 12, 3) := by decide +kernel
theorem dX1_init_15 : decode cX1_init 15 = .ok (.aload_n 0, 1) := by decide +kernel
theorem dX1_init_16 : decode cX1_init 16 = .ok (.iconst 3, 1) := by decide +kernel
theorem dX1_init_17 : decode cX1_init 17 = .ok (.newarray .int, 2) := by decide +kernel
theorem dX1_init_19 : decode cX1_init 19 = .ok (.putfield 18, 3) := by decide +kernel
theorem dX1_init_22 : decode cX1_init 22 = .ok (.aload_n 0, 1) := by decide +kernel
theorem dX1_init_23 : decode cX1_init 23 = .ok (.iconst 1, 1) := by decide +kernel
theorem dX1_init_24 : decode cX1_init 24 = .ok (.putfield 22, 3) := by decide +kernel
theorem dX1_init_27 : decode cX1_init 27 = .ok (.aload_n 0, 1) := by decide +kernel
theorem dX1_init_28 : decode cX1_init 28 = .ok (.iconst 0, 1) := by decide +kernel
theorem dX1_init_29 : decode cX1_init 29 = .ok (.putfield 26, 3) := by decide +kernel
theorem dX1_init_32 : decode cX1_init 32 = .ok (.aload_n 0, 1) := by decide +kernel
theorem dX1_init_33 : decode cX1_init 33 = .ok (.bipush (-6), 2) := by decide +kernel
theorem dX1_init_35 : decode cX1_init 35 = .ok (.putfield 29, 3) := by decide +kernel
theorem dX1_init_38 : decode cX1_init 38 = .ok (.aload_n 0, 1) := by decide +kernel
theorem dX1_init_39 : decode cX1_init 39 = .ok (.iconst 1, 1) := by decide +kernel
theorem dX1_init_40 : decode cX1_init 40 = .ok (.putfield 32, 3) := by decide +kernel
theorem dX1_init_43 : decode cX1_init 43 = .ok (.aload_n 0, 1) := by decide +kernel
theorem dX1_init_44 : decode cX1_init 44 = .ok (.iconst 0, 1) := by decide +kernel
theorem dX1_init_45 : decode cX1_init 45 = .ok (.putfield 35, 3) := by decide +kernel
theorem dX1_init_48 : decode cX1_init 48 = .ok (.getstatic 38, 3) := by decide +kernel
theorem dX1_init_51 : decode cX1_init 51 = .ok (.iconst 0, 1) := by decide +kernel
theorem dX1_init_52 : decode cX1_init 52 = .ok (.aload_n 0, 1) := by decide +kernel
theorem dX1_init_53 : decode cX1_init 53 = .ok (.getfield 18, 3) := by decide +kernel
theorem dX1_init_56 : decode cX1_init 56 = .ok (.iconst 0, 1) := by decide +kernel
theorem dX1_init_57 : decode cX1_init 57 = .ok (.iconst 3, 1) := by decide +kernel
theorem dX1_init_58 : decode cX1_init 58 = .ok (.invokestatic 41, 3) := by decide +kernel
theorem dX1_init_61 : decode cX1_init 61 = .ok (.return_, 1) := by decide +kernel
theorem dX1_copyFrom_0 : decode cX1_copyFrom 0 = .ok (.aload_n 0, 1) := by decide +kernel
theorem dX1_copyFrom_1 : decode cX1_copyFrom 1 = .ok (.getfield 12, 3) := by decide +kernel
theorem dX1_copyFrom_4 : decode cX1_copyFrom 4 = .ok (.aload_n 1, 1) := by decide +kernel
theorem dX1_copyFrom_5 : decode cX1_copyFrom 5 = .ok (.getfield 12, 3) := by decide +kernel
theorem dX1_copyFrom_8 : decode cX1_copyFrom 8 = .ok (.invokevirtual 47, 3) := by decide +kernel
theorem dX1_copyFrom_11 : decode cX1_copyFrom 11 = .ok (.aload_n 1, 1) := by decide +kernel
theorem dX1_copyFrom_12 : decode cX1_copyFrom 12 = .ok (.getfield 18, 3) := by decide +kernel
theorem dX1_copyFrom_15 : decode cX1_copyFrom 15 = .ok (.iconst 0, 1) := by decide +kernel
theorem dX1_copyFrom_16 : decode cX1_copyFrom 16 = .ok (.aload_n 0, 1) := by decide +kernel
theorem dX1_copyFrom_17 : decode cX1_copyFrom 17 = .ok (.getfield 18, 3) := by decide +kernel
theorem dX1_copyFrom_20 : decode cX1_copyFrom 20 = .ok (.iconst 0, 1) := by decide +kernel
theorem dX1_copyFrom_21 : decode cX1_copyFrom 21 = .ok (.iconst 3, 1) := by decide +kernel
theorem dX1_copyFrom_22 : decode cX1_copyFrom 22 = .ok (.invokestatic 41, 3) := by decide +kernel
theorem dX1_copyFrom_25 : decode cX1_copyFrom 25 = .ok (.aload_n 0, 1) := by decide +kernel
theorem dX1_copyFrom_26 : decode cX1_copyFrom 26 = .ok (.aload_n 1, 1) := by decide +kernel
theorem dX1_copyFrom_27 : decode cX1_copyFrom 27 = .ok (.getfield 22, 3) := by decide +kernel
theorem dX1_copyFrom_30 : decode cX1_copyFrom 30 = .ok (.putfield 22, 3) := by decide +kernel
theorem dX1_copyFrom_33 : decode cX1_copyFrom 33 = .ok (.aload_n 0, 1) := by decide +kernel
theorem dX1_copyFrom_34 : decode cX1_copyFrom 34 = .ok (.aload_n 1, 1) := by decide +kernel
theorem dX1_copyFrom_35 : decode cX1_copyFrom 35 = .ok (.getfield 26, 3) := by decide +kernel
theorem dX1_copyFrom_38 : decode cX1_copyFrom 38 = .ok (.putfield 26, 3) := by decide +kernel
theorem dX1_copyFrom_41 : decode cX1_copyFrom 41 = .ok (.aload_n 0, 1) := by decide +kernel
theorem dX1_copyFrom_42 : decode cX1_copyFrom 42 = .ok (.aload_n 1, 1) := by decide +kernel
theorem dX1_copyFrom_43 : decode cX1_copyFrom 43 = .ok (.getfield 29, 3) := by decide +kernel
theorem dX1_copyFrom_46 : decode cX1_copyFrom 46 = .ok (.putfield 29, 3) := by decide +kernel
theorem dX1_copyFrom_49 : decode cX1_copyFrom 49 = .ok (.aload_n 0, 1) := by decide +kernel
theorem dX1_copyFrom_50 : decode cX1_copyFrom 50 = .ok (.aload_n 1, 1) := by decide +kernel
theorem dX1_copyFrom_51 : decode cX1_copyFrom 51 = .ok (.getfield 32, 3) := by decide +kernel
theorem dX1_copyFrom_54 : decode cX1_copyFrom 54 = .ok (.putfield 32, 3) := by decide +kernel
theorem dX1_copyFrom_57 : decode cX1_copyFrom 57 = .ok (.aload_n 0, 1) := by decide +kernel
theorem dX1_copyFrom_58 : decode cX1_copyFrom 58 = .ok (.aload_n 1, 1) := by decide +kernel
theorem dX1_copyFrom_59 : decode cX1_copyFrom 59 = .ok (.getfield 35, 3) := by decide +kernel
theorem dX1_copyFrom_62 : decode cX1_copyFrom 62 = .ok (.putfield 35, 3) := by decide +kernel
theorem dX1_copyFrom_65 : decode cX1_copyFrom 65 = .ok (.return_, 1) := by decide +kernel
theorem dX1_isOver_0 : decode cX1_isOver 0 = .ok (.aload_n 0, 1) := by decide +kernel
theorem dX1_isOver_1 : decode cX1_isOver 1 = .ok (.getfield 12, 3) := by decide +kernel
theorem dX1_isOver_4 : decode cX1_isOver 4 = .ok (.invokevirtual 51, 3) := by decide +kernel
theorem dX1_isOver_7 : decode cX1_isOver 7 = .ok (.bipush (-6), 2) := by decide +kernel
theorem dX1_isOver_9 : decode cX1_isOver 9 = .ok (.if_icmp .eq 7, 3) := by decide +kernel
theorem dX1_isOver_12 : decode cX1_isOver 12 = .ok (.iconst 1, 1) := by decide +kernel
theorem dX1_isOver_13 : decode cX1_isOver 13 = .ok (.goto 4, 3) := by decide +kernel
theorem dX1_isOver_16 : decode cX1_isOver 16 = .ok (.iconst 0, 1) := by decide +kernel
theorem dX1_isOver_17 : decode cX1_isOver 17 = .ok (.ireturn, 1) := by decide +kernel
theorem dX1_hasThrow_0 : decode cX1_hasThrow 0 = .ok (.aload_n 0, 1) := by decide +kernel
theorem dX1_hasThrow_1 : decode cX1_hasThrow 1 = .ok (.getfield 29, 3) := by decide +kernel
theorem dX1_hasThrow_4 : decode cX1_hasThrow 4 = .ok (.bipush (-6), 2) := by decide +kernel
theorem dX1_hasThrow_6 : decode cX1_hasThrow 6 = .ok (.if_icmp .eq 7, 3) := by decide +kernel
theorem dX1_hasThrow_9 : decode cX1_hasThrow 9 = .ok (.iconst 1, 1) := by decide +kernel
theorem dX1_hasThrow_10 : decode cX1_hasThrow 10 = .ok (.goto 4, 3) := by decide +kernel
theorem dX1_hasThrow_13 : decode cX1_hasThrow 13 = .ok (.iconst 0, 1) := by decide +kernel
theorem dX1_hasThrow_14 : decode cX1_hasThrow 14 = .ok (.ireturn, 1) := by decide +kernel
theorem dX1_reason_0 : decode cX1_reason 0 = .ok (.iload_n 1, 1) := by decide +kernel
theorem dX1_reason_1 : decode cX1_reason 1 = .ok (.iconst 3, 1) := by decide +kernel
theorem dX1_reason_2 : decode cX1_reason 2 = .ok (.idiv, 1) := by decide +kernel
theorem dX1_reason_3 : decode cX1_reason 3 = .ok (.istore_n 3, 1) := by decide +kernel
theorem dX1_reason_4 : decode cX1_reason 4 = .ok (.aload_n 0, 1) := by decide +kernel
theorem dX1_reason_5 : decode cX1_reason 5 = .ok (.getfield 12, 3) := by decide +kernel
theorem dX1_reason_8 : decode cX1_reason 8 = .ok (.getfield 55, 3) := by decide +kernel
theorem dX1_reason_11 : decode cX1_reason 11 = .ok (.iload_n 1, 1) := by decide +kernel
theorem dX1_reason_12 : decode cX1_reason 12 = .ok (.iaload, 1) := by decide +kernel
theorem dX1_reason_13 : decode cX1_reason 13 = .ok (.istore 4, 2) := by decide +kernel
theorem dX1_reason_15 : decode cX1_reason 15 = .ok (.iload 4, 2) := by decide +kernel
theorem dX1_reason_17 : decode cX1_reason 17 = .ok (.bipush 35, 2) := by decide +kernel
theorem dX1_reason_19 : decode cX1_reason 19 = .ok (.if_icmp .ne 5, 3) := by decide +kernel
theorem dX1_reason_22 : decode cX1_reason 22 = .ok (.iconst 1, 1) := by decide +kernel
theorem dX1_reason_23 : decode cX1_reason 23 = .ok (.ireturn, 1) := by decide +kernel
theorem dX1_reason_24 : decode cX1_reason 24 = .ok (.iload 4, 2) := by decide +kernel
theorem dX1_reason_26 : decode cX1_reason 26 = .ok (.bipush (-6), 2) := by decide +kernel
theorem dX1_reason_28 : decode cX1_reason 28 = .ok (.if_icmp .ne 15, 3) := by decide +kernel
theorem dX1_reason_31 : decode cX1_reason 31 = .ok (.iload_n 2, 1) := by decide +kernel
theorem dX1_reason_32 : decode cX1_reason 32 = .ok (.aload_n 0, 1) := by decide +kernel
theorem dX1_reason_33 : decode cX1_reason 33 = .ok (.getfield 18, 3) := by decide +kernel
theorem dX1_reason_36 : decode cX1_reason 36 = .ok (.iconst 0, 1) := by decide +kernel
theorem dX1_reason_37 : decode cX1_reason 37 = .ok (.iaload, 1) := by decide +kernel
theorem dX1_reason_38 : decode cX1_reason 38 = .ok (.if_icmp .ge 5, 3) := by decide +kernel
theorem dX1_reason_41 : decode cX1_reason 41 = .ok (.iconst 2, 1) := by decide +kernel
theorem dX1_reason_42 : decode cX1_reason 42 = .ok (.ireturn, 1) := by decide +kernel
theorem dX1_reason_43 : decode cX1_reason 43 = .ok (.aload_n 0, 1) := by decide +kernel
theorem dX1_reason_44 : decode cX1_reason 44 = .ok (.getfield 12, 3) := by decide +kernel
theorem dX1_reason_47 : decode cX1_reason 47 = .ok (.iload_n 3, 1) := by decide +kernel
theorem dX1_reason_48 : decode cX1_reason 48 = .ok (.iload 4, 2) := by decide +kernel
theorem dX1_reason_50 : decode cX1_reason 50 = .ok (.iload_n 2, 1) := by decide +kernel
theorem dX1_reason_51 : decode cX1_reason 51 = .ok (.invokevirtual 58, 3) := by decide +kernel
theorem dX1_reason_54 : decode cX1_reason 54 = .ok (.istore 5, 2) := by decide +kernel
theorem dX1_reason_56 : decode cX1_reason 56 = .ok (.iload 5, 2) := by decide +kernel
theorem dX1_reason_58 : decode cX1_reason 58 = .ok (.bipush (-6), 2) := by decide +kernel
theorem dX1_reason_60 : decode cX1_reason 60 = .ok (.if_icmp .ne 5, 3) := by decide +kernel
theorem dX1_reason_63 : decode cX1_reason 63 = .ok (.iconst 3, 1) := by decide +kernel
theorem dX1_reason_64 : decode cX1_reason 64 = .ok (.ireturn, 1) := by decide +kernel
theorem dX1_reason_65 : decode cX1_reason 65 = .ok (.aload_n 0, 1) := by decide +kernel
theorem dX1_reason_66 : decode cX1_reason 66 = .ok (.getfield 12, 3) := by decide +kernel
theorem dX1_reason_69 : decode cX1_reason 69 = .ok (.iload_n 3, 1) := by decide +kernel
theorem dX1_reason_70 : decode cX1_reason 70 = .ok (.iload 4, 2) := by decide +kernel
theorem dX1_reason_72 : decode cX1_reason 72 = .ok (.iload 5, 2) := by decide +kernel
theorem dX1_reason_74 : decode cX1_reason 74 = .ok (.invokevirtual 62, 3) := by decide +kernel
theorem dX1_reason_77 : decode cX1_reason 77 = .ok (.ifCond .eq 5, 3) := by decide +kernel
theorem dX1_reason_80 : decode cX1_reason 80 = .ok (.iconst 4, 1) := by decide +kernel
theorem dX1_reason_81 : decode cX1_reason 81 = .ok (.ireturn, 1) := by decide +kernel
theorem dX1_reason_82 : decode cX1_reason 82 = .ok (.aload_n 0, 1) := by decide +kernel
theorem dX1_reason_83 : decode cX1_reason 83 = .ok (.getfield 12, 3) := by decide +kernel
theorem dX1_reason_86 : decode cX1_reason 86 = .ok (.iload_n 1, 1) := by decide +kernel
theorem dX1_reason_87 : decode cX1_reason 87 = .ok (.iload 5, 2) := by decide +kernel
theorem dX1_reason_89 : decode cX1_reason 89 = .ok (.invokevirtual 66, 3) := by decide +kernel
theorem dX1_reason_92 : decode cX1_reason 92 = .ok (.ifCond .eq 5, 3) := by decide +kernel
theorem dX1_reason_95 : decode cX1_reason 95 = .ok (.iconst 5, 1) := by decide +kernel
theorem dX1_reason_96 : decode cX1_reason 96 = .ok (.ireturn, 1) := by decide +kernel
theorem dX1_reason_97 : decode cX1_reason 97 = .ok (.iload_n 3, 1) := by decide +kernel
theorem dX1_reason_98 : decode cX1_reason 98 = .ok (.iload 5, 2) := by decide +kernel
theorem dX1_reason_100 : decode cX1_reason 100 = .ok (.invokestatic 70, 3) := by decide +kernel
theorem dX1_reason_103 : decode cX1_reason 103 = .ok (.invokestatic 74, 3) := by decide +kernel
theorem dX1_reason_106 : decode cX1_reason 106 = .ok (.ifCond .eq 19, 3) := by decide +kernel
theorem dX1_reason_109 : decode cX1_reason 109 = .ok (.aload_n 0, 1) := by decide +kernel
theorem dX1_reason_110 : decode cX1_reason 110 = .ok (.getfield 12, 3) := by decide +kernel
theorem dX1_reason_113 : decode cX1_reason 113 = .ok (.iload_n 3, 1) := by decide +kernel
theorem dX1_reason_114 : decode cX1_reason 114 = .ok (.iload 5, 2) := by decide +kernel
theorem dX1_reason_116 : decode cX1_reason 116 = .ok (.invokevirtual 78, 3) := by decide +kernel
theorem dX1_reason_119 : decode cX1_reason 119 = .ok (.ifCond .le 6, 3) := by decide +kernel
theorem dX1_reason_122 : decode cX1_reason 122 = .ok (.bipush 6, 2) := by decide +kernel
theorem dX1_reason_124 : decode cX1_reason 124 = .ok (.ireturn, 1) := by decide +kernel
theorem dX1_reason_125 : decode cX1_reason 125 = .ok (.iconst 0, 1) := by decide +kernel
theorem dX1_reason_126 : decode cX1_reason 126 = .ok (.ireturn, 1) := by decide +kernel
theorem dX1_canMoveBy_0 : decode cX1_canMoveBy 0 = .ok (.aload_n 0, 1) := by decide +kernel
theorem dX1_canMoveBy_1 : decode cX1_canMoveBy 1 = .ok (.getfield 26, 3) := by decide +kernel
theorem dX1_canMoveBy_4 : decode cX1_canMoveBy 4 = .ok (.iconst 3, 1) := by decide +kernel
theorem dX1_canMoveBy_5 : decode cX1_canMoveBy 5 = .ok (.imul, 1) := by decide +kernel
theorem dX1_canMoveBy_6 : decode cX1_canMoveBy 6 = .ok (.istore_n 2, 1) := by decide +kernel
theorem dX1_canMoveBy_7 : decode cX1_canMoveBy 7 = .ok (.iload_n 2, 1) := by decide +kernel
theorem dX1_canMoveBy_8 : decode cX1_canMoveBy 8 = .ok (.aload_n 0, 1) := by decide +kernel
theorem dX1_canMoveBy_9 : decode cX1_canMoveBy 9 = .ok (.getfield 26, 3) := by decide +kernel
theorem dX1_canMoveBy_12 : decode cX1_canMoveBy 12 = .ok (.iconst 3, 1) := by decide +kernel
theorem dX1_canMoveBy_13 : decode cX1_canMoveBy 13 = .ok (.imul, 1) := by decide +kernel
theorem dX1_canMoveBy_14 : decode cX1_canMoveBy 14 = .ok (.iconst 3, 1) := by decide +kernel
theorem dX1_canMoveBy_15 : decode cX1_canMoveBy 15 = .ok (.iadd, 1) := by decide +kernel
theorem dX1_canMoveBy_16 : decode cX1_canMoveBy 16 = .ok (.if_icmp .ge 20, 3) := by decide +kernel
theorem dX1_canMoveBy_19 : decode cX1_canMoveBy 19 = .ok (.aload_n 0, 1) := by decide +kernel
theorem dX1_canMoveBy_20 : decode cX1_canMoveBy 20 = .ok (.iload_n 2, 1) := by decide +kernel
theorem dX1_canMoveBy_21 : decode cX1_canMoveBy 21 = .ok (.iload_n 1, 1) := by decide +kernel
theorem dX1_canMoveBy_22 : decode cX1_canMoveBy 22 = .ok (.invokevirtual 81, 3) := by decide +kernel
theorem dX1_canMoveBy_25 : decode cX1_canMoveBy 25 = .ok (.ifCond .ne 5, 3) := by decide +kernel
theorem dX1_canMoveBy_28 : decode cX1_canMoveBy 28 = .ok (.iconst 1, 1) := by decide +kernel
theorem dX1_canMoveBy_29 : decode cX1_canMoveBy 29 = .ok (.ireturn, 1) := by decide +kernel
theorem dX1_canMoveBy_30 : decode cX1_canMoveBy 30 = .ok (.iinc 2 1, 3) := by decide +kernel
theorem dX1_canMoveBy_33 : decode cX1_canMoveBy 33 = .ok (.goto (-26), 3) := by decide +kernel
theorem dX1_canMoveBy_36 : decode cX1_canMoveBy 36 = .ok (.iconst 0, 1) := by decide +kernel
theorem dX1_canMoveBy_37 : decode cX1_canMoveBy 37 = .ok (.ireturn, 1) := by decide +kernel
theorem dX1_bestPiece_0 : decode cX1_bestPiece 0 = .ok (.bipush (-6), 2) := by decide +kernel
theorem dX1_bestPiece_2 : decode cX1_bestPiece 2 = .ok (.istore_n 1, 1) := by decide +kernel
theorem dX1_bestPiece_3 : decode cX1_bestPiece 3 = .ok (.iconst 0, 1) := by decide +kernel
theorem dX1_bestPiece_4 : decode cX1_bestPiece 4 = .ok (.istore_n 2, 1) := by decide +kernel
theorem dX1_bestPiece_5 : decode cX1_bestPiece 5 = .ok (.aload_n 0, 1) := by decide +kernel
theorem dX1_bestPiece_6 : decode cX1_bestPiece 6 = .ok (.getfield 26, 3) := by decide +kernel
theorem dX1_bestPiece_9 : decode cX1_bestPiece 9 = .ok (.iconst 3, 1) := by decide +kernel
theorem dX1_bestPiece_10 : decode cX1_bestPiece 10 = .ok (.imul, 1) := by decide +kernel
theorem dX1_bestPiece_11 : decode cX1_bestPiece 11 = .ok (.istore_n 3, 1) := by decide +kernel
theorem dX1_bestPiece_12 : decode cX1_bestPiece 12 = .ok (.iload_n 3, 1) := by decide +kernel
theorem dX1_bestPiece_13 : decode cX1_bestPiece 13 = .ok (.aload_n 0, 1) := by decide +kernel
theorem dX1_bestPiece_14 : decode cX1_bestPiece 14 = .ok (.getfield 26, 3) := by decide +kernel
theorem dX1_bestPiece_17 : decode cX1_bestPiece 17 = .ok (.iconst 3, 1) := by decide +kernel
theorem dX1_bestPiece_18 : decode cX1_bestPiece 18 = .ok (.imul, 1) := by decide +kernel
theorem dX1_bestPiece_19 : decode cX1_bestPiece 19 = .ok (.iconst 3, 1) := by decide +kernel
theorem dX1_bestPiece_20 : decode cX1_bestPiece 20 = .ok (.iadd, 1) := by decide +kernel
theorem dX1_bestPiece_21 : decode cX1_bestPiece 21 = .ok (.if_icmp .ge 45, 3) := by decide +kernel
theorem dX1_bestPiece_24 : decode cX1_bestPiece 24 = .ok (.aload_n 0, 1) := by decide +kernel
theorem dX1_bestPiece_25 : decode cX1_bestPiece 25 = .ok (.iload_n 3, 1) := by decide +kernel
theorem dX1_bestPiece_26 : decode cX1_bestPiece 26 = .ok (.aload_n 0, 1) := by decide +kernel
theorem dX1_bestPiece_27 : decode cX1_bestPiece 27 = .ok (.getfield 29, 3) := by decide +kernel
theorem dX1_bestPiece_30 : decode cX1_bestPiece 30 = .ok (.invokevirtual 81, 3) := by decide +kernel
theorem dX1_bestPiece_33 : decode cX1_bestPiece 33 = .ok (.ifCond .ne 27, 3) := by decide +kernel
theorem dX1_bestPiece_36 : decode cX1_bestPiece 36 = .ok (.aload_n 0, 1) := by decide +kernel
theorem dX1_bestPiece_37 : decode cX1_bestPiece 37 = .ok (.iload_n 3, 1) := by decide +kernel
theorem dX1_bestPiece_38 : decode cX1_bestPiece 38 = .ok (.invokevirtual 84, 3) := by decide +kernel
theorem dX1_bestPiece_41 : decode cX1_bestPiece 41 = .ok (.istore 4, 2) := by decide +kernel
theorem dX1_bestPiece_43 : decode cX1_bestPiece 43 = .ok (.iload_n 1, 1) := by decide +kernel
theorem dX1_bestPiece_44 : decode cX1_bestPiece 44 = .ok (.bipush (-6), 2) := by decide +kernel
theorem dX1_bestPiece_46 : decode cX1_bestPiece 46 = .ok (.if_icmp .eq 9, 3) := by decide +kernel
theorem dX1_bestPiece_49 : decode cX1_bestPiece 49 = .ok (.iload 4, 2) := by decide +kernel
theorem dX1_bestPiece_51 : decode cX1_bestPiece 51 = .ok (.iload_n 2, 1) := by decide +kernel
theorem dX1_bestPiece_52 : decode cX1_bestPiece 52 = .ok (.if_icmp .le 8, 3) := by decide +kernel
theorem dX1_bestPiece_55 : decode cX1_bestPiece 55 = .ok (.iload_n 3, 1) := by decide +kernel
theorem dX1_bestPiece_56 : decode cX1_bestPiece 56 = .ok (.istore_n 1, 1) := by decide +kernel
theorem dX1_bestPiece_57 : decode cX1_bestPiece 57 = .ok (.iload 4, 2) := by decide +kernel
theorem dX1_bestPiece_59 : decode cX1_bestPiece 59 = .ok (.istore_n 2, 1) := by decide +kernel
theorem dX1_bestPiece_60 : decode cX1_bestPiece 60 = .ok (.iinc 3 1, 3) := by decide +kernel
theorem dX1_bestPiece_63 : decode cX1_bestPiece 63 = .ok (.goto (-51), 3) := by decide +kernel
theorem dX1_bestPiece_66 : decode cX1_bestPiece 66 = .ok (.iload_n 1, 1) := by decide +kernel
theorem dX1_bestPiece_67 : decode cX1_bestPiece 67 = .ok (.ireturn, 1) := by decide +kernel
theorem dX1_worthOfMove_0 : decode cX1_worthOfMove 0 = .ok (.aload_n 0, 1) := by decide +kernel
theorem dX1_worthOfMove_1 : decode cX1_worthOfMove 1 = .ok (.getfield 12, 3) := by decide +kernel
theorem dX1_worthOfMove_4 : decode cX1_worthOfMove 4 = .ok (.getfield 55, 3) := by decide +kernel
theorem dX1_worthOfMove_7 : decode cX1_worthOfMove 7 = .ok (.iload_n 1, 1) := by decide +kernel
theorem dX1_worthOfMove_8 : decode cX1_worthOfMove 8 = .ok (.iaload, 1) := by decide +kernel
theorem dX1_worthOfMove_9 : decode cX1_worthOfMove 9 = .ok (.istore_n 2, 1) := by decide +kernel
theorem dX1_worthOfMove_10 : decode cX1_worthOfMove 10 = .ok (.aload_n 0, 1) := by decide +kernel
theorem dX1_worthOfMove_11 : decode cX1_worthOfMove 11 = .ok (.getfield 12, 3) := by decide +kernel
theorem dX1_worthOfMove_14 : decode cX1_worthOfMove 14 = .ok (.aload_n 0, 1) := by decide +kernel
theorem dX1_worthOfMove_15 : decode cX1_worthOfMove 15 = .ok (.getfield 26, 3) := by decide +kernel
theorem dX1_worthOfMove_18 : decode cX1_worthOfMove 18 = .ok (.iload_n 2, 1) := by decide +kernel
theorem dX1_worthOfMove_19 : decode cX1_worthOfMove 19 = .ok (.aload_n 0, 1) := by decide +kernel
theorem dX1_worthOfMove_20 : decode cX1_worthOfMove 20 = .ok (.getfield 29, 3) := by decide +kernel
theorem dX1_worthOfMove_23 : decode cX1_worthOfMove 23 = .ok (.invokevirtual 58, 3) := by decide +kernel
theorem dX1_worthOfMove_26 : decode cX1_worthOfMove 26 = .ok (.istore_n 3, 1) := by decide +kernel
theorem dX1_worthOfMove_27 : decode cX1_worthOfMove 27 = .ok (.iconst 0, 1) := by decide +kernel
theorem dX1_worthOfMove_28 : decode cX1_worthOfMove 28 = .ok (.istore 4, 2) := by decide +kernel
theorem dX1_worthOfMove_30 : decode cX1_worthOfMove 30 = .ok (.iload_n 3, 1) := by decide +kernel
theorem dX1_worthOfMove_31 : decode cX1_worthOfMove 31 = .ok (.bipush 35, 2) := by decide +kernel
theorem dX1_worthOfMove_33 : decode cX1_worthOfMove 33 = .ok (.if_icmp .ne 9, 3) := by decide +kernel
theorem dX1_worthOfMove_36 : decode cX1_worthOfMove 36 = .ok (.iconst 3, 1) := by decide +kernel
theorem dX1_worthOfMove_37 : decode cX1_worthOfMove 37 = .ok (.istore 4, 2) := by decide +kernel
theorem dX1_worthOfMove_39 : decode cX1_worthOfMove 39 = .ok (.goto 46, 3) := by decide +kernel
theorem dX1_worthOfMove_42 : decode cX1_worthOfMove 42 = .ok (.aload_n 0, 1) := by decide +kernel
theorem dX1_worthOfMove_43 : decode cX1_worthOfMove 43 = .ok (.getfield 12, 3) := by decide +kernel
theorem dX1_worthOfMove_46 : decode cX1_worthOfMove 46 = .ok (.aload_n 0, 1) := by decide +kernel
theorem dX1_worthOfMove_47 : decode cX1_worthOfMove 47 = .ok (.getfield 26, 3) := by decide +kernel
theorem dX1_worthOfMove_50 : decode cX1_worthOfMove 50 = .ok (.iload_n 3, 1) := by decide +kernel
theorem dX1_worthOfMove_51 : decode cX1_worthOfMove 51 = .ok (.invokevirtual 78, 3) := by decide +kernel
theorem dX1_worthOfMove_54 : decode cX1_worthOfMove 54 = .ok (.ifCond .le 9, 3) := by decide +kernel
theorem dX1_worthOfMove_57 : decode cX1_worthOfMove 57 = .ok (.iconst 2, 1) := by decide +kernel
theorem dX1_worthOfMove_58 : decode cX1_worthOfMove 58 = .ok (.istore 4, 2) := by decide +kernel
theorem dX1_worthOfMove_60 : decode cX1_worthOfMove 60 = .ok (.goto 25, 3) := by decide +kernel
theorem dX1_worthOfMove_63 : decode cX1_worthOfMove 63 = .ok (.iload_n 3, 1) := by decide +kernel
theorem dX1_worthOfMove_64 : decode cX1_worthOfMove 64 = .ok (.invokestatic 88, 3) := by decide +kernel
theorem dX1_worthOfMove_67 : decode cX1_worthOfMove 67 = .ok (.ifCond .eq 18, 3) := by decide +kernel
theorem dX1_worthOfMove_70 : decode cX1_worthOfMove 70 = .ok (.aload_n 0, 1) := by decide +kernel
theorem dX1_worthOfMove_71 : decode cX1_worthOfMove 71 = .ok (.getfield 12, 3) := by decide +kernel
theorem dX1_worthOfMove_74 : decode cX1_worthOfMove 74 = .ok (.iload_n 1, 1) := by decide +kernel
theorem dX1_worthOfMove_75 : decode cX1_worthOfMove 75 = .ok (.iload_n 3, 1) := by decide +kernel
theorem dX1_worthOfMove_76 : decode cX1_worthOfMove 76 = .ok (.invokevirtual 91, 3) := by decide +kernel
theorem dX1_worthOfMove_79 : decode cX1_worthOfMove 79 = .ok (.ifCond .le 6, 3) := by decide +kernel
theorem dX1_worthOfMove_82 : decode cX1_worthOfMove 82 = .ok (.iconst 1, 1) := by decide +kernel
theorem dX1_worthOfMove_83 : decode cX1_worthOfMove 83 = .ok (.istore 4, 2) := by decide +kernel
theorem dX1_worthOfMove_85 : decode cX1_worthOfMove 85 = .ok (.iload 4, 2) := by decide +kernel
theorem dX1_worthOfMove_87 : decode cX1_worthOfMove 87 = .ok (.bipush 100, 2) := by decide +kernel
theorem dX1_worthOfMove_89 : decode cX1_worthOfMove 89 = .ok (.imul, 1) := by decide +kernel
theorem dX1_worthOfMove_90 : decode cX1_worthOfMove 90 = .ok (.iload_n 2, 1) := by decide +kernel
theorem dX1_worthOfMove_91 : decode cX1_worthOfMove 91 = .ok (.iadd, 1) := by decide +kernel
theorem dX1_worthOfMove_92 : decode cX1_worthOfMove 92 = .ok (.ireturn, 1) := by decide +kernel
theorem dX1_throwByX_0 : decode cX1_throwByX 0 = .ok (.aload_n 0, 1) := by decide +kernel
theorem dX1_throwByX_1 : decode cX1_throwByX 1 = .ok (.aload_n 0, 1) := by decide +kernel
theorem dX1_throwByX_2 : decode cX1_throwByX 2 = .ok (.getfield 22, 3) := by decide +kernel
theorem dX1_throwByX_5 : decode cX1_throwByX 5 = .ok (.invokestatic 94, 3) := by decide +kernel
theorem dX1_throwByX_8 : decode cX1_throwByX 8 = .ok (.putfield 22, 3) := by decide +kernel
theorem dX1_throwByX_11 : decode cX1_throwByX 11 = .ok (.aload_n 0, 1) := by decide +kernel
theorem dX1_throwByX_12 : decode cX1_throwByX 12 = .ok (.aload_n 0, 1) := by decide +kernel
theorem dX1_throwByX_13 : decode cX1_throwByX 13 = .ok (.getfield 22, 3) := by decide +kernel
theorem dX1_throwByX_16 : decode cX1_throwByX 16 = .ok (.invokestatic 97, 3) := by decide +kernel
theorem dX1_throwByX_19 : decode cX1_throwByX 19 = .ok (.invokevirtual 100, 3) := by decide +kernel
theorem dX1_throwByX_22 : decode cX1_throwByX 22 = .ok (.return_, 1) := by decide +kernel
theorem dX1_takeThrow_0 : decode cX1_takeThrow 0 = .ok (.aload_n 0, 1) := by decide +kernel
theorem dX1_takeThrow_1 : decode cX1_takeThrow 1 = .ok (.iload_n 1, 1) := by decide +kernel
theorem dX1_takeThrow_2 : decode cX1_takeThrow 2 = .ok (.putfield 29, 3) := by decide +kernel
theorem dX1_takeThrow_5 : decode cX1_takeThrow 5 = .ok (.aload_n 0, 1) := by decide +kernel
theorem dX1_takeThrow_6 : decode cX1_takeThrow 6 = .ok (.dup, 1) := by decide +kernel
theorem dX1_takeThrow_7 : decode cX1_takeThrow 7 = .ok (.getfield 35, 3) := by decide +kernel
theorem dX1_takeThrow_10 : decode cX1_takeThrow 10 = .ok (.iconst 1, 1) := by decide +kernel
theorem dX1_takeThrow_11 : decode cX1_takeThrow 11 = .ok (.iadd, 1) := by decide +kernel
theorem dX1_takeThrow_12 : decode cX1_takeThrow 12 = .ok (.putfield 35, 3) := by decide +kernel
theorem dX1_takeThrow_15 : decode cX1_takeThrow 15 = .ok (.return_, 1) := by decide +kernel
theorem dX1_moveByThrow_0 : decode cX1_moveByThrow 0 = .ok (.aload_n 0, 1) := by decide +kernel
theorem dX1_moveByThrow_1 : decode cX1_moveByThrow 1 = .ok (.getfield 12, 3) := by decide +kernel
theorem dX1_moveByThrow_4 : decode cX1_moveByThrow 4 = .ok (.aload_n 0, 1) := by decide +kernel
theorem dX1_moveByThrow_5 : decode cX1_moveByThrow 5 = .ok (.getfield 26, 3) := by decide +kernel
theorem dX1_moveByThrow_8 : decode cX1_moveByThrow 8 = .ok (.aload_n 0, 1) := by decide +kernel
theorem dX1_moveByThrow_9 : decode cX1_moveByThrow 9 = .ok (.getfield 12, 3) := by decide +kernel
theorem dX1_moveByThrow_12 : decode cX1_moveByThrow 12 = .ok (.getfield 55, 3) := by decide +kernel
theorem dX1_moveByThrow_15 : decode cX1_moveByThrow 15 = .ok (.iload_n 1, 1) := by decide +kernel
theorem dX1_moveByThrow_16 : decode cX1_moveByThrow 16 = .ok (.iaload, 1) := by decide +kernel
theorem dX1_moveByThrow_17 : decode cX1_moveByThrow 17 = .ok (.aload_n 0, 1) := by decide +kernel
theorem dX1_moveByThrow_18 : decode cX1_moveByThrow 18 = .ok (.getfield 29, 3) := by decide +kernel
theorem dX1_moveByThrow_21 : decode cX1_moveByThrow 21 = .ok (.invokevirtual 58, 3) := by decide +kernel
theorem dX1_moveByThrow_24 : decode cX1_moveByThrow 24 = .ok (.istore_n 2, 1) := by decide +kernel
theorem dX1_moveByThrow_25 : decode cX1_moveByThrow 25 = .ok (.aload_n 0, 1) := by decide +kernel
theorem dX1_moveByThrow_26 : decode cX1_moveByThrow 26 = .ok (.getfield 12, 3) := by decide +kernel
theorem dX1_moveByThrow_29 : decode cX1_moveByThrow 29 = .ok (.aload_n 0, 1) := by decide +kernel
theorem dX1_moveByThrow_30 : decode cX1_moveByThrow 30 = .ok (.getfield 26, 3) := by decide +kernel
theorem dX1_moveByThrow_33 : decode cX1_moveByThrow 33 = .ok (.iload_n 2, 1) := by decide +kernel
theorem dX1_moveByThrow_34 : decode cX1_moveByThrow 34 = .ok (.invokevirtual 104, 3) := by decide +kernel
theorem dX1_moveByThrow_37 : decode cX1_moveByThrow 37 = .ok (.aload_n 0, 1) := by decide +kernel
theorem dX1_moveByThrow_38 : decode cX1_moveByThrow 38 = .ok (.getfield 12, 3) := by decide +kernel
theorem dX1_moveByThrow_41 : decode cX1_moveByThrow 41 = .ok (.iload_n 1, 1) := by decide +kernel
theorem dX1_moveByThrow_42 : decode cX1_moveByThrow 42 = .ok (.iload_n 2, 1) := by decide +kernel
theorem dX1_moveByThrow_43 : decode cX1_moveByThrow 43 = .ok (.aload_n 0, 1) := by decide +kernel
theorem dX1_moveByThrow_44 : decode cX1_moveByThrow 44 = .ok (.getfield 32, 3) := by decide +kernel
theorem dX1_moveByThrow_47 : decode cX1_moveByThrow 47 = .ok (.invokevirtual 108, 3) := by decide +kernel
theorem dX1_moveByThrow_50 : decode cX1_moveByThrow 50 = .ok (.aload_n 0, 1) := by decide +kernel
theorem dX1_moveByThrow_51 : decode cX1_moveByThrow 51 = .ok (.invokevirtual 112, 3) := by decide +kernel
theorem dX1_moveByThrow_54 : decode cX1_moveByThrow 54 = .ok (.iload_n 2, 1) := by decide +kernel
theorem dX1_moveByThrow_55 : decode cX1_moveByThrow 55 = .ok (.ireturn, 1) := by decide +kernel
theorem dX1_endThrow_0 : decode cX1_endThrow 0 = .ok (.aload_n 0, 1) := by decide +kernel
theorem dX1_endThrow_1 : decode cX1_endThrow 1 = .ok (.getfield 29, 3) := by decide +kernel
theorem dX1_endThrow_4 : decode cX1_endThrow 4 = .ok (.bipush 6, 2) := by decide +kernel
theorem dX1_endThrow_6 : decode cX1_endThrow 6 = .ok (.if_icmp .ne 20, 3) := by decide +kernel
theorem dX1_endThrow_9 : decode cX1_endThrow 9 = .ok (.aload_n 0, 1) := by decide +kernel
theorem dX1_endThrow_10 : decode cX1_endThrow 10 = .ok (.getfield 35, 3) := by decide +kernel
theorem dX1_endThrow_13 : decode cX1_endThrow 13 = .ok (.aload_n 0, 1) := by decide +kernel
theorem dX1_endThrow_14 : decode cX1_endThrow 14 = .ok (.getfield 18, 3) := by decide +kernel
theorem dX1_endThrow_17 : decode cX1_endThrow 17 = .ok (.iconst 2, 1) := by decide +kernel
theorem dX1_endThrow_18 : decode cX1_endThrow 18 = .ok (.iaload, 1) := by decide +kernel
theorem dX1_endThrow_19 : decode cX1_endThrow 19 = .ok (.if_icmp .gt 7, 3) := by decide +kernel
theorem dX1_endThrow_22 : decode cX1_endThrow 22 = .ok (.iconst 1, 1) := by decide +kernel
theorem dX1_endThrow_23 : decode cX1_endThrow 23 = .ok (.goto 4, 3) := by decide +kernel
theorem dX1_endThrow_26 : decode cX1_endThrow 26 = .ok (.iconst 0, 1) := by decide +kernel
theorem dX1_endThrow_27 : decode cX1_endThrow 27 = .ok (.istore_n 1, 1) := by decide +kernel
theorem dX1_endThrow_28 : decode cX1_endThrow 28 = .ok (.aload_n 0, 1) := by decide +kernel
theorem dX1_endThrow_29 : decode cX1_endThrow 29 = .ok (.bipush (-6), 2) := by decide +kernel
theorem dX1_endThrow_31 : decode cX1_endThrow 31 = .ok (.putfield 29, 3) := by decide +kernel
theorem dX1_endThrow_34 : decode cX1_endThrow 34 = .ok (.iload_n 1, 1) := by decide +kernel
theorem dX1_endThrow_35 : decode cX1_endThrow 35 = .ok (.ifCond .ne 14, 3) := by decide +kernel
theorem dX1_endThrow_38 : decode cX1_endThrow 38 = .ok (.aload_n 0, 1) := by decide +kernel
theorem dX1_endThrow_39 : decode cX1_endThrow 39 = .ok (.invokevirtual 115, 3) := by decide +kernel
theorem dX1_endThrow_42 : decode cX1_endThrow 42 = .ok (.ifCond .ne 7, 3) := by decide +kernel
theorem dX1_endThrow_45 : decode cX1_endThrow 45 = .ok (.aload_n 0, 1) := by decide +kernel
theorem dX1_endThrow_46 : decode cX1_endThrow 46 = .ok (.invokevirtual 119, 3) := by decide +kernel
theorem dX1_endThrow_49 : decode cX1_endThrow 49 = .ok (.return_, 1) := by decide +kernel
theorem dX1_beginTurn_0 : decode cX1_beginTurn 0 = .ok (.aload_n 0, 1) := by decide +kernel
theorem dX1_beginTurn_1 : decode cX1_beginTurn 1 = .ok (.aload_n 0, 1) := by decide +kernel
theorem dX1_beginTurn_2 : decode cX1_beginTurn 2 = .ok (.getfield 26, 3) := by decide +kernel
theorem dX1_beginTurn_5 : decode cX1_beginTurn 5 = .ok (.iconst 1, 1) := by decide +kernel
theorem dX1_beginTurn_6 : decode cX1_beginTurn 6 = .ok (.iadd, 1) := by decide +kernel
theorem dX1_beginTurn_7 : decode cX1_beginTurn 7 = .ok (.iconst 4, 1) := by decide +kernel
theorem dX1_beginTurn_8 : decode cX1_beginTurn 8 = .ok (.irem, 1) := by decide +kernel
theorem dX1_beginTurn_9 : decode cX1_beginTurn 9 = .ok (.putfield 26, 3) := by decide +kernel
theorem dX1_beginTurn_12 : decode cX1_beginTurn 12 = .ok (.aload_n 0, 1) := by decide +kernel
theorem dX1_beginTurn_13 : decode cX1_beginTurn 13 = .ok (.dup, 1) := by decide +kernel
theorem dX1_beginTurn_14 : decode cX1_beginTurn 14 = .ok (.getfield 32, 3) := by decide +kernel
theorem dX1_beginTurn_17 : decode cX1_beginTurn 17 = .ok (.iconst 1, 1) := by decide +kernel
theorem dX1_beginTurn_18 : decode cX1_beginTurn 18 = .ok (.iadd, 1) := by decide +kernel
theorem dX1_beginTurn_19 : decode cX1_beginTurn 19 = .ok (.putfield 32, 3) := by decide +kernel
theorem dX1_beginTurn_22 : decode cX1_beginTurn 22 = .ok (.aload_n 0, 1) := by decide +kernel
theorem dX1_beginTurn_23 : decode cX1_beginTurn 23 = .ok (.iconst 0, 1) := by decide +kernel
theorem dX1_beginTurn_24 : decode cX1_beginTurn 24 = .ok (.putfield 35, 3) := by decide +kernel
theorem dX1_beginTurn_27 : decode cX1_beginTurn 27 = .ok (.aload_n 0, 1) := by decide +kernel
theorem dX1_beginTurn_28 : decode cX1_beginTurn 28 = .ok (.getfield 12, 3) := by decide +kernel
theorem dX1_beginTurn_31 : decode cX1_beginTurn 31 = .ok (.aload_n 0, 1) := by decide +kernel
theorem dX1_beginTurn_32 : decode cX1_beginTurn 32 = .ok (.getfield 32, 3) := by decide +kernel
theorem dX1_beginTurn_35 : decode cX1_beginTurn 35 = .ok (.aload_n 0, 1) := by decide +kernel
theorem dX1_beginTurn_36 : decode cX1_beginTurn 36 = .ok (.getfield 18, 3) := by decide +kernel
theorem dX1_beginTurn_39 : decode cX1_beginTurn 39 = .ok (.iconst 1, 1) := by decide +kernel
theorem dX1_beginTurn_40 : decode cX1_beginTurn 40 = .ok (.iaload, 1) := by decide +kernel
theorem dX1_beginTurn_41 : decode cX1_beginTurn 41 = .ok (.invokevirtual 122, 3) := by decide +kernel
theorem dX1_beginTurn_44 : decode cX1_beginTurn 44 = .ok (.return_, 1) := by decide +kernel
theorem dX1_playOn_0 : decode cX1_playOn 0 = .ok (.iconst 0, 1) := by decide +kernel
theorem dX1_playOn_1 : decode cX1_playOn 1 = .ok (.istore_n 2, 1) := by decide +kernel
theorem dX1_playOn_2 : decode cX1_playOn 2 = .ok (.iload_n 2, 1) := by decide +kernel
theorem dX1_playOn_3 : decode cX1_playOn 3 = .ok (.iload_n 1, 1) := by decide +kernel
theorem dX1_playOn_4 : decode cX1_playOn 4 = .ok (.if_icmp .ge 44, 3) := by decide +kernel
theorem dX1_playOn_7 : decode cX1_playOn 7 = .ok (.aload_n 0, 1) := by decide +kernel
theorem dX1_playOn_8 : decode cX1_playOn 8 = .ok (.invokevirtual 115, 3) := by decide +kernel
theorem dX1_playOn_11 : decode cX1_playOn 11 = .ok (.ifCond .ne 37, 3) := by decide +kernel
theorem dX1_playOn_14 : decode cX1_playOn 14 = .ok (.aload_n 0, 1) := by decide +kernel
theorem dX1_playOn_15 : decode cX1_playOn 15 = .ok (.invokevirtual 125, 3) := by decide +kernel
theorem dX1_playOn_18 : decode cX1_playOn 18 = .ok (.aload_n 0, 1) := by decide +kernel
theorem dX1_playOn_19 : decode cX1_playOn 19 = .ok (.invokevirtual 128, 3) := by decide +kernel
theorem dX1_playOn_22 : decode cX1_playOn 22 = .ok (.istore_n 3, 1) := by decide +kernel
theorem dX1_playOn_23 : decode cX1_playOn 23 = .ok (.iload_n 3, 1) := by decide +kernel
theorem dX1_playOn_24 : decode cX1_playOn 24 = .ok (.bipush (-6), 2) := by decide +kernel
theorem dX1_playOn_26 : decode cX1_playOn 26 = .ok (.if_icmp .ne 10, 3) := by decide +kernel
theorem dX1_playOn_29 : decode cX1_playOn 29 = .ok (.aload_n 0, 1) := by decide +kernel
theorem dX1_playOn_30 : decode cX1_playOn 30 = .ok (.invokevirtual 112, 3) := by decide +kernel
theorem dX1_playOn_33 : decode cX1_playOn 33 = .ok (.goto 9, 3) := by decide +kernel
theorem dX1_playOn_36 : decode cX1_playOn 36 = .ok (.aload_n 0, 1) := by decide +kernel
theorem dX1_playOn_37 : decode cX1_playOn 37 = .ok (.iload_n 3, 1) := by decide +kernel
theorem dX1_playOn_38 : decode cX1_playOn 38 = .ok (.invokevirtual 131, 3) := by decide +kernel
theorem dX1_playOn_41 : decode cX1_playOn 41 = .ok (.pop, 1) := by decide +kernel
theorem dX1_playOn_42 : decode cX1_playOn 42 = .ok (.iinc 2 1, 3) := by decide +kernel
theorem dX1_playOn_45 : decode cX1_playOn 45 = .ok (.goto (-43), 3) := by decide +kernel
theorem dX1_playOn_48 : decode cX1_playOn 48 = .ok (.iload_n 2, 1) := by decide +kernel
theorem dX1_playOn_49 : decode cX1_playOn 49 = .ok (.ireturn, 1) := by decide +kernel
theorem dX1_makeMove_0 : decode cX1_makeMove 0 = .ok (.iload_n 2, 1) := by decide +kernel
theorem dX1_makeMove_1 : decode cX1_makeMove 1 = .ok (.bipush (-6), 2) := by decide +kernel
theorem dX1_makeMove_3 : decode cX1_makeMove 3 = .ok (.if_icmp .ne 24, 3) := by decide +kernel
theorem dX1_makeMove_6 : decode cX1_makeMove 6 = .ok (.aload_n 0, 1) := by decide +kernel
theorem dX1_makeMove_7 : decode cX1_makeMove 7 = .ok (.iload_n 1, 1) := by decide +kernel
theorem dX1_makeMove_8 : decode cX1_makeMove 8 = .ok (.invokevirtual 134, 3) := by decide +kernel
theorem dX1_makeMove_11 : decode cX1_makeMove 11 = .ok (.ifCond .eq 5, 3) := by decide +kernel
theorem dX1_makeMove_14 : decode cX1_makeMove 14 = .ok (.iconst 0, 1) := by decide +kernel
theorem dX1_makeMove_15 : decode cX1_makeMove 15 = .ok (.ireturn, 1) := by decide +kernel
theorem dX1_makeMove_16 : decode cX1_makeMove 16 = .ok (.aload_n 0, 1) := by decide +kernel
theorem dX1_makeMove_17 : decode cX1_makeMove 17 = .ok (.iload_n 1, 1) := by decide +kernel
theorem dX1_makeMove_18 : decode cX1_makeMove 18 = .ok (.invokevirtual 100, 3) := by decide +kernel
theorem dX1_makeMove_21 : decode cX1_makeMove 21 = .ok (.aload_n 0, 1) := by decide +kernel
theorem dX1_makeMove_22 : decode cX1_makeMove 22 = .ok (.invokevirtual 112, 3) := by decide +kernel
theorem dX1_makeMove_25 : decode cX1_makeMove 25 = .ok (.iconst 1, 1) := by decide +kernel
theorem dX1_makeMove_26 : decode cX1_makeMove 26 = .ok (.ireturn, 1) := by decide +kernel
theorem dX1_makeMove_27 : decode cX1_makeMove 27 = .ok (.aload_n 0, 1) := by decide +kernel
theorem dX1_makeMove_28 : decode cX1_makeMove 28 = .ok (.getfield 26, 3) := by decide +kernel
theorem dX1_makeMove_31 : decode cX1_makeMove 31 = .ok (.iconst 3, 1) := by decide +kernel
theorem dX1_makeMove_32 : decode cX1_makeMove 32 = .ok (.imul, 1) := by decide +kernel
theorem dX1_makeMove_33 : decode cX1_makeMove 33 = .ok (.iload_n 2, 1) := by decide +kernel
theorem dX1_makeMove_34 : decode cX1_makeMove 34 = .ok (.iadd, 1) := by decide +kernel
theorem dX1_makeMove_35 : decode cX1_makeMove 35 = .ok (.istore_n 3, 1) := by decide +kernel
theorem dX1_makeMove_36 : decode cX1_makeMove 36 = .ok (.aload_n 0, 1) := by decide +kernel
theorem dX1_makeMove_37 : decode cX1_makeMove 37 = .ok (.iload_n 3, 1) := by decide +kernel
theorem dX1_makeMove_38 : decode cX1_makeMove 38 = .ok (.iload_n 1, 1) := by decide +kernel
theorem dX1_makeMove_39 : decode cX1_makeMove 39 = .ok (.invokevirtual 81, 3) := by decide +kernel
theorem dX1_makeMove_42 : decode cX1_makeMove 42 = .ok (.ifCond .eq 5, 3) := by decide +kernel
theorem dX1_makeMove_45 : decode cX1_makeMove 45 = .ok (.iconst 0, 1) := by decide +kernel
theorem dX1_makeMove_46 : decode cX1_makeMove 46 = .ok (.ireturn, 1) := by decide +kernel
theorem dX1_makeMove_47 : decode cX1_makeMove 47 = .ok (.aload_n 0, 1) := by decide +kernel
theorem dX1_makeMove_48 : decode cX1_makeMove 48 = .ok (.iload_n 1, 1) := by decide +kernel
theorem dX1_makeMove_49 : decode cX1_makeMove 49 = .ok (.invokevirtual 100, 3) := by decide +kernel
theorem dX1_makeMove_52 : decode cX1_makeMove 52 = .ok (.aload_n 0, 1) := by decide +kernel
theorem dX1_makeMove_53 : decode cX1_makeMove 53 = .ok (.iload_n 3, 1) := by decide +kernel
theorem dX1_makeMove_54 : decode cX1_makeMove 54 = .ok (.invokevirtual 131, 3) := by decide +kernel
theorem dX1_makeMove_57 : decode cX1_makeMove 57 = .ok (.pop, 1) := by decide +kernel
theorem dX1_makeMove_58 : decode cX1_makeMove 58 = .ok (.iconst 1, 1) := by decide +kernel
theorem dX1_makeMove_59 : decode cX1_makeMove 59 = .ok (.ireturn, 1) := by decide +kernel
theorem dX1_turnsUntilMended_0 : decode cX1_turnsUntilMended 0 = .ok (.iload_n 1, 1) := by decide +kernel
theorem dX1_turnsUntilMended_1 : decode cX1_turnsUntilMended 1 = .ok (.invokestatic 137, 3) := by decide +kernel
theorem dX1_turnsUntilMended_4 : decode cX1_turnsUntilMended 4 = .ok (.istore_n 2, 1) := by decide +kernel
theorem dX1_turnsUntilMended_5 : decode cX1_turnsUntilMended 5 = .ok (.iload_n 2, 1) := by decide +kernel
theorem dX1_turnsUntilMended_6 : decode cX1_turnsUntilMended 6 = .ok (.bipush (-6), 2) := by decide +kernel
theorem dX1_turnsUntilMended_8 : decode cX1_turnsUntilMended 8 = .ok (.if_icmp .eq 25, 3) := by decide +kernel
theorem dX1_turnsUntilMended_11 : decode cX1_turnsUntilMended 11 = .ok (.aload_n 0, 1) := by decide +kernel
theorem dX1_turnsUntilMended_12 : decode cX1_turnsUntilMended 12 = .ok (.getfield 12, 3) := by decide +kernel
theorem dX1_turnsUntilMended_15 : decode cX1_turnsUntilMended 15 = .ok (.getfield 140, 3) := by decide +kernel
theorem dX1_turnsUntilMended_18 : decode cX1_turnsUntilMended 18 = .ok (.iload_n 2, 1) := by decide +kernel
theorem dX1_turnsUntilMended_19 : decode cX1_turnsUntilMended 19 = .ok (.iaload, 1) := by decide +kernel
theorem dX1_turnsUntilMended_20 : decode cX1_turnsUntilMended 20 = .ok (.iconst 3, 1) := by decide +kernel
theorem dX1_turnsUntilMended_21 : decode cX1_turnsUntilMended 21 = .ok (.if_icmp .ne 12, 3) := by decide +kernel
theorem dX1_turnsUntilMended_24 : decode cX1_turnsUntilMended 24 = .ok (.aload_n 0, 1) := by decide +kernel
theorem dX1_turnsUntilMended_25 : decode cX1_turnsUntilMended 25 = .ok (.getfield 18, 3) := by decide +kernel
theorem dX1_turnsUntilMended_28 : decode cX1_turnsUntilMended 28 = .ok (.iconst 1, 1) := by decide +kernel
theorem dX1_turnsUntilMended_29 : decode cX1_turnsUntilMended 29 = .ok (.iaload, 1) := by decide +kernel
theorem dX1_turnsUntilMended_30 : decode cX1_turnsUntilMended 30 = .ok (.ifCond .ne 6, 3) := by decide +kernel
theorem dX1_turnsUntilMended_33 : decode cX1_turnsUntilMended 33 = .ok (.bipush (-6), 2) := by decide +kernel
theorem dX1_turnsUntilMended_35 : decode cX1_turnsUntilMended 35 = .ok (.ireturn, 1) := by decide +kernel
theorem dX1_turnsUntilMended_36 : decode cX1_turnsUntilMended 36 = .ok (.iconst 1, 1) := by decide +kernel
theorem dX1_turnsUntilMended_37 : decode cX1_turnsUntilMended 37 = .ok (.aload_n 0, 1) := by decide +kernel
theorem dX1_turnsUntilMended_38 : decode cX1_turnsUntilMended 38 = .ok (.getfield 18, 3) := by decide +kernel
theorem dX1_turnsUntilMended_41 : decode cX1_turnsUntilMended 41 = .ok (.iconst 1, 1) := by decide +kernel
theorem dX1_turnsUntilMended_42 : decode cX1_turnsUntilMended 42 = .ok (.iaload, 1) := by decide +kernel
theorem dX1_turnsUntilMended_43 : decode cX1_turnsUntilMended 43 = .ok (.aload_n 0, 1) := by decide +kernel
theorem dX1_turnsUntilMended_44 : decode cX1_turnsUntilMended 44 = .ok (.getfield 32, 3) := by decide +kernel
theorem dX1_turnsUntilMended_47 : decode cX1_turnsUntilMended 47 = .ok (.aload_n 0, 1) := by decide +kernel
theorem dX1_turnsUntilMended_48 : decode cX1_turnsUntilMended 48 = .ok (.getfield 12, 3) := by decide +kernel
theorem dX1_turnsUntilMended_51 : decode cX1_turnsUntilMended 51 = .ok (.getfield 143, 3) := by decide +kernel
theorem dX1_turnsUntilMended_54 : decode cX1_turnsUntilMended 54 = .ok (.iload_n 2, 1) := by decide +kernel
theorem dX1_turnsUntilMended_55 : decode cX1_turnsUntilMended 55 = .ok (.iaload, 1) := by decide +kernel
theorem dX1_turnsUntilMended_56 : decode cX1_turnsUntilMended 56 = .ok (.isub, 1) := by decide +kernel
theorem dX1_turnsUntilMended_57 : decode cX1_turnsUntilMended 57 = .ok (.isub, 1) := by decide +kernel
theorem dX1_turnsUntilMended_58 : decode cX1_turnsUntilMended 58 = .ok (.invokestatic 146, 3) := by decide +kernel
theorem dX1_turnsUntilMended_61 : decode cX1_turnsUntilMended 61 = .ok (.ireturn, 1) := by decide +kernel
theorem dX2_init_0 : decode cX2_init 0 = .ok (.aload_n 0, 1) := by decide +kernel
theorem dX2_init_1 : decode cX2_init 1 = .ok (.invokespecial 3, 3) := by decide +kernel
theorem dX2_init_4 : decode cX2_init 4 = .ok (.aload_n 0, 1) := by decide +kernel
theorem dX2_init_5 : decode cX2_init 5 = .ok (.bipush 6, 2) := by decide +kernel
theorem dX2_init_7 : decode cX2_init 7 = .ok (.anewarray 9, 3) := by decide +kernel
theorem dX2_init_10 : decode cX2_init 10 = .ok (.putfield 11, 3) := by decide +kernel
theorem dX2_init_13 : decode cX2_init 13 = .ok (.aload_n 0, 1) := by decide +kernel
theorem dX2_init_14 : decode cX2_init 14 = .ok (.iconst 0, 1) := by decide +kernel
theorem dX2_init_15 : decode cX2_init 15 = .ok (.putfield 17, 3) := by decide +kernel
theorem dX2_init_18 : decode cX2_init 18 = .ok (.aload_n 0, 1) := by decide +kernel
theorem dX2_init_19 : decode cX2_init 19 = .ok (.iconst 0, 1) := by decide +kernel
theorem dX2_init_20 : decode cX2_init 20 = .ok (.putfield 21, 3) := by decide +kernel
theorem dX2_init_23 : decode cX2_init 23 = .ok (.return_, 1) := by decide +kernel
theorem dX2_remember_0 : decode cX2_remember 0 = .ok (.aload_n 0, 1) := by decide +kernel
theorem dX2_remember_1 : decode cX2_remember 1 = .ok (.getfield 11, 3) := by decide +kernel
theorem dX2_remember_4 : decode cX2_remember 4 = .ok (.aload_n 0, 1) := by decide +kernel
theorem dX2_remember_5 : decode cX2_remember 5 = .ok (.getfield 17, 3) := by decide +kernel
theorem dX2_remember_8 : decode cX2_remember 8 = .ok (.aaload, 1) := by decide +kernel
theorem dX2_remember_9 : decode cX2_remember 9 = .ok (.astore_n 2, 1) := by decide +kernel
theorem dX2_remember_10 : decode cX2_remember 10 = .ok (.aload_n 2, 1) := by decide +kernel
theorem dX2_remember_11 : decode cX2_remember 11 = .ok (.ifnonnull 21, 3) := by decide +kernel
theorem dX2_remember_14 : decode cX2_remember 14 = .ok (.new 9, 3) := by decide +kernel
theorem dX2_remember_17 : decode cX2_remember 17 = .ok (.dup, 1) := by decide +kernel
theorem dX2_remember_18 : decode cX2_remember 18 = .ok (.invokespecial 24, 3) := by decide +kernel
theorem dX2_remember_21 : decode cX2_remember 21 = .ok (.astore_n 2, 1) := by decide +kernel
theorem dX2_remember_22 : decode cX2_remember 22 = .ok (.aload_n 0, 1) := by decide +kernel
theorem dX2_remember_23 : decode cX2_remember 23 = .ok (.getfield 11, 3) := by decide +kernel
theorem dX2_remember_26 : decode cX2_remember 26 = .ok (.aload_n 0, 1) := by decide +kernel
theorem dX2_remember_27 : decode cX2_remember 27 = .ok (.getfield 17, 3) := by decide +kernel
theorem dX2_remember_30 : decode cX2_remember 30 = .ok (.aload_n 2, 1) := by decide +kernel
theorem dX2_remember_31 : decode cX2_remember 31 = .ok (.aastore, 1) := by decide +kernel
theorem dX2_remember_32 : decode cX2_remember 32 = .ok (.aload_n 2, 1) := by decide +kernel
theorem dX2_remember_33 : decode cX2_remember 33 = .ok (.aload_n 1, 1) := by decide +kernel
theorem dX2_remember_34 : decode cX2_remember 34 = .ok (.invokevirtual 25, 3) := by decide +kernel
theorem dX2_remember_37 : decode cX2_remember 37 = .ok (.aload_n 0, 1) := by decide +kernel
theorem dX2_remember_38 : decode cX2_remember 38 = .ok (.aload_n 0, 1) := by decide +kernel
theorem dX2_remember_39 : decode cX2_remember 39 = .ok (.getfield 17, 3) := by decide +kernel
theorem dX2_remember_42 : decode cX2_remember 42 = .ok (.iconst 1, 1) := by decide +kernel
theorem dX2_remember_43 : decode cX2_remember 43 = .ok (.iadd, 1) := by decide +kernel
theorem dX2_remember_44 : decode cX2_remember 44 = .ok (.bipush 6, 2) := by decide +kernel
theorem dX2_remember_46 : decode cX2_remember 46 = .ok (.irem, 1) := by decide +kernel
theorem dX2_remember_47 : decode cX2_remember 47 = .ok (.putfield 17, 3) := by decide +kernel
theorem dX2_remember_50 : decode cX2_remember 50 = .ok (.aload_n 0, 1) := by decide +kernel
theorem dX2_remember_51 : decode cX2_remember 51 = .ok (.aload_n 0, 1) := by decide +kernel
theorem dX2_remember_52 : decode cX2_remember 52 = .ok (.getfield 21, 3) := by decide +kernel
theorem dX2_remember_55 : decode cX2_remember 55 = .ok (.iconst 1, 1) := by decide +kernel
theorem dX2_remember_56 : decode cX2_remember 56 = .ok (.iadd, 1) := by decide +kernel
theorem dX2_remember_57 : decode cX2_remember 57 = .ok (.bipush 6, 2) := by decide +kernel
theorem dX2_remember_59 : decode cX2_remember 59 = .ok (.invokestatic 29, 3) := by decide +kernel
theorem dX2_remember_62 : decode cX2_remember 62 = .ok (.putfield 21, 3) := by decide +kernel
theorem dX2_remember_65 : decode cX2_remember 65 = .ok (.return_, 1) := by decide +kernel
theorem dX2_takeBack_0 : decode cX2_takeBack 0 = .ok (.aload_n 0, 1) := by decide +kernel
theorem dX2_takeBack_1 : decode cX2_takeBack 1 = .ok (.getfield 17, 3) := by decide +kernel
theorem dX2_takeBack_4 : decode cX2_takeBack 4 = .ok (.bipush 6, 2) := by decide +kernel
theorem dX2_takeBack_6 : decode cX2_takeBack 6 = .ok (.iadd, 1) := by decide +kernel
theorem dX2_takeBack_7 : decode cX2_takeBack 7 = .ok (.iconst 1, 1) := by decide +kernel
theorem dX2_takeBack_8 : decode cX2_takeBack 8 = .ok (.isub, 1) := by decide +kernel
theorem dX2_takeBack_9 : decode cX2_takeBack 9 = .ok (.bipush 6, 2) := by decide +kernel
theorem dX2_takeBack_11 : decode cX2_takeBack 11 = .ok (.irem, 1) := by decide +kernel
theorem dX2_takeBack_12 : decode cX2_takeBack 12 = .ok (.istore_n 2, 1) := by decide +kernel
theorem dX2_takeBack_13 : decode cX2_takeBack 13 = .ok (.aload_n 0, 1) := by decide +kernel
theorem dX2_takeBack_14 : decode cX2_takeBack 14 = .ok (.getfield 11, 3) := by decide +kernel
theorem dX2_takeBack_17 : decode cX2_takeBack 17 = .ok (.iload_n 2, 1) := by decide +kernel
theorem dX2_takeBack_18 : decode cX2_takeBack 18 = .ok (.aaload, 1) := by decide +kernel
theorem dX2_takeBack_19 : decode cX2_takeBack 19 = .ok (.astore_n 3, 1) := by decide +kernel
theorem dX2_takeBack_20 : decode cX2_takeBack 20 = .ok (.aload_n 0, 1) := by decide +kernel
theorem dX2_takeBack_21 : decode cX2_takeBack 21 = .ok (.getfield 21, 3) := by decide +kernel
theorem dX2_takeBack_24 : decode cX2_takeBack 24 = .ok (.ifCond .eq 7, 3) := by decide +kernel
theorem dX2_takeBack_27 : decode cX2_takeBack 27 = .ok (.aload_n 3, 1) := by decide +kernel
theorem dX2_takeBack_28 : decode cX2_takeBack 28 = .ok (.ifnonnull 5, 3) := by decide +kernel
theorem dX2_takeBack_31 : decode cX2_takeBack 31 = .ok (.iconst 0, 1) := by decide +kernel
theorem dX2_takeBack_32 : decode cX2_takeBack 32 = .ok (.ireturn, 1) := by decide +kernel
theorem dX2_takeBack_33 : decode cX2_takeBack 33 = .ok (.aload_n 1, 1) := by decide +kernel
theorem dX2_takeBack_34 : decode cX2_takeBack 34 = .ok (.aload_n 3, 1) := by decide +kernel
theorem dX2_takeBack_35 : decode cX2_takeBack 35 = .ok (.invokevirtual 25, 3) := by decide +kernel
theorem dX2_takeBack_38 : decode cX2_takeBack 38 = .ok (.aload_n 0, 1) := by decide +kernel
theorem dX2_takeBack_39 : decode cX2_takeBack 39 = .ok (.iload_n 2, 1) := by decide +kernel
theorem dX2_takeBack_40 : decode cX2_takeBack 40 = .ok (.putfield 17, 3) := by decide +kernel
theorem dX2_takeBack_43 : decode cX2_takeBack 43 = .ok (.aload_n 0, 1) := by decide +kernel
theorem dX2_takeBack_44 : decode cX2_takeBack 44 = .ok (.dup, 1) := by decide +kernel
theorem dX2_takeBack_45 : decode cX2_takeBack 45 = .ok (.getfield 21, 3) := by decide +kernel
theorem dX2_takeBack_48 : decode cX2_takeBack 48 = .ok (.iconst 1, 1) := by decide +kernel
theorem dX2_takeBack_49 : decode cX2_takeBack 49 = .ok (.isub, 1) := by decide +kernel
theorem dX2_takeBack_50 : decode cX2_takeBack 50 = .ok (.putfield 21, 3) := by decide +kernel
theorem dX2_takeBack_53 : decode cX2_takeBack 53 = .ok (.iconst 1, 1) := by decide +kernel
theorem dX2_takeBack_54 : decode cX2_takeBack 54 = .ok (.ireturn, 1) := by decide +kernel
theorem dX3_init_0 : decode cX3_init 0 = .ok (.aload_n 0, 1) := by decide +kernel
theorem dX3_init_1 : decode cX3_init 1 = .ok (.invokespecial 3, 3) := by decide +kernel
theorem dX3_init_4 : decode cX3_init 4 = .ok (.aload_n 0, 1) := by decide +kernel
theorem dX3_init_5 : decode cX3_init 5 = .ok (.bipush 60, 2) := by decide +kernel
theorem dX3_init_7 : decode cX3_init 7 = .ok (.newarray .char, 2) := by decide +kernel
theorem dX3_init_9 : decode cX3_init 9 = .ok (.putfield 9, 3) := by decide +kernel
theorem dX3_init_12 : decode cX3_init 12 = .ok (.aload_n 0, 1) := by decide +kernel
theorem dX3_init_13 : decode cX3_init 13 = .ok (.iconst 0, 1) := by decide +kernel
theorem dX3_init_14 : decode cX3_init 14 = .ok (.putfield 15, 3) := by decide +kernel
theorem dX3_init_17 : decode cX3_init 17 = .ok (.return_, 1) := by decide +kernel
theorem dX3_append_0 : decode cX3_append 0 = .ok (.iload_n 3, 1) := by decide +kernel
theorem dX3_append_1 : decode cX3_append 1 = .ok (.iconst 1, 1) := by decide +kernel
theorem dX3_append_2 : decode cX3_append 2 = .ok (.isub, 1) := by decide +kernel
theorem dX3_append_3 : decode cX3_append 3 = .ok (.istore 4, 2) := by decide +kernel
theorem dX3_append_5 : decode cX3_append 5 = .ok (.iload 4, 2) := by decide +kernel
theorem dX3_append_7 : decode cX3_append 7 = .ok (.ifCond .lt 50, 3) := by decide +kernel
theorem dX3_append_10 : decode cX3_append 10 = .ok (.aload_n 0, 1) := by decide +kernel
theorem dX3_append_11 : decode cX3_append 11 = .ok (.getfield 15, 3) := by decide +kernel
theorem dX3_append_14 : decode cX3_append 14 = .ok (.bipush 60, 2) := by decide +kernel
theorem dX3_append_16 : decode cX3_append 16 = .ok (.if_icmp .ge 41, 3) := by decide +kernel
theorem dX3_append_19 : decode cX3_append 19 = .ok (.aload_n 0, 1) := by decide +kernel
theorem dX3_append_20 : decode cX3_append 20 = .ok (.getfield 9, 3) := by decide +kernel
theorem dX3_append_23 : decode cX3_append 23 = .ok (.aload_n 0, 1) := by decide +kernel
theorem dX3_append_24 : decode cX3_append 24 = .ok (.getfield 15, 3) := by decide +kernel
theorem dX3_append_27 : decode cX3_append 27 = .ok (.lload_n 1, 1) := by decide +kernel
theorem dX3_append_28 : decode cX3_append 28 = .ok (.bipush 8, 2) := by decide +kernel
theorem dX3_append_30 : decode cX3_append 30 = .ok (.iload 4, 2) := by decide +kernel
theorem dX3_append_32 : decode cX3_append 32 = .ok (.imul, 1) := by decide +kernel
theorem dX3_append_33 : decode cX3_append 33 = .ok (.lushr, 1) := by decide +kernel
theorem dX3_append_34 : decode cX3_append 34 = .ok (.ldc2_w 19, 3) := by decide +kernel
theorem dX3_append_37 : decode cX3_append 37 = .ok (.land, 1) := by decide +kernel
theorem dX3_append_38 : decode cX3_append 38 = .ok (.l2i, 1) := by decide +kernel
theorem dX3_append_39 : decode cX3_append 39 = .ok (.i2c, 1) := by decide +kernel
theorem dX3_append_40 : decode cX3_append 40 = .ok (.castore, 1) := by decide +kernel
theorem dX3_append_41 : decode cX3_append 41 = .ok (.aload_n 0, 1) := by decide +kernel
theorem dX3_append_42 : decode cX3_append 42 = .ok (.dup, 1) := by decide +kernel
theorem dX3_append_43 : decode cX3_append 43 = .ok (.getfield 15, 3) := by decide +kernel
theorem dX3_append_46 : decode cX3_append 46 = .ok (.iconst 1, 1) := by decide +kernel
theorem dX3_append_47 : decode cX3_append 47 = .ok (.iadd, 1) := by decide +kernel
theorem dX3_append_48 : decode cX3_append 48 = .ok (.putfield 15, 3) := by decide +kernel
theorem dX3_append_51 : decode cX3_append 51 = .ok (.iinc 4 (-1), 3) := by decide +kernel
theorem dX3_append_54 : decode cX3_append 54 = .ok (.goto (-49), 3) := by decide +kernel
theorem dX3_append_57 : decode cX3_append 57 = .ok (.return_, 1) := by decide +kernel
theorem dX3_faultIndex_0 : decode cX3_faultIndex 0 = .ok (.iconst 0, 1) := by decide +kernel
theorem dX3_faultIndex_1 : decode cX3_faultIndex 1 = .ok (.istore_n 1, 1) := by decide +kernel
theorem dX3_faultIndex_2 : decode cX3_faultIndex 2 = .ok (.iload_n 1, 1) := by decide +kernel
theorem dX3_faultIndex_3 : decode cX3_faultIndex 3 = .ok (.aload_n 0, 1) := by decide +kernel
theorem dX3_faultIndex_4 : decode cX3_faultIndex 4 = .ok (.getfield 15, 3) := by decide +kernel
theorem dX3_faultIndex_7 : decode cX3_faultIndex 7 = .ok (.if_icmp .ge 44, 3) := by decide +kernel
theorem dX3_faultIndex_10 : decode cX3_faultIndex 10 = .ok (.iload_n 1, 1) := by decide +kernel
theorem dX3_faultIndex_11 : decode cX3_faultIndex 11 = .ok (.iconst 2, 1) := by decide +kernel
theorem dX3_faultIndex_12 : decode cX3_faultIndex 12 = .ok (.irem, 1) := by decide +kernel
theorem dX3_faultIndex_13 : decode cX3_faultIndex 13 = .ok (.ifCond .ne 18, 3) := by decide +kernel
theorem dX3_faultIndex_16 : decode cX3_faultIndex 16 = .ok (.aload_n 0, 1) := by decide +kernel
theorem dX3_faultIndex_17 : decode cX3_faultIndex 17 = .ok (.getfield 9, 3) := by decide +kernel
theorem dX3_faultIndex_20 : decode cX3_faultIndex 20 = .ok (.iload_n 1, 1) := by decide +kernel
theorem dX3_faultIndex_21 : decode cX3_faultIndex 21 = .ok (.caload, 1) := by decide +kernel
theorem dX3_faultIndex_22 : decode cX3_faultIndex 22 = .ok (.invokestatic 21, 3) := by decide +kernel
theorem dX3_faultIndex_25 : decode cX3_faultIndex 25 = .ok (.ifCond .eq 18, 3) := by decide +kernel
theorem dX3_faultIndex_28 : decode cX3_faultIndex 28 = .ok (.goto 17, 3) := by decide +kernel
theorem dX3_faultIndex_31 : decode cX3_faultIndex 31 = .ok (.aload_n 0, 1) := by decide +kernel
theorem dX3_faultIndex_32 : decode cX3_faultIndex 32 = .ok (.getfield 9, 3) := by decide +kernel
theorem dX3_faultIndex_35 : decode cX3_faultIndex 35 = .ok (.iload_n 1, 1) := by decide +kernel
theorem dX3_faultIndex_36 : decode cX3_faultIndex 36 = .ok (.caload, 1) := by decide +kernel
theorem dX3_faultIndex_37 : decode cX3_faultIndex 37 = .ok (.invokestatic 25, 3) := by decide +kernel
theorem dX3_faultIndex_40 : decode cX3_faultIndex 40 = .ok (.ifCond .ne 5, 3) := by decide +kernel
theorem dX3_faultIndex_43 : decode cX3_faultIndex 43 = .ok (.iload_n 1, 1) := by decide +kernel
theorem dX3_faultIndex_44 : decode cX3_faultIndex 44 = .ok (.ireturn, 1) := by decide +kernel
theorem dX3_faultIndex_45 : decode cX3_faultIndex 45 = .ok (.iinc 1 1, 3) := by decide +kernel
theorem dX3_faultIndex_48 : decode cX3_faultIndex 48 = .ok (.goto (-46), 3) := by decide +kernel
theorem dX3_faultIndex_51 : decode cX3_faultIndex 51 = .ok (.aload_n 0, 1) := by decide +kernel
