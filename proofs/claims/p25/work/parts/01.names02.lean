theorem dX4_widen_7 : decode cX4_widen 7 = .ok (.if_icmp .ge 76, 3) := by decide +kernel
theorem dX4_widen_10 : decode cX4_widen 10 = .ok (.iconst 1, 1) := by decide +kernel
theorem dX4_widen_11 : decode cX4_widen 11 = .ok (.istore 5, 2) := by decide +kernel
theorem dX4_widen_13 : decode cX4_widen 13 = .ok (.iload 5, 2) := by decide +kernel
theorem dX4_widen_15 : decode cX4_widen 15 = .ok (.bipush 6, 2) := by decide +kernel
theorem dX4_widen_17 : decode cX4_widen 17 = .ok (.if_icmp .gt 60, 3) := by decide +kernel
theorem dX4_widen_20 : decode cX4_widen 20 = .ok (.aload_n 0, 1) := by decide +kernel
theorem dX4_widen_21 : decode cX4_widen 21 = .ok (.getfield 9, 3) := by decide +kernel
theorem dX4_widen_24 : decode cX4_widen 24 = .ok (.iload 4, 2) := by decide +kernel
theorem dX4_widen_26 : decode cX4_widen 26 = .ok (.iaload, 1) := by decide +kernel
theorem dX4_widen_27 : decode cX4_widen 27 = .ok (.iload_n 3, 1) := by decide +kernel
theorem dX4_widen_28 : decode cX4_widen 28 = .ok (.if_icmp .ne 49, 3) := by decide +kernel
theorem dX4_widen_31 : decode cX4_widen 31 = .ok (.aload_n 1, 1) := by decide +kernel
theorem dX4_widen_32 : decode cX4_widen 32 = .ok (.iload_n 2, 1) := by decide +kernel
theorem dX4_widen_33 : decode cX4_widen 33 = .ok (.iload 4, 2) := by decide +kernel
theorem dX4_widen_35 : decode cX4_widen 35 = .ok (.iload 5, 2) := by decide +kernel
theorem dX4_widen_37 : decode cX4_widen 37 = .ok (.invokevirtual 15, 3) := by decide +kernel
theorem dX4_widen_40 : decode cX4_widen 40 = .ok (.istore 6, 2) := by decide +kernel
theorem dX4_widen_42 : decode cX4_widen 42 = .ok (.iload 6, 2) := by decide +kernel
theorem dX4_widen_44 : decode cX4_widen 44 = .ok (.bipush (-6), 2) := by decide +kernel
theorem dX4_widen_46 : decode cX4_widen 46 = .ok (.if_icmp .eq 25, 3) := by decide +kernel
theorem dX4_widen_49 : decode cX4_widen 49 = .ok (.aload_n 0, 1) := by decide +kernel
theorem dX4_widen_50 : decode cX4_widen 50 = .ok (.getfield 9, 3) := by decide +kernel
theorem dX4_widen_53 : decode cX4_widen 53 = .ok (.iload 6, 2) := by decide +kernel
theorem dX4_widen_55 : decode cX4_widen 55 = .ok (.iaload, 1) := by decide +kernel
theorem dX4_widen_56 : decode cX4_widen 56 = .ok (.bipush (-6), 2) := by decide +kernel
theorem dX4_widen_58 : decode cX4_widen 58 = .ok (.if_icmp .ne 13, 3) := by decide +kernel
theorem dX4_widen_61 : decode cX4_widen 61 = .ok (.aload_n 0, 1) := by decide +kernel
theorem dX4_widen_62 : decode cX4_widen 62 = .ok (.getfield 9, 3) := by decide +kernel
theorem dX4_widen_65 : decode cX4_widen 65 = .ok (.iload 6, 2) := by decide +kernel
theorem dX4_widen_67 : decode cX4_widen 67 = .ok (.iload_n 3, 1) := by decide +kernel
theorem dX4_widen_68 : decode cX4_widen 68 = .ok (.iconst 1, 1) := by decide +kernel
theorem dX4_widen_69 : decode cX4_widen 69 = .ok (.iadd, 1) := by decide +kernel
theorem dX4_widen_70 : decode cX4_widen 70 = .ok (.iastore, 1) := by decide +kernel
theorem dX4_widen_71 : decode cX4_widen 71 = .ok (.iinc 5 1, 3) := by decide +kernel
theorem dX4_widen_74 : decode cX4_widen 74 = .ok (.goto (-61), 3) := by decide +kernel
theorem dX4_widen_77 : decode cX4_widen 77 = .ok (.iinc 4 1, 3) := by decide +kernel
theorem dX4_widen_80 : decode cX4_widen 80 = .ok (.goto (-77), 3) := by decide +kernel
theorem dX4_widen_83 : decode cX4_widen 83 = .ok (.return_, 1) := by decide +kernel
theorem dX5_init_0 : decode cX5_init 0 = .ok (.aload_n 0, 1) := by decide +kernel
theorem dX5_init_1 : decode cX5_init 1 = .ok (.invokespecial 3, 3) := by decide +kernel
theorem dX5_init_4 : decode cX5_init 4 = .ok (.aload_n 0, 1) := by decide +kernel
theorem dX5_init_5 : decode cX5_init 5 = .ok (.new 9, 3) := by decide +kernel
theorem dX5_init_8 : decode cX5_init 8 = .ok (.dup, 1) := by decide +kernel
theorem dX5_init_9 : decode cX5_init 9 = .ok (.invokespecial 11, 3) := by decide +kernel
theorem dX5_init_12 : decode cX5_init 12 = .ok (.putfield 12, 3) := by decide +kernel
theorem dX5_init_15 : decode cX5_init 15 = .ok (.aload_n 0, 1) := by decide +kernel
theorem dX5_init_16 : decode cX5_init 16 = .ok (.new 9, 3) := by decide +kernel
theorem dX5_init_19 : decode cX5_init 19 = .ok (.dup, 1) := by decide +kernel
theorem dX5_init_20 : decode cX5_init 20 = .ok (.invokespecial 11, 3) := by decide +kernel
theorem dX5_init_23 : decode cX5_init 23 = .ok (.putfield 16, 3) := by decide +kernel
theorem dX5_init_26 : decode cX5_init 26 = .ok (.aload_n 0, 1) := by decide +kernel
theorem dX5_init_27 : decode cX5_init 27 = .ok (.new 19, 3) := by decide +kernel
theorem dX5_init_30 : decode cX5_init 30 = .ok (.dup, 1) := by decide +kernel
theorem dX5_init_31 : decode cX5_init 31 = .ok (.invokespecial 21, 3) := by decide +kernel
theorem dX5_init_34 : decode cX5_init 34 = .ok (.putfield 22, 3) := by decide +kernel
theorem dX5_init_37 : decode cX5_init 37 = .ok (.aload_n 0, 1) := by decide +kernel
theorem dX5_init_38 : decode cX5_init 38 = .ok (.new 26, 3) := by decide +kernel
theorem dX5_init_41 : decode cX5_init 41 = .ok (.dup, 1) := by decide +kernel
theorem dX5_init_42 : decode cX5_init 42 = .ok (.invokespecial 28, 3) := by decide +kernel
theorem dX5_init_45 : decode cX5_init 45 = .ok (.putfield 29, 3) := by decide +kernel
theorem dX5_init_48 : decode cX5_init 48 = .ok (.aload_n 0, 1) := by decide +kernel
theorem dX5_init_49 : decode cX5_init 49 = .ok (.new 33, 3) := by decide +kernel
theorem dX5_init_52 : decode cX5_init 52 = .ok (.dup, 1) := by decide +kernel
theorem dX5_init_53 : decode cX5_init 53 = .ok (.invokespecial 35, 3) := by decide +kernel
theorem dX5_init_56 : decode cX5_init 56 = .ok (.putfield 36, 3) := by decide +kernel
theorem dX5_init_59 : decode cX5_init 59 = .ok (.aload_n 0, 1) := by decide +kernel
theorem dX5_init_60 : decode cX5_init 60 = .ok (.iconst 2, 1) := by decide +kernel
theorem dX5_init_61 : decode cX5_init 61 = .ok (.anewarray 9, 3) := by decide +kernel
theorem dX5_init_64 : decode cX5_init 64 = .ok (.putfield 40, 3) := by decide +kernel
theorem dX5_init_67 : decode cX5_init 67 = .ok (.return_, 1) := by decide +kernel
theorem dX5_set_0 : decode cX5_set 0 = .ok (.iload_n 1, 1) := by decide +kernel
theorem dX5_set_1 : decode cX5_set 1 = .ok (.ifCond .lt 8, 3) := by decide +kernel
theorem dX5_set_4 : decode cX5_set 4 = .ok (.iload_n 1, 1) := by decide +kernel
theorem dX5_set_5 : decode cX5_set 5 = .ok (.iconst 3, 1) := by decide +kernel
theorem dX5_set_6 : decode cX5_set 6 = .ok (.if_icmp .lt 6, 3) := by decide +kernel
theorem dX5_set_9 : decode cX5_set 9 = .ok (.bipush (-2), 2) := by decide +kernel
theorem dX5_set_11 : decode cX5_set 11 = .ok (.ireturn, 1) := by decide +kernel
theorem dX5_set_12 : decode cX5_set 12 = .ok (.iload_n 2, 1) := by decide +kernel
theorem dX5_set_13 : decode cX5_set 13 = .ok (.getstatic 44, 3) := by decide +kernel
theorem dX5_set_16 : decode cX5_set 16 = .ok (.iload_n 1, 1) := by decide +kernel
theorem dX5_set_17 : decode cX5_set 17 = .ok (.iaload, 1) := by decide +kernel
theorem dX5_set_18 : decode cX5_set 18 = .ok (.if_icmp .lt 12, 3) := by decide +kernel
theorem dX5_set_21 : decode cX5_set 21 = .ok (.iload_n 2, 1) := by decide +kernel
theorem dX5_set_22 : decode cX5_set 22 = .ok (.getstatic 48, 3) := by decide +kernel
theorem dX5_set_25 : decode cX5_set 25 = .ok (.iload_n 1, 1) := by decide +kernel
theorem dX5_set_26 : decode cX5_set 26 = .ok (.iaload, 1) := by decide +kernel
theorem dX5_set_27 : decode cX5_set 27 = .ok (.if_icmp .le 6, 3) := by decide +kernel
theorem dX5_set_30 : decode cX5_set 30 = .ok (.bipush (-2), 2) := by decide +kernel
theorem dX5_set_32 : decode cX5_set 32 = .ok (.ireturn, 1) := by decide +kernel
theorem dX5_set_33 : decode cX5_set 33 = .ok (.aload_n 0, 1) := by decide +kernel
theorem dX5_set_34 : decode cX5_set 34 = .ok (.getfield 36, 3) := by decide +kernel
theorem dX5_set_37 : decode cX5_set 37 = .ok (.aload_n 0, 1) := by decide +kernel
theorem dX5_set_38 : decode cX5_set 38 = .ok (.getfield 12, 3) := by decide +kernel
theorem dX5_set_41 : decode cX5_set 41 = .ok (.invokevirtual 51, 3) := by decide +kernel
theorem dX5_set_44 : decode cX5_set 44 = .ok (.aload_n 0, 1) := by decide +kernel
theorem dX5_set_45 : decode cX5_set 45 = .ok (.getfield 12, 3) := by decide +kernel
theorem dX5_set_48 : decode cX5_set 48 = .ok (.getfield 55, 3) := by decide +kernel
theorem dX5_set_51 : decode cX5_set 51 = .ok (.iload_n 1, 1) := by decide +kernel
theorem dX5_set_52 : decode cX5_set 52 = .ok (.iaload, 1) := by decide +kernel
theorem dX5_set_53 : decode cX5_set 53 = .ok (.istore_n 3, 1) := by decide +kernel
theorem dX5_set_54 : decode cX5_set 54 = .ok (.aload_n 0, 1) := by decide +kernel
theorem dX5_set_55 : decode cX5_set 55 = .ok (.getfield 12, 3) := by decide +kernel
theorem dX5_set_58 : decode cX5_set 58 = .ok (.getfield 55, 3) := by decide +kernel
theorem dX5_set_61 : decode cX5_set 61 = .ok (.iload_n 1, 1) := by decide +kernel
theorem dX5_set_62 : decode cX5_set 62 = .ok (.iload_n 2, 1) := by decide +kernel
theorem dX5_set_63 : decode cX5_set 63 = .ok (.iastore, 1) := by decide +kernel
theorem dX5_set_64 : decode cX5_set 64 = .ok (.iload_n 3, 1) := by decide +kernel
theorem dX5_set_65 : decode cX5_set 65 = .ok (.ireturn, 1) := by decide +kernel
theorem dX5_seed_0 : decode cX5_seed 0 = .ok (.iload_n 1, 1) := by decide +kernel
theorem dX5_seed_1 : decode cX5_seed 1 = .ok (.ifCond .ge 6, 3) := by decide +kernel
theorem dX5_seed_4 : decode cX5_seed 4 = .ok (.bipush (-2), 2) := by decide +kernel
theorem dX5_seed_6 : decode cX5_seed 6 = .ok (.ireturn, 1) := by decide +kernel
theorem dX5_seed_7 : decode cX5_seed 7 = .ok (.aload_n 0, 1) := by decide +kernel
theorem dX5_seed_8 : decode cX5_seed 8 = .ok (.getfield 36, 3) := by decide +kernel
theorem dX5_seed_11 : decode cX5_seed 11 = .ok (.aload_n 0, 1) := by decide +kernel
theorem dX5_seed_12 : decode cX5_seed 12 = .ok (.getfield 12, 3) := by decide +kernel
theorem dX5_seed_15 : decode cX5_seed 15 = .ok (.invokevirtual 51, 3) := by decide +kernel
theorem dX5_seed_18 : decode cX5_seed 18 = .ok (.aload_n 0, 1) := by decide +kernel
theorem dX5_seed_19 : decode cX5_seed 19 = .ok (.getfield 12, 3) := by decide +kernel
theorem dX5_seed_22 : decode cX5_seed 22 = .ok (.getfield 58, 3) := by decide +kernel
theorem dX5_seed_25 : decode cX5_seed 25 = .ok (.istore_n 2, 1) := by decide +kernel
theorem dX5_seed_26 : decode cX5_seed 26 = .ok (.aload_n 0, 1) := by decide +kernel
theorem dX5_seed_27 : decode cX5_seed 27 = .ok (.getfield 12, 3) := by decide +kernel
theorem dX5_seed_30 : decode cX5_seed 30 = .ok (.iload_n 1, 1) := by decide +kernel
theorem dX5_seed_31 : decode cX5_seed 31 = .ok (.putfield 58, 3) := by decide +kernel
theorem dX5_seed_34 : decode cX5_seed 34 = .ok (.iload_n 2, 1) := by decide +kernel
theorem dX5_seed_35 : decode cX5_seed 35 = .ok (.ireturn, 1) := by decide +kernel
theorem dX5_cast_0 : decode cX5_cast 0 = .ok (.aload_n 0, 1) := by decide +kernel
theorem dX5_cast_1 : decode cX5_cast 1 = .ok (.getfield 12, 3) := by decide +kernel
theorem dX5_cast_4 : decode cX5_cast 4 = .ok (.invokevirtual 62, 3) := by decide +kernel
theorem dX5_cast_7 : decode cX5_cast 7 = .ok (.ifCond .ne 13, 3) := by decide +kernel
theorem dX5_cast_10 : decode cX5_cast 10 = .ok (.aload_n 0, 1) := by decide +kernel
theorem dX5_cast_11 : decode cX5_cast 11 = .ok (.getfield 12, 3) := by decide +kernel
theorem dX5_cast_14 : decode cX5_cast 14 = .ok (.invokevirtual 66, 3) := by decide +kernel
theorem dX5_cast_17 : decode cX5_cast 17 = .ok (.ifCond .eq 6, 3) := by decide +kernel
theorem dX5_cast_20 : decode cX5_cast 20 = .ok (.bipush (-5), 2) := by decide +kernel
theorem dX5_cast_22 : decode cX5_cast 22 = .ok (.ireturn, 1) := by decide +kernel
theorem dX5_cast_23 : decode cX5_cast 23 = .ok (.aload_n 0, 1) := by decide +kernel
theorem dX5_cast_24 : decode cX5_cast 24 = .ok (.getfield 36, 3) := by decide +kernel
theorem dX5_cast_27 : decode cX5_cast 27 = .ok (.aload_n 0, 1) := by decide +kernel
theorem dX5_cast_28 : decode cX5_cast 28 = .ok (.getfield 12, 3) := by decide +kernel
theorem dX5_cast_31 : decode cX5_cast 31 = .ok (.invokevirtual 51, 3) := by decide +kernel
theorem dX5_cast_34 : decode cX5_cast 34 = .ok (.aload_n 0, 1) := by decide +kernel
theorem dX5_cast_35 : decode cX5_cast 35 = .ok (.getfield 12, 3) := by decide +kernel
theorem dX5_cast_38 : decode cX5_cast 38 = .ok (.invokevirtual 69, 3) := by decide +kernel
theorem dX5_cast_41 : decode cX5_cast 41 = .ok (.aload_n 0, 1) := by decide +kernel
theorem dX5_cast_42 : decode cX5_cast 42 = .ok (.getfield 12, 3) := by decide +kernel
theorem dX5_cast_45 : decode cX5_cast 45 = .ok (.getfield 72, 3) := by decide +kernel
theorem dX5_cast_48 : decode cX5_cast 48 = .ok (.ireturn, 1) := by decide +kernel
theorem dX5_move_0 : decode cX5_move 0 = .ok (.iload_n 1, 1) := by decide +kernel
theorem dX5_move_1 : decode cX5_move 1 = .ok (.ifCond .lt 8, 3) := by decide +kernel
theorem dX5_move_4 : decode cX5_move 4 = .ok (.iload_n 1, 1) := by decide +kernel
theorem dX5_move_5 : decode cX5_move 5 = .ok (.iconst 3, 1) := by decide +kernel
theorem dX5_move_6 : decode cX5_move 6 = .ok (.if_icmp .lt 5, 3) := by decide +kernel
theorem dX5_move_9 : decode cX5_move 9 = .ok (.iconst (-1), 1) := by decide +kernel
theorem dX5_move_10 : decode cX5_move 10 = .ok (.ireturn, 1) := by decide +kernel
theorem dX5_move_11 : decode cX5_move 11 = .ok (.aload_n 0, 1) := by decide +kernel
theorem dX5_move_12 : decode cX5_move 12 = .ok (.getfield 12, 3) := by decide +kernel
theorem dX5_move_15 : decode cX5_move 15 = .ok (.getfield 75, 3) := by decide +kernel
theorem dX5_move_18 : decode cX5_move 18 = .ok (.iconst 3, 1) := by decide +kernel
theorem dX5_move_19 : decode cX5_move 19 = .ok (.imul, 1) := by decide +kernel
theorem dX5_move_20 : decode cX5_move 20 = .ok (.iload_n 1, 1) := by decide +kernel
theorem dX5_move_21 : decode cX5_move 21 = .ok (.iadd, 1) := by decide +kernel
theorem dX5_move_22 : decode cX5_move 22 = .ok (.istore_n 2, 1) := by decide +kernel
theorem dX5_move_23 : decode cX5_move 23 = .ok (.aload_n 0, 1) := by decide +kernel
theorem dX5_move_24 : decode cX5_move 24 = .ok (.getfield 12, 3) := by decide +kernel
theorem dX5_move_27 : decode cX5_move 27 = .ok (.invokevirtual 66, 3) := by decide +kernel
theorem dX5_move_30 : decode cX5_move 30 = .ok (.ifCond .eq 21, 3) := by decide +kernel
theorem dX5_move_33 : decode cX5_move 33 = .ok (.aload_n 0, 1) := by decide +kernel
theorem dX5_move_34 : decode cX5_move 34 = .ok (.getfield 12, 3) := by decide +kernel
theorem dX5_move_37 : decode cX5_move 37 = .ok (.iload_n 2, 1) := by decide +kernel
theorem dX5_move_38 : decode cX5_move 38 = .ok (.aload_n 0, 1) := by decide +kernel
theorem dX5_move_39 : decode cX5_move 39 = .ok (.getfield 12, 3) := by decide +kernel
theorem dX5_move_42 : decode cX5_move 42 = .ok (.getfield 72, 3) := by decide +kernel
theorem dX5_move_45 : decode cX5_move 45 = .ok (.invokevirtual 78, 3) := by decide +kernel
theorem dX5_move_48 : decode cX5_move 48 = .ok (.ifCond .eq 6, 3) := by decide +kernel
theorem dX5_move_51 : decode cX5_move 51 = .ok (.bipush (-5), 2) := by decide +kernel
theorem dX5_move_53 : decode cX5_move 53 = .ok (.ireturn, 1) := by decide +kernel
theorem dX5_move_54 : decode cX5_move 54 = .ok (.aload_n 0, 1) := by decide +kernel
theorem dX5_move_55 : decode cX5_move 55 = .ok (.getfield 36, 3) := by decide +kernel
theorem dX5_move_58 : decode cX5_move 58 = .ok (.aload_n 0, 1) := by decide +kernel
theorem dX5_move_59 : decode cX5_move 59 = .ok (.getfield 12, 3) := by decide +kernel
theorem dX5_move_62 : decode cX5_move 62 = .ok (.invokevirtual 51, 3) := by decide +kernel
theorem dX5_move_65 : decode cX5_move 65 = .ok (.aload_n 0, 1) := by decide +kernel
theorem dX5_move_66 : decode cX5_move 66 = .ok (.getfield 12, 3) := by decide +kernel
theorem dX5_move_69 : decode cX5_move 69 = .ok (.iload_n 2, 1) := by decide +kernel
theorem dX5_move_70 : decode cX5_move 70 = .ok (.invokevirtual 82, 3) := by decide +kernel
theorem dX5_move_73 : decode cX5_move 73 = .ok (.ireturn, 1) := by decide +kernel
theorem dX5_skip_0 : decode cX5_skip 0 = .ok (.aload_n 0, 1) := by decide +kernel
theorem dX5_skip_1 : decode cX5_skip 1 = .ok (.getfield 12, 3) := by decide +kernel
theorem dX5_skip_4 : decode cX5_skip 4 = .ok (.invokevirtual 66, 3) := by decide +kernel
theorem dX5_skip_7 : decode cX5_skip 7 = .ok (.ifCond .eq 20, 3) := by decide +kernel
theorem dX5_skip_10 : decode cX5_skip 10 = .ok (.aload_n 0, 1) := by decide +kernel
theorem dX5_skip_11 : decode cX5_skip 11 = .ok (.getfield 12, 3) := by decide +kernel
theorem dX5_skip_14 : decode cX5_skip 14 = .ok (.aload_n 0, 1) := by decide +kernel
theorem dX5_skip_15 : decode cX5_skip 15 = .ok (.getfield 12, 3) := by decide +kernel
theorem dX5_skip_18 : decode cX5_skip 18 = .ok (.getfield 72, 3) := by decide +kernel
theorem dX5_skip_21 : decode cX5_skip 21 = .ok (.invokevirtual 86, 3) := by decide +kernel
theorem dX5_skip_24 : decode cX5_skip 24 = .ok (.ifCond .eq 6, 3) := by decide +kernel
theorem dX5_skip_27 : decode cX5_skip 27 = .ok (.bipush (-5), 2) := by decide +kernel
theorem dX5_skip_29 : decode cX5_skip 29 = .ok (.ireturn, 1) := by decide +kernel
theorem dX5_skip_30 : decode cX5_skip 30 = .ok (.aload_n 0, 1) := by decide +kernel
theorem dX5_skip_31 : decode cX5_skip 31 = .ok (.getfield 36, 3) := by decide +kernel
theorem dX5_skip_34 : decode cX5_skip 34 = .ok (.aload_n 0, 1) := by decide +kernel
theorem dX5_skip_35 : decode cX5_skip 35 = .ok (.getfield 12, 3) := by decide +kernel
theorem dX5_skip_38 : decode cX5_skip 38 = .ok (.invokevirtual 51, 3) := by decide +kernel
theorem dX5_skip_41 : decode cX5_skip 41 = .ok (.aload_n 0, 1) := by decide +kernel
theorem dX5_skip_42 : decode cX5_skip 42 = .ok (.getfield 12, 3) := by decide +kernel
theorem dX5_skip_45 : decode cX5_skip 45 = .ok (.invokevirtual 90, 3) := by decide +kernel
theorem dX5_skip_48 : decode cX5_skip 48 = .ok (.aload_n 0, 1) := by decide +kernel
theorem dX5_skip_49 : decode cX5_skip 49 = .ok (.getfield 12, 3) := by decide +kernel
theorem dX5_skip_52 : decode cX5_skip 52 = .ok (.getfield 75, 3) := by decide +kernel
theorem dX5_skip_55 : decode cX5_skip 55 = .ok (.ireturn, 1) := by decide +kernel
theorem dX5_play_0 : decode cX5_play 0 = .ok (.iload_n 1, 1) := by decide +kernel
theorem dX5_play_1 : decode cX5_play 1 = .ok (.iconst 1, 1) := by decide +kernel
theorem dX5_play_2 : decode cX5_play 2 = .ok (.if_icmp .lt 9, 3) := by decide +kernel
theorem dX5_play_5 : decode cX5_play 5 = .ok (.iload_n 1, 1) := by decide +kernel
theorem dX5_play_6 : decode cX5_play 6 = .ok (.bipush 100, 2) := by decide +kernel
theorem dX5_play_8 : decode cX5_play 8 = .ok (.if_icmp .le 6, 3) := by decide +kernel
theorem dX5_play_11 : decode cX5_play 11 = .ok (.bipush (-2), 2) := by decide +kernel
theorem dX5_play_13 : decode cX5_play 13 = .ok (.ireturn, 1) := by decide +kernel
theorem dX5_play_14 : decode cX5_play 14 = .ok (.aload_n 0, 1) := by decide +kernel
theorem dX5_play_15 : decode cX5_play 15 = .ok (.getfield 12, 3) := by decide +kernel
theorem dX5_play_18 : decode cX5_play 18 = .ok (.invokevirtual 62, 3) := by decide +kernel
theorem dX5_play_21 : decode cX5_play 21 = .ok (.ifCond .ne 13, 3) := by decide +kernel
theorem dX5_play_24 : decode cX5_play 24 = .ok (.aload_n 0, 1) := by decide +kernel
theorem dX5_play_25 : decode cX5_play 25 = .ok (.getfield 12, 3) := by decide +kernel
theorem dX5_play_28 : decode cX5_play 28 = .ok (.invokevirtual 66, 3) := by decide +kernel
theorem dX5_play_31 : decode cX5_play 31 = .ok (.ifCond .eq 6, 3) := by decide +kernel
theorem dX5_play_34 : decode cX5_play 34 = .ok (.bipush (-5), 2) := by decide +kernel
theorem dX5_play_36 : decode cX5_play 36 = .ok (.ireturn, 1) := by decide +kernel
theorem dX5_play_37 : decode cX5_play 37 = .ok (.aload_n 0, 1) := by decide +kernel
theorem dX5_play_38 : decode cX5_play 38 = .ok (.getfield 36, 3) := by decide +kernel
theorem dX5_play_41 : decode cX5_play 41 = .ok (.aload_n 0, 1) := by decide +kernel
theorem dX5_play_42 : decode cX5_play 42 = .ok (.getfield 12, 3) := by decide +kernel
theorem dX5_play_45 : decode cX5_play 45 = .ok (.invokevirtual 51, 3) := by decide +kernel
theorem dX5_play_48 : decode cX5_play 48 = .ok (.aload_n 0, 1) := by decide +kernel
theorem dX5_play_49 : decode cX5_play 49 = .ok (.getfield 12, 3) := by decide +kernel
theorem dX5_play_52 : decode cX5_play 52 = .ok (.iload_n 1, 1) := by decide +kernel
theorem dX5_play_53 : decode cX5_play 53 = .ok (.invokevirtual 93, 3) := by decide +kernel
theorem dX5_play_56 : decode cX5_play 56 = .ok (.ireturn, 1) := by decide +kernel
theorem dX5_lay_0 : decode cX5_lay 0 = .ok (.iload_n 1, 1) := by decide +kernel
theorem dX5_lay_1 : decode cX5_lay 1 = .ok (.invokestatic 116, 3) := by decide +kernel
theorem dX5_lay_4 : decode cX5_lay 4 = .ok (.ifCond .eq 5, 3) := by decide +kernel
theorem dX5_lay_7 : decode cX5_lay 7 = .ok (.iconst (-1), 1) := by decide +kernel
theorem dX5_lay_8 : decode cX5_lay 8 = .ok (.ireturn, 1) := by decide +kernel
theorem dX5_lay_9 : decode cX5_lay 9 = .ok (.iload_n 2, 1) := by decide +kernel
theorem dX5_lay_10 : decode cX5_lay 10 = .ok (.bipush (-6), 2) := by decide +kernel
theorem dX5_lay_12 : decode cX5_lay 12 = .ok (.if_icmp .eq 16, 3) := by decide +kernel
theorem dX5_lay_15 : decode cX5_lay 15 = .ok (.iload_n 2, 1) := by decide +kernel
theorem dX5_lay_16 : decode cX5_lay 16 = .ok (.ifCond .lt 9, 3) := by decide +kernel
theorem dX5_lay_19 : decode cX5_lay 19 = .ok (.iload_n 2, 1) := by decide +kernel
theorem dX5_lay_20 : decode cX5_lay 20 = .ok (.bipush 35, 2) := by decide +kernel
theorem dX5_lay_22 : decode cX5_lay 22 = .ok (.if_icmp .le 6, 3) := by decide +kernel
theorem dX5_lay_25 : decode cX5_lay 25 = .ok (.bipush (-2), 2) := by decide +kernel
theorem dX5_lay_27 : decode cX5_lay 27 = .ok (.ireturn, 1) := by decide +kernel
theorem dX5_lay_28 : decode cX5_lay 28 = .ok (.aload_n 0, 1) := by decide +kernel
theorem dX5_lay_29 : decode cX5_lay 29 = .ok (.getfield 12, 3) := by decide +kernel
theorem dX5_lay_32 : decode cX5_lay 32 = .ok (.getfield 119, 3) := by decide +kernel
theorem dX5_lay_35 : decode cX5_lay 35 = .ok (.iload_n 1, 1) := by decide +kernel
theorem dX5_lay_36 : decode cX5_lay 36 = .ok (.iload_n 2, 1) := by decide +kernel
theorem dX5_lay_37 : decode cX5_lay 37 = .ok (.invokevirtual 123, 3) := by decide +kernel
theorem dX5_lay_40 : decode cX5_lay 40 = .ok (.ifCond .ne 6, 3) := by decide +kernel
theorem dX5_lay_43 : decode cX5_lay 43 = .ok (.bipush (-5), 2) := by decide +kernel
theorem dX5_lay_45 : decode cX5_lay 45 = .ok (.ireturn, 1) := by decide +kernel
theorem dX5_lay_46 : decode cX5_lay 46 = .ok (.aload_n 0, 1) := by decide +kernel
theorem dX5_lay_47 : decode cX5_lay 47 = .ok (.getfield 36, 3) := by decide +kernel
theorem dX5_lay_50 : decode cX5_lay 50 = .ok (.aload_n 0, 1) := by decide +kernel
theorem dX5_lay_51 : decode cX5_lay 51 = .ok (.getfield 12, 3) := by decide +kernel
theorem dX5_lay_54 : decode cX5_lay 54 = .ok (.invokevirtual 51, 3) := by decide +kernel
theorem dX5_lay_57 : decode cX5_lay 57 = .ok (.aload_n 0, 1) := by decide +kernel
theorem dX5_lay_58 : decode cX5_lay 58 = .ok (.getfield 12, 3) := by decide +kernel
theorem dX5_lay_61 : decode cX5_lay 61 = .ok (.getfield 119, 3) := by decide +kernel
theorem dX5_lay_64 : decode cX5_lay 64 = .ok (.getfield 128, 3) := by decide +kernel
theorem dX5_lay_67 : decode cX5_lay 67 = .ok (.iload_n 1, 1) := by decide +kernel
theorem dX5_lay_68 : decode cX5_lay 68 = .ok (.iaload, 1) := by decide +kernel
theorem dX5_lay_69 : decode cX5_lay 69 = .ok (.istore_n 3, 1) := by decide +kernel
theorem dX5_lay_70 : decode cX5_lay 70 = .ok (.aload_n 0, 1) := by decide +kernel
theorem dX5_lay_71 : decode cX5_lay 71 = .ok (.getfield 12, 3) := by decide +kernel
theorem dX5_lay_74 : decode cX5_lay 74 = .ok (.getfield 119, 3) := by decide +kernel
theorem dX5_lay_77 : decode cX5_lay 77 = .ok (.iload_n 1, 1) := by decide +kernel
theorem dX5_lay_78 : decode cX5_lay 78 = .ok (.iload_n 2, 1) := by decide +kernel
theorem dX5_lay_79 : decode cX5_lay 79 = .ok (.aload_n 0, 1) := by decide +kernel
theorem dX5_lay_80 : decode cX5_lay 80 = .ok (.getfield 12, 3) := by decide +kernel
theorem dX5_lay_83 : decode cX5_lay 83 = .ok (.getfield 131, 3) := by decide +kernel
theorem dX5_lay_86 : decode cX5_lay 86 = .ok (.invokevirtual 134, 3) := by decide +kernel
theorem dX5_lay_89 : decode cX5_lay 89 = .ok (.iload_n 3, 1) := by decide +kernel
theorem dX5_lay_90 : decode cX5_lay 90 = .ok (.ireturn, 1) := by decide +kernel
theorem dX5_piece_0 : decode cX5_piece 0 = .ok (.iload_n 1, 1) := by decide +kernel
theorem dX5_piece_1 : decode cX5_piece 1 = .ok (.invokestatic 116, 3) := by decide +kernel
theorem dX5_piece_4 : decode cX5_piece 4 = .ok (.ifCond .eq 5, 3) := by decide +kernel
theorem dX5_piece_7 : decode cX5_piece 7 = .ok (.iconst (-1), 1) := by decide +kernel
theorem dX5_piece_8 : decode cX5_piece 8 = .ok (.ireturn, 1) := by decide +kernel
theorem dX5_piece_9 : decode cX5_piece 9 = .ok (.iload_n 2, 1) := by decide +kernel
theorem dX5_piece_10 : decode cX5_piece 10 = .ok (.tableswitch 88 0 3 #[30, 43, 55, 75], 30) := by decide +kernel
theorem dX5_piece_40 : decode cX5_piece 40 = .ok (.aload_n 0, 1) := by decide +kernel
theorem dX5_piece_41 : decode cX5_piece 41 = .ok (.getfield 12, 3) := by decide +kernel
theorem dX5_piece_44 : decode cX5_piece 44 = .ok (.getfield 119, 3) := by decide +kernel
theorem dX5_piece_47 : decode cX5_piece 47 = .ok (.getfield 128, 3) := by decide +kernel
theorem dX5_piece_50 : decode cX5_piece 50 = .ok (.iload_n 1, 1) := by decide +kernel
theorem dX5_piece_51 : decode cX5_piece 51 = .ok (.iaload, 1) := by decide +kernel
theorem dX5_piece_52 : decode cX5_piece 52 = .ok (.ireturn, 1) := by decide +kernel
theorem dX5_piece_53 : decode cX5_piece 53 = .ok (.aload_n 0, 1) := by decide +kernel
theorem dX5_piece_54 : decode cX5_piece 54 = .ok (.getfield 12, 3) := by decide +kernel
theorem dX5_piece_57 : decode cX5_piece 57 = .ok (.getfield 119, 3) := by decide +kernel
theorem dX5_piece_60 : decode cX5_piece 60 = .ok (.iload_n 1, 1) := by decide +kernel
theorem dX5_piece_61 : decode cX5_piece 61 = .ok (.invokevirtual 138, 3) := by decide +kernel
theorem dX5_piece_64 : decode cX5_piece 64 = .ok (.ireturn, 1) := by decide +kernel
theorem dX5_piece_65 : decode cX5_piece 65 = .ok (.aload_n 0, 1) := by decide +kernel
theorem dX5_piece_66 : decode cX5_piece 66 = .ok (.getfield 12, 3) := by decide +kernel
theorem dX5_piece_69 : decode cX5_piece 69 = .ok (.getfield 119, 3) := by decide +kernel
theorem dX5_piece_72 : decode cX5_piece 72 = .ok (.iload_n 1, 1) := by decide +kernel
theorem dX5_piece_73 : decode cX5_piece 73 = .ok (.invokevirtual 141, 3) := by decide +kernel
theorem dX5_piece_76 : decode cX5_piece 76 = .ok (.ifCond .eq 7, 3) := by decide +kernel
theorem dX5_piece_79 : decode cX5_piece 79 = .ok (.iconst 1, 1) := by decide +kernel
theorem dX5_piece_80 : decode cX5_piece 80 = .ok (.goto 4, 3) := by decide +kernel
theorem dX5_piece_83 : decode cX5_piece 83 = .ok (.iconst 0, 1) := by decide +kernel
theorem dX5_piece_84 : decode cX5_piece 84 = .ok (.ireturn, 1) := by decide +kernel
theorem dX5_piece_85 : decode cX5_piece 85 = .ok (.aload_n 0, 1) := by decide +kernel
theorem dX5_piece_86 : decode cX5_piece 86 = .ok (.getfield 12, 3) := by decide +kernel
theorem dX5_piece_89 : decode cX5_piece 89 = .ok (.getfield 119, 3) := by decide +kernel
theorem dX5_piece_92 : decode cX5_piece 92 = .ok (.getfield 144, 3) := by decide +kernel
theorem dX5_piece_95 : decode cX5_piece 95 = .ok (.iload_n 1, 1) := by decide +kernel
theorem dX5_piece_96 : decode cX5_piece 96 = .ok (.iaload, 1) := by decide +kernel
theorem dX5_piece_97 : decode cX5_piece 97 = .ok (.ireturn, 1) := by decide +kernel
theorem dX5_piece_98 : decode cX5_piece 98 = .ok (.bipush (-2), 2) := by decide +kernel
theorem dX5_piece_100 : decode cX5_piece 100 = .ok (.ireturn, 1) := by decide +kernel
theorem dX5_field_0 : decode cX5_field 0 = .ok (.iload_n 1, 1) := by decide +kernel
theorem dX5_field_1 : decode cX5_field 1 = .ok (.ifCond .lt 9, 3) := by decide +kernel
theorem dX5_field_4 : decode cX5_field 4 = .ok (.iload_n 1, 1) := by decide +kernel
theorem dX5_field_5 : decode cX5_field 5 = .ok (.bipush 32, 2) := by decide +kernel
theorem dX5_field_7 : decode cX5_field 7 = .ok (.if_icmp .lt 5, 3) := by decide +kernel
theorem dX5_field_10 : decode cX5_field 10 = .ok (.iconst (-1), 1) := by decide +kernel
theorem dX5_field_11 : decode cX5_field 11 = .ok (.ireturn, 1) := by decide +kernel
theorem dX5_field_12 : decode cX5_field 12 = .ok (.iload_n 2, 1) := by decide +kernel
theorem dX5_field_13 : decode cX5_field 13 = .ok (.tableswitch 93 0 4 #[35, 47, 59, 72, 84], 35) := by decide +kernel
theorem dX5_field_48 : decode cX5_field 48 = .ok (.aload_n 0, 1) := by decide +kernel
theorem dX5_field_49 : decode cX5_field 49 = .ok (.getfield 12, 3) := by decide +kernel
theorem dX5_field_52 : decode cX5_field 52 = .ok (.getfield 119, 3) := by decide +kernel
theorem dX5_field_55 : decode cX5_field 55 = .ok (.iload_n 1, 1) := by decide +kernel
theorem dX5_field_56 : decode cX5_field 56 = .ok (.invokevirtual 147, 3) := by decide +kernel
theorem dX5_field_59 : decode cX5_field 59 = .ok (.ireturn, 1) := by decide +kernel
theorem dX5_field_60 : decode cX5_field 60 = .ok (.aload_n 0, 1) := by decide +kernel
theorem dX5_field_61 : decode cX5_field 61 = .ok (.getfield 12, 3) := by decide +kernel
theorem dX5_field_64 : decode cX5_field 64 = .ok (.getfield 119, 3) := by decide +kernel
theorem dX5_field_67 : decode cX5_field 67 = .ok (.iload_n 1, 1) := by decide +kernel
theorem dX5_field_68 : decode cX5_field 68 = .ok (.invokevirtual 150, 3) := by decide +kernel
theorem dX5_field_71 : decode cX5_field 71 = .ok (.ireturn, 1) := by decide +kernel
theorem dX5_field_72 : decode cX5_field 72 = .ok (.iload_n 1, 1) := by decide +kernel
theorem dX5_field_73 : decode cX5_field 73 = .ok (.invokestatic 153, 3) := by decide +kernel
theorem dX5_field_76 : decode cX5_field 76 = .ok (.ifCond .eq 7, 3) := by decide +kernel
theorem dX5_field_79 : decode cX5_field 79 = .ok (.iconst 1, 1) := by decide +kernel
theorem dX5_field_80 : decode cX5_field 80 = .ok (.goto 4, 3) := by decide +kernel
theorem dX5_field_83 : decode cX5_field 83 = .ok (.iconst 0, 1) := by decide +kernel
theorem dX5_field_84 : decode cX5_field 84 = .ok (.ireturn, 1) := by decide +kernel
theorem dX5_field_85 : decode cX5_field 85 = .ok (.aload_n 0, 1) := by decide +kernel
theorem dX5_field_86 : decode cX5_field 86 = .ok (.getfield 12, 3) := by decide +kernel
theorem dX5_field_89 : decode cX5_field 89 = .ok (.getfield 119, 3) := by decide +kernel
theorem dX5_field_92 : decode cX5_field 92 = .ok (.iload_n 1, 1) := by decide +kernel
theorem dX5_field_93 : decode cX5_field 93 = .ok (.invokevirtual 156, 3) := by decide +kernel
theorem dX5_field_96 : decode cX5_field 96 = .ok (.ireturn, 1) := by decide +kernel
theorem dX5_field_97 : decode cX5_field 97 = .ok (.aload_n 0, 1) := by decide +kernel
theorem dX5_field_98 : decode cX5_field 98 = .ok (.getfield 12, 3) := by decide +kernel
theorem dX5_field_101 : decode cX5_field 101 = .ok (.iload_n 1, 1) := by decide +kernel
theorem dX5_field_102 : decode cX5_field 102 = .ok (.invokevirtual 159, 3) := by decide +kernel
theorem dX5_field_105 : decode cX5_field 105 = .ok (.ireturn, 1) := by decide +kernel
theorem dX5_field_106 : decode cX5_field 106 = .ok (.bipush (-2), 2) := by decide +kernel
theorem dX5_field_108 : decode cX5_field 108 = .ok (.ireturn, 1) := by decide +kernel
theorem dX5_why_0 : decode cX5_why 0 = .ok (.iload_n 1, 1) := by decide +kernel
theorem dX5_why_1 : decode cX5_why 1 = .ok (.invokestatic 116, 3) := by decide +kernel
theorem dX5_why_4 : decode cX5_why 4 = .ok (.ifCond .eq 5, 3) := by decide +kernel
theorem dX5_why_7 : decode cX5_why 7 = .ok (.iconst (-1), 1) := by decide +kernel
theorem dX5_why_8 : decode cX5_why 8 = .ok (.ireturn, 1) := by decide +kernel
theorem dX5_why_9 : decode cX5_why 9 = .ok (.iload_n 2, 1) := by decide +kernel
theorem dX5_why_10 : decode cX5_why 10 = .ok (.iconst 1, 1) := by decide +kernel
theorem dX5_why_11 : decode cX5_why 11 = .ok (.if_icmp .lt 9, 3) := by decide +kernel
theorem dX5_why_14 : decode cX5_why 14 = .ok (.iload_n 2, 1) := by decide +kernel
theorem dX5_why_15 : decode cX5_why 15 = .ok (.bipush 6, 2) := by decide +kernel
theorem dX5_why_17 : decode cX5_why 17 = .ok (.if_icmp .le 6, 3) := by decide +kernel
theorem dX5_why_20 : decode cX5_why 20 = .ok (.bipush (-2), 2) := by decide +kernel
theorem dX5_why_22 : decode cX5_why 22 = .ok (.ireturn, 1) := by decide +kernel
theorem dX5_why_23 : decode cX5_why 23 = .ok (.aload_n 0, 1) := by decide +kernel
theorem dX5_why_24 : decode cX5_why 24 = .ok (.getfield 12, 3) := by decide +kernel
theorem dX5_why_27 : decode cX5_why 27 = .ok (.iload_n 1, 1) := by decide +kernel
theorem dX5_why_28 : decode cX5_why 28 = .ok (.iload_n 2, 1) := by decide +kernel
theorem dX5_why_29 : decode cX5_why 29 = .ok (.invokevirtual 78, 3) := by decide +kernel
theorem dX5_why_32 : decode cX5_why 32 = .ok (.ireturn, 1) := by decide +kernel
theorem dX5_count_0 : decode cX5_count 0 = .ok (.iload_n 1, 1) := by decide +kernel
theorem dX5_count_1 : decode cX5_count 1 = .ok (.tableswitch 212 0 17 #[87, 87, 87, 97, 105, 113, 121, 129, 137, 148, 148, 148, 148, 163, 174, 185, 196, 204], 87) := by decide +kernel
theorem dX5_count_88 : decode cX5_count 88 = .ok (.aload_n 0, 1) := by decide +kernel
theorem dX5_count_89 : decode cX5_count 89 = .ok (.getfield 12, 3) := by decide +kernel
theorem dX5_count_92 : decode cX5_count 92 = .ok (.getfield 55, 3) := by decide +kernel
theorem dX5_count_95 : decode cX5_count 95 = .ok (.iload_n 1, 1) := by decide +kernel
theorem dX5_count_96 : decode cX5_count 96 = .ok (.iaload, 1) := by decide +kernel
theorem dX5_count_97 : decode cX5_count 97 = .ok (.ireturn, 1) := by decide +kernel
theorem dX5_count_98 : decode cX5_count 98 = .ok (.aload_n 0, 1) := by decide +kernel
theorem dX5_count_99 : decode cX5_count 99 = .ok (.getfield 12, 3) := by decide +kernel
theorem dX5_count_102 : decode cX5_count 102 = .ok (.getfield 58, 3) := by decide +kernel
theorem dX5_count_105 : decode cX5_count 105 = .ok (.ireturn, 1) := by decide +kernel
theorem dX5_count_106 : decode cX5_count 106 = .ok (.aload_n 0, 1) := by decide +kernel
theorem dX5_count_107 : decode cX5_count 107 = .ok (.getfield 12, 3) := by decide +kernel
theorem dX5_count_110 : decode cX5_count 110 = .ok (.getfield 75, 3) := by decide +kernel
theorem dX5_count_113 : decode cX5_count 113 = .ok (.ireturn, 1) := by decide +kernel
theorem dX5_count_114 : decode cX5_count 114 = .ok (.aload_n 0, 1) := by decide +kernel
theorem dX5_count_115 : decode cX5_count 115 = .ok (.getfield 12, 3) := by decide +kernel
theorem dX5_count_118 : decode cX5_count 118 = .ok (.getfield 72, 3) := by decide +kernel
theorem dX5_count_121 : decode cX5_count 121 = .ok (.ireturn, 1) := by decide +kernel
theorem dX5_count_122 : decode cX5_count 122 = .ok (.aload_n 0, 1) := by decide +kernel
theorem dX5_count_123 : decode cX5_count 123 = .ok (.getfield 12, 3) := by decide +kernel
theorem dX5_count_126 : decode cX5_count 126 = .ok (.getfield 131, 3) := by decide +kernel
theorem dX5_count_129 : decode cX5_count 129 = .ok (.ireturn, 1) := by decide +kernel
theorem dX5_count_130 : decode cX5_count 130 = .ok (.aload_n 0, 1) := by decide +kernel
theorem dX5_count_131 : decode cX5_count 131 = .ok (.getfield 12, 3) := by decide +kernel
theorem dX5_count_134 : decode cX5_count 134 = .ok (.getfield 162, 3) := by decide +kernel
theorem dX5_count_137 : decode cX5_count 137 = .ok (.ireturn, 1) := by decide +kernel
theorem dX5_count_138 : decode cX5_count 138 = .ok (.aload_n 0, 1) := by decide +kernel
theorem dX5_count_139 : decode cX5_count 139 = .ok (.getfield 12, 3) := by decide +kernel
theorem dX5_count_142 : decode cX5_count 142 = .ok (.getfield 119, 3) := by decide +kernel
theorem dX5_count_145 : decode cX5_count 145 = .ok (.invokevirtual 165, 3) := by decide +kernel
theorem dX5_count_148 : decode cX5_count 148 = .ok (.ireturn, 1) := by decide +kernel
theorem dX5_count_149 : decode cX5_count 149 = .ok (.aload_n 0, 1) := by decide +kernel
theorem dX5_count_150 : decode cX5_count 150 = .ok (.getfield 12, 3) := by decide +kernel
theorem dX5_count_153 : decode cX5_count 153 = .ok (.getfield 119, 3) := by decide +kernel
theorem dX5_count_156 : decode cX5_count 156 = .ok (.iload_n 1, 1) := by decide +kernel
theorem dX5_count_157 : decode cX5_count 157 = .ok (.bipush 9, 2) := by decide +kernel
theorem dX5_count_159 : decode cX5_count 159 = .ok (.isub, 1) := by decide +kernel
theorem dX5_count_160 : decode cX5_count 160 = .ok (.invokevirtual 168, 3) := by decide +kernel
theorem dX5_count_163 : decode cX5_count 163 = .ok (.ireturn, 1) := by decide +kernel
theorem dX5_count_164 : decode cX5_count 164 = .ok (.aload_n 0, 1) := by decide +kernel
theorem dX5_count_165 : decode cX5_count 165 = .ok (.getfield 12, 3) := by decide +kernel
theorem dX5_count_168 : decode cX5_count 168 = .ok (.getfield 119, 3) := by decide +kernel
theorem dX5_count_171 : decode cX5_count 171 = .ok (.invokevirtual 171, 3) := by decide +kernel
theorem dX5_count_174 : decode cX5_count 174 = .ok (.ireturn, 1) := by decide +kernel
theorem dX5_count_175 : decode cX5_count 175 = .ok (.aload_n 0, 1) := by decide +kernel
theorem dX5_count_176 : decode cX5_count 176 = .ok (.getfield 12, 3) := by decide +kernel
theorem dX5_count_179 : decode cX5_count 179 = .ok (.getfield 119, 3) := by decide +kernel
theorem dX5_count_182 : decode cX5_count 182 = .ok (.invokevirtual 174, 3) := by decide +kernel
theorem dX5_count_185 : decode cX5_count 185 = .ok (.ireturn, 1) := by decide +kernel
theorem dX5_count_186 : decode cX5_count 186 = .ok (.aload_n 0, 1) := by decide +kernel
theorem dX5_count_187 : decode cX5_count 187 = .ok (.getfield 12, 3) := by decide +kernel
theorem dX5_count_190 : decode cX5_count 190 = .ok (.getfield 119, 3) := by decide +kernel
theorem dX5_count_193 : decode cX5_count 193 = .ok (.getfield 177, 3) := by decide +kernel
theorem dX5_count_196 : decode cX5_count 196 = .ok (.ireturn, 1) := by decide +kernel
theorem dX5_count_197 : decode cX5_count 197 = .ok (.aload_n 0, 1) := by decide +kernel
theorem dX5_count_198 : decode cX5_count 198 = .ok (.getfield 29, 3) := by decide +kernel
theorem dX5_count_201 : decode cX5_count 201 = .ok (.getfield 113, 3) := by decide +kernel
theorem dX5_count_204 : decode cX5_count 204 = .ok (.ireturn, 1) := by decide +kernel
theorem dX5_count_205 : decode cX5_count 205 = .ok (.aload_n 0, 1) := by decide +kernel
theorem dX5_count_206 : decode cX5_count 206 = .ok (.getfield 36, 3) := by decide +kernel
theorem dX5_count_209 : decode cX5_count 209 = .ok (.getfield 180, 3) := by decide +kernel
theorem dX5_count_212 : decode cX5_count 212 = .ok (.ireturn, 1) := by decide +kernel
theorem dX5_count_213 : decode cX5_count 213 = .ok (.bipush (-2), 2) := by decide +kernel
theorem dX5_count_215 : decode cX5_count 215 = .ok (.ireturn, 1) := by decide +kernel
theorem dX5_best_0 : decode cX5_best 0 = .ok (.aload_n 0, 1) := by decide +kernel
theorem dX5_best_1 : decode cX5_best 1 = .ok (.getfield 12, 3) := by decide +kernel
theorem dX5_best_4 : decode cX5_best 4 = .ok (.invokevirtual 66, 3) := by decide +kernel
theorem dX5_best_7 : decode cX5_best 7 = .ok (.ifCond .ne 6, 3) := by decide +kernel
theorem dX5_best_10 : decode cX5_best 10 = .ok (.bipush (-5), 2) := by decide +kernel
theorem dX5_best_12 : decode cX5_best 12 = .ok (.ireturn, 1) := by decide +kernel
theorem dX5_best_13 : decode cX5_best 13 = .ok (.aload_n 0, 1) := by decide +kernel
theorem dX5_best_14 : decode cX5_best 14 = .ok (.getfield 12, 3) := by decide +kernel
theorem dX5_best_17 : decode cX5_best 17 = .ok (.invokevirtual 183, 3) := by decide +kernel
theorem dX5_best_20 : decode cX5_best 20 = .ok (.istore_n 1, 1) := by decide +kernel
theorem dX5_best_21 : decode cX5_best 21 = .ok (.iload_n 1, 1) := by decide +kernel
theorem dX5_best_22 : decode cX5_best 22 = .ok (.bipush (-6), 2) := by decide +kernel
theorem dX5_best_24 : decode cX5_best 24 = .ok (.if_icmp .ne 8, 3) := by decide +kernel
theorem dX5_best_27 : decode cX5_best 27 = .ok (.bipush (-6), 2) := by decide +kernel
theorem dX5_best_29 : decode cX5_best 29 = .ok (.goto 6, 3) := by decide +kernel
theorem dX5_best_32 : decode cX5_best 32 = .ok (.iload_n 1, 1) := by decide +kernel
theorem dX5_best_33 : decode cX5_best 33 = .ok (.iconst 3, 1) := by decide +kernel
theorem dX5_best_34 : decode cX5_best 34 = .ok (.irem, 1) := by decide +kernel
theorem dX5_best_35 : decode cX5_best 35 = .ok (.ireturn, 1) := by decide +kernel
theorem dX5_needs_0 : decode cX5_needs 0 = .ok (.iload_n 1, 1) := by decide +kernel
theorem dX5_needs_1 : decode cX5_needs 1 = .ok (.invokestatic 116, 3) := by decide +kernel
theorem dX5_needs_4 : decode cX5_needs 4 = .ok (.ifCond .eq 5, 3) := by decide +kernel
theorem dX5_needs_7 : decode cX5_needs 7 = .ok (.iconst (-1), 1) := by decide +kernel
theorem dX5_needs_8 : decode cX5_needs 8 = .ok (.ireturn, 1) := by decide +kernel
theorem dX5_needs_9 : decode cX5_needs 9 = .ok (.iload_n 2, 1) := by decide +kernel
theorem dX5_needs_10 : decode cX5_needs 10 = .ok (.ifCond .eq 11, 3) := by decide +kernel
theorem dX5_needs_13 : decode cX5_needs 13 = .ok (.iload_n 2, 1) := by decide +kernel
theorem dX5_needs_14 : decode cX5_needs 14 = .ok (.iconst 1, 1) := by decide +kernel
theorem dX5_needs_15 : decode cX5_needs 15 = .ok (.if_icmp .eq 6, 3) := by decide +kernel
theorem dX5_needs_18 : decode cX5_needs 18 = .ok (.bipush (-2), 2) := by decide +kernel
theorem dX5_needs_20 : decode cX5_needs 20 = .ok (.ireturn, 1) := by decide +kernel
theorem dX5_needs_21 : decode cX5_needs 21 = .ok (.iload_n 1, 1) := by decide +kernel
theorem dX5_needs_22 : decode cX5_needs 22 = .ok (.iconst 3, 1) := by decide +kernel
theorem dX5_needs_23 : decode cX5_needs 23 = .ok (.idiv, 1) := by decide +kernel
theorem dX5_needs_24 : decode cX5_needs 24 = .ok (.istore_n 3, 1) := by decide +kernel
theorem dX5_needs_25 : decode cX5_needs 25 = .ok (.aload_n 0, 1) := by decide +kernel
theorem dX5_needs_26 : decode cX5_needs 26 = .ok (.getfield 12, 3) := by decide +kernel
theorem dX5_needs_29 : decode cX5_needs 29 = .ok (.getfield 119, 3) := by decide +kernel
theorem dX5_needs_32 : decode cX5_needs 32 = .ok (.getfield 128, 3) := by decide +kernel
theorem dX5_needs_35 : decode cX5_needs 35 = .ok (.iload_n 1, 1) := by decide +kernel
theorem dX5_needs_36 : decode cX5_needs 36 = .ok (.iaload, 1) := by decide +kernel
theorem dX5_needs_37 : decode cX5_needs 37 = .ok (.istore 4, 2) := by decide +kernel
theorem dX5_needs_39 : decode cX5_needs 39 = .ok (.iload 4, 2) := by decide +kernel
theorem dX5_needs_41 : decode cX5_needs 41 = .ok (.bipush (-6), 2) := by decide +kernel
theorem dX5_needs_43 : decode cX5_needs 43 = .ok (.if_icmp .ne 7, 3) := by decide +kernel
theorem dX5_needs_46 : decode cX5_needs 46 = .ok (.iconst 1, 1) := by decide +kernel
theorem dX5_needs_47 : decode cX5_needs 47 = .ok (.goto 4, 3) := by decide +kernel
theorem dX5_needs_50 : decode cX5_needs 50 = .ok (.iconst 0, 1) := by decide +kernel
theorem dX5_needs_51 : decode cX5_needs 51 = .ok (.istore 5, 2) := by decide +kernel
theorem dX5_needs_53 : decode cX5_needs 53 = .ok (.iload 4, 2) := by decide +kernel
theorem dX5_needs_55 : decode cX5_needs 55 = .ok (.bipush (-6), 2) := by decide +kernel
theorem dX5_needs_57 : decode cX5_needs 57 = .ok (.if_icmp .ne 7, 3) := by decide +kernel
theorem dX5_needs_60 : decode cX5_needs 60 = .ok (.iconst 0, 1) := by decide +kernel
theorem dX5_needs_61 : decode cX5_needs 61 = .ok (.goto 5, 3) := by decide +kernel
theorem dX5_needs_64 : decode cX5_needs 64 = .ok (.iload 4, 2) := by decide +kernel
theorem dX5_needs_66 : decode cX5_needs 66 = .ok (.istore 6, 2) := by decide +kernel
theorem dX5_needs_68 : decode cX5_needs 68 = .ok (.iload 5, 2) := by decide +kernel
theorem dX5_needs_70 : decode cX5_needs 70 = .ok (.iload_n 2, 1) := by decide +kernel
theorem dX5_needs_71 : decode cX5_needs 71 = .ok (.ifCond .ne 23, 3) := by decide +kernel
theorem dX5_needs_74 : decode cX5_needs 74 = .ok (.aload_n 0, 1) := by decide +kernel
theorem dX5_needs_75 : decode cX5_needs 75 = .ok (.getfield 22, 3) := by decide +kernel
theorem dX5_needs_78 : decode cX5_needs 78 = .ok (.aload_n 0, 1) := by decide +kernel
theorem dX5_needs_79 : decode cX5_needs 79 = .ok (.getfield 12, 3) := by decide +kernel
theorem dX5_needs_82 : decode cX5_needs 82 = .ok (.getfield 119, 3) := by decide +kernel
theorem dX5_needs_85 : decode cX5_needs 85 = .ok (.iload_n 3, 1) := by decide +kernel
theorem dX5_needs_86 : decode cX5_needs 86 = .ok (.iload 6, 2) := by decide +kernel
theorem dX5_needs_88 : decode cX5_needs 88 = .ok (.invokevirtual 186, 3) := by decide +kernel
theorem dX5_needs_91 : decode cX5_needs 91 = .ok (.goto 20, 3) := by decide +kernel
theorem dX5_needs_94 : decode cX5_needs 94 = .ok (.aload_n 0, 1) := by decide +kernel
theorem dX5_needs_95 : decode cX5_needs 95 = .ok (.getfield 22, 3) := by decide +kernel
theorem dX5_needs_98 : decode cX5_needs 98 = .ok (.aload_n 0, 1) := by decide +kernel
theorem dX5_needs_99 : decode cX5_needs 99 = .ok (.getfield 12, 3) := by decide +kernel
theorem dX5_needs_102 : decode cX5_needs 102 = .ok (.getfield 119, 3) := by decide +kernel
theorem dX5_needs_105 : decode cX5_needs 105 = .ok (.iload_n 3, 1) := by decide +kernel
theorem dX5_needs_106 : decode cX5_needs 106 = .ok (.iload 6, 2) := by decide +kernel
theorem dX5_needs_108 : decode cX5_needs 108 = .ok (.invokevirtual 190, 3) := by decide +kernel
theorem dX5_needs_111 : decode cX5_needs 111 = .ok (.iadd, 1) := by decide +kernel
theorem dX5_needs_112 : decode cX5_needs 112 = .ok (.ireturn, 1) := by decide +kernel
theorem dX5_nextCast_0 : decode cX5_nextCast 0 = .ok (.iload_n 1, 1) := by decide +kernel
theorem dX5_nextCast_1 : decode cX5_nextCast 1 = .ok (.ifCond .lt 9, 3) := by decide +kernel
theorem dX5_nextCast_4 : decode cX5_nextCast 4 = .ok (.iload_n 1, 1) := by decide +kernel
theorem dX5_nextCast_5 : decode cX5_nextCast 5 = .ok (.bipush 99, 2) := by decide +kernel
theorem dX5_nextCast_7 : decode cX5_nextCast 7 = .ok (.if_icmp .le 6, 3) := by decide +kernel
theorem dX5_nextCast_10 : decode cX5_nextCast 10 = .ok (.bipush (-2), 2) := by decide +kernel
theorem dX5_nextCast_12 : decode cX5_nextCast 12 = .ok (.ireturn, 1) := by decide +kernel
theorem dX5_nextCast_13 : decode cX5_nextCast 13 = .ok (.aload_n 0, 1) := by decide +kernel
theorem dX5_nextCast_14 : decode cX5_nextCast 14 = .ok (.getfield 12, 3) := by decide +kernel
theorem dX5_nextCast_17 : decode cX5_nextCast 17 = .ok (.getfield 58, 3) := by decide +kernel
theorem dX5_nextCast_20 : decode cX5_nextCast 20 = .ok (.istore_n 2, 1) := by decide +kernel
theorem dX5_nextCast_21 : decode cX5_nextCast 21 = .ok (.iconst 0, 1) := by decide +kernel
theorem dX5_nextCast_22 : decode cX5_nextCast 22 = .ok (.istore_n 3, 1) := by decide +kernel
theorem dX5_nextCast_23 : decode cX5_nextCast 23 = .ok (.iload_n 3, 1) := by decide +kernel
theorem dX5_nextCast_24 : decode cX5_nextCast 24 = .ok (.iload_n 1, 1) := by decide +kernel
theorem dX5_nextCast_25 : decode cX5_nextCast 25 = .ok (.if_icmp .gt 14, 3) := by decide +kernel
theorem dX5_nextCast_28 : decode cX5_nextCast 28 = .ok (.iload_n 2, 1) := by decide +kernel
theorem dX5_nextCast_29 : decode cX5_nextCast 29 = .ok (.invokestatic 193, 3) := by decide +kernel
theorem dX5_nextCast_32 : decode cX5_nextCast 32 = .ok (.istore_n 2, 1) := by decide +kernel
theorem dX5_nextCast_33 : decode cX5_nextCast 33 = .ok (.iinc 3 1, 3) := by decide +kernel
theorem dX5_nextCast_36 : decode cX5_nextCast 36 = .ok (.goto (-13), 3) := by decide +kernel
theorem dX5_nextCast_39 : decode cX5_nextCast 39 = .ok (.iload_n 2, 1) := by decide +kernel
theorem dX5_nextCast_40 : decode cX5_nextCast 40 = .ok (.invokestatic 196, 3) := by decide +kernel
theorem dX5_nextCast_43 : decode cX5_nextCast 43 = .ok (.ireturn, 1) := by decide +kernel
theorem dX5_untilOver_0 : decode cX5_untilOver 0 = .ok (.aload_n 0, 1) := by decide +kernel
theorem dX5_untilOver_1 : decode cX5_untilOver 1 = .ok (.getfield 12, 3) := by decide +kernel
theorem dX5_untilOver_4 : decode cX5_untilOver 4 = .ok (.invokevirtual 66, 3) := by decide +kernel
theorem dX5_untilOver_7 : decode cX5_untilOver 7 = .ok (.ifCond .eq 6, 3) := by decide +kernel
theorem dX5_untilOver_10 : decode cX5_untilOver 10 = .ok (.bipush (-5), 2) := by decide +kernel
theorem dX5_untilOver_12 : decode cX5_untilOver 12 = .ok (.ireturn, 1) := by decide +kernel
theorem dX5_untilOver_13 : decode cX5_untilOver 13 = .ok (.aload_n 0, 1) := by decide +kernel
theorem dX5_untilOver_14 : decode cX5_untilOver 14 = .ok (.getfield 16, 3) := by decide +kernel
theorem dX5_untilOver_17 : decode cX5_untilOver 17 = .ok (.aload_n 0, 1) := by decide +kernel
theorem dX5_untilOver_18 : decode cX5_untilOver 18 = .ok (.getfield 12, 3) := by decide +kernel
theorem dX5_untilOver_21 : decode cX5_untilOver 21 = .ok (.invokevirtual 199, 3) := by decide +kernel
theorem dX5_untilOver_24 : decode cX5_untilOver 24 = .ok (.aload_n 0, 1) := by decide +kernel
theorem dX5_untilOver_25 : decode cX5_untilOver 25 = .ok (.getfield 16, 3) := by decide +kernel
theorem dX5_untilOver_28 : decode cX5_untilOver 28 = .ok (.sipush 400, 3) := by decide +kernel
theorem dX5_untilOver_31 : decode cX5_untilOver 31 = .ok (.invokevirtual 93, 3) := by decide +kernel
theorem dX5_untilOver_34 : decode cX5_untilOver 34 = .ok (.istore_n 1, 1) := by decide +kernel
theorem dX5_untilOver_35 : decode cX5_untilOver 35 = .ok (.aload_n 0, 1) := by decide +kernel
theorem dX5_untilOver_36 : decode cX5_untilOver 36 = .ok (.getfield 16, 3) := by decide +kernel
theorem dX5_untilOver_39 : decode cX5_untilOver 39 = .ok (.invokevirtual 62, 3) := by decide +kernel
theorem dX5_untilOver_42 : decode cX5_untilOver 42 = .ok (.ifCond .eq 7, 3) := by decide +kernel
theorem dX5_untilOver_45 : decode cX5_untilOver 45 = .ok (.iload_n 1, 1) := by decide +kernel
theorem dX5_untilOver_46 : decode cX5_untilOver 46 = .ok (.goto 5, 3) := by decide +kernel
theorem dX5_untilOver_49 : decode cX5_untilOver 49 = .ok (.bipush (-6), 2) := by decide +kernel
theorem dX5_untilOver_51 : decode cX5_untilOver 51 = .ok (.ireturn, 1) := by decide +kernel
theorem dX5_undo_0 : decode cX5_undo 0 = .ok (.aload_n 0, 1) := by decide +kernel
theorem dX5_undo_1 : decode cX5_undo 1 = .ok (.getfield 36, 3) := by decide +kernel
theorem dX5_undo_4 : decode cX5_undo 4 = .ok (.aload_n 0, 1) := by decide +kernel
theorem dX5_undo_5 : decode cX5_undo 5 = .ok (.getfield 12, 3) := by decide +kernel
theorem dX5_undo_8 : decode cX5_undo 8 = .ok (.invokevirtual 210, 3) := by decide +kernel
theorem dX5_undo_11 : decode cX5_undo 11 = .ok (.ifCond .ne 6, 3) := by decide +kernel
theorem dX5_undo_14 : decode cX5_undo 14 = .ok (.bipush (-5), 2) := by decide +kernel
theorem dX5_undo_16 : decode cX5_undo 16 = .ok (.ireturn, 1) := by decide +kernel
theorem dX5_undo_17 : decode cX5_undo 17 = .ok (.aload_n 0, 1) := by decide +kernel
theorem dX5_undo_18 : decode cX5_undo 18 = .ok (.getfield 36, 3) := by decide +kernel
theorem dX5_undo_21 : decode cX5_undo 21 = .ok (.getfield 180, 3) := by decide +kernel
theorem dX5_undo_24 : decode cX5_undo 24 = .ok (.ireturn, 1) := by decide +kernel
theorem dX5_restore_0 : decode cX5_restore 0 = .ok (.iload_n 1, 1) := by decide +kernel
theorem dX5_restore_1 : decode cX5_restore 1 = .ok (.ifCond .lt 8, 3) := by decide +kernel
theorem dX5_restore_4 : decode cX5_restore 4 = .ok (.iload_n 1, 1) := by decide +kernel
theorem dX5_restore_5 : decode cX5_restore 5 = .ok (.iconst 2, 1) := by decide +kernel
theorem dX5_restore_6 : decode cX5_restore 6 = .ok (.if_icmp .lt 6, 3) := by decide +kernel
theorem dX5_restore_9 : decode cX5_restore 9 = .ok (.bipush (-2), 2) := by decide +kernel
theorem dX5_restore_11 : decode cX5_restore 11 = .ok (.ireturn, 1) := by decide +kernel
theorem dX5_restore_12 : decode cX5_restore 12 = .ok (.aload_n 0, 1) := by decide +kernel
theorem dX5_restore_13 : decode cX5_restore 13 = .ok (.getfield 40, 3) := by decide +kernel
theorem dX5_restore_16 : decode cX5_restore 16 = .ok (.iload_n 1, 1) := by decide +kernel
theorem dX5_restore_17 : decode cX5_restore 17 = .ok (.aaload, 1) := by decide +kernel
theorem dX5_restore_18 : decode cX5_restore 18 = .ok (.astore_n 2, 1) := by decide +kernel
theorem dX5_restore_19 : decode cX5_restore 19 = .ok (.aload_n 2, 1) := by decide +kernel
theorem dX5_restore_20 : decode cX5_restore 20 = .ok (.ifnonnull 6, 3) := by decide +kernel
theorem dX5_restore_23 : decode cX5_restore 23 = .ok (.bipush (-5), 2) := by decide +kernel
theorem dX5_restore_25 : decode cX5_restore 25 = .ok (.ireturn, 1) := by decide +kernel
theorem dX5_restore_26 : decode cX5_restore 26 = .ok (.aload_n 0, 1) := by decide +kernel
theorem dX5_restore_27 : decode cX5_restore 27 = .ok (.getfield 36, 3) := by decide +kernel
theorem dX5_restore_30 : decode cX5_restore 30 = .ok (.aload_n 0, 1) := by decide +kernel
theorem dX5_restore_31 : decode cX5_restore 31 = .ok (.getfield 12, 3) := by decide +kernel
theorem dX5_restore_34 : decode cX5_restore 34 = .ok (.invokevirtual 51, 3) := by decide +kernel
theorem dX5_restore_37 : decode cX5_restore 37 = .ok (.aload_n 0, 1) := by decide +kernel
theorem dX5_restore_38 : decode cX5_restore 38 = .ok (.getfield 12, 3) := by decide +kernel
theorem dX5_restore_41 : decode cX5_restore 41 = .ok (.aload_n 2, 1) := by decide +kernel
theorem dX5_restore_42 : decode cX5_restore 42 = .ok (.invokevirtual 199, 3) := by decide +kernel
theorem dX5_restore_45 : decode cX5_restore 45 = .ok (.aload_n 0, 1) := by decide +kernel
theorem dX5_restore_46 : decode cX5_restore 46 = .ok (.getfield 12, 3) := by decide +kernel
theorem dX5_restore_49 : decode cX5_restore 49 = .ok (.getfield 131, 3) := by decide +kernel
theorem dX5_restore_52 : decode cX5_restore 52 = .ok (.ireturn, 1) := by decide +kernel
theorem dX5_isNoPiece_0 : decode cX5_isNoPiece 0 = .ok (.iload_n 0, 1) := by decide +kernel
theorem dX5_isNoPiece_1 : decode cX5_isNoPiece 1 = .ok (.ifCond .lt 9, 3) := by decide +kernel
theorem dX5_isNoPiece_4 : decode cX5_isNoPiece 4 = .ok (.iload_n 0, 1) := by decide +kernel
theorem dX5_isNoPiece_5 : decode cX5_isNoPiece 5 = .ok (.bipush 12, 2) := by decide +kernel
theorem dX5_isNoPiece_7 : decode cX5_isNoPiece 7 = .ok (.if_icmp .lt 7, 3) := by decide +kernel
theorem dX5_isNoPiece_10 : decode cX5_isNoPiece 10 = .ok (.iconst 1, 1) := by decide +kernel
theorem dX5_isNoPiece_11 : decode cX5_isNoPiece 11 = .ok (.goto 4, 3) := by decide +kernel
theorem dX5_isNoPiece_14 : decode cX5_isNoPiece 14 = .ok (.iconst 0, 1) := by decide +kernel
theorem dX5_isNoPiece_15 : decode cX5_isNoPiece 15 = .ok (.ireturn, 1) := by decide +kernel
theorem dX5_isOnRing_0 : decode cX5_isOnRing 0 = .ok (.iload_n 0, 1) := by decide +kernel
theorem dX5_isOnRing_1 : decode cX5_isOnRing 1 = .ok (.ifCond .lt 13, 3) := by decide +kernel
theorem dX5_isOnRing_4 : decode cX5_isOnRing 4 = .ok (.iload_n 0, 1) := by decide +kernel
theorem dX5_isOnRing_5 : decode cX5_isOnRing 5 = .ok (.bipush 32, 2) := by decide +kernel
theorem dX5_isOnRing_7 : decode cX5_isOnRing 7 = .ok (.if_icmp .ge 7, 3) := by decide +kernel
theorem dX5_isOnRing_10 : decode cX5_isOnRing 10 = .ok (.iconst 1, 1) := by decide +kernel
theorem dX5_isOnRing_11 : decode cX5_isOnRing 11 = .ok (.goto 4, 3) := by decide +kernel
theorem dX5_isOnRing_14 : decode cX5_isOnRing 14 = .ok (.iconst 0, 1) := by decide +kernel
theorem dX5_isOnRing_15 : decode cX5_isOnRing 15 = .ok (.ireturn, 1) := by decide +kernel
theorem dX5_isSafe_0 : decode cX5_isSafe 0 = .ok (.iload_n 0, 1) := by decide +kernel
theorem dX5_isSafe_1 : decode cX5_isSafe 1 = .ok (.ifCond .lt 14, 3) := by decide +kernel
theorem dX5_isSafe_4 : decode cX5_isSafe 4 = .ok (.iload_n 0, 1) := by decide +kernel
theorem dX5_isSafe_5 : decode cX5_isSafe 5 = .ok (.bipush 8, 2) := by decide +kernel
theorem dX5_isSafe_7 : decode cX5_isSafe 7 = .ok (.irem, 1) := by decide +kernel
theorem dX5_isSafe_8 : decode cX5_isSafe 8 = .ok (.ifCond .ne 7, 3) := by decide +kernel
theorem dX5_isSafe_11 : decode cX5_isSafe 11 = .ok (.iconst 1, 1) := by decide +kernel
theorem dX5_isSafe_12 : decode cX5_isSafe 12 = .ok (.goto 4, 3) := by decide +kernel
theorem dX5_isSafe_15 : decode cX5_isSafe 15 = .ok (.iconst 0, 1) := by decide +kernel
theorem dX5_isSafe_16 : decode cX5_isSafe 16 = .ok (.ireturn, 1) := by decide +kernel
theorem dX5_bridgeOn_0 : decode cX5_bridgeOn 0 = .ok (.iload_n 0, 1) := by decide +kernel
theorem dX5_bridgeOn_1 : decode cX5_bridgeOn 1 = .ok (.ifCond .lt 24, 3) := by decide +kernel
theorem dX5_bridgeOn_4 : decode cX5_bridgeOn 4 = .ok (.iload_n 0, 1) := by decide +kernel
theorem dX5_bridgeOn_5 : decode cX5_bridgeOn 5 = .ok (.bipush 32, 2) := by decide +kernel
theorem dX5_bridgeOn_7 : decode cX5_bridgeOn 7 = .ok (.if_icmp .ge 18, 3) := by decide +kernel
theorem dX5_bridgeOn_10 : decode cX5_bridgeOn 10 = .ok (.iload_n 0, 1) := by decide +kernel
theorem dX5_bridgeOn_11 : decode cX5_bridgeOn 11 = .ok (.bipush 8, 2) := by decide +kernel
theorem dX5_bridgeOn_13 : decode cX5_bridgeOn 13 = .ok (.irem, 1) := by decide +kernel
theorem dX5_bridgeOn_14 : decode cX5_bridgeOn 14 = .ok (.iconst 4, 1) := by decide +kernel
theorem dX5_bridgeOn_15 : decode cX5_bridgeOn 15 = .ok (.if_icmp .ne 10, 3) := by decide +kernel
theorem dX5_bridgeOn_18 : decode cX5_bridgeOn 18 = .ok (.iload_n 0, 1) := by decide +kernel
theorem dX5_bridgeOn_19 : decode cX5_bridgeOn 19 = .ok (.bipush 8, 2) := by decide +kernel
theorem dX5_bridgeOn_21 : decode cX5_bridgeOn 21 = .ok (.idiv, 1) := by decide +kernel
theorem dX5_bridgeOn_22 : decode cX5_bridgeOn 22 = .ok (.goto 5, 3) := by decide +kernel
theorem dX5_bridgeOn_25 : decode cX5_bridgeOn 25 = .ok (.bipush (-6), 2) := by decide +kernel
theorem dX5_bridgeOn_27 : decode cX5_bridgeOn 27 = .ok (.ireturn, 1) := by decide +kernel
theorem dX5_ringField_0 : decode cX5_ringField 0 = .ok (.iload_n 1, 1) := by decide +kernel
theorem dX5_ringField_1 : decode cX5_ringField 1 = .ok (.ifCond .lt 21, 3) := by decide +kernel
theorem dX5_ringField_4 : decode cX5_ringField 4 = .ok (.iload_n 1, 1) := by decide +kernel
theorem dX5_ringField_5 : decode cX5_ringField 5 = .ok (.bipush 32, 2) := by decide +kernel
theorem dX5_ringField_7 : decode cX5_ringField 7 = .ok (.if_icmp .ge 15, 3) := by decide +kernel
theorem dX5_ringField_10 : decode cX5_ringField 10 = .ok (.bipush 8, 2) := by decide +kernel
theorem dX5_ringField_12 : decode cX5_ringField 12 = .ok (.iload_n 0, 1) := by decide +kernel
theorem dX5_ringField_13 : decode cX5_ringField 13 = .ok (.imul, 1) := by decide +kernel
theorem dX5_ringField_14 : decode cX5_ringField 14 = .ok (.iload_n 1, 1) := by decide +kernel
theorem dX5_ringField_15 : decode cX5_ringField 15 = .ok (.iadd, 1) := by decide +kernel
theorem dX5_ringField_16 : decode cX5_ringField 16 = .ok (.bipush 32, 2) := by decide +kernel
theorem dX5_ringField_18 : decode cX5_ringField 18 = .ok (.irem, 1) := by decide +kernel
theorem dX5_ringField_19 : decode cX5_ringField 19 = .ok (.goto 5, 3) := by decide +kernel
theorem dX5_ringField_22 : decode cX5_ringField 22 = .ok (.bipush (-6), 2) := by decide +kernel
theorem dX5_ringField_24 : decode cX5_ringField 24 = .ok (.ireturn, 1) := by decide +kernel
theorem dX5_nextX_0 : decode cX5_nextX 0 = .ok (.iload_n 0, 1) := by decide +kernel
theorem dX5_nextX_1 : decode cX5_nextX 1 = .ok (.i2l, 1) := by decide +kernel
theorem dX5_nextX_2 : decode cX5_nextX 2 = .ok (.ldc2_w 214, 3) := by decide +kernel
theorem dX5_nextX_5 : decode cX5_nextX 5 = .ok (.lmul, 1) := by decide +kernel
theorem dX5_nextX_6 : decode cX5_nextX 6 = .ok (.ldc2_w 216, 3) := by decide +kernel
theorem dX5_nextX_9 : decode cX5_nextX 9 = .ok (.ladd, 1) := by decide +kernel
theorem dX5_nextX_10 : decode cX5_nextX 10 = .ok (.ldc2_w 218, 3) := by decide +kernel
theorem dX5_nextX_13 : decode cX5_nextX 13 = .ok (.lrem, 1) := by decide +kernel
theorem dX5_nextX_14 : decode cX5_nextX 14 = .ok (.l2i, 1) := by decide +kernel
theorem dX5_nextX_15 : decode cX5_nextX 15 = .ok (.ireturn, 1) := by decide +kernel
theorem dX5_castOf_0 : decode cX5_castOf 0 = .ok (.iconst 1, 1) := by decide +kernel
theorem dX5_castOf_1 : decode cX5_castOf 1 = .ok (.iload_n 0, 1) := by decide +kernel
theorem dX5_castOf_2 : decode cX5_castOf 2 = .ok (.ldc 220, 2) := by decide +kernel
theorem dX5_castOf_4 : decode cX5_castOf 4 = .ok (.idiv, 1) := by decide +kernel
theorem dX5_castOf_5 : decode cX5_castOf 5 = .ok (.bipush 6, 2) := by decide +kernel
theorem dX5_castOf_7 : decode cX5_castOf 7 = .ok (.irem, 1) := by decide +kernel
theorem dX5_castOf_8 : decode cX5_castOf 8 = .ok (.iadd, 1) := by decide +kernel
theorem dX5_castOf_9 : decode cX5_castOf 9 = .ok (.ireturn, 1) := by decide +kernel
theorem dJ9_max_7cf53_0 : decode cJ9_max_7cf53 0 = .ok (.iload_n 0, 1) := by decide +kernel
theorem dJ9_max_7cf53_1 : decode cJ9_max_7cf53 1 = .ok (.iload_n 1, 1) := by decide +kernel
theorem dJ9_max_7cf53_2 : decode cJ9_max_7cf53 2 = .ok (.if_icmp .lt 7, 3) := by decide +kernel
theorem dJ9_max_7cf53_5 : decode cJ9_max_7cf53 5 = .ok (.iload_n 0, 1) := by decide +kernel
theorem dJ9_max_7cf53_6 : decode cJ9_max_7cf53 6 = .ok (.goto 4, 3) := by decide +kernel
theorem dJ9_max_7cf53_9 : decode cJ9_max_7cf53 9 = .ok (.iload_n 1, 1) := by decide +kernel
theorem dJ9_max_7cf53_10 : decode cJ9_max_7cf53 10 = .ok (.ireturn, 1) := by decide +kernel
theorem dJ9_min_7cf53_0 : decode cJ9_min_7cf53 0 = .ok (.iload_n 0, 1) := by decide +kernel
theorem dJ9_min_7cf53_1 : decode cJ9_min_7cf53 1 = .ok (.iload_n 1, 1) := by decide +kernel
theorem dJ9_min_7cf53_2 : decode cJ9_min_7cf53 2 = .ok (.if_icmp .gt 7, 3) := by decide +kernel
theorem dJ9_min_7cf53_5 : decode cJ9_min_7cf53 5 = .ok (.iload_n 0, 1) := by decide +kernel
theorem dJ9_min_7cf53_6 : decode cJ9_min_7cf53 6 = .ok (.goto 4, 3) := by decide +kernel
theorem dJ9_min_7cf53_9 : decode cJ9_min_7cf53 9 = .ok (.iload_n 1, 1) := by decide +kernel
theorem dJ9_min_7cf53_10 : decode cJ9_min_7cf53 10 = .ok (.ireturn, 1) := by decide +kernel
theorem dL_cell_0 : decode cL_cell 0 = .ok (.iload_n 1, 1) := by decide +kernel
theorem dL_cell_1 : decode cL_cell 1 = .ok (.aload_n 0, 1) := by decide +kernel
theorem dL_cell_2 : decode cL_cell 2 = .ok (.arraylength, 1) := by decide +kernel
theorem dL_cell_3 : decode cL_cell 3 = .ok (.if_icmp .ge 9, 3) := by decide +kernel
theorem dL_cell_6 : decode cL_cell 6 = .ok (.aload_n 0, 1) := by decide +kernel
theorem dL_cell_7 : decode cL_cell 7 = .ok (.iload_n 1, 1) := by decide +kernel
theorem dL_cell_8 : decode cL_cell 8 = .ok (.iaload, 1) := by decide +kernel
theorem dL_cell_9 : decode cL_cell 9 = .ok (.goto 9, 3) := by decide +kernel
theorem dL_cell_12 : decode cL_cell 12 = .ok (.ldc 7, 2) := by decide +kernel
theorem dL_cell_14 : decode cL_cell 14 = .ok (.iload_n 1, 1) := by decide +kernel
theorem dL_cell_15 : decode cL_cell 15 = .ok (.iconst 1, 1) := by decide +kernel
theorem dL_cell_16 : decode cL_cell 16 = .ok (.iadd, 1) := by decide +kernel
theorem dL_cell_17 : decode cL_cell 17 = .ok (.imul, 1) := by decide +kernel
theorem dL_cell_18 : decode cL_cell 18 = .ok (.ireturn, 1) := by decide +kernel
theorem dL_low_0 : decode cL_low 0 = .ok (.iload_n 0, 1) := by decide +kernel
theorem dL_low_1 : decode cL_low 1 = .ok (.ldc 8, 2) := by decide +kernel
theorem dL_low_3 : decode cL_low 3 = .ok (.iand, 1) := by decide +kernel
theorem dL_low_4 : decode cL_low 4 = .ok (.iload_n 1, 1) := by decide +kernel
theorem dL_low_5 : decode cL_low 5 = .ok (.irem, 1) := by decide +kernel
theorem dL_low_6 : decode cL_low 6 = .ok (.ireturn, 1) := by decide +kernel
theorem dL_field_0 : decode cL_field 0 = .ok (.iload_n 1, 1) := by decide +kernel
theorem dL_field_1 : decode cL_field 1 = .ok (.ifCond .lt 9, 3) := by decide +kernel
theorem dL_field_4 : decode cL_field 4 = .ok (.iload_n 1, 1) := by decide +kernel
theorem dL_field_5 : decode cL_field 5 = .ok (.bipush 31, 2) := by decide +kernel
theorem dL_field_7 : decode cL_field 7 = .ok (.if_icmp .le 7, 3) := by decide +kernel
theorem dL_field_10 : decode cL_field 10 = .ok (.iconst (-1), 1) := by decide +kernel
theorem dL_field_11 : decode cL_field 11 = .ok (.goto 14, 3) := by decide +kernel
theorem dL_field_14 : decode cL_field 14 = .ok (.iload_n 0, 1) := by decide +kernel
theorem dL_field_15 : decode cL_field 15 = .ok (.iconst 3, 1) := by decide +kernel
theorem dL_field_16 : decode cL_field 16 = .ok (.idiv, 1) := by decide +kernel
theorem dL_field_17 : decode cL_field 17 = .ok (.bipush 8, 2) := by decide +kernel
theorem dL_field_19 : decode cL_field 19 = .ok (.imul, 1) := by decide +kernel
theorem dL_field_20 : decode cL_field 20 = .ok (.iload_n 1, 1) := by decide +kernel
theorem dL_field_21 : decode cL_field 21 = .ok (.iadd, 1) := by decide +kernel
theorem dL_field_22 : decode cL_field 22 = .ok (.bipush 32, 2) := by decide +kernel
theorem dL_field_24 : decode cL_field 24 = .ok (.irem, 1) := by decide +kernel
theorem dL_field_25 : decode cL_field 25 = .ok (.ireturn, 1) := by decide +kernel
theorem dL_on_0 : decode cL_on 0 = .ok (.iconst 0, 1) := by decide +kernel
theorem dL_on_1 : decode cL_on 1 = .ok (.istore_n 3, 1) := by decide +kernel
theorem dL_on_2 : decode cL_on 2 = .ok (.iconst 3, 1) := by decide +kernel
theorem dL_on_3 : decode cL_on 3 = .ok (.iload_n 1, 1) := by decide +kernel
theorem dL_on_4 : decode cL_on 4 = .ok (.imul, 1) := by decide +kernel
theorem dL_on_5 : decode cL_on 5 = .ok (.istore 4, 2) := by decide +kernel
theorem dL_on_7 : decode cL_on 7 = .ok (.iload 4, 2) := by decide +kernel
theorem dL_on_9 : decode cL_on 9 = .ok (.iconst 3, 1) := by decide +kernel
theorem dL_on_10 : decode cL_on 10 = .ok (.iload_n 1, 1) := by decide +kernel
theorem dL_on_11 : decode cL_on 11 = .ok (.imul, 1) := by decide +kernel
theorem dL_on_12 : decode cL_on 12 = .ok (.iconst 3, 1) := by decide +kernel
theorem dL_on_13 : decode cL_on 13 = .ok (.iadd, 1) := by decide +kernel
theorem dL_on_14 : decode cL_on 14 = .ok (.if_icmp .ge 34, 3) := by decide +kernel
theorem dL_on_17 : decode cL_on 17 = .ok (.iload_n 3, 1) := by decide +kernel
theorem dL_on_18 : decode cL_on 18 = .ok (.iload_n 2, 1) := by decide +kernel
theorem dL_on_19 : decode cL_on 19 = .ok (.ifCond .lt 20, 3) := by decide +kernel
theorem dL_on_22 : decode cL_on 22 = .ok (.iload 4, 2) := by decide +kernel
theorem dL_on_24 : decode cL_on 24 = .ok (.aload_n 0, 1) := by decide +kernel
theorem dL_on_25 : decode cL_on 25 = .ok (.iload 4, 2) := by decide +kernel
theorem dL_on_27 : decode cL_on 27 = .ok (.iaload, 1) := by decide +kernel
theorem dL_on_28 : decode cL_on 28 = .ok (.invokestatic 9, 3) := by decide +kernel
theorem dL_on_31 : decode cL_on 31 = .ok (.iload_n 2, 1) := by decide +kernel
theorem dL_on_32 : decode cL_on 32 = .ok (.if_icmp .ne 7, 3) := by decide +kernel
theorem dL_on_35 : decode cL_on 35 = .ok (.iconst 1, 1) := by decide +kernel
theorem dL_on_36 : decode cL_on 36 = .ok (.goto 4, 3) := by decide +kernel
theorem dL_on_39 : decode cL_on 39 = .ok (.iconst 0, 1) := by decide +kernel
theorem dL_on_40 : decode cL_on 40 = .ok (.iadd, 1) := by decide +kernel
theorem dL_on_41 : decode cL_on 41 = .ok (.istore_n 3, 1) := by decide +kernel
theorem dL_on_42 : decode cL_on 42 = .ok (.iinc 4 1, 3) := by decide +kernel
theorem dL_on_45 : decode cL_on 45 = .ok (.goto (-38), 3) := by decide +kernel
theorem dL_on_48 : decode cL_on 48 = .ok (.iload_n 3, 1) := by decide +kernel
theorem dL_on_49 : decode cL_on 49 = .ok (.ireturn, 1) := by decide +kernel
theorem dL_all_0 : decode cL_all 0 = .ok (.aload_n 0, 1) := by decide +kernel
theorem dL_all_1 : decode cL_all 1 = .ok (.iconst 0, 1) := by decide +kernel
theorem dL_all_2 : decode cL_all 2 = .ok (.iload_n 1, 1) := by decide +kernel
theorem dL_all_3 : decode cL_all 3 = .ok (.invokestatic 15, 3) := by decide +kernel
theorem dL_all_6 : decode cL_all 6 = .ok (.aload_n 0, 1) := by decide +kernel
theorem dL_all_7 : decode cL_all 7 = .ok (.iconst 1, 1) := by decide +kernel
theorem dL_all_8 : decode cL_all 8 = .ok (.iload_n 1, 1) := by decide +kernel
theorem dL_all_9 : decode cL_all 9 = .ok (.invokestatic 15, 3) := by decide +kernel
theorem dL_all_12 : decode cL_all 12 = .ok (.iadd, 1) := by decide +kernel
theorem dL_all_13 : decode cL_all 13 = .ok (.aload_n 0, 1) := by decide +kernel
theorem dL_all_14 : decode cL_all 14 = .ok (.iconst 2, 1) := by decide +kernel
theorem dL_all_15 : decode cL_all 15 = .ok (.iload_n 1, 1) := by decide +kernel
theorem dL_all_16 : decode cL_all 16 = .ok (.invokestatic 15, 3) := by decide +kernel
theorem dL_all_19 : decode cL_all 19 = .ok (.iadd, 1) := by decide +kernel
theorem dL_all_20 : decode cL_all 20 = .ok (.aload_n 0, 1) := by decide +kernel
theorem dL_all_21 : decode cL_all 21 = .ok (.iconst 3, 1) := by decide +kernel
theorem dL_all_22 : decode cL_all 22 = .ok (.iload_n 1, 1) := by decide +kernel
theorem dL_all_23 : decode cL_all 23 = .ok (.invokestatic 15, 3) := by decide +kernel
theorem dL_all_26 : decode cL_all 26 = .ok (.iadd, 1) := by decide +kernel
theorem dL_all_27 : decode cL_all 27 = .ok (.ireturn, 1) := by decide +kernel
theorem dL_draw_0 : decode cL_draw 0 = .ok (.aload_n 0, 1) := by decide +kernel
theorem dL_draw_1 : decode cL_draw 1 = .ok (.iconst 3, 1) := by decide +kernel
theorem dL_draw_2 : decode cL_draw 2 = .ok (.aload_n 0, 1) := by decide +kernel
theorem dL_draw_3 : decode cL_draw 3 = .ok (.iconst 3, 1) := by decide +kernel
theorem dL_draw_4 : decode cL_draw 4 = .ok (.iaload, 1) := by decide +kernel
theorem dL_draw_5 : decode cL_draw 5 = .ok (.i2l, 1) := by decide +kernel
theorem dL_draw_6 : decode cL_draw 6 = .ok (.ldc2_w 19, 3) := by decide +kernel
theorem dL_draw_9 : decode cL_draw 9 = .ok (.lmul, 1) := by decide +kernel
theorem dL_draw_10 : decode cL_draw 10 = .ok (.ldc2_w 21, 3) := by decide +kernel
theorem dL_draw_13 : decode cL_draw 13 = .ok (.ladd, 1) := by decide +kernel
theorem dL_draw_14 : decode cL_draw 14 = .ok (.ldc2_w 23, 3) := by decide +kernel
theorem dL_draw_17 : decode cL_draw 17 = .ok (.land, 1) := by decide +kernel
theorem dL_draw_18 : decode cL_draw 18 = .ok (.l2i, 1) := by decide +kernel
theorem dL_draw_19 : decode cL_draw 19 = .ok (.iastore, 1) := by decide +kernel
theorem dL_draw_20 : decode cL_draw 20 = .ok (.aload_n 0, 1) := by decide +kernel
theorem dL_draw_21 : decode cL_draw 21 = .ok (.iconst 3, 1) := by decide +kernel
theorem dL_draw_22 : decode cL_draw 22 = .ok (.iaload, 1) := by decide +kernel
theorem dL_draw_23 : decode cL_draw 23 = .ok (.bipush 16, 2) := by decide +kernel
theorem dL_draw_25 : decode cL_draw 25 = .ok (.ishr, 1) := by decide +kernel
theorem dL_draw_26 : decode cL_draw 26 = .ok (.bipush 6, 2) := by decide +kernel
theorem dL_draw_28 : decode cL_draw 28 = .ok (.irem, 1) := by decide +kernel
theorem dL_draw_29 : decode cL_draw 29 = .ok (.iconst 1, 1) := by decide +kernel
theorem dL_draw_30 : decode cL_draw 30 = .ok (.iadd, 1) := by decide +kernel
theorem dL_draw_31 : decode cL_draw 31 = .ok (.ireturn, 1) := by decide +kernel
theorem dL_leads_0 : decode cL_leads 0 = .ok (.iload_n 2, 1) := by decide +kernel
theorem dL_leads_1 : decode cL_leads 1 = .ok (.istore 4, 2) := by decide +kernel
theorem dL_leads_3 : decode cL_leads 3 = .ok (.iload_n 3, 1) := by decide +kernel
theorem dL_leads_4 : decode cL_leads 4 = .ok (.istore 5, 2) := by decide +kernel
theorem dL_leads_6 : decode cL_leads 6 = .ok (.iload 5, 2) := by decide +kernel
theorem dL_leads_8 : decode cL_leads 8 = .ok (.ifCond .le 55, 3) := by decide +kernel
theorem dL_leads_11 : decode cL_leads 11 = .ok (.iinc 4 1, 3) := by decide +kernel
theorem dL_leads_14 : decode cL_leads 14 = .ok (.iload_n 1, 1) := by decide +kernel
theorem dL_leads_15 : decode cL_leads 15 = .ok (.iload 4, 2) := by decide +kernel
theorem dL_leads_17 : decode cL_leads 17 = .ok (.invokestatic 9, 3) := by decide +kernel
theorem dL_leads_20 : decode cL_leads 20 = .ok (.istore 6, 2) := by decide +kernel
theorem dL_leads_22 : decode cL_leads 22 = .ok (.iload 6, 2) := by decide +kernel
theorem dL_leads_24 : decode cL_leads 24 = .ok (.bipush 8, 2) := by decide +kernel
theorem dL_leads_26 : decode cL_leads 26 = .ok (.irem, 1) := by decide +kernel
theorem dL_leads_27 : decode cL_leads 27 = .ok (.iconst 4, 1) := by decide +kernel
theorem dL_leads_28 : decode cL_leads 28 = .ok (.if_icmp .ne 29, 3) := by decide +kernel
theorem dL_leads_31 : decode cL_leads 31 = .ok (.aload_n 0, 1) := by decide +kernel
theorem dL_leads_32 : decode cL_leads 32 = .ok (.iconst 3, 1) := by decide +kernel
theorem dL_leads_33 : decode cL_leads 33 = .ok (.iload 6, 2) := by decide +kernel
theorem dL_leads_35 : decode cL_leads 35 = .ok (.bipush 8, 2) := by decide +kernel
theorem dL_leads_37 : decode cL_leads 37 = .ok (.idiv, 1) := by decide +kernel
theorem dL_leads_38 : decode cL_leads 38 = .ok (.imul, 1) := by decide +kernel
theorem dL_leads_39 : decode cL_leads 39 = .ok (.iaload, 1) := by decide +kernel
theorem dL_leads_40 : decode cL_leads 40 = .ok (.ifCond .ne 6, 3) := by decide +kernel
theorem dL_leads_43 : decode cL_leads 43 = .ok (.goto 14, 3) := by decide +kernel
theorem dL_leads_46 : decode cL_leads 46 = .ok (.iload 5, 2) := by decide +kernel
theorem dL_leads_48 : decode cL_leads 48 = .ok (.iconst 3, 1) := by decide +kernel
theorem dL_leads_49 : decode cL_leads 49 = .ok (.if_icmp .ge 5, 3) := by decide +kernel
theorem dL_leads_52 : decode cL_leads 52 = .ok (.iconst (-1), 1) := by decide +kernel
theorem dL_leads_53 : decode cL_leads 53 = .ok (.ireturn, 1) := by decide +kernel
theorem dL_leads_54 : decode cL_leads 54 = .ok (.iinc 5 (-1), 3) := by decide +kernel
theorem dL_leads_57 : decode cL_leads 57 = .ok (.iinc 5 (-1), 3) := by decide +kernel
theorem dL_leads_60 : decode cL_leads 60 = .ok (.goto (-54), 3) := by decide +kernel
theorem dL_leads_63 : decode cL_leads 63 = .ok (.iload 4, 2) := by decide +kernel
theorem dL_leads_65 : decode cL_leads 65 = .ok (.bipush 35, 2) := by decide +kernel
theorem dL_leads_67 : decode cL_leads 67 = .ok (.if_icmp .le 7, 3) := by decide +kernel
theorem dL_leads_70 : decode cL_leads 70 = .ok (.iconst (-1), 1) := by decide +kernel
theorem dL_leads_71 : decode cL_leads 71 = .ok (.goto 5, 3) := by decide +kernel
theorem dL_leads_74 : decode cL_leads 74 = .ok (.iload 4, 2) := by decide +kernel
theorem dL_leads_76 : decode cL_leads 76 = .ok (.ireturn, 1) := by decide +kernel
theorem dL_why_0 : decode cL_why 0 = .ok (.iload_n 3, 1) := by decide +kernel
theorem dL_why_1 : decode cL_why 1 = .ok (.iconst 3, 1) := by decide +kernel
theorem dL_why_2 : decode cL_why 2 = .ok (.idiv, 1) := by decide +kernel
theorem dL_why_3 : decode cL_why 3 = .ok (.istore 5, 2) := by decide +kernel
theorem dL_why_5 : decode cL_why 5 = .ok (.aload_n 0, 1) := by decide +kernel
theorem dL_why_6 : decode cL_why 6 = .ok (.iload_n 3, 1) := by decide +kernel
theorem dL_why_7 : decode cL_why 7 = .ok (.iaload, 1) := by decide +kernel
theorem dL_why_8 : decode cL_why 8 = .ok (.bipush 35, 2) := by decide +kernel
theorem dL_why_10 : decode cL_why 10 = .ok (.if_icmp .ne 5, 3) := by decide +kernel
theorem dL_why_13 : decode cL_why 13 = .ok (.iconst 1, 1) := by decide +kernel
theorem dL_why_14 : decode cL_why 14 = .ok (.ireturn, 1) := by decide +kernel
theorem dL_why_15 : decode cL_why 15 = .ok (.aload_n 0, 1) := by decide +kernel
theorem dL_why_16 : decode cL_why 16 = .ok (.iload_n 3, 1) := by decide +kernel
theorem dL_why_17 : decode cL_why 17 = .ok (.iaload, 1) := by decide +kernel
theorem dL_why_18 : decode cL_why 18 = .ok (.ifCond .ge 7, 3) := by decide +kernel
theorem dL_why_21 : decode cL_why 21 = .ok (.iconst 1, 1) := by decide +kernel
theorem dL_why_22 : decode cL_why 22 = .ok (.goto 4, 3) := by decide +kernel
theorem dL_why_25 : decode cL_why 25 = .ok (.iconst 0, 1) := by decide +kernel
theorem dL_why_26 : decode cL_why 26 = .ok (.istore 6, 2) := by decide +kernel
theorem dL_why_28 : decode cL_why 28 = .ok (.iload 6, 2) := by decide +kernel
theorem dL_why_30 : decode cL_why 30 = .ok (.ifCond .eq 13, 3) := by decide +kernel
theorem dL_why_33 : decode cL_why 33 = .ok (.iload 4, 2) := by decide +kernel
theorem dL_why_35 : decode cL_why 35 = .ok (.aload_n 2, 1) := by decide +kernel
theorem dL_why_36 : decode cL_why 36 = .ok (.iconst 0, 1) := by decide +kernel
theorem dL_why_37 : decode cL_why 37 = .ok (.iaload, 1) := by decide +kernel
theorem dL_why_38 : decode cL_why 38 = .ok (.if_icmp .ge 5, 3) := by decide +kernel
theorem dL_why_41 : decode cL_why 41 = .ok (.iconst 2, 1) := by decide +kernel
theorem dL_why_42 : decode cL_why 42 = .ok (.ireturn, 1) := by decide +kernel
theorem dL_why_43 : decode cL_why 43 = .ok (.iload 6, 2) := by decide +kernel
theorem dL_why_45 : decode cL_why 45 = .ok (.ifCond .eq 7, 3) := by decide +kernel
theorem dL_why_48 : decode cL_why 48 = .ok (.iconst 0, 1) := by decide +kernel
theorem dL_why_49 : decode cL_why 49 = .ok (.goto 13, 3) := by decide +kernel
theorem dL_why_52 : decode cL_why 52 = .ok (.aload_n 1, 1) := by decide +kernel
theorem dL_why_53 : decode cL_why 53 = .ok (.iload_n 3, 1) := by decide +kernel
theorem dL_why_54 : decode cL_why 54 = .ok (.aload_n 0, 1) := by decide +kernel
theorem dL_why_55 : decode cL_why 55 = .ok (.iload_n 3, 1) := by decide +kernel
theorem dL_why_56 : decode cL_why 56 = .ok (.iaload, 1) := by decide +kernel
theorem dL_why_57 : decode cL_why 57 = .ok (.iload 4, 2) := by decide +kernel
theorem dL_why_59 : decode cL_why 59 = .ok (.invokestatic 25, 3) := by decide +kernel
theorem dL_why_62 : decode cL_why 62 = .ok (.istore 7, 2) := by decide +kernel
theorem dL_why_64 : decode cL_why 64 = .ok (.iload 7, 2) := by decide +kernel
theorem dL_why_66 : decode cL_why 66 = .ok (.ifCond .ge 5, 3) := by decide +kernel
theorem dL_why_69 : decode cL_why 69 = .ok (.iconst 3, 1) := by decide +kernel
theorem dL_why_70 : decode cL_why 70 = .ok (.ireturn, 1) := by decide +kernel
theorem dL_why_71 : decode cL_why 71 = .ok (.iload 7, 2) := by decide +kernel
theorem dL_why_73 : decode cL_why 73 = .ok (.istore 8, 2) := by decide +kernel
theorem dL_why_75 : decode cL_why 75 = .ok (.iload 8, 2) := by decide +kernel
theorem dL_why_77 : decode cL_why 77 = .ok (.ifCond .lt 57, 3) := by decide +kernel
theorem dL_why_80 : decode cL_why 80 = .ok (.iload 8, 2) := by decide +kernel
theorem dL_why_82 : decode cL_why 82 = .ok (.aload_n 0, 1) := by decide +kernel
theorem dL_why_83 : decode cL_why 83 = .ok (.iload_n 3, 1) := by decide +kernel
theorem dL_why_84 : decode cL_why 84 = .ok (.iaload, 1) := by decide +kernel
theorem dL_why_85 : decode cL_why 85 = .ok (.if_icmp .le 49, 3) := by decide +kernel
theorem dL_why_88 : decode cL_why 88 = .ok (.iconst 0, 1) := by decide +kernel
theorem dL_why_89 : decode cL_why 89 = .ok (.istore 9, 2) := by decide +kernel
theorem dL_why_91 : decode cL_why 91 = .ok (.iload 9, 2) := by decide +kernel
theorem dL_why_93 : decode cL_why 93 = .ok (.iconst 4, 1) := by decide +kernel
theorem dL_why_94 : decode cL_why 94 = .ok (.if_icmp .ge 34, 3) := by decide +kernel
theorem dL_why_97 : decode cL_why 97 = .ok (.iload 9, 2) := by decide +kernel
theorem dL_why_99 : decode cL_why 99 = .ok (.iload 5, 2) := by decide +kernel
theorem dL_why_101 : decode cL_why 101 = .ok (.if_icmp .eq 21, 3) := by decide +kernel
theorem dL_why_104 : decode cL_why 104 = .ok (.aload_n 0, 1) := by decide +kernel
theorem dL_why_105 : decode cL_why 105 = .ok (.iload 9, 2) := by decide +kernel
theorem dL_why_107 : decode cL_why 107 = .ok (.iload_n 3, 1) := by decide +kernel
theorem dL_why_108 : decode cL_why 108 = .ok (.iload 8, 2) := by decide +kernel
theorem dL_why_110 : decode cL_why 110 = .ok (.invokestatic 9, 3) := by decide +kernel
theorem dL_why_113 : decode cL_why 113 = .ok (.invokestatic 15, 3) := by decide +kernel
theorem dL_why_116 : decode cL_why 116 = .ok (.iconst 1, 1) := by decide +kernel
theorem dL_why_117 : decode cL_why 117 = .ok (.if_icmp .le 5, 3) := by decide +kernel
theorem dL_why_120 : decode cL_why 120 = .ok (.iconst 4, 1) := by decide +kernel
theorem dL_why_121 : decode cL_why 121 = .ok (.ireturn, 1) := by decide +kernel
theorem dL_why_122 : decode cL_why 122 = .ok (.iinc 9 1, 3) := by decide +kernel
theorem dL_why_125 : decode cL_why 125 = .ok (.goto (-34), 3) := by decide +kernel
theorem dL_why_128 : decode cL_why 128 = .ok (.iinc 8 (-1), 3) := by decide +kernel
theorem dL_why_131 : decode cL_why 131 = .ok (.goto (-56), 3) := by decide +kernel
theorem dL_why_134 : decode cL_why 134 = .ok (.iconst 0, 1) := by decide +kernel
theorem dL_why_135 : decode cL_why 135 = .ok (.istore 8, 2) := by decide +kernel
theorem dL_why_137 : decode cL_why 137 = .ok (.iconst 3, 1) := by decide +kernel
theorem dL_why_138 : decode cL_why 138 = .ok (.iload 5, 2) := by decide +kernel
theorem dL_why_140 : decode cL_why 140 = .ok (.imul, 1) := by decide +kernel
theorem dL_why_141 : decode cL_why 141 = .ok (.istore 9, 2) := by decide +kernel
theorem dL_why_143 : decode cL_why 143 = .ok (.iload 9, 2) := by decide +kernel
theorem dL_why_145 : decode cL_why 145 = .ok (.iconst 3, 1) := by decide +kernel
theorem dL_why_146 : decode cL_why 146 = .ok (.iload 5, 2) := by decide +kernel
theorem dL_why_148 : decode cL_why 148 = .ok (.imul, 1) := by decide +kernel
theorem dL_why_149 : decode cL_why 149 = .ok (.iconst 3, 1) := by decide +kernel
theorem dL_why_150 : decode cL_why 150 = .ok (.iadd, 1) := by decide +kernel
theorem dL_why_151 : decode cL_why 151 = .ok (.if_icmp .ge 28, 3) := by decide +kernel
theorem dL_why_154 : decode cL_why 154 = .ok (.iload 8, 2) := by decide +kernel
theorem dL_why_156 : decode cL_why 156 = .ok (.aload_n 0, 1) := by decide +kernel
theorem dL_why_157 : decode cL_why 157 = .ok (.iload 9, 2) := by decide +kernel
theorem dL_why_159 : decode cL_why 159 = .ok (.iaload, 1) := by decide +kernel
theorem dL_why_160 : decode cL_why 160 = .ok (.iload 7, 2) := by decide +kernel
theorem dL_why_162 : decode cL_why 162 = .ok (.if_icmp .ne 7, 3) := by decide +kernel
theorem dL_why_165 : decode cL_why 165 = .ok (.iconst 1, 1) := by decide +kernel
theorem dL_why_166 : decode cL_why 166 = .ok (.goto 4, 3) := by decide +kernel
theorem dL_why_169 : decode cL_why 169 = .ok (.iconst 0, 1) := by decide +kernel
theorem dL_why_170 : decode cL_why 170 = .ok (.iadd, 1) := by decide +kernel
theorem dL_why_171 : decode cL_why 171 = .ok (.istore 8, 2) := by decide +kernel
theorem dL_why_173 : decode cL_why 173 = .ok (.iinc 9 1, 3) := by decide +kernel
theorem dL_why_176 : decode cL_why 176 = .ok (.goto (-33), 3) := by decide +kernel
theorem dL_why_179 : decode cL_why 179 = .ok (.iload 8, 2) := by decide +kernel
theorem dL_why_181 : decode cL_why 181 = .ok (.iconst 2, 1) := by decide +kernel
theorem dL_why_182 : decode cL_why 182 = .ok (.if_icmp .ne 12, 3) := by decide +kernel
theorem dL_why_185 : decode cL_why 185 = .ok (.iload 7, 2) := by decide +kernel
theorem dL_why_187 : decode cL_why 187 = .ok (.bipush 35, 2) := by decide +kernel
theorem dL_why_189 : decode cL_why 189 = .ok (.if_icmp .ge 5, 3) := by decide +kernel
theorem dL_why_192 : decode cL_why 192 = .ok (.iconst 5, 1) := by decide +kernel
theorem dL_why_193 : decode cL_why 193 = .ok (.ireturn, 1) := by decide +kernel
theorem dL_why_194 : decode cL_why 194 = .ok (.iload_n 3, 1) := by decide +kernel
theorem dL_why_195 : decode cL_why 195 = .ok (.iload 7, 2) := by decide +kernel
theorem dL_why_197 : decode cL_why 197 = .ok (.invokestatic 9, 3) := by decide +kernel
theorem dL_why_200 : decode cL_why 200 = .ok (.istore 9, 2) := by decide +kernel
theorem dL_why_202 : decode cL_why 202 = .ok (.iload 9, 2) := by decide +kernel
theorem dL_why_204 : decode cL_why 204 = .ok (.ifCond .lt 33, 3) := by decide +kernel
theorem dL_why_207 : decode cL_why 207 = .ok (.iload 9, 2) := by decide +kernel
theorem dL_why_209 : decode cL_why 209 = .ok (.bipush 8, 2) := by decide +kernel
theorem dL_why_211 : decode cL_why 211 = .ok (.irem, 1) := by decide +kernel
theorem dL_why_212 : decode cL_why 212 = .ok (.ifCond .ne 25, 3) := by decide +kernel
theorem dL_why_215 : decode cL_why 215 = .ok (.aload_n 0, 1) := by decide +kernel
theorem dL_why_216 : decode cL_why 216 = .ok (.iload 9, 2) := by decide +kernel
theorem dL_why_218 : decode cL_why 218 = .ok (.invokestatic 29, 3) := by decide +kernel
theorem dL_why_221 : decode cL_why 221 = .ok (.aload_n 0, 1) := by decide +kernel
theorem dL_why_222 : decode cL_why 222 = .ok (.iload 5, 2) := by decide +kernel
theorem dL_why_224 : decode cL_why 224 = .ok (.iload 9, 2) := by decide +kernel
theorem dL_why_226 : decode cL_why 226 = .ok (.invokestatic 15, 3) := by decide +kernel
theorem dL_why_229 : decode cL_why 229 = .ok (.if_icmp .le 8, 3) := by decide +kernel
theorem dL_why_232 : decode cL_why 232 = .ok (.bipush 6, 2) := by decide +kernel
theorem dL_why_234 : decode cL_why 234 = .ok (.goto 8, 3) := by decide +kernel
theorem dL_why_237 : decode cL_why 237 = .ok (.bipush 10, 2) := by decide +kernel
theorem dL_why_239 : decode cL_why 239 = .ok (.iload 7, 2) := by decide +kernel
theorem dL_why_241 : decode cL_why 241 = .ok (.iadd, 1) := by decide +kernel
theorem dL_why_242 : decode cL_why 242 = .ok (.ireturn, 1) := by decide +kernel
theorem dL_bridges_0 : decode cL_bridges 0 = .ok (.iconst 0, 1) := by decide +kernel
theorem dL_bridges_1 : decode cL_bridges 1 = .ok (.istore_n 3, 1) := by decide +kernel
theorem dL_bridges_2 : decode cL_bridges 2 = .ok (.iload_n 3, 1) := by decide +kernel
theorem dL_bridges_3 : decode cL_bridges 3 = .ok (.iconst 4, 1) := by decide +kernel
theorem dL_bridges_4 : decode cL_bridges 4 = .ok (.if_icmp .ge 122, 3) := by decide +kernel
theorem dL_bridges_7 : decode cL_bridges 7 = .ok (.bipush 8, 2) := by decide +kernel
theorem dL_bridges_9 : decode cL_bridges 9 = .ok (.iload_n 3, 1) := by decide +kernel
theorem dL_bridges_10 : decode cL_bridges 10 = .ok (.imul, 1) := by decide +kernel
theorem dL_bridges_11 : decode cL_bridges 11 = .ok (.iconst 4, 1) := by decide +kernel
theorem dL_bridges_12 : decode cL_bridges 12 = .ok (.iadd, 1) := by decide +kernel
theorem dL_bridges_13 : decode cL_bridges 13 = .ok (.istore 4, 2) := by decide +kernel
theorem dL_bridges_15 : decode cL_bridges 15 = .ok (.iconst 0, 1) := by decide +kernel
theorem dL_bridges_16 : decode cL_bridges 16 = .ok (.istore 5, 2) := by decide +kernel
theorem dL_bridges_18 : decode cL_bridges 18 = .ok (.iload 5, 2) := by decide +kernel
theorem dL_bridges_20 : decode cL_bridges 20 = .ok (.iconst 4, 1) := by decide +kernel
theorem dL_bridges_21 : decode cL_bridges 21 = .ok (.if_icmp .ge 44, 3) := by decide +kernel
theorem dL_bridges_24 : decode cL_bridges 24 = .ok (.aload_n 1, 1) := by decide +kernel
theorem dL_bridges_25 : decode cL_bridges 25 = .ok (.iconst 3, 1) := by decide +kernel
theorem dL_bridges_26 : decode cL_bridges 26 = .ok (.iload_n 3, 1) := by decide +kernel
theorem dL_bridges_27 : decode cL_bridges 27 = .ok (.imul, 1) := by decide +kernel
theorem dL_bridges_28 : decode cL_bridges 28 = .ok (.iconst 1, 1) := by decide +kernel
theorem dL_bridges_29 : decode cL_bridges 29 = .ok (.iadd, 1) := by decide +kernel
theorem dL_bridges_30 : decode cL_bridges 30 = .ok (.dup2, 1) := by decide +kernel
theorem dL_bridges_31 : decode cL_bridges 31 = .ok (.iaload, 1) := by decide +kernel
theorem dL_bridges_32 : decode cL_bridges 32 = .ok (.aload_n 1, 1) := by decide +kernel
theorem dL_bridges_33 : decode cL_bridges 33 = .ok (.iconst 3, 1) := by decide +kernel
theorem dL_bridges_34 : decode cL_bridges 34 = .ok (.iload_n 3, 1) := by decide +kernel
theorem dL_bridges_35 : decode cL_bridges 35 = .ok (.imul, 1) := by decide +kernel
theorem dL_bridges_36 : decode cL_bridges 36 = .ok (.iaload, 1) := by decide +kernel
theorem dL_bridges_37 : decode cL_bridges 37 = .ok (.ifCond .ne 19, 3) := by decide +kernel
theorem dL_bridges_40 : decode cL_bridges 40 = .ok (.aload_n 0, 1) := by decide +kernel
theorem dL_bridges_41 : decode cL_bridges 41 = .ok (.iload 5, 2) := by decide +kernel
theorem dL_bridges_43 : decode cL_bridges 43 = .ok (.iload 4, 2) := by decide +kernel
theorem dL_bridges_45 : decode cL_bridges 45 = .ok (.invokestatic 15, 3) := by decide +kernel
theorem dL_bridges_48 : decode cL_bridges 48 = .ok (.iconst 1, 1) := by decide +kernel
theorem dL_bridges_49 : decode cL_bridges 49 = .ok (.if_icmp .le 7, 3) := by decide +kernel
theorem dL_bridges_52 : decode cL_bridges 52 = .ok (.iconst 1, 1) := by decide +kernel
theorem dL_bridges_53 : decode cL_bridges 53 = .ok (.goto 4, 3) := by decide +kernel
theorem dL_bridges_56 : decode cL_bridges 56 = .ok (.iconst 0, 1) := by decide +kernel
theorem dL_bridges_57 : decode cL_bridges 57 = .ok (.ior, 1) := by decide +kernel
theorem dL_bridges_58 : decode cL_bridges 58 = .ok (.iastore, 1) := by decide +kernel
theorem dL_bridges_59 : decode cL_bridges 59 = .ok (.iinc 5 1, 3) := by decide +kernel
theorem dL_bridges_62 : decode cL_bridges 62 = .ok (.goto (-44), 3) := by decide +kernel
theorem dL_bridges_65 : decode cL_bridges 65 = .ok (.aload_n 1, 1) := by decide +kernel
theorem dL_bridges_66 : decode cL_bridges 66 = .ok (.iconst 3, 1) := by decide +kernel
theorem dL_bridges_67 : decode cL_bridges 67 = .ok (.iload_n 3, 1) := by decide +kernel
theorem dL_bridges_68 : decode cL_bridges 68 = .ok (.imul, 1) := by decide +kernel
theorem dL_bridges_69 : decode cL_bridges 69 = .ok (.iconst 1, 1) := by decide +kernel
theorem dL_bridges_70 : decode cL_bridges 70 = .ok (.iadd, 1) := by decide +kernel
theorem dL_bridges_71 : decode cL_bridges 71 = .ok (.iaload, 1) := by decide +kernel
theorem dL_bridges_72 : decode cL_bridges 72 = .ok (.ifCond .eq 48, 3) := by decide +kernel
theorem dL_bridges_75 : decode cL_bridges 75 = .ok (.aload_n 0, 1) := by decide +kernel
theorem dL_bridges_76 : decode cL_bridges 76 = .ok (.iload 4, 2) := by decide +kernel
theorem dL_bridges_78 : decode cL_bridges 78 = .ok (.invokestatic 29, 3) := by decide +kernel
theorem dL_bridges_81 : decode cL_bridges 81 = .ok (.ifCond .le 6, 3) := by decide +kernel
theorem dL_bridges_84 : decode cL_bridges 84 = .ok (.goto 36, 3) := by decide +kernel
theorem dL_bridges_87 : decode cL_bridges 87 = .ok (.aload_n 1, 1) := by decide +kernel
theorem dL_bridges_88 : decode cL_bridges 88 = .ok (.iconst 3, 1) := by decide +kernel
theorem dL_bridges_89 : decode cL_bridges 89 = .ok (.iload_n 3, 1) := by decide +kernel
theorem dL_bridges_90 : decode cL_bridges 90 = .ok (.imul, 1) := by decide +kernel
theorem dL_bridges_91 : decode cL_bridges 91 = .ok (.iconst 1, 1) := by decide +kernel
theorem dL_bridges_92 : decode cL_bridges 92 = .ok (.iastore, 1) := by decide +kernel
theorem dL_bridges_93 : decode cL_bridges 93 = .ok (.aload_n 1, 1) := by decide +kernel
theorem dL_bridges_94 : decode cL_bridges 94 = .ok (.iconst 3, 1) := by decide +kernel
theorem dL_bridges_95 : decode cL_bridges 95 = .ok (.iload_n 3, 1) := by decide +kernel
theorem dL_bridges_96 : decode cL_bridges 96 = .ok (.imul, 1) := by decide +kernel
theorem dL_bridges_97 : decode cL_bridges 97 = .ok (.iconst 1, 1) := by decide +kernel
theorem dL_bridges_98 : decode cL_bridges 98 = .ok (.iadd, 1) := by decide +kernel
theorem dL_bridges_99 : decode cL_bridges 99 = .ok (.iconst 0, 1) := by decide +kernel
theorem dL_bridges_100 : decode cL_bridges 100 = .ok (.iastore, 1) := by decide +kernel
theorem dL_bridges_101 : decode cL_bridges 101 = .ok (.aload_n 1, 1) := by decide +kernel
theorem dL_bridges_102 : decode cL_bridges 102 = .ok (.iconst 3, 1) := by decide +kernel
theorem dL_bridges_103 : decode cL_bridges 103 = .ok (.iload_n 3, 1) := by decide +kernel
theorem dL_bridges_104 : decode cL_bridges 104 = .ok (.imul, 1) := by decide +kernel
theorem dL_bridges_105 : decode cL_bridges 105 = .ok (.iconst 2, 1) := by decide +kernel
theorem dL_bridges_106 : decode cL_bridges 106 = .ok (.iadd, 1) := by decide +kernel
theorem dL_bridges_107 : decode cL_bridges 107 = .ok (.aload_n 2, 1) := by decide +kernel
theorem dL_bridges_108 : decode cL_bridges 108 = .ok (.bipush 6, 2) := by decide +kernel
theorem dL_bridges_110 : decode cL_bridges 110 = .ok (.iaload, 1) := by decide +kernel
theorem dL_bridges_111 : decode cL_bridges 111 = .ok (.iastore, 1) := by decide +kernel
theorem dL_bridges_112 : decode cL_bridges 112 = .ok (.aload_n 2, 1) := by decide +kernel
theorem dL_bridges_113 : decode cL_bridges 113 = .ok (.bipush 9, 2) := by decide +kernel
theorem dL_bridges_115 : decode cL_bridges 115 = .ok (.dup2, 1) := by decide +kernel
theorem dL_bridges_116 : decode cL_bridges 116 = .ok (.iaload, 1) := by decide +kernel
theorem dL_bridges_117 : decode cL_bridges 117 = .ok (.iconst 1, 1) := by decide +kernel
theorem dL_bridges_118 : decode cL_bridges 118 = .ok (.iadd, 1) := by decide +kernel
theorem dL_bridges_119 : decode cL_bridges 119 = .ok (.iastore, 1) := by decide +kernel
theorem dL_bridges_120 : decode cL_bridges 120 = .ok (.iinc 3 1, 3) := by decide +kernel
theorem dL_bridges_123 : decode cL_bridges 123 = .ok (.goto (-121), 3) := by decide +kernel
theorem dL_bridges_126 : decode cL_bridges 126 = .ok (.return_, 1) := by decide +kernel
theorem dL_winner_0 : decode cL_winner 0 = .ok (.iconst 0, 1) := by decide +kernel
theorem dL_winner_1 : decode cL_winner 1 = .ok (.istore_n 1, 1) := by decide +kernel
theorem dL_winner_2 : decode cL_winner 2 = .ok (.iload_n 1, 1) := by decide +kernel
theorem dL_winner_3 : decode cL_winner 3 = .ok (.iconst 4, 1) := by decide +kernel
theorem dL_winner_4 : decode cL_winner 4 = .ok (.if_icmp .ge 37, 3) := by decide +kernel
theorem dL_winner_7 : decode cL_winner 7 = .ok (.aload_n 0, 1) := by decide +kernel
theorem dL_winner_8 : decode cL_winner 8 = .ok (.iconst 3, 1) := by decide +kernel
theorem dL_winner_9 : decode cL_winner 9 = .ok (.iload_n 1, 1) := by decide +kernel
theorem dL_winner_10 : decode cL_winner 10 = .ok (.imul, 1) := by decide +kernel
theorem dL_winner_11 : decode cL_winner 11 = .ok (.iaload, 1) := by decide +kernel
theorem dL_winner_12 : decode cL_winner 12 = .ok (.aload_n 0, 1) := by decide +kernel
theorem dL_winner_13 : decode cL_winner 13 = .ok (.iconst 3, 1) := by decide +kernel
theorem dL_winner_14 : decode cL_winner 14 = .ok (.iload_n 1, 1) := by decide +kernel
theorem dL_winner_15 : decode cL_winner 15 = .ok (.imul, 1) := by decide +kernel
theorem dL_winner_16 : decode cL_winner 16 = .ok (.iconst 1, 1) := by decide +kernel
theorem dL_winner_17 : decode cL_winner 17 = .ok (.iadd, 1) := by decide +kernel
theorem dL_winner_18 : decode cL_winner 18 = .ok (.iaload, 1) := by decide +kernel
theorem dL_winner_19 : decode cL_winner 19 = .ok (.iadd, 1) := by decide +kernel
theorem dL_winner_20 : decode cL_winner 20 = .ok (.aload_n 0, 1) := by decide +kernel
theorem dL_winner_21 : decode cL_winner 21 = .ok (.iconst 3, 1) := by decide +kernel
theorem dL_winner_22 : decode cL_winner 22 = .ok (.iload_n 1, 1) := by decide +kernel
theorem dL_winner_23 : decode cL_winner 23 = .ok (.imul, 1) := by decide +kernel
theorem dL_winner_24 : decode cL_winner 24 = .ok (.iconst 2, 1) := by decide +kernel
theorem dL_winner_25 : decode cL_winner 25 = .ok (.iadd, 1) := by decide +kernel
theorem dL_winner_26 : decode cL_winner 26 = .ok (.iaload, 1) := by decide +kernel
theorem dL_winner_27 : decode cL_winner 27 = .ok (.iadd, 1) := by decide +kernel
theorem dL_winner_28 : decode cL_winner 28 = .ok (.bipush 105, 2) := by decide +kernel
theorem dL_winner_30 : decode cL_winner 30 = .ok (.if_icmp .ne 5, 3) := by decide +kernel
theorem dL_winner_33 : decode cL_winner 33 = .ok (.iload_n 1, 1) := by decide +kernel
theorem dL_winner_34 : decode cL_winner 34 = .ok (.ireturn, 1) := by decide +kernel
theorem dL_winner_35 : decode cL_winner 35 = .ok (.iinc 1 1, 3) := by decide +kernel
theorem dL_winner_38 : decode cL_winner 38 = .ok (.goto (-36), 3) := by decide +kernel
theorem dL_winner_41 : decode cL_winner 41 = .ok (.bipush (-6), 2) := by decide +kernel
theorem dL_winner_43 : decode cL_winner 43 = .ok (.ireturn, 1) := by decide +kernel
theorem dL_go_0 : decode cL_go 0 = .ok (.iload 4, 2) := by decide +kernel
theorem dL_go_2 : decode cL_go 2 = .ok (.iload 5, 2) := by decide +kernel
theorem dL_go_4 : decode cL_go 4 = .ok (.invokestatic 9, 3) := by decide +kernel
theorem dL_go_7 : decode cL_go 7 = .ok (.istore 6, 2) := by decide +kernel
theorem dL_go_9 : decode cL_go 9 = .ok (.iconst 0, 1) := by decide +kernel
theorem dL_go_10 : decode cL_go 10 = .ok (.istore 7, 2) := by decide +kernel
theorem dL_go_12 : decode cL_go 12 = .ok (.iload 7, 2) := by decide +kernel
theorem dL_go_14 : decode cL_go 14 = .ok (.bipush 12, 2) := by decide +kernel
theorem dL_go_16 : decode cL_go 16 = .ok (.if_icmp .ge 64, 3) := by decide +kernel
theorem dL_go_19 : decode cL_go 19 = .ok (.iload 6, 2) := by decide +kernel
theorem dL_go_21 : decode cL_go 21 = .ok (.ifCond .lt 59, 3) := by decide +kernel
theorem dL_go_24 : decode cL_go 24 = .ok (.iload 7, 2) := by decide +kernel
theorem dL_go_26 : decode cL_go 26 = .ok (.iconst 3, 1) := by decide +kernel
theorem dL_go_27 : decode cL_go 27 = .ok (.idiv, 1) := by decide +kernel
theorem dL_go_28 : decode cL_go 28 = .ok (.iload 4, 2) := by decide +kernel
theorem dL_go_30 : decode cL_go 30 = .ok (.iconst 3, 1) := by decide +kernel
theorem dL_go_31 : decode cL_go 31 = .ok (.idiv, 1) := by decide +kernel
theorem dL_go_32 : decode cL_go 32 = .ok (.if_icmp .eq 42, 3) := by decide +kernel
theorem dL_go_35 : decode cL_go 35 = .ok (.iload 7, 2) := by decide +kernel
theorem dL_go_37 : decode cL_go 37 = .ok (.aload_n 0, 1) := by decide +kernel
theorem dL_go_38 : decode cL_go 38 = .ok (.iload 7, 2) := by decide +kernel
theorem dL_go_40 : decode cL_go 40 = .ok (.iaload, 1) := by decide +kernel
theorem dL_go_41 : decode cL_go 41 = .ok (.invokestatic 9, 3) := by decide +kernel
theorem dL_go_44 : decode cL_go 44 = .ok (.iload 6, 2) := by decide +kernel
theorem dL_go_46 : decode cL_go 46 = .ok (.if_icmp .eq 6, 3) := by decide +kernel
theorem dL_go_49 : decode cL_go 49 = .ok (.goto 25, 3) := by decide +kernel
theorem dL_go_52 : decode cL_go 52 = .ok (.aload_n 0, 1) := by decide +kernel
theorem dL_go_53 : decode cL_go 53 = .ok (.iload 7, 2) := by decide +kernel
theorem dL_go_55 : decode cL_go 55 = .ok (.bipush (-6), 2) := by decide +kernel
theorem dL_go_57 : decode cL_go 57 = .ok (.iastore, 1) := by decide +kernel
theorem dL_go_58 : decode cL_go 58 = .ok (.aload_n 1, 1) := by decide +kernel
theorem dL_go_59 : decode cL_go 59 = .ok (.iload 7, 2) := by decide +kernel
theorem dL_go_61 : decode cL_go 61 = .ok (.dup2, 1) := by decide +kernel
theorem dL_go_62 : decode cL_go 62 = .ok (.iaload, 1) := by decide +kernel
theorem dL_go_63 : decode cL_go 63 = .ok (.iconst 1, 1) := by decide +kernel
theorem dL_go_64 : decode cL_go 64 = .ok (.iadd, 1) := by decide +kernel
theorem dL_go_65 : decode cL_go 65 = .ok (.iastore, 1) := by decide +kernel
theorem dL_go_66 : decode cL_go 66 = .ok (.aload_n 3, 1) := by decide +kernel
theorem dL_go_67 : decode cL_go 67 = .ok (.bipush 8, 2) := by decide +kernel
theorem dL_go_69 : decode cL_go 69 = .ok (.dup2, 1) := by decide +kernel
theorem dL_go_70 : decode cL_go 70 = .ok (.iaload, 1) := by decide +kernel
theorem dL_go_71 : decode cL_go 71 = .ok (.iconst 1, 1) := by decide +kernel
theorem dL_go_72 : decode cL_go 72 = .ok (.iadd, 1) := by decide +kernel
theorem dL_go_73 : decode cL_go 73 = .ok (.iastore, 1) := by decide +kernel
theorem dL_go_74 : decode cL_go 74 = .ok (.iinc 7 1, 3) := by decide +kernel
theorem dL_go_77 : decode cL_go 77 = .ok (.goto (-65), 3) := by decide +kernel
theorem dL_go_80 : decode cL_go 80 = .ok (.aload_n 0, 1) := by decide +kernel
theorem dL_go_81 : decode cL_go 81 = .ok (.iload 4, 2) := by decide +kernel
theorem dL_go_83 : decode cL_go 83 = .ok (.iload 5, 2) := by decide +kernel
theorem dL_go_85 : decode cL_go 85 = .ok (.iastore, 1) := by decide +kernel
theorem dL_go_86 : decode cL_go 86 = .ok (.aload_n 0, 1) := by decide +kernel
theorem dL_go_87 : decode cL_go 87 = .ok (.aload_n 2, 1) := by decide +kernel
theorem dL_go_88 : decode cL_go 88 = .ok (.aload_n 3, 1) := by decide +kernel
theorem dL_go_89 : decode cL_go 89 = .ok (.invokestatic 35, 3) := by decide +kernel
theorem dL_go_92 : decode cL_go 92 = .ok (.return_, 1) := by decide +kernel
theorem dL_ends_0 : decode cL_ends 0 = .ok (.aload_n 2, 1) := by decide +kernel
theorem dL_ends_1 : decode cL_ends 1 = .ok (.iconst 5, 1) := by decide +kernel
theorem dL_ends_2 : decode cL_ends 2 = .ok (.iaload, 1) := by decide +kernel
theorem dL_ends_3 : decode cL_ends 3 = .ok (.bipush 6, 2) := by decide +kernel
theorem dL_ends_5 : decode cL_ends 5 = .ok (.if_icmp .ne 17, 3) := by decide +kernel
theorem dL_ends_8 : decode cL_ends 8 = .ok (.aload_n 2, 1) := by decide +kernel
theorem dL_ends_9 : decode cL_ends 9 = .ok (.bipush 7, 2) := by decide +kernel
theorem dL_ends_11 : decode cL_ends 11 = .ok (.iaload, 1) := by decide +kernel
theorem dL_ends_12 : decode cL_ends 12 = .ok (.aload_n 2, 1) := by decide +kernel
theorem dL_ends_13 : decode cL_ends 13 = .ok (.iconst 2, 1) := by decide +kernel
theorem dL_ends_14 : decode cL_ends 14 = .ok (.iaload, 1) := by decide +kernel
theorem dL_ends_15 : decode cL_ends 15 = .ok (.if_icmp .gt 7, 3) := by decide +kernel
theorem dL_ends_18 : decode cL_ends 18 = .ok (.iconst 1, 1) := by decide +kernel
theorem dL_ends_19 : decode cL_ends 19 = .ok (.goto 4, 3) := by decide +kernel
theorem dL_ends_22 : decode cL_ends 22 = .ok (.iconst 0, 1) := by decide +kernel
theorem dL_ends_23 : decode cL_ends 23 = .ok (.istore_n 3, 1) := by decide +kernel
theorem dL_ends_24 : decode cL_ends 24 = .ok (.aload_n 2, 1) := by decide +kernel
theorem dL_ends_25 : decode cL_ends 25 = .ok (.iconst 5, 1) := by decide +kernel
theorem dL_ends_26 : decode cL_ends 26 = .ok (.bipush (-6), 2) := by decide +kernel
theorem dL_ends_28 : decode cL_ends 28 = .ok (.iastore, 1) := by decide +kernel
theorem dL_ends_29 : decode cL_ends 29 = .ok (.aload_n 0, 1) := by decide +kernel
theorem dL_ends_30 : decode cL_ends 30 = .ok (.invokestatic 39, 3) := by decide +kernel
theorem dL_ends_33 : decode cL_ends 33 = .ok (.ifCond .ge 7, 3) := by decide +kernel
