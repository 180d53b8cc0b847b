theorem dX5_why_23 : decode cX5_why 23 = .ok (.aload_n 0, 1) := by decide +kernel
theorem dX5_why_24 : decode cX5_why 24 = .ok (.getfield 12, 3) := by decide +kernel
theorem dX5_why_27 : decode cX5_why 27 = .ok (.iload_n 1, 1) := by decide +kernel
theorem dX5_why_28 : decode cX5_why 28 = .ok (.iload_n 2, 1) := by decide +kernel
theorem dX5_why_29 : decode cX5_why 29 = .ok (.invokevirtual 78, 3) := by decide +kernel
theorem dX5_why_32 : decode cX5_why 32 = .ok (.ireturn, 1) := by decide +kernel
set_option maxRecDepth 20000 in
theorem ggX5_count_X0_winner : GoodIn wsX5_count wsX0_winner := goodIn_r _ [7, 8, 9, 10, 5, 11, 12, 34, 35, 36, 37, 38] (by decide +kernel) (by decide +kernel)
set_option maxRecDepth 20000 in
theorem gX5_count_X0_winner_n165 : GoodIn wsX5_count (wsX0_winner) := ggX5_count_X0_winner
set_option maxRecDepth 20000 in
theorem ggX5_count_X0_homeOf : GoodIn wsX5_count wsX0_homeOf := goodIn_r _ [11, 12, 34, 35, 36, 37, 38] (by decide +kernel) (by decide +kernel)
set_option maxRecDepth 20000 in
theorem gX5_count_X0_homeOf_n168 : GoodIn wsX5_count (wsX0_homeOf) := ggX5_count_X0_homeOf
set_option maxRecDepth 20000 in
theorem ggX5_count_X0_sentBackInAll : GoodIn wsX5_count wsX0_sentBackInAll := goodIn_r _ [15, 16, 34, 35, 36, 37, 38] (by decide +kernel) (by decide +kernel)
set_option maxRecDepth 20000 in
theorem gX5_count_X0_sentBackInAll_n171 : GoodIn wsX5_count (wsX0_sentBackInAll) := ggX5_count_X0_sentBackInAll
set_option maxRecDepth 20000 in
theorem ggX5_count_X0_fallenSet : GoodIn wsX5_count wsX0_fallenSet := goodIn_r _ [19, 20, 34, 35, 36, 37, 38] (by decide +kernel) (by decide +kernel)
set_option maxRecDepth 20000 in
theorem gX5_count_X0_fallenSet_n174 : GoodIn wsX5_count (wsX0_fallenSet) := ggX5_count_X0_fallenSet
theorem dX5_count_0 : decode cX5_count 0 = .ok (.iload_n 1, 1) := by decide +kernel
theorem dX5_count_1 : decode cX5_count 1 = .ok (.tableswitch 212 0 17 #[87, 87, 87, 97, 105, 113, 121, 129, 137, 148, 148, 148, 148, 163, 174, 185, 196, 204], 87) := by decide +kernel
theorem dX5_count_88 : decode cX5_count 88 = .ok (.aload_n 0, 1) := by decide +kernel
theorem dX5_count_89 : decode cX5_count 89 = .ok (.getfield 12, 3) := by decide +kernel
theorem dX5_count_92 : decode cX5_count 92 = .ok (.getfield 55, 3) := by decide +kernel
theorem dX5_count_95 : decode cX5_count 95 = .ok (.iload_n 1, 1) := by decide +kernel
theorem dX5_count_96 : decode cX5_count 96 = .ok (.iaload, 1) := by decide +kernel
theorem dX5_count_97 : decode cX5_count 97 = .ok (.ireturn, 1) := by decide +kernel
theorem dX5_count_98 : decode cX5_count 98 = .ok (.aload_n 0, 1) := by decide +kernel
theorem dX5_count_99 : decode cX5_count 99 = .ok (.getfield 12, 3) := by decide +kernel
theorem dX5_count_102 : decode cX5_count 102 = .ok (.getfield 58, 3) := by decide +kernel
theorem dX5_count_105 : decode cX5_count 105 = .ok (.ireturn, 1) := by decide +kernel
theorem dX5_count_106 : decode cX5_count 106 = .ok (.aload_n 0, 1) := by decide +kernel
theorem dX5_count_107 : decode cX5_count 107 = .ok (.getfield 12, 3) := by decide +kernel
theorem dX5_count_110 : decode cX5_count 110 = .ok (.getfield 75, 3) := by decide +kernel
theorem dX5_count_113 : decode cX5_count 113 = .ok (.ireturn, 1) := by decide +kernel
theorem dX5_count_114 : decode cX5_count 114 = .ok (.aload_n 0, 1) := by decide +kernel
theorem dX5_count_115 : decode cX5_count 115 = .ok (.getfield 12, 3) := by decide +kernel
theorem dX5_count_118 : decode cX5_count 118 = .ok (.getfield 72, 3) := by decide +kernel
theorem dX5_count_121 : decode cX5_count 121 = .ok (.ireturn, 1) := by decide +kernel
theorem dX5_count_122 : decode cX5_count 122 = .ok (.aload_n 0, 1) := by decide +kernel
theorem dX5_count_123 : decode cX5_count 123 = .ok (.getfield 12, 3) := by decide +kernel
theorem dX5_count_126 : decode cX5_count 126 = .ok (.getfield 131, 3) := by decide +kernel
theorem dX5_count_129 : decode cX5_count 129 = .ok (.ireturn, 1) := by decide +kernel
theorem dX5_count_130 : decode cX5_count 130 = .ok (.aload_n 0, 1) := by decide +kernel
theorem dX5_count_131 : decode cX5_count 131 = .ok (.getfield 12, 3) := by decide +kernel
theorem dX5_count_134 : decode cX5_count 134 = .ok (.getfield 162, 3) := by decide +kernel
theorem dX5_count_137 : decode cX5_count 137 = .ok (.ireturn, 1) := by decide +kernel
theorem dX5_count_138 : decode cX5_count 138 = .ok (.aload_n 0, 1) := by decide +kernel
theorem dX5_count_139 : decode cX5_count 139 = .ok (.getfield 12, 3) := by decide +kernel
theorem dX5_count_142 : decode cX5_count 142 = .ok (.getfield 119, 3) := by decide +kernel
theorem dX5_count_145 : decode cX5_count 145 = .ok (.invokevirtual 165, 3) := by decide +kernel
theorem dX5_count_148 : decode cX5_count 148 = .ok (.ireturn, 1) := by decide +kernel
theorem dX5_count_149 : decode cX5_count 149 = .ok (.aload_n 0, 1) := by decide +kernel
theorem dX5_count_150 : decode cX5_count 150 = .ok (.getfield 12, 3) := by decide +kernel
theorem dX5_count_153 : decode cX5_count 153 = .ok (.getfield 119, 3) := by decide +kernel
theorem dX5_count_156 : decode cX5_count 156 = .ok (.iload_n 1, 1) := by decide +kernel
theorem dX5_count_157 : decode cX5_count 157 = .ok (.bipush 9, 2) := by decide +kernel
theorem dX5_count_159 : decode cX5_count 159 = .ok (.isub, 1) := by decide +kernel
theorem dX5_count_160 : decode cX5_count 160 = .ok (.invokevirtual 168, 3) := by decide +kernel
theorem dX5_count_163 : decode cX5_count 163 = .ok (.ireturn, 1) := by decide +kernel
theorem dX5_count_164 : decode cX5_count 164 = .ok (.aload_n 0, 1) := by decide +kernel
theorem dX5_count_165 : decode cX5_count 165 = .ok (.getfield 12, 3) := by decide +kernel
theorem dX5_count_168 : decode cX5_count 168 = .ok (.getfield 119, 3) := by decide +kernel
theorem dX5_count_171 : decode cX5_count 171 = .ok (.invokevirtual 171, 3) := by decide +kernel
theorem dX5_count_174 : decode cX5_count 174 = .ok (.ireturn, 1) := by decide +kernel
theorem dX5_count_175 : decode cX5_count 175 = .ok (.aload_n 0, 1) := by decide +kernel
theorem dX5_count_176 : decode cX5_count 176 = .ok (.getfield 12, 3) := by decide +kernel
theorem dX5_count_179 : decode cX5_count 179 = .ok (.getfield 119, 3) := by decide +kernel
theorem dX5_count_182 : decode cX5_count 182 = .ok (.invokevirtual 174, 3) := by decide +kernel
theorem dX5_count_185 : decode cX5_count 185 = .ok (.ireturn, 1) := by decide +kernel
theorem dX5_count_186 : decode cX5_count 186 = .ok (.aload_n 0, 1) := by decide +kernel
theorem dX5_count_187 : decode cX5_count 187 = .ok (.getfield 12, 3) := by decide +kernel
theorem dX5_count_190 : decode cX5_count 190 = .ok (.getfield 119, 3) := by decide +kernel
theorem dX5_count_193 : decode cX5_count 193 = .ok (.getfield 177, 3) := by decide +kernel
theorem dX5_count_196 : decode cX5_count 196 = .ok (.ireturn, 1) := by decide +kernel
theorem dX5_count_197 : decode cX5_count 197 = .ok (.aload_n 0, 1) := by decide +kernel
theorem dX5_count_198 : decode cX5_count 198 = .ok (.getfield 29, 3) := by decide +kernel
theorem dX5_count_201 : decode cX5_count 201 = .ok (.getfield 113, 3) := by decide +kernel
theorem dX5_count_204 : decode cX5_count 204 = .ok (.ireturn, 1) := by decide +kernel
theorem dX5_count_205 : decode cX5_count 205 = .ok (.aload_n 0, 1) := by decide +kernel
theorem dX5_count_206 : decode cX5_count 206 = .ok (.getfield 36, 3) := by decide +kernel
theorem dX5_count_209 : decode cX5_count 209 = .ok (.getfield 180, 3) := by decide +kernel
theorem dX5_count_212 : decode cX5_count 212 = .ok (.ireturn, 1) := by decide +kernel
theorem dX5_count_213 : decode cX5_count 213 = .ok (.bipush (-2), 2) := by decide +kernel
theorem dX5_count_215 : decode cX5_count 215 = .ok (.ireturn, 1) := by decide +kernel
set_option maxRecDepth 20000 in
theorem ggX5_best_X1_hasThrow : GoodIn wsX5_best wsX1_hasThrow := goodIn_r _ [5, 6, 64, 65, 66, 67, 68, 69, 70] (by decide +kernel) (by decide +kernel)
set_option maxRecDepth 20000 in
theorem gX5_best_X1_hasThrow_n66 : GoodIn wsX5_best (wsX1_hasThrow) := ggX5_best_X1_hasThrow
set_option maxRecDepth 20000 in
theorem ggX5_best_X1_bestPiece : GoodIn wsX5_best wsX1_bestPiece := goodIn_r _ [9, 10, 6, 11, 12, 13, 3, 14, 15, 16, 17, 18, 19, 20, 21, 22, 23, 24, 25, 26, 27, 28, 29, 30, 31, 32, 33, 34, 35, 36, 37, 38, 39, 40, 41, 42, 43, 44, 45, 46, 47, 48, 49, 50, 51, 52, 53, 54, 55, 56, 57, 64, 65, 66, 67, 68, 69, 70, 71, 72, 73, 74, 75] (by decide +kernel) (by decide +kernel)
set_option maxRecDepth 20000 in
theorem gX5_best_X1_bestPiece_n183 : GoodIn wsX5_best (wsX1_bestPiece) := ggX5_best_X1_bestPiece
theorem dX5_best_0 : decode cX5_best 0 = .ok (.aload_n 0, 1) := by decide +kernel
theorem dX5_best_1 : decode cX5_best 1 = .ok (.getfield 12, 3) := by decide +kernel
theorem dX5_best_4 : decode cX5_best 4 = .ok (.invokevirtual 66, 3) := by decide +kernel
theorem dX5_best_7 : decode cX5_best 7 = .ok (.ifCond .ne 6, 3) := by decide +kernel
theorem dX5_best_10 : decode cX5_best 10 = .ok (.bipush (-5), 2) := by decide +kernel
theorem dX5_best_12 : decode cX5_best 12 = .ok (.ireturn, 1) := by decide +kernel
theorem dX5_best_13 : decode cX5_best 13 = .ok (.aload_n 0, 1) := by decide +kernel
theorem dX5_best_14 : decode cX5_best 14 = .ok (.getfield 12, 3) := by decide +kernel
theorem dX5_best_17 : decode cX5_best 17 = .ok (.invokevirtual 183, 3) := by decide +kernel
theorem dX5_best_20 : decode cX5_best 20 = .ok (.istore_n 1, 1) := by decide +kernel
theorem dX5_best_21 : decode cX5_best 21 = .ok (.iload_n 1, 1) := by decide +kernel
theorem dX5_best_22 : decode cX5_best 22 = .ok (.bipush (-6), 2) := by decide +kernel
theorem dX5_best_24 : decode cX5_best 24 = .ok (.if_icmp .ne 8, 3) := by decide +kernel
theorem dX5_best_27 : decode cX5_best 27 = .ok (.bipush (-6), 2) := by decide +kernel
theorem dX5_best_29 : decode cX5_best 29 = .ok (.goto 6, 3) := by decide +kernel
theorem dX5_best_32 : decode cX5_best 32 = .ok (.iload_n 1, 1) := by decide +kernel
theorem dX5_best_33 : decode cX5_best 33 = .ok (.iconst 3, 1) := by decide +kernel
theorem dX5_best_34 : decode cX5_best 34 = .ok (.irem, 1) := by decide +kernel
theorem dX5_best_35 : decode cX5_best 35 = .ok (.ireturn, 1) := by decide +kernel
set_option maxRecDepth 20000 in
theorem ggX5_needs_X5_isNoPiece : GoodIn wsX5_needs wsX5_isNoPiece := goodIn_r _ [6] (by decide +kernel) (by decide +kernel)
set_option maxRecDepth 20000 in
theorem gX5_needs_X5_isNoPiece : GoodIn wsX5_needs (va_wsS RX5 116 yX5_isNoPiece wsX5_isNoPiece) := goodIn_app (goodIn_of _ (by decide +kernel)) ggX5_needs_X5_isNoPiece
set_option maxRecDepth 20000 in
theorem ggX5_needs_X4_fromHomeOn : GoodIn wsX5_needs wsX4_fromHomeOn := goodIn_r _ [10, 11, 12, 13, 14, 15, 16, 17, 18, 19, 20, 21, 22, 23, 24, 5, 25, 26, 27, 28, 29, 30, 31, 32, 58, 53, 54, 55, 56, 57] (by decide +kernel) (by decide +kernel)
set_option maxRecDepth 20000 in
theorem gX5_needs_X4_fromHomeOn_n186 : GoodIn wsX5_needs (wsX4_fromHomeOn) := ggX5_needs_X4_fromHomeOn
set_option maxRecDepth 20000 in
theorem ggX5_needs_X4_goingWide : GoodIn wsX5_needs wsX4_goingWide := goodIn_r _ [35, 11, 36, 37, 38, 8, 39, 16, 17, 18, 19, 20, 21, 22, 23, 24, 5, 25, 26, 27, 28, 29, 30, 31, 32, 58, 53, 54, 55, 56, 57] (by decide +kernel) (by decide +kernel)
set_option maxRecDepth 20000 in
theorem gX5_needs_X4_goingWide_n190 : GoodIn wsX5_needs (wsX4_goingWide) := ggX5_needs_X4_goingWide
theorem dX5_needs_0 : decode cX5_needs 0 = .ok (.iload_n 1, 1) := by decide +kernel
theorem dX5_needs_1 : decode cX5_needs 1 = .ok (.invokestatic 116, 3) := by decide +kernel
theorem dX5_needs_4 : decode cX5_needs 4 = .ok (.ifCond .eq 5, 3) := by decide +kernel
theorem dX5_needs_7 : decode cX5_needs 7 = .ok (.iconst (-1), 1) := by decide +kernel
theorem dX5_needs_8 : decode cX5_needs 8 = .ok (.ireturn, 1) := by decide +kernel
theorem dX5_needs_9 : decode cX5_needs 9 = .ok (.iload_n 2, 1) := by decide +kernel
theorem dX5_needs_10 : decode cX5_needs 10 = .ok (.ifCond .eq 11, 3) := by decide +kernel
theorem dX5_needs_13 : decode cX5_needs 13 = .ok (.iload_n 2, 1) := by decide +kernel
theorem dX5_needs_14 : decode cX5_needs 14 = .ok (.iconst 1, 1) := by decide +kernel
theorem dX5_needs_15 : decode cX5_needs 15 = .ok (.if_icmp .eq 6, 3) := by decide +kernel
theorem dX5_needs_18 : decode cX5_needs 18 = .ok (.bipush (-2), 2) := by decide +kernel
theorem dX5_needs_20 : decode cX5_needs 20 = .ok (.ireturn, 1) := by decide +kernel
theorem dX5_needs_21 : decode cX5_needs 21 = .ok (.iload_n 1, 1) := by decide +kernel
theorem dX5_needs_22 : decode cX5_needs 22 = .ok (.iconst 3, 1) := by decide +kernel
theorem dX5_needs_23 : decode cX5_needs 23 = .ok (.idiv, 1) := by decide +kernel
theorem dX5_needs_24 : decode cX5_needs 24 = .ok (.istore_n 3, 1) := by decide +kernel
theorem dX5_needs_25 : decode cX5_needs 25 = .ok (.aload_n 0, 1) := by decide +kernel
theorem dX5_needs_26 : decode cX5_needs 26 = .ok (.getfield 12, 3) := by decide +kernel
theorem dX5_needs_29 : decode cX5_needs 29 = .ok (.getfield 119, 3) := by decide +kernel
theorem dX5_needs_32 : decode cX5_needs 32 = .ok (.getfield 128, 3) := by decide +kernel
theorem dX5_needs_35 : decode cX5_needs 35 = .ok (.iload_n 1, 1) := by decide +kernel
theorem dX5_needs_36 : decode cX5_needs 36 = .ok (.iaload, 1) := by decide +kernel
theorem dX5_needs_37 : decode cX5_needs 37 = .ok (.istore 4, 2) := by decide +kernel
theorem dX5_needs_39 : decode cX5_needs 39 = .ok (.iload 4, 2) := by decide +kernel
theorem dX5_needs_41 : decode cX5_needs 41 = .ok (.bipush (-6), 2) := by decide +kernel
theorem dX5_needs_43 : decode cX5_needs 43 = .ok (.if_icmp .ne 7, 3) := by decide +kernel
theorem dX5_needs_46 : decode cX5_needs 46 = .ok (.iconst 1, 1) := by decide +kernel
theorem dX5_needs_47 : decode cX5_needs 47 = .ok (.goto 4, 3) := by decide +kernel
theorem dX5_needs_50 : decode cX5_needs 50 = .ok (.iconst 0, 1) := by decide +kernel
theorem dX5_needs_51 : decode cX5_needs 51 = .ok (.istore 5, 2) := by decide +kernel
theorem dX5_needs_53 : decode cX5_needs 53 = .ok (.iload 4, 2) := by decide +kernel
theorem dX5_needs_55 : decode cX5_needs 55 = .ok (.bipush (-6), 2) := by decide +kernel
theorem dX5_needs_57 : decode cX5_needs 57 = .ok (.if_icmp .ne 7, 3) := by decide +kernel
theorem dX5_needs_60 : decode cX5_needs 60 = .ok (.iconst 0, 1) := by decide +kernel
theorem dX5_needs_61 : decode cX5_needs 61 = .ok (.goto 5, 3) := by decide +kernel
theorem dX5_needs_64 : decode cX5_needs 64 = .ok (.iload 4, 2) := by decide +kernel
theorem dX5_needs_66 : decode cX5_needs 66 = .ok (.istore 6, 2) := by decide +kernel
theorem dX5_needs_68 : decode cX5_needs 68 = .ok (.iload 5, 2) := by decide +kernel
theorem dX5_needs_70 : decode cX5_needs 70 = .ok (.iload_n 2, 1) := by decide +kernel
theorem dX5_needs_71 : decode cX5_needs 71 = .ok (.ifCond .ne 23, 3) := by decide +kernel
theorem dX5_needs_74 : decode cX5_needs 74 = .ok (.aload_n 0, 1) := by decide +kernel
theorem dX5_needs_75 : decode cX5_needs 75 = .ok (.getfield 22, 3) := by decide +kernel
theorem dX5_needs_78 : decode cX5_needs 78 = .ok (.aload_n 0, 1) := by decide +kernel
theorem dX5_needs_79 : decode cX5_needs 79 = .ok (.getfield 12, 3) := by decide +kernel
theorem dX5_needs_82 : decode cX5_needs 82 = .ok (.getfield 119, 3) := by decide +kernel
theorem dX5_needs_85 : decode cX5_needs 85 = .ok (.iload_n 3, 1) := by decide +kernel
theorem dX5_needs_86 : decode cX5_needs 86 = .ok (.iload 6, 2) := by decide +kernel
theorem dX5_needs_88 : decode cX5_needs 88 = .ok (.invokevirtual 186, 3) := by decide +kernel
theorem dX5_needs_91 : decode cX5_needs 91 = .ok (.goto 20, 3) := by decide +kernel
theorem dX5_needs_94 : decode cX5_needs 94 = .ok (.aload_n 0, 1) := by decide +kernel
theorem dX5_needs_95 : decode cX5_needs 95 = .ok (.getfield 22, 3) := by decide +kernel
theorem dX5_needs_98 : decode cX5_needs 98 = .ok (.aload_n 0, 1) := by decide +kernel
theorem dX5_needs_99 : decode cX5_needs 99 = .ok (.getfield 12, 3) := by decide +kernel
theorem dX5_needs_102 : decode cX5_needs 102 = .ok (.getfield 119, 3) := by decide +kernel
theorem dX5_needs_105 : decode cX5_needs 105 = .ok (.iload_n 3, 1) := by decide +kernel
theorem dX5_needs_106 : decode cX5_needs 106 = .ok (.iload 6, 2) := by decide +kernel
theorem dX5_needs_108 : decode cX5_needs 108 = .ok (.invokevirtual 190, 3) := by decide +kernel
theorem dX5_needs_111 : decode cX5_needs 111 = .ok (.iadd, 1) := by decide +kernel
theorem dX5_needs_112 : decode cX5_needs 112 = .ok (.ireturn, 1) := by decide +kernel
set_option maxRecDepth 20000 in
theorem ggX5_nextCast_X5_nextX : GoodIn wsX5_nextCast wsX5_nextX := goodIn_r _ [5, 6, 7, 8] (by decide +kernel) (by decide +kernel)
set_option maxRecDepth 20000 in
theorem gX5_nextCast_X5_nextX : GoodIn wsX5_nextCast (va_wsS RX5 193 yX5_nextX wsX5_nextX) := goodIn_app (goodIn_of _ (by decide +kernel)) ggX5_nextCast_X5_nextX
set_option maxRecDepth 20000 in
theorem ggX5_nextCast_X5_castOf : GoodIn wsX5_nextCast wsX5_castOf := goodIn_r _ [11, 12] (by decide +kernel) (by decide +kernel)
set_option maxRecDepth 20000 in
theorem gX5_nextCast_X5_castOf : GoodIn wsX5_nextCast (va_wsS RX5 196 yX5_castOf wsX5_castOf) := goodIn_app (goodIn_of _ (by decide +kernel)) ggX5_nextCast_X5_castOf
theorem dX5_nextCast_0 : decode cX5_nextCast 0 = .ok (.iload_n 1, 1) := by decide +kernel
theorem dX5_nextCast_1 : decode cX5_nextCast 1 = .ok (.ifCond .lt 9, 3) := by decide +kernel
theorem dX5_nextCast_4 : decode cX5_nextCast 4 = .ok (.iload_n 1, 1) := by decide +kernel
theorem dX5_nextCast_5 : decode cX5_nextCast 5 = .ok (.bipush 99, 2) := by decide +kernel
theorem dX5_nextCast_7 : decode cX5_nextCast 7 = .ok (.if_icmp .le 6, 3) := by decide +kernel
theorem dX5_nextCast_10 : decode cX5_nextCast 10 = .ok (.bipush (-2), 2) := by decide +kernel
theorem dX5_nextCast_12 : decode cX5_nextCast 12 = .ok (.ireturn, 1) := by decide +kernel
theorem dX5_nextCast_13 : decode cX5_nextCast 13 = .ok (.aload_n 0, 1) := by decide +kernel
theorem dX5_nextCast_14 : decode cX5_nextCast 14 = .ok (.getfield 12, 3) := by decide +kernel
theorem dX5_nextCast_17 : decode cX5_nextCast 17 = .ok (.getfield 58, 3) := by decide +kernel
theorem dX5_nextCast_20 : decode cX5_nextCast 20 = .ok (.istore_n 2, 1) := by decide +kernel
theorem dX5_nextCast_21 : decode cX5_nextCast 21 = .ok (.iconst 0, 1) := by decide +kernel
theorem dX5_nextCast_22 : decode cX5_nextCast 22 = .ok (.istore_n 3, 1) := by decide +kernel
theorem dX5_nextCast_23 : decode cX5_nextCast 23 = .ok (.iload_n 3, 1) := by decide +kernel
theorem dX5_nextCast_24 : decode cX5_nextCast 24 = .ok (.iload_n 1, 1) := by decide +kernel
theorem dX5_nextCast_25 : decode cX5_nextCast 25 = .ok (.if_icmp .gt 14, 3) := by decide +kernel
theorem dX5_nextCast_28 : decode cX5_nextCast 28 = .ok (.iload_n 2, 1) := by decide +kernel
theorem dX5_nextCast_29 : decode cX5_nextCast 29 = .ok (.invokestatic 193, 3) := by decide +kernel
theorem dX5_nextCast_32 : decode cX5_nextCast 32 = .ok (.istore_n 2, 1) := by decide +kernel
theorem dX5_nextCast_33 : decode cX5_nextCast 33 = .ok (.iinc 3 1, 3) := by decide +kernel
theorem dX5_nextCast_36 : decode cX5_nextCast 36 = .ok (.goto (-13), 3) := by decide +kernel
theorem dX5_nextCast_39 : decode cX5_nextCast 39 = .ok (.iload_n 2, 1) := by decide +kernel
theorem dX5_nextCast_40 : decode cX5_nextCast 40 = .ok (.invokestatic 196, 3) := by decide +kernel
theorem dX5_nextCast_43 : decode cX5_nextCast 43 = .ok (.ireturn, 1) := by decide +kernel
set_option maxRecDepth 20000 in
theorem ggX5_untilOver_X1_hasThrow : GoodIn wsX5_untilOver wsX1_hasThrow := goodIn_r _ [6, 7, 142, 143, 144, 145, 146, 147, 148] (by decide +kernel) (by decide +kernel)
set_option maxRecDepth 20000 in
theorem gX5_untilOver_X1_hasThrow_n66 : GoodIn wsX5_untilOver (wsX1_hasThrow) := ggX5_untilOver_X1_hasThrow
set_option maxRecDepth 20000 in
theorem ggX5_untilOver_X1_copyFrom : GoodIn wsX5_untilOver wsX1_copyFrom := goodIn_r _ [10, 11, 12, 13, 14, 15, 16, 17, 18, 7, 19, 20, 21, 22, 23, 24, 25, 26, 27, 28, 29, 30, 142, 143, 144, 145, 146, 147, 148, 149, 150, 151, 152, 153] (by decide +kernel) (by decide +kernel)
set_option maxRecDepth 20000 in
theorem gX5_untilOver_X1_copyFrom_n199 : GoodIn wsX5_untilOver (wsX1_copyFrom) := ggX5_untilOver_X1_copyFrom
set_option maxRecDepth 20000 in
theorem ggX5_untilOver_X1_playOn : GoodIn wsX5_untilOver wsX1_playOn := goodIn_r _ [33, 34, 35, 36, 4, 37, 11, 38, 22, 39, 40, 41, 42, 43, 44, 25, 45, 46, 47, 48, 17, 49, 50, 51, 52, 53, 54, 55, 56, 57, 58, 59, 60, 61, 7, 20, 62, 63, 64, 65, 18, 66, 67, 68, 69, 12, 70, 71, 72, 73, 74, 75, 76, 77, 78, 79, 80, 81, 82, 28, 83, 84, 85, 86, 87, 88, 89, 90, 91, 92, 93, 94, 95, 96, 97, 98, 99, 100, 101, 102, 103, 104, 105, 106, 107, 108, 109, 110, 111, 112, 113, 114, 19, 115, 116, 117, 29, 118, 119, 120, 121, 122, 123, 124, 27, 125, 126, 127, 128, 129, 130, 131, 30, 132, 133, 134, 135, 142, 143, 144, 145, 146, 147, 148, 149, 150, 151, 152, 153] (by decide +kernel) (by decide +kernel)
set_option maxRecDepth 20000 in
theorem gX5_untilOver_X1_playOn_n93 : GoodIn wsX5_untilOver (wsX1_playOn) := ggX5_untilOver_X1_playOn
set_option maxRecDepth 20000 in
theorem ggX5_untilOver_X1_isOver : GoodIn wsX5_untilOver wsX1_isOver := goodIn_r _ [37, 11, 38, 22, 39, 40, 41, 42, 43, 44, 25, 142, 143, 144, 145, 146, 147, 148, 149, 150, 151, 152, 153] (by decide +kernel) (by decide +kernel)
set_option maxRecDepth 20000 in
theorem gX5_untilOver_X1_isOver_n62 : GoodIn wsX5_untilOver (wsX1_isOver) := ggX5_untilOver_X1_isOver
theorem dX5_untilOver_0 : decode cX5_untilOver 0 = .ok (.aload_n 0, 1) := by decide +kernel
theorem dX5_untilOver_1 : decode cX5_untilOver 1 = .ok (.getfield 12, 3) := by decide +kernel
theorem dX5_untilOver_4 : decode cX5_untilOver 4 = .ok (.invokevirtual 66, 3) := by decide +kernel
theorem dX5_untilOver_7 : decode cX5_untilOver 7 = .ok (.ifCond .eq 6, 3) := by decide +kernel
theorem dX5_untilOver_10 : decode cX5_untilOver 10 = .ok (.bipush (-5), 2) := by decide +kernel
theorem dX5_untilOver_12 : decode cX5_untilOver 12 = .ok (.ireturn, 1) := by decide +kernel
theorem dX5_untilOver_13 : decode cX5_untilOver 13 = .ok (.aload_n 0, 1) := by decide +kernel
theorem dX5_untilOver_14 : decode cX5_untilOver 14 = .ok (.getfield 16, 3) := by decide +kernel
theorem dX5_untilOver_17 : decode cX5_untilOver 17 = .ok (.aload_n 0, 1) := by decide +kernel
theorem dX5_untilOver_18 : decode cX5_untilOver 18 = .ok (.getfield 12, 3) := by decide +kernel
theorem dX5_untilOver_21 : decode cX5_untilOver 21 = .ok (.invokevirtual 199, 3) := by decide +kernel
theorem dX5_untilOver_24 : decode cX5_untilOver 24 = .ok (.aload_n 0, 1) := by decide +kernel
theorem dX5_untilOver_25 : decode cX5_untilOver 25 = .ok (.getfield 16, 3) := by decide +kernel
theorem dX5_untilOver_28 : decode cX5_untilOver 28 = .ok (.sipush 400, 3) := by decide +kernel
theorem dX5_untilOver_31 : decode cX5_untilOver 31 = .ok (.invokevirtual 93, 3) := by decide +kernel
theorem dX5_untilOver_34 : decode cX5_untilOver 34 = .ok (.istore_n 1, 1) := by decide +kernel
theorem dX5_untilOver_35 : decode cX5_untilOver 35 = .ok (.aload_n 0, 1) := by decide +kernel
theorem dX5_untilOver_36 : decode cX5_untilOver 36 = .ok (.getfield 16, 3) := by decide +kernel
theorem dX5_untilOver_39 : decode cX5_untilOver 39 = .ok (.invokevirtual 62, 3) := by decide +kernel
theorem dX5_untilOver_42 : decode cX5_untilOver 42 = .ok (.ifCond .eq 7, 3) := by decide +kernel
theorem dX5_untilOver_45 : decode cX5_untilOver 45 = .ok (.iload_n 1, 1) := by decide +kernel
theorem dX5_untilOver_46 : decode cX5_untilOver 46 = .ok (.goto 5, 3) := by decide +kernel
theorem dX5_untilOver_49 : decode cX5_untilOver 49 = .ok (.bipush (-6), 2) := by decide +kernel
theorem dX5_untilOver_51 : decode cX5_untilOver 51 = .ok (.ireturn, 1) := by decide +kernel
set_option maxRecDepth 20000 in
theorem ggX5_put_X5_lengthOf : GoodIn wsX5_put wsX5_lengthOf := goodIn_r _ [5, 6, 7, 8] (by decide +kernel) (by decide +kernel)
set_option maxRecDepth 20000 in
theorem gX5_put_X5_lengthOf : GoodIn wsX5_put (va_wsS RX5 202 yX5_lengthOf wsX5_lengthOf) := goodIn_app (goodIn_of _ (by decide +kernel)) ggX5_put_X5_lengthOf
set_option maxRecDepth 20000 in
theorem ggX5_put_X3_append : GoodIn wsX5_put wsX3_append := goodIn_r _ [12, 13, 14, 15, 22, 23] (by decide +kernel) (by decide +kernel)
set_option maxRecDepth 20000 in
theorem gX5_put_X3_append_n206 : GoodIn wsX5_put (wsX3_append) := ggX5_put_X3_append
theorem dX5_put_0 : decode cX5_put 0 = .ok (.lload_n 1, 1) := by decide +kernel
theorem dX5_put_1 : decode cX5_put 1 = .ok (.invokestatic 202, 3) := by decide +kernel
theorem dX5_put_4 : decode cX5_put 4 = .ok (.istore_n 3, 1) := by decide +kernel
theorem dX5_put_5 : decode cX5_put 5 = .ok (.iload_n 3, 1) := by decide +kernel
theorem dX5_put_6 : decode cX5_put 6 = .ok (.ifCond .ne 6, 3) := by decide +kernel
theorem dX5_put_9 : decode cX5_put 9 = .ok (.bipush (-2), 2) := by decide +kernel
theorem dX5_put_11 : decode cX5_put 11 = .ok (.ireturn, 1) := by decide +kernel
theorem dX5_put_12 : decode cX5_put 12 = .ok (.aload_n 0, 1) := by decide +kernel
theorem dX5_put_13 : decode cX5_put 13 = .ok (.getfield 29, 3) := by decide +kernel
theorem dX5_put_16 : decode cX5_put 16 = .ok (.getfield 113, 3) := by decide +kernel
theorem dX5_put_19 : decode cX5_put 19 = .ok (.iload_n 3, 1) := by decide +kernel
theorem dX5_put_20 : decode cX5_put 20 = .ok (.iadd, 1) := by decide +kernel
theorem dX5_put_21 : decode cX5_put 21 = .ok (.bipush 60, 2) := by decide +kernel
theorem dX5_put_23 : decode cX5_put 23 = .ok (.if_icmp .le 6, 3) := by decide +kernel
theorem dX5_put_26 : decode cX5_put 26 = .ok (.bipush (-4), 2) := by decide +kernel
theorem dX5_put_28 : decode cX5_put 28 = .ok (.ireturn, 1) := by decide +kernel
theorem dX5_put_29 : decode cX5_put 29 = .ok (.aload_n 0, 1) := by decide +kernel
theorem dX5_put_30 : decode cX5_put 30 = .ok (.getfield 29, 3) := by decide +kernel
theorem dX5_put_33 : decode cX5_put 33 = .ok (.lload_n 1, 1) := by decide +kernel
theorem dX5_put_34 : decode cX5_put 34 = .ok (.iload_n 3, 1) := by decide +kernel
theorem dX5_put_35 : decode cX5_put 35 = .ok (.invokevirtual 206, 3) := by decide +kernel
theorem dX5_put_38 : decode cX5_put 38 = .ok (.aload_n 0, 1) := by decide +kernel
theorem dX5_put_39 : decode cX5_put 39 = .ok (.getfield 29, 3) := by decide +kernel
theorem dX5_put_42 : decode cX5_put 42 = .ok (.getfield 113, 3) := by decide +kernel
theorem dX5_put_45 : decode cX5_put 45 = .ok (.ireturn, 1) := by decide +kernel
theorem dX5_wipe_0 : decode cX5_wipe 0 = .ok (.aload_n 0, 1) := by decide +kernel
theorem dX5_wipe_1 : decode cX5_wipe 1 = .ok (.getfield 29, 3) := by decide +kernel
theorem dX5_wipe_4 : decode cX5_wipe 4 = .ok (.getfield 113, 3) := by decide +kernel
theorem dX5_wipe_7 : decode cX5_wipe 7 = .ok (.istore_n 1, 1) := by decide +kernel
theorem dX5_wipe_8 : decode cX5_wipe 8 = .ok (.aload_n 0, 1) := by decide +kernel
theorem dX5_wipe_9 : decode cX5_wipe 9 = .ok (.getfield 29, 3) := by decide +kernel
theorem dX5_wipe_12 : decode cX5_wipe 12 = .ok (.iconst 0, 1) := by decide +kernel
theorem dX5_wipe_13 : decode cX5_wipe 13 = .ok (.putfield 113, 3) := by decide +kernel
theorem dX5_wipe_16 : decode cX5_wipe 16 = .ok (.iload_n 1, 1) := by decide +kernel
theorem dX5_wipe_17 : decode cX5_wipe 17 = .ok (.ireturn, 1) := by decide +kernel
set_option maxRecDepth 20000 in
theorem ggX5_fault_X3_faultIndex : GoodIn wsX5_fault wsX3_faultIndex := goodIn_r _ [5, 6, 7, 8, 9, 3, 10, 11, 12, 13, 20, 21] (by decide +kernel) (by decide +kernel)
set_option maxRecDepth 20000 in
theorem gX5_fault_X3_faultIndex_n96 : GoodIn wsX5_fault (wsX3_faultIndex) := ggX5_fault_X3_faultIndex
theorem dX5_fault_0 : decode cX5_fault 0 = .ok (.aload_n 0, 1) := by decide +kernel
theorem dX5_fault_1 : decode cX5_fault 1 = .ok (.getfield 29, 3) := by decide +kernel
theorem dX5_fault_4 : decode cX5_fault 4 = .ok (.invokevirtual 96, 3) := by decide +kernel
theorem dX5_fault_7 : decode cX5_fault 7 = .ok (.ireturn, 1) := by decide +kernel
set_option maxRecDepth 20000 in
theorem ggX5_undo_X2_takeBack : GoodIn wsX5_undo wsX2_takeBack := goodIn_r _ [6, 7, 8, 9, 10, 11, 12, 13, 14, 15, 16, 17, 18, 19, 20, 21, 22, 23, 24, 25, 26, 27, 28, 29, 30, 31, 32, 33, 34, 41, 42, 43, 44, 45, 46, 47, 48, 49, 50, 51, 52, 53, 54, 55] (by decide +kernel) (by decide +kernel)
set_option maxRecDepth 20000 in
theorem gX5_undo_X2_takeBack_n210 : GoodIn wsX5_undo (wsX2_takeBack) := ggX5_undo_X2_takeBack
theorem dX5_undo_0 : decode cX5_undo 0 = .ok (.aload_n 0, 1) := by decide +kernel
theorem dX5_undo_1 : decode cX5_undo 1 = .ok (.getfield 36, 3) := by decide +kernel
theorem dX5_undo_4 : decode cX5_undo 4 = .ok (.aload_n 0, 1) := by decide +kernel
theorem dX5_undo_5 : decode cX5_undo 5 = .ok (.getfield 12, 3) := by decide +kernel
theorem dX5_undo_8 : decode cX5_undo 8 = .ok (.invokevirtual 210, 3) := by decide +kernel
theorem dX5_undo_11 : decode cX5_undo 11 = .ok (.ifCond .ne 6, 3) := by decide +kernel
theorem dX5_undo_14 : decode cX5_undo 14 = .ok (.bipush (-5), 2) := by decide +kernel
theorem dX5_undo_16 : decode cX5_undo 16 = .ok (.ireturn, 1) := by decide +kernel
theorem dX5_undo_17 : decode cX5_undo 17 = .ok (.aload_n 0, 1) := by decide +kernel
theorem dX5_undo_18 : decode cX5_undo 18 = .ok (.getfield 36, 3) := by decide +kernel
theorem dX5_undo_21 : decode cX5_undo 21 = .ok (.getfield 180, 3) := by decide +kernel
theorem dX5_undo_24 : decode cX5_undo 24 = .ok (.ireturn, 1) := by decide +kernel
set_option maxRecDepth 20000 in
theorem ggX5_save_X1_init : GoodIn wsX5_save wsX1_init := goodIn_r _ [7, 8, 9, 10, 11, 12, 13, 14, 15, 16, 17, 18, 19, 20, 21, 22, 23, 24, 25, 26, 27, 28, 29, 30, 31, 32, 33, 54, 55, 56, 57, 58, 47, 48, 49, 50, 51, 52, 53] (by decide +kernel) (by decide +kernel)
set_option maxRecDepth 20000 in
theorem gX5_save_X1_init_n11 : GoodIn wsX5_save (wsX1_init) := ggX5_save_X1_init
set_option maxRecDepth 20000 in
theorem ggX5_save_X1_copyFrom : GoodIn wsX5_save wsX1_copyFrom := goodIn_r _ [36, 14, 16, 22, 23, 24, 25, 17, 18, 19, 20, 21, 37, 13, 38, 39, 29, 40, 30, 31, 32, 33, 47, 48, 49, 50, 51, 52, 53, 54, 55, 56, 57, 58] (by decide +kernel) (by decide +kernel)
set_option maxRecDepth 20000 in
theorem gX5_save_X1_copyFrom_n199 : GoodIn wsX5_save (wsX1_copyFrom) := ggX5_save_X1_copyFrom
theorem dX5_save_0 : decode cX5_save 0 = .ok (.iload_n 1, 1) := by decide +kernel
theorem dX5_save_1 : decode cX5_save 1 = .ok (.ifCond .lt 8, 3) := by decide +kernel
theorem dX5_save_4 : decode cX5_save 4 = .ok (.iload_n 1, 1) := by decide +kernel
theorem dX5_save_5 : decode cX5_save 5 = .ok (.iconst 2, 1) := by decide +kernel
theorem dX5_save_6 : decode cX5_save 6 = .ok (.if_icmp .lt 6, 3) := by decide +kernel
theorem dX5_save_9 : decode cX5_save 9 = .ok (.bipush (-2), 2) := by decide +kernel
theorem dX5_save_11 : decode cX5_save 11 = .ok (.ireturn, 1) := by decide +kernel
theorem dX5_save_12 : decode cX5_save 12 = .ok (.aload_n 0, 1) := by decide +kernel
theorem dX5_save_13 : decode cX5_save 13 = .ok (.getfield 40, 3) := by decide +kernel
theorem dX5_save_16 : decode cX5_save 16 = .ok (.iload_n 1, 1) := by decide +kernel
theorem dX5_save_17 : decode cX5_save 17 = .ok (.aaload, 1) := by decide +kernel
theorem dX5_save_18 : decode cX5_save 18 = .ok (.astore_n 2, 1) := by decide +kernel
theorem dX5_save_19 : decode cX5_save 19 = .ok (.aload_n 2, 1) := by decide +kernel
theorem dX5_save_20 : decode cX5_save 20 = .ok (.ifnonnull 18, 3) := by decide +kernel
theorem dX5_save_23 : decode cX5_save 23 = .ok (.new 9, 3) := by decide +kernel
theorem dX5_save_26 : decode cX5_save 26 = .ok (.dup, 1) := by decide +kernel
theorem dX5_save_27 : decode cX5_save 27 = .ok (.invokespecial 11, 3) := by decide +kernel
theorem dX5_save_30 : decode cX5_save 30 = .ok (.astore_n 2, 1) := by decide +kernel
theorem dX5_save_31 : decode cX5_save 31 = .ok (.aload_n 0, 1) := by decide +kernel
theorem dX5_save_32 : decode cX5_save 32 = .ok (.getfield 40, 3) := by decide +kernel
theorem dX5_save_35 : decode cX5_save 35 = .ok (.iload_n 1, 1) := by decide +kernel
theorem dX5_save_36 : decode cX5_save 36 = .ok (.aload_n 2, 1) := by decide +kernel
theorem dX5_save_37 : decode cX5_save 37 = .ok (.aastore, 1) := by decide +kernel
theorem dX5_save_38 : decode cX5_save 38 = .ok (.aload_n 2, 1) := by decide +kernel
theorem dX5_save_39 : decode cX5_save 39 = .ok (.aload_n 0, 1) := by decide +kernel
theorem dX5_save_40 : decode cX5_save 40 = .ok (.getfield 12, 3) := by decide +kernel
theorem dX5_save_43 : decode cX5_save 43 = .ok (.invokevirtual 199, 3) := by decide +kernel
theorem dX5_save_46 : decode cX5_save 46 = .ok (.aload_n 0, 1) := by decide +kernel
theorem dX5_save_47 : decode cX5_save 47 = .ok (.getfield 12, 3) := by decide +kernel
theorem dX5_save_50 : decode cX5_save 50 = .ok (.getfield 131, 3) := by decide +kernel
theorem dX5_save_53 : decode cX5_save 53 = .ok (.ireturn, 1) := by decide +kernel
set_option maxRecDepth 20000 in
theorem ggX5_restore_X2_remember : GoodIn wsX5_restore wsX2_remember := goodIn_r _ [7, 8, 9, 10, 11, 12, 13, 14, 15, 16, 17, 18, 19, 20, 21, 22, 23, 24, 25, 26, 27, 28, 29, 30, 31, 32, 33, 34, 35, 36, 37, 38, 39, 40, 41, 42, 43, 44, 45, 46, 47, 48, 49, 50, 51, 52, 66, 67, 68, 59, 60, 61, 62, 63, 64, 65, 69, 70, 71, 72, 73] (by decide +kernel) (by decide +kernel)
set_option maxRecDepth 20000 in
theorem gX5_restore_X2_remember_n51 : GoodIn wsX5_restore (wsX2_remember) := ggX5_restore_X2_remember
set_option maxRecDepth 20000 in
theorem ggX5_restore_X1_copyFrom : GoodIn wsX5_restore wsX1_copyFrom := goodIn_r _ [48, 26, 28, 34, 35, 36, 37, 29, 30, 31, 32, 33, 49, 25, 50, 51, 41, 52, 42, 43, 44, 45, 59, 60, 61, 62, 63, 64, 65, 69, 70, 71, 72, 73] (by decide +kernel) (by decide +kernel)
set_option maxRecDepth 20000 in
theorem gX5_restore_X1_copyFrom_n199 : GoodIn wsX5_restore (wsX1_copyFrom) := ggX5_restore_X1_copyFrom
theorem dX5_restore_0 : decode cX5_restore 0 = .ok (.iload_n 1, 1) := by decide +kernel
theorem dX5_restore_1 : decode cX5_restore 1 = .ok (.ifCond .lt 8, 3) := by decide +kernel
theorem dX5_restore_4 : decode cX5_restore 4 = .ok (.iload_n 1, 1) := by decide +kernel
theorem dX5_restore_5 : decode cX5_restore 5 = .ok (.iconst 2, 1) := by decide +kernel
theorem dX5_restore_6 : decode cX5_restore 6 = .ok (.if_icmp .lt 6, 3) := by decide +kernel
theorem dX5_restore_9 : decode cX5_restore 9 = .ok (.bipush (-2), 2) := by decide +kernel
theorem dX5_restore_11 : decode cX5_restore 11 = .ok (.ireturn, 1) := by decide +kernel
theorem dX5_restore_12 : decode cX5_restore 12 = .ok (.aload_n 0, 1) := by decide +kernel
theorem dX5_restore_13 : decode cX5_restore 13 = .ok (.getfield 40, 3) := by decide +kernel
theorem dX5_restore_16 : decode cX5_restore 16 = .ok (.iload_n 1, 1) := by decide +kernel
theorem dX5_restore_17 : decode cX5_restore 17 = .ok (.aaload, 1) := by decide +kernel
theorem dX5_restore_18 : decode cX5_restore 18 = .ok (.astore_n 2, 1) := by decide +kernel
theorem dX5_restore_19 : decode cX5_restore 19 = .ok (.aload_n 2, 1) := by decide +kernel
theorem dX5_restore_20 : decode cX5_restore 20 = .ok (.ifnonnull 6, 3) := by decide +kernel
theorem dX5_restore_23 : decode cX5_restore 23 = .ok (.bipush (-5), 2) := by decide +kernel
theorem dX5_restore_25 : decode cX5_restore 25 = .ok (.ireturn, 1) := by decide +kernel
theorem dX5_restore_26 : decode cX5_restore 26 = .ok (.aload_n 0, 1) := by decide +kernel
theorem dX5_restore_27 : decode cX5_restore 27 = .ok (.getfield 36, 3) := by decide +kernel
theorem dX5_restore_30 : decode cX5_restore 30 = .ok (.aload_n 0, 1) := by decide +kernel
theorem dX5_restore_31 : decode cX5_restore 31 = .ok (.getfield 12, 3) := by decide +kernel
theorem dX5_restore_34 : decode cX5_restore 34 = .ok (.invokevirtual 51, 3) := by decide +kernel
theorem dX5_restore_37 : decode cX5_restore 37 = .ok (.aload_n 0, 1) := by decide +kernel
theorem dX5_restore_38 : decode cX5_restore 38 = .ok (.getfield 12, 3) := by decide +kernel
theorem dX5_restore_41 : decode cX5_restore 41 = .ok (.aload_n 2, 1) := by decide +kernel
theorem dX5_restore_42 : decode cX5_restore 42 = .ok (.invokevirtual 199, 3) := by decide +kernel
theorem dX5_restore_45 : decode cX5_restore 45 = .ok (.aload_n 0, 1) := by decide +kernel
theorem dX5_restore_46 : decode cX5_restore 46 = .ok (.getfield 12, 3) := by decide +kernel
theorem dX5_restore_49 : decode cX5_restore 49 = .ok (.getfield 131, 3) := by decide +kernel
theorem dX5_restore_52 : decode cX5_restore 52 = .ok (.ireturn, 1) := by decide +kernel
theorem dX5_isNoPiece_0 : decode cX5_isNoPiece 0 = .ok (.iload_n 0, 1) := by decide +kernel
theorem dX5_isNoPiece_1 : decode cX5_isNoPiece 1 = .ok (.ifCond .lt 9, 3) := by decide +kernel
theorem dX5_isNoPiece_4 : decode cX5_isNoPiece 4 = .ok (.iload_n 0, 1) := by decide +kernel
theorem dX5_isNoPiece_5 : decode cX5_isNoPiece 5 = .ok (.bipush 12, 2) := by decide +kernel
theorem dX5_isNoPiece_7 : decode cX5_isNoPiece 7 = .ok (.if_icmp .lt 7, 3) := by decide +kernel
theorem dX5_isNoPiece_10 : decode cX5_isNoPiece 10 = .ok (.iconst 1, 1) := by decide +kernel
theorem dX5_isNoPiece_11 : decode cX5_isNoPiece 11 = .ok (.goto 4, 3) := by decide +kernel
theorem dX5_isNoPiece_14 : decode cX5_isNoPiece 14 = .ok (.iconst 0, 1) := by decide +kernel
theorem dX5_isNoPiece_15 : decode cX5_isNoPiece 15 = .ok (.ireturn, 1) := by decide +kernel
theorem dX5_isOnRing_0 : decode cX5_isOnRing 0 = .ok (.iload_n 0, 1) := by decide +kernel
theorem dX5_isOnRing_1 : decode cX5_isOnRing 1 = .ok (.ifCond .lt 13, 3) := by decide +kernel
theorem dX5_isOnRing_4 : decode cX5_isOnRing 4 = .ok (.iload_n 0, 1) := by decide +kernel
theorem dX5_isOnRing_5 : decode cX5_isOnRing 5 = .ok (.bipush 32, 2) := by decide +kernel
theorem dX5_isOnRing_7 : decode cX5_isOnRing 7 = .ok (.if_icmp .ge 7, 3) := by decide +kernel
theorem dX5_isOnRing_10 : decode cX5_isOnRing 10 = .ok (.iconst 1, 1) := by decide +kernel
theorem dX5_isOnRing_11 : decode cX5_isOnRing 11 = .ok (.goto 4, 3) := by decide +kernel
theorem dX5_isOnRing_14 : decode cX5_isOnRing 14 = .ok (.iconst 0, 1) := by decide +kernel
theorem dX5_isOnRing_15 : decode cX5_isOnRing 15 = .ok (.ireturn, 1) := by decide +kernel
theorem dX5_isSafe_0 : decode cX5_isSafe 0 = .ok (.iload_n 0, 1) := by decide +kernel
theorem dX5_isSafe_1 : decode cX5_isSafe 1 = .ok (.ifCond .lt 14, 3) := by decide +kernel
theorem dX5_isSafe_4 : decode cX5_isSafe 4 = .ok (.iload_n 0, 1) := by decide +kernel
theorem dX5_isSafe_5 : decode cX5_isSafe 5 = .ok (.bipush 8, 2) := by decide +kernel
theorem dX5_isSafe_7 : decode cX5_isSafe 7 = .ok (.irem, 1) := by decide +kernel
theorem dX5_isSafe_8 : decode cX5_isSafe 8 = .ok (.ifCond .ne 7, 3) := by decide +kernel
theorem dX5_isSafe_11 : decode cX5_isSafe 11 = .ok (.iconst 1, 1) := by decide +kernel
theorem dX5_isSafe_12 : decode cX5_isSafe 12 = .ok (.goto 4, 3) := by decide +kernel
theorem dX5_isSafe_15 : decode cX5_isSafe 15 = .ok (.iconst 0, 1) := by decide +kernel
theorem dX5_isSafe_16 : decode cX5_isSafe 16 = .ok (.ireturn, 1) := by decide +kernel
theorem dX5_bridgeOn_0 : decode cX5_bridgeOn 0 = .ok (.iload_n 0, 1) := by decide +kernel
theorem dX5_bridgeOn_1 : decode cX5_bridgeOn 1 = .ok (.ifCond .lt 24, 3) := by decide +kernel
theorem dX5_bridgeOn_4 : decode cX5_bridgeOn 4 = .ok (.iload_n 0, 1) := by decide +kernel
theorem dX5_bridgeOn_5 : decode cX5_bridgeOn 5 = .ok (.bipush 32, 2) := by decide +kernel
theorem dX5_bridgeOn_7 : decode cX5_bridgeOn 7 = .ok (.if_icmp .ge 18, 3) := by decide +kernel
theorem dX5_bridgeOn_10 : decode cX5_bridgeOn 10 = .ok (.iload_n 0, 1) := by decide +kernel
theorem dX5_bridgeOn_11 : decode cX5_bridgeOn 11 = .ok (.bipush 8, 2) := by decide +kernel
theorem dX5_bridgeOn_13 : decode cX5_bridgeOn 13 = .ok (.irem, 1) := by decide +kernel
theorem dX5_bridgeOn_14 : decode cX5_bridgeOn 14 = .ok (.iconst 4, 1) := by decide +kernel
theorem dX5_bridgeOn_15 : decode cX5_bridgeOn 15 = .ok (.if_icmp .ne 10, 3) := by decide +kernel
theorem dX5_bridgeOn_18 : decode cX5_bridgeOn 18 = .ok (.iload_n 0, 1) := by decide +kernel
theorem dX5_bridgeOn_19 : decode cX5_bridgeOn 19 = .ok (.bipush 8, 2) := by decide +kernel
theorem dX5_bridgeOn_21 : decode cX5_bridgeOn 21 = .ok (.idiv, 1) := by decide +kernel
theorem dX5_bridgeOn_22 : decode cX5_bridgeOn 22 = .ok (.goto 5, 3) := by decide +kernel
theorem dX5_bridgeOn_25 : decode cX5_bridgeOn 25 = .ok (.bipush (-6), 2) := by decide +kernel
theorem dX5_bridgeOn_27 : decode cX5_bridgeOn 27 = .ok (.ireturn, 1) := by decide +kernel
theorem dX5_ringField_0 : decode cX5_ringField 0 = .ok (.iload_n 1, 1) := by decide +kernel
theorem dX5_ringField_1 : decode cX5_ringField 1 = .ok (.ifCond .lt 21, 3) := by decide +kernel
theorem dX5_ringField_4 : decode cX5_ringField 4 = .ok (.iload_n 1, 1) := by decide +kernel
theorem dX5_ringField_5 : decode cX5_ringField 5 = .ok (.bipush 32, 2) := by decide +kernel
theorem dX5_ringField_7 : decode cX5_ringField 7 = .ok (.if_icmp .ge 15, 3) := by decide +kernel
theorem dX5_ringField_10 : decode cX5_ringField 10 = .ok (.bipush 8, 2) := by decide +kernel
theorem dX5_ringField_12 : decode cX5_ringField 12 = .ok (.iload_n 0, 1) := by decide +kernel
theorem dX5_ringField_13 : decode cX5_ringField 13 = .ok (.imul, 1) := by decide +kernel
theorem dX5_ringField_14 : decode cX5_ringField 14 = .ok (.iload_n 1, 1) := by decide +kernel
theorem dX5_ringField_15 : decode cX5_ringField 15 = .ok (.iadd, 1) := by decide +kernel
theorem dX5_ringField_16 : decode cX5_ringField 16 = .ok (.bipush 32, 2) := by decide +kernel
theorem dX5_ringField_18 : decode cX5_ringField 18 = .ok (.irem, 1) := by decide +kernel
theorem dX5_ringField_19 : decode cX5_ringField 19 = .ok (.goto 5, 3) := by decide +kernel
theorem dX5_ringField_22 : decode cX5_ringField 22 = .ok (.bipush (-6), 2) := by decide +kernel
theorem dX5_ringField_24 : decode cX5_ringField 24 = .ok (.ireturn, 1) := by decide +kernel
theorem dX5_nextX_0 : decode cX5_nextX 0 = .ok (.iload_n 0, 1) := by decide +kernel
theorem dX5_nextX_1 : decode cX5_nextX 1 = .ok (.i2l, 1) := by decide +kernel
theorem dX5_nextX_2 : decode cX5_nextX 2 = .ok (.ldc2_w 214, 3) := by decide +kernel
theorem dX5_nextX_5 : decode cX5_nextX 5 = .ok (.lmul, 1) := by decide +kernel
theorem dX5_nextX_6 : decode cX5_nextX 6 = .ok (.ldc2_w 216, 3) := by decide +kernel
theorem dX5_nextX_9 : decode cX5_nextX 9 = .ok (.ladd, 1) := by decide +kernel
theorem dX5_nextX_10 : decode cX5_nextX 10 = .ok (.ldc2_w 218, 3) := by decide +kernel
theorem dX5_nextX_13 : decode cX5_nextX 13 = .ok (.lrem, 1) := by decide +kernel
theorem dX5_nextX_14 : decode cX5_nextX 14 = .ok (.l2i, 1) := by decide +kernel
theorem dX5_nextX_15 : decode cX5_nextX 15 = .ok (.ireturn, 1) := by decide +kernel
theorem dX5_castOf_0 : decode cX5_castOf 0 = .ok (.iconst 1, 1) := by decide +kernel
theorem dX5_castOf_1 : decode cX5_castOf 1 = .ok (.iload_n 0, 1) := by decide +kernel
theorem dX5_castOf_2 : decode cX5_castOf 2 = .ok (.ldc 220, 2) := by decide +kernel
theorem dX5_castOf_4 : decode cX5_castOf 4 = .ok (.idiv, 1) := by decide +kernel
theorem dX5_castOf_5 : decode cX5_castOf 5 = .ok (.bipush 6, 2) := by decide +kernel
theorem dX5_castOf_7 : decode cX5_castOf 7 = .ok (.irem, 1) := by decide +kernel
theorem dX5_castOf_8 : decode cX5_castOf 8 = .ok (.iadd, 1) := by decide +kernel
theorem dX5_castOf_9 : decode cX5_castOf 9 = .ok (.ireturn, 1) := by decide +kernel
theorem dX5_lengthOf_0 : decode cX5_lengthOf 0 = .ok (.lload_n 0, 1) := by decide +kernel
theorem dX5_lengthOf_1 : decode cX5_lengthOf 1 = .ok (.lstore_n 2, 1) := by decide +kernel
theorem dX5_lengthOf_2 : decode cX5_lengthOf 2 = .ok (.iconst 0, 1) := by decide +kernel
theorem dX5_lengthOf_3 : decode cX5_lengthOf 3 = .ok (.istore 4, 2) := by decide +kernel
theorem dX5_lengthOf_5 : decode cX5_lengthOf 5 = .ok (.iload 4, 2) := by decide +kernel
theorem dX5_lengthOf_7 : decode cX5_lengthOf 7 = .ok (.bipush 8, 2) := by decide +kernel
theorem dX5_lengthOf_9 : decode cX5_lengthOf 9 = .ok (.if_icmp .ge 51, 3) := by decide +kernel
theorem dX5_lengthOf_12 : decode cX5_lengthOf 12 = .ok (.lload_n 2, 1) := by decide +kernel
theorem dX5_lengthOf_13 : decode cX5_lengthOf 13 = .ok (.ldc2_w 221, 3) := by decide +kernel
theorem dX5_lengthOf_16 : decode cX5_lengthOf 16 = .ok (.land, 1) := by decide +kernel
theorem dX5_lengthOf_17 : decode cX5_lengthOf 17 = .ok (.lconst 0, 1) := by decide +kernel
theorem dX5_lengthOf_18 : decode cX5_lengthOf 18 = .ok (.lcmp, 1) := by decide +kernel
theorem dX5_lengthOf_19 : decode cX5_lengthOf 19 = .ok (.ifCond .eq 41, 3) := by decide +kernel
theorem dX5_lengthOf_22 : decode cX5_lengthOf 22 = .ok (.lload_n 2, 1) := by decide +kernel
theorem dX5_lengthOf_23 : decode cX5_lengthOf 23 = .ok (.ldc2_w 221, 3) := by decide +kernel
theorem dX5_lengthOf_26 : decode cX5_lengthOf 26 = .ok (.land, 1) := by decide +kernel
theorem dX5_lengthOf_27 : decode cX5_lengthOf 27 = .ok (.lstore 5, 2) := by decide +kernel
theorem dX5_lengthOf_29 : decode cX5_lengthOf 29 = .ok (.lload 5, 2) := by decide +kernel
theorem dX5_lengthOf_31 : decode cX5_lengthOf 31 = .ok (.ldc2_w 223, 3) := by decide +kernel
theorem dX5_lengthOf_34 : decode cX5_lengthOf 34 = .ok (.lcmp, 1) := by decide +kernel
theorem dX5_lengthOf_35 : decode cX5_lengthOf 35 = .ok (.ifCond .lt 12, 3) := by decide +kernel
theorem dX5_lengthOf_38 : decode cX5_lengthOf 38 = .ok (.lload 5, 2) := by decide +kernel
theorem dX5_lengthOf_40 : decode cX5_lengthOf 40 = .ok (.ldc2_w 225, 3) := by decide +kernel
theorem dX5_lengthOf_43 : decode cX5_lengthOf 43 = .ok (.lcmp, 1) := by decide +kernel
theorem dX5_lengthOf_44 : decode cX5_lengthOf 44 = .ok (.ifCond .le 5, 3) := by decide +kernel
theorem dX5_lengthOf_47 : decode cX5_lengthOf 47 = .ok (.iconst 0, 1) := by decide +kernel
theorem dX5_lengthOf_48 : decode cX5_lengthOf 48 = .ok (.ireturn, 1) := by decide +kernel
theorem dX5_lengthOf_49 : decode cX5_lengthOf 49 = .ok (.lload_n 2, 1) := by decide +kernel
theorem dX5_lengthOf_50 : decode cX5_lengthOf 50 = .ok (.bipush 8, 2) := by decide +kernel
theorem dX5_lengthOf_52 : decode cX5_lengthOf 52 = .ok (.lushr, 1) := by decide +kernel
theorem dX5_lengthOf_53 : decode cX5_lengthOf 53 = .ok (.lstore_n 2, 1) := by decide +kernel
theorem dX5_lengthOf_54 : decode cX5_lengthOf 54 = .ok (.iinc 4 1, 3) := by decide +kernel
theorem dX5_lengthOf_57 : decode cX5_lengthOf 57 = .ok (.goto (-52), 3) := by decide +kernel
theorem dX5_lengthOf_60 : decode cX5_lengthOf 60 = .ok (.lload_n 2, 1) := by decide +kernel
theorem dX5_lengthOf_61 : decode cX5_lengthOf 61 = .ok (.lconst 0, 1) := by decide +kernel
theorem dX5_lengthOf_62 : decode cX5_lengthOf 62 = .ok (.lcmp, 1) := by decide +kernel
theorem dX5_lengthOf_63 : decode cX5_lengthOf 63 = .ok (.ifCond .ne 8, 3) := by decide +kernel
theorem dX5_lengthOf_66 : decode cX5_lengthOf 66 = .ok (.iload 4, 2) := by decide +kernel
theorem dX5_lengthOf_68 : decode cX5_lengthOf 68 = .ok (.goto 4, 3) := by decide +kernel
theorem dX5_lengthOf_71 : decode cX5_lengthOf 71 = .ok (.iconst 0, 1) := by decide +kernel
theorem dX5_lengthOf_72 : decode cX5_lengthOf 72 = .ok (.ireturn, 1) := by decide +kernel
theorem dX6_init_0 : decode cX6_init 0 = .ok (.aload_n 0, 1) := by decide +kernel
theorem dX6_init_1 : decode cX6_init 1 = .ok (.invokespecial 1, 3) := by decide +kernel
theorem dX6_init_4 : decode cX6_init 4 = .ok (.aload_n 0, 1) := by decide +kernel
theorem dX6_init_5 : decode cX6_init 5 = .ok (.bipush 46, 2) := by decide +kernel
theorem dX6_init_7 : decode cX6_init 7 = .ok (.newarray .int, 2) := by decide +kernel
theorem dX6_init_9 : decode cX6_init 9 = .ok (.putfield 7, 3) := by decide +kernel
theorem dX6_init_12 : decode cX6_init 12 = .ok (.aload_n 0, 1) := by decide +kernel
theorem dX6_init_13 : decode cX6_init 13 = .ok (.bipush 46, 2) := by decide +kernel
theorem dX6_init_15 : decode cX6_init 15 = .ok (.newarray .int, 2) := by decide +kernel
theorem dX6_init_17 : decode cX6_init 17 = .ok (.putfield 13, 3) := by decide +kernel
theorem dX6_init_20 : decode cX6_init 20 = .ok (.aload_n 0, 1) := by decide +kernel
theorem dX6_init_21 : decode cX6_init 21 = .ok (.sipush 276, 3) := by decide +kernel
theorem dX6_init_24 : decode cX6_init 24 = .ok (.newarray .int, 2) := by decide +kernel
theorem dX6_init_26 : decode cX6_init 26 = .ok (.putfield 16, 3) := by decide +kernel
theorem dX6_init_29 : decode cX6_init 29 = .ok (.aload_n 0, 1) := by decide +kernel
theorem dX6_init_30 : decode cX6_init 30 = .ok (.bipush 92, 2) := by decide +kernel
theorem dX6_init_32 : decode cX6_init 32 = .ok (.newarray .int, 2) := by decide +kernel
theorem dX6_init_34 : decode cX6_init 34 = .ok (.putfield 19, 3) := by decide +kernel
theorem dX6_init_37 : decode cX6_init 37 = .ok (.aload_n 0, 1) := by decide +kernel
theorem dX6_init_38 : decode cX6_init 38 = .ok (.iconst 2, 1) := by decide +kernel
theorem dX6_init_39 : decode cX6_init 39 = .ok (.newarray .boolean, 2) := by decide +kernel
theorem dX6_init_41 : decode cX6_init 41 = .ok (.putfield 22, 3) := by decide +kernel
theorem dX6_init_44 : decode cX6_init 44 = .ok (.aload_n 0, 1) := by decide +kernel
theorem dX6_init_45 : decode cX6_init 45 = .ok (.bipush 60, 2) := by decide +kernel
theorem dX6_init_47 : decode cX6_init 47 = .ok (.newarray .int, 2) := by decide +kernel
theorem dX6_init_49 : decode cX6_init 49 = .ok (.putfield 26, 3) := by decide +kernel
theorem dX6_init_52 : decode cX6_init 52 = .ok (.aload_n 0, 1) := by decide +kernel
theorem dX6_init_53 : decode cX6_init 53 = .ok (.bipush 36, 2) := by decide +kernel
theorem dX6_init_55 : decode cX6_init 55 = .ok (.newarray .int, 2) := by decide +kernel
theorem dX6_init_57 : decode cX6_init 57 = .ok (.putfield 29, 3) := by decide +kernel
theorem dX6_init_60 : decode cX6_init 60 = .ok (.iconst 0, 1) := by decide +kernel
theorem dX6_init_61 : decode cX6_init 61 = .ok (.istore_n 1, 1) := by decide +kernel
theorem dX6_init_62 : decode cX6_init 62 = .ok (.iload_n 1, 1) := by decide +kernel
theorem dX6_init_63 : decode cX6_init 63 = .ok (.bipush 12, 2) := by decide +kernel
theorem dX6_init_65 : decode cX6_init 65 = .ok (.if_icmp .ge 17, 3) := by decide +kernel
theorem dX6_init_68 : decode cX6_init 68 = .ok (.aload_n 0, 1) := by decide +kernel
theorem dX6_init_69 : decode cX6_init 69 = .ok (.getfield 7, 3) := by decide +kernel
theorem dX6_init_72 : decode cX6_init 72 = .ok (.iload_n 1, 1) := by decide +kernel
theorem dX6_init_73 : decode cX6_init 73 = .ok (.bipush (-6), 2) := by decide +kernel
theorem dX6_init_75 : decode cX6_init 75 = .ok (.iastore, 1) := by decide +kernel
theorem dX6_init_76 : decode cX6_init 76 = .ok (.iinc 1 1, 3) := by decide +kernel
theorem dX6_init_79 : decode cX6_init 79 = .ok (.goto (-17), 3) := by decide +kernel
theorem dX6_init_82 : decode cX6_init 82 = .ok (.aload_n 0, 1) := by decide +kernel
theorem dX6_init_83 : decode cX6_init 83 = .ok (.getfield 7, 3) := by decide +kernel
theorem dX6_init_86 : decode cX6_init 86 = .ok (.bipush 36, 2) := by decide +kernel
theorem dX6_init_88 : decode cX6_init 88 = .ok (.iconst 5, 1) := by decide +kernel
theorem dX6_init_89 : decode cX6_init 89 = .ok (.iastore, 1) := by decide +kernel
theorem dX6_init_90 : decode cX6_init 90 = .ok (.aload_n 0, 1) := by decide +kernel
theorem dX6_init_91 : decode cX6_init 91 = .ok (.getfield 7, 3) := by decide +kernel
theorem dX6_init_94 : decode cX6_init 94 = .ok (.bipush 38, 2) := by decide +kernel
theorem dX6_init_96 : decode cX6_init 96 = .ok (.iconst 1, 1) := by decide +kernel
theorem dX6_init_97 : decode cX6_init 97 = .ok (.iastore, 1) := by decide +kernel
theorem dX6_init_98 : decode cX6_init 98 = .ok (.aload_n 0, 1) := by decide +kernel
theorem dX6_init_99 : decode cX6_init 99 = .ok (.getfield 7, 3) := by decide +kernel
theorem dX6_init_102 : decode cX6_init 102 = .ok (.bipush 39, 2) := by decide +kernel
theorem dX6_init_104 : decode cX6_init 104 = .ok (.iconst 1, 1) := by decide +kernel
theorem dX6_init_105 : decode cX6_init 105 = .ok (.iastore, 1) := by decide +kernel
theorem dX6_init_106 : decode cX6_init 106 = .ok (.aload_n 0, 1) := by decide +kernel
theorem dX6_init_107 : decode cX6_init 107 = .ok (.getfield 7, 3) := by decide +kernel
theorem dX6_init_110 : decode cX6_init 110 = .ok (.bipush 41, 2) := by decide +kernel
theorem dX6_init_112 : decode cX6_init 112 = .ok (.bipush (-6), 2) := by decide +kernel
theorem dX6_init_114 : decode cX6_init 114 = .ok (.iastore, 1) := by decide +kernel
theorem dX6_init_115 : decode cX6_init 115 = .ok (.aload_n 0, 1) := by decide +kernel
theorem dX6_init_116 : decode cX6_init 116 = .ok (.getfield 7, 3) := by decide +kernel
theorem dX6_init_119 : decode cX6_init 119 = .ok (.bipush 42, 2) := by decide +kernel
theorem dX6_init_121 : decode cX6_init 121 = .ok (.iconst 1, 1) := by decide +kernel
theorem dX6_init_122 : decode cX6_init 122 = .ok (.iastore, 1) := by decide +kernel
theorem dX6_init_123 : decode cX6_init 123 = .ok (.return_, 1) := by decide +kernel
theorem dX6_in_0 : decode cX6_in 0 = .ok (.iload_n 0, 1) := by decide +kernel
theorem dX6_in_1 : decode cX6_in 1 = .ok (.iload_n 1, 1) := by decide +kernel
theorem dX6_in_2 : decode cX6_in 2 = .ok (.if_icmp .lt 12, 3) := by decide +kernel
theorem dX6_in_5 : decode cX6_in 5 = .ok (.iload_n 0, 1) := by decide +kernel
theorem dX6_in_6 : decode cX6_in 6 = .ok (.iload_n 2, 1) := by decide +kernel
theorem dX6_in_7 : decode cX6_in 7 = .ok (.if_icmp .gt 7, 3) := by decide +kernel
theorem dX6_in_10 : decode cX6_in 10 = .ok (.iconst 1, 1) := by decide +kernel
theorem dX6_in_11 : decode cX6_in 11 = .ok (.goto 4, 3) := by decide +kernel
theorem dX6_in_14 : decode cX6_in 14 = .ok (.iconst 0, 1) := by decide +kernel
theorem dX6_in_15 : decode cX6_in 15 = .ok (.ireturn, 1) := by decide +kernel
set_option maxRecDepth 20000 in
theorem ggX6_isPiece_X6_in : GoodIn wsX6_isPiece wsX6_in := goodIn_r _ [4] (by decide +kernel) (by decide +kernel)
set_option maxRecDepth 20000 in
theorem gX6_isPiece_X6_in : GoodIn wsX6_isPiece (va_wsS RX6 32 yX6_in wsX6_in) := goodIn_app (goodIn_of _ (by decide +kernel)) ggX6_isPiece_X6_in
theorem dX6_isPiece_0 : decode cX6_isPiece 0 = .ok (.iload_n 0, 1) := by decide +kernel
theorem dX6_isPiece_1 : decode cX6_isPiece 1 = .ok (.iconst 0, 1) := by decide +kernel
theorem dX6_isPiece_2 : decode cX6_isPiece 2 = .ok (.bipush 11, 2) := by decide +kernel
theorem dX6_isPiece_4 : decode cX6_isPiece 4 = .ok (.invokestatic 32, 3) := by decide +kernel
theorem dX6_isPiece_7 : decode cX6_isPiece 7 = .ok (.ireturn, 1) := by decide +kernel
set_option maxRecDepth 20000 in
theorem ggX6_fieldAt_X6_in : GoodIn wsX6_fieldAt wsX6_in := goodIn_r _ [4] (by decide +kernel) (by decide +kernel)
set_option maxRecDepth 20000 in
theorem gX6_fieldAt_X6_in : GoodIn wsX6_fieldAt (va_wsS RX6 32 yX6_in wsX6_in) := goodIn_app (goodIn_of _ (by decide +kernel)) ggX6_fieldAt_X6_in
theorem dX6_fieldAt_0 : decode cX6_fieldAt 0 = .ok (.iload_n 1, 1) := by decide +kernel
theorem dX6_fieldAt_1 : decode cX6_fieldAt 1 = .ok (.iconst 0, 1) := by decide +kernel
theorem dX6_fieldAt_2 : decode cX6_fieldAt 2 = .ok (.bipush 31, 2) := by decide +kernel
theorem dX6_fieldAt_4 : decode cX6_fieldAt 4 = .ok (.invokestatic 32, 3) := by decide +kernel
theorem dX6_fieldAt_7 : decode cX6_fieldAt 7 = .ok (.ifCond .eq 15, 3) := by decide +kernel
theorem dX6_fieldAt_10 : decode cX6_fieldAt 10 = .ok (.bipush 8, 2) := by decide +kernel
theorem dX6_fieldAt_12 : decode cX6_fieldAt 12 = .ok (.iload_n 0, 1) := by decide +kernel
theorem dX6_fieldAt_13 : decode cX6_fieldAt 13 = .ok (.imul, 1) := by decide +kernel
theorem dX6_fieldAt_14 : decode cX6_fieldAt 14 = .ok (.iload_n 1, 1) := by decide +kernel
theorem dX6_fieldAt_15 : decode cX6_fieldAt 15 = .ok (.iadd, 1) := by decide +kernel
theorem dX6_fieldAt_16 : decode cX6_fieldAt 16 = .ok (.bipush 32, 2) := by decide +kernel
theorem dX6_fieldAt_18 : decode cX6_fieldAt 18 = .ok (.irem, 1) := by decide +kernel
theorem dX6_fieldAt_19 : decode cX6_fieldAt 19 = .ok (.goto 5, 3) := by decide +kernel
theorem dX6_fieldAt_22 : decode cX6_fieldAt 22 = .ok (.bipush (-6), 2) := by decide +kernel
theorem dX6_fieldAt_24 : decode cX6_fieldAt 24 = .ok (.ireturn, 1) := by decide +kernel
set_option maxRecDepth 20000 in
theorem ggX6_fieldOf_X6_fieldAt : GoodIn wsX6_fieldOf wsX6_fieldAt := goodIn_r _ [5, 6, 7, 4, 8] (by decide +kernel) (by decide +kernel)
set_option maxRecDepth 20000 in
theorem gX6_fieldOf_X6_fieldAt : GoodIn wsX6_fieldOf (va_wsS RX6 36 yX6_fieldAt wsX6_fieldAt) := goodIn_app (goodIn_of _ (by decide +kernel)) ggX6_fieldOf_X6_fieldAt
theorem dX6_fieldOf_0 : decode cX6_fieldOf 0 = .ok (.iload_n 1, 1) := by decide +kernel
theorem dX6_fieldOf_1 : decode cX6_fieldOf 1 = .ok (.iconst 3, 1) := by decide +kernel
theorem dX6_fieldOf_2 : decode cX6_fieldOf 2 = .ok (.idiv, 1) := by decide +kernel
theorem dX6_fieldOf_3 : decode cX6_fieldOf 3 = .ok (.aload_n 0, 1) := by decide +kernel
theorem dX6_fieldOf_4 : decode cX6_fieldOf 4 = .ok (.getfield 7, 3) := by decide +kernel
theorem dX6_fieldOf_7 : decode cX6_fieldOf 7 = .ok (.iload_n 1, 1) := by decide +kernel
theorem dX6_fieldOf_8 : decode cX6_fieldOf 8 = .ok (.iaload, 1) := by decide +kernel
theorem dX6_fieldOf_9 : decode cX6_fieldOf 9 = .ok (.invokestatic 36, 3) := by decide +kernel
theorem dX6_fieldOf_12 : decode cX6_fieldOf 12 = .ok (.ireturn, 1) := by decide +kernel
theorem dX6_isSafe_0 : decode cX6_isSafe 0 = .ok (.iload_n 0, 1) := by decide +kernel
theorem dX6_isSafe_1 : decode cX6_isSafe 1 = .ok (.bipush 8, 2) := by decide +kernel
theorem dX6_isSafe_3 : decode cX6_isSafe 3 = .ok (.irem, 1) := by decide +kernel
theorem dX6_isSafe_4 : decode cX6_isSafe 4 = .ok (.ifCond .ne 7, 3) := by decide +kernel
theorem dX6_isSafe_7 : decode cX6_isSafe 7 = .ok (.iconst 1, 1) := by decide +kernel
theorem dX6_isSafe_8 : decode cX6_isSafe 8 = .ok (.goto 4, 3) := by decide +kernel
theorem dX6_isSafe_11 : decode cX6_isSafe 11 = .ok (.iconst 0, 1) := by decide +kernel
theorem dX6_isSafe_12 : decode cX6_isSafe 12 = .ok (.ireturn, 1) := by decide +kernel
theorem dX6_isBridge_0 : decode cX6_isBridge 0 = .ok (.iload_n 0, 1) := by decide +kernel
theorem dX6_isBridge_1 : decode cX6_isBridge 1 = .ok (.bipush 8, 2) := by decide +kernel
theorem dX6_isBridge_3 : decode cX6_isBridge 3 = .ok (.irem, 1) := by decide +kernel
theorem dX6_isBridge_4 : decode cX6_isBridge 4 = .ok (.iconst 4, 1) := by decide +kernel
theorem dX6_isBridge_5 : decode cX6_isBridge 5 = .ok (.if_icmp .ne 7, 3) := by decide +kernel
theorem dX6_isBridge_8 : decode cX6_isBridge 8 = .ok (.iconst 1, 1) := by decide +kernel
theorem dX6_isBridge_9 : decode cX6_isBridge 9 = .ok (.goto 4, 3) := by decide +kernel
theorem dX6_isBridge_12 : decode cX6_isBridge 12 = .ok (.iconst 0, 1) := by decide +kernel
theorem dX6_isBridge_13 : decode cX6_isBridge 13 = .ok (.ireturn, 1) := by decide +kernel
set_option maxRecDepth 20000 in
theorem ggX6_isFallen_X6_isBridge : GoodIn wsX6_isFallen wsX6_isBridge := goodIn_r _ [5] (by decide +kernel) (by decide +kernel)
set_option maxRecDepth 20000 in
theorem gX6_isFallen_X6_isBridge : GoodIn wsX6_isFallen (va_wsS RX6 40 yX6_isBridge wsX6_isBridge) := goodIn_app (goodIn_of _ (by decide +kernel)) ggX6_isFallen_X6_isBridge
theorem dX6_isFallen_0 : decode cX6_isFallen 0 = .ok (.iload_n 1, 1) := by decide +kernel
theorem dX6_isFallen_1 : decode cX6_isFallen 1 = .ok (.ifCond .lt 30, 3) := by decide +kernel
theorem dX6_isFallen_4 : decode cX6_isFallen 4 = .ok (.iload_n 1, 1) := by decide +kernel
theorem dX6_isFallen_5 : decode cX6_isFallen 5 = .ok (.invokestatic 40, 3) := by decide +kernel
theorem dX6_isFallen_8 : decode cX6_isFallen 8 = .ok (.ifCond .eq 23, 3) := by decide +kernel
theorem dX6_isFallen_11 : decode cX6_isFallen 11 = .ok (.aload_n 0, 1) := by decide +kernel
theorem dX6_isFallen_12 : decode cX6_isFallen 12 = .ok (.getfield 7, 3) := by decide +kernel
theorem dX6_isFallen_15 : decode cX6_isFallen 15 = .ok (.bipush 24, 2) := by decide +kernel
theorem dX6_isFallen_17 : decode cX6_isFallen 17 = .ok (.iload_n 1, 1) := by decide +kernel
theorem dX6_isFallen_18 : decode cX6_isFallen 18 = .ok (.bipush 8, 2) := by decide +kernel
theorem dX6_isFallen_20 : decode cX6_isFallen 20 = .ok (.idiv, 1) := by decide +kernel
theorem dX6_isFallen_21 : decode cX6_isFallen 21 = .ok (.iadd, 1) := by decide +kernel
theorem dX6_isFallen_22 : decode cX6_isFallen 22 = .ok (.iaload, 1) := by decide +kernel
theorem dX6_isFallen_23 : decode cX6_isFallen 23 = .ok (.iconst 1, 1) := by decide +kernel
theorem dX6_isFallen_24 : decode cX6_isFallen 24 = .ok (.if_icmp .ne 7, 3) := by decide +kernel
theorem dX6_isFallen_27 : decode cX6_isFallen 27 = .ok (.iconst 1, 1) := by decide +kernel
theorem dX6_isFallen_28 : decode cX6_isFallen 28 = .ok (.goto 4, 3) := by decide +kernel
theorem dX6_isFallen_31 : decode cX6_isFallen 31 = .ok (.iconst 0, 1) := by decide +kernel
theorem dX6_isFallen_32 : decode cX6_isFallen 32 = .ok (.ireturn, 1) := by decide +kernel
set_option maxRecDepth 20000 in
theorem ggX6_piecesOn_X6_fieldOf : GoodIn wsX6_piecesOn wsX6_fieldOf := goodIn_r _ [5, 6, 7, 8, 4, 9, 10, 11, 12, 13, 14, 15, 16, 17, 18, 19, 20, 21, 22] (by decide +kernel) (by decide +kernel)
set_option maxRecDepth 20000 in
theorem gX6_piecesOn_X6_fieldOf : GoodIn wsX6_piecesOn (wsV RX6 44 RX6 yX6_fieldOf wsX6_fieldOf) := goodIn_app (goodIn_of _ (by decide +kernel)) ggX6_piecesOn_X6_fieldOf
theorem dX6_piecesOn_0 : decode cX6_piecesOn 0 = .ok (.iconst 0, 1) := by decide +kernel
theorem dX6_piecesOn_1 : decode cX6_piecesOn 1 = .ok (.istore_n 3, 1) := by decide +kernel
theorem dX6_piecesOn_2 : decode cX6_piecesOn 2 = .ok (.iconst 0, 1) := by decide +kernel
theorem dX6_piecesOn_3 : decode cX6_piecesOn 3 = .ok (.istore 4, 2) := by decide +kernel
theorem dX6_piecesOn_5 : decode cX6_piecesOn 5 = .ok (.iload 4, 2) := by decide +kernel
theorem dX6_piecesOn_7 : decode cX6_piecesOn 7 = .ok (.iconst 3, 1) := by decide +kernel
theorem dX6_piecesOn_8 : decode cX6_piecesOn 8 = .ok (.if_icmp .ge 35, 3) := by decide +kernel
theorem dX6_piecesOn_11 : decode cX6_piecesOn 11 = .ok (.iload_n 3, 1) := by decide +kernel
theorem dX6_piecesOn_12 : decode cX6_piecesOn 12 = .ok (.iload_n 2, 1) := by decide +kernel
theorem dX6_piecesOn_13 : decode cX6_piecesOn 13 = .ok (.ifCond .lt 21, 3) := by decide +kernel
theorem dX6_piecesOn_16 : decode cX6_piecesOn 16 = .ok (.aload_n 0, 1) := by decide +kernel
theorem dX6_piecesOn_17 : decode cX6_piecesOn 17 = .ok (.iconst 3, 1) := by decide +kernel
theorem dX6_piecesOn_18 : decode cX6_piecesOn 18 = .ok (.iload_n 1, 1) := by decide +kernel
theorem dX6_piecesOn_19 : decode cX6_piecesOn 19 = .ok (.imul, 1) := by decide +kernel
theorem dX6_piecesOn_20 : decode cX6_piecesOn 20 = .ok (.iload 4, 2) := by decide +kernel
theorem dX6_piecesOn_22 : decode cX6_piecesOn 22 = .ok (.iadd, 1) := by decide +kernel
theorem dX6_piecesOn_23 : decode cX6_piecesOn 23 = .ok (.invokevirtual 44, 3) := by decide +kernel
theorem dX6_piecesOn_26 : decode cX6_piecesOn 26 = .ok (.iload_n 2, 1) := by decide +kernel
theorem dX6_piecesOn_27 : decode cX6_piecesOn 27 = .ok (.if_icmp .ne 7, 3) := by decide +kernel
theorem dX6_piecesOn_30 : decode cX6_piecesOn 30 = .ok (.iconst 1, 1) := by decide +kernel
theorem dX6_piecesOn_31 : decode cX6_piecesOn 31 = .ok (.goto 4, 3) := by decide +kernel
theorem dX6_piecesOn_34 : decode cX6_piecesOn 34 = .ok (.iconst 0, 1) := by decide +kernel
theorem dX6_piecesOn_35 : decode cX6_piecesOn 35 = .ok (.iadd, 1) := by decide +kernel
theorem dX6_piecesOn_36 : decode cX6_piecesOn 36 = .ok (.istore_n 3, 1) := by decide +kernel
theorem dX6_piecesOn_37 : decode cX6_piecesOn 37 = .ok (.iinc 4 1, 3) := by decide +kernel
theorem dX6_piecesOn_40 : decode cX6_piecesOn 40 = .ok (.goto (-35), 3) := by decide +kernel
theorem dX6_piecesOn_43 : decode cX6_piecesOn 43 = .ok (.iload_n 3, 1) := by decide +kernel
theorem dX6_piecesOn_44 : decode cX6_piecesOn 44 = .ok (.ireturn, 1) := by decide +kernel
set_option maxRecDepth 20000 in
theorem ggX6_allOn_X6_piecesOn : GoodIn wsX6_allOn wsX6_piecesOn := goodIn_r _ [5, 6, 7, 8, 4, 9, 10, 11, 12, 13, 14, 15, 16, 17, 18, 19, 20, 21, 22, 23, 24, 25, 26] (by decide +kernel) (by decide +kernel)
set_option maxRecDepth 20000 in
theorem gX6_allOn_X6_piecesOn : GoodIn wsX6_allOn (wsV RX6 48 RX6 yX6_piecesOn wsX6_piecesOn) := goodIn_app (goodIn_of _ (by decide +kernel)) ggX6_allOn_X6_piecesOn
theorem dX6_allOn_0 : decode cX6_allOn 0 = .ok (.iconst 0, 1) := by decide +kernel
theorem dX6_allOn_1 : decode cX6_allOn 1 = .ok (.istore_n 2, 1) := by decide +kernel
theorem dX6_allOn_2 : decode cX6_allOn 2 = .ok (.iconst 0, 1) := by decide +kernel
theorem dX6_allOn_3 : decode cX6_allOn 3 = .ok (.istore_n 3, 1) := by decide +kernel
theorem dX6_allOn_4 : decode cX6_allOn 4 = .ok (.iload_n 3, 1) := by decide +kernel
theorem dX6_allOn_5 : decode cX6_allOn 5 = .ok (.iconst 4, 1) := by decide +kernel
theorem dX6_allOn_6 : decode cX6_allOn 6 = .ok (.if_icmp .ge 18, 3) := by decide +kernel
theorem dX6_allOn_9 : decode cX6_allOn 9 = .ok (.iload_n 2, 1) := by decide +kernel
theorem dX6_allOn_10 : decode cX6_allOn 10 = .ok (.aload_n 0, 1) := by decide +kernel
theorem dX6_allOn_11 : decode cX6_allOn 11 = .ok (.iload_n 3, 1) := by decide +kernel
theorem dX6_allOn_12 : decode cX6_allOn 12 = .ok (.iload_n 1, 1) := by decide +kernel
theorem dX6_allOn_13 : decode cX6_allOn 13 = .ok (.invokevirtual 48, 3) := by decide +kernel
theorem dX6_allOn_16 : decode cX6_allOn 16 = .ok (.iadd, 1) := by decide +kernel
theorem dX6_allOn_17 : decode cX6_allOn 17 = .ok (.istore_n 2, 1) := by decide +kernel
theorem dX6_allOn_18 : decode cX6_allOn 18 = .ok (.iinc 3 1, 3) := by decide +kernel
theorem dX6_allOn_21 : decode cX6_allOn 21 = .ok (.goto (-17), 3) := by decide +kernel
theorem dX6_allOn_24 : decode cX6_allOn 24 = .ok (.iload_n 2, 1) := by decide +kernel
theorem dX6_allOn_25 : decode cX6_allOn 25 = .ok (.ireturn, 1) := by decide +kernel
set_option maxRecDepth 20000 in
theorem ggX6_isPairOn_X6_piecesOn : GoodIn wsX6_isPairOn wsX6_piecesOn := goodIn_r _ [5, 6, 7, 8, 4, 9, 10, 11, 12, 13, 14, 15, 16, 17, 18, 19, 20, 21, 22, 23, 24, 25, 26] (by decide +kernel) (by decide +kernel)
set_option maxRecDepth 20000 in
theorem gX6_isPairOn_X6_piecesOn : GoodIn wsX6_isPairOn (wsV RX6 48 RX6 yX6_piecesOn wsX6_piecesOn) := goodIn_app (goodIn_of _ (by decide +kernel)) ggX6_isPairOn_X6_piecesOn
theorem dX6_isPairOn_0 : decode cX6_isPairOn 0 = .ok (.iconst 0, 1) := by decide +kernel
theorem dX6_isPairOn_1 : decode cX6_isPairOn 1 = .ok (.istore_n 2, 1) := by decide +kernel
theorem dX6_isPairOn_2 : decode cX6_isPairOn 2 = .ok (.iconst 0, 1) := by decide +kernel
theorem dX6_isPairOn_3 : decode cX6_isPairOn 3 = .ok (.istore_n 3, 1) := by decide +kernel
theorem dX6_isPairOn_4 : decode cX6_isPairOn 4 = .ok (.iload_n 3, 1) := by decide +kernel
theorem dX6_isPairOn_5 : decode cX6_isPairOn 5 = .ok (.iconst 4, 1) := by decide +kernel
theorem dX6_isPairOn_6 : decode cX6_isPairOn 6 = .ok (.if_icmp .ge 29, 3) := by decide +kernel
theorem dX6_isPairOn_9 : decode cX6_isPairOn 9 = .ok (.iload_n 2, 1) := by decide +kernel
theorem dX6_isPairOn_10 : decode cX6_isPairOn 10 = .ok (.ifCond .ne 13, 3) := by decide +kernel
theorem dX6_isPairOn_13 : decode cX6_isPairOn 13 = .ok (.aload_n 0, 1) := by decide +kernel
theorem dX6_isPairOn_14 : decode cX6_isPairOn 14 = .ok (.iload_n 3, 1) := by decide +kernel
theorem dX6_isPairOn_15 : decode cX6_isPairOn 15 = .ok (.iload_n 1, 1) := by decide +kernel
theorem dX6_isPairOn_16 : decode cX6_isPairOn 16 = .ok (.invokevirtual 48, 3) := by decide +kernel
theorem dX6_isPairOn_19 : decode cX6_isPairOn 19 = .ok (.iconst 1, 1) := by decide +kernel
theorem dX6_isPairOn_20 : decode cX6_isPairOn 20 = .ok (.if_icmp .le 7, 3) := by decide +kernel
theorem dX6_isPairOn_23 : decode cX6_isPairOn 23 = .ok (.iconst 1, 1) := by decide +kernel
theorem dX6_isPairOn_24 : decode cX6_isPairOn 24 = .ok (.goto 4, 3) := by decide +kernel
theorem dX6_isPairOn_27 : decode cX6_isPairOn 27 = .ok (.iconst 0, 1) := by decide +kernel
theorem dX6_isPairOn_28 : decode cX6_isPairOn 28 = .ok (.istore_n 2, 1) := by decide +kernel
theorem dX6_isPairOn_29 : decode cX6_isPairOn 29 = .ok (.iinc 3 1, 3) := by decide +kernel
theorem dX6_isPairOn_32 : decode cX6_isPairOn 32 = .ok (.goto (-28), 3) := by decide +kernel
theorem dX6_isPairOn_35 : decode cX6_isPairOn 35 = .ok (.iload_n 2, 1) := by decide +kernel
theorem dX6_isPairOn_36 : decode cX6_isPairOn 36 = .ok (.ireturn, 1) := by decide +kernel
theorem dX6_atHome_0 : decode cX6_atHome 0 = .ok (.iconst 0, 1) := by decide +kernel
theorem dX6_atHome_1 : decode cX6_atHome 1 = .ok (.istore_n 2, 1) := by decide +kernel
theorem dX6_atHome_2 : decode cX6_atHome 2 = .ok (.iconst 0, 1) := by decide +kernel
theorem dX6_atHome_3 : decode cX6_atHome 3 = .ok (.istore_n 3, 1) := by decide +kernel
theorem dX6_atHome_4 : decode cX6_atHome 4 = .ok (.iload_n 3, 1) := by decide +kernel
theorem dX6_atHome_5 : decode cX6_atHome 5 = .ok (.iconst 3, 1) := by decide +kernel
theorem dX6_atHome_6 : decode cX6_atHome 6 = .ok (.if_icmp .ge 32, 3) := by decide +kernel
theorem dX6_atHome_9 : decode cX6_atHome 9 = .ok (.iload_n 2, 1) := by decide +kernel
theorem dX6_atHome_10 : decode cX6_atHome 10 = .ok (.aload_n 0, 1) := by decide +kernel
theorem dX6_atHome_11 : decode cX6_atHome 11 = .ok (.getfield 7, 3) := by decide +kernel
theorem dX6_atHome_14 : decode cX6_atHome 14 = .ok (.iconst 3, 1) := by decide +kernel
theorem dX6_atHome_15 : decode cX6_atHome 15 = .ok (.iload_n 1, 1) := by decide +kernel
theorem dX6_atHome_16 : decode cX6_atHome 16 = .ok (.imul, 1) := by decide +kernel
theorem dX6_atHome_17 : decode cX6_atHome 17 = .ok (.iload_n 3, 1) := by decide +kernel
theorem dX6_atHome_18 : decode cX6_atHome 18 = .ok (.iadd, 1) := by decide +kernel
theorem dX6_atHome_19 : decode cX6_atHome 19 = .ok (.iaload, 1) := by decide +kernel
theorem dX6_atHome_20 : decode cX6_atHome 20 = .ok (.bipush 35, 2) := by decide +kernel
theorem dX6_atHome_22 : decode cX6_atHome 22 = .ok (.if_icmp .ne 7, 3) := by decide +kernel
theorem dX6_atHome_25 : decode cX6_atHome 25 = .ok (.iconst 1, 1) := by decide +kernel
theorem dX6_atHome_26 : decode cX6_atHome 26 = .ok (.goto 4, 3) := by decide +kernel
theorem dX6_atHome_29 : decode cX6_atHome 29 = .ok (.iconst 0, 1) := by decide +kernel
theorem dX6_atHome_30 : decode cX6_atHome 30 = .ok (.iadd, 1) := by decide +kernel
theorem dX6_atHome_31 : decode cX6_atHome 31 = .ok (.istore_n 2, 1) := by decide +kernel
theorem dX6_atHome_32 : decode cX6_atHome 32 = .ok (.iinc 3 1, 3) := by decide +kernel
theorem dX6_atHome_35 : decode cX6_atHome 35 = .ok (.goto (-31), 3) := by decide +kernel
theorem dX6_atHome_38 : decode cX6_atHome 38 = .ok (.iload_n 2, 1) := by decide +kernel
theorem dX6_atHome_39 : decode cX6_atHome 39 = .ok (.ireturn, 1) := by decide +kernel
set_option maxRecDepth 20000 in
theorem ggX6_winner_X6_atHome : GoodIn wsX6_winner wsX6_atHome := goodIn_r _ [5, 6, 7, 8, 9, 10, 11, 12, 13, 14, 15, 16] (by decide +kernel) (by decide +kernel)
set_option maxRecDepth 20000 in
theorem gX6_winner_X6_atHome : GoodIn wsX6_winner (wsV RX6 51 RX6 yX6_atHome wsX6_atHome) := goodIn_app (goodIn_of _ (by decide +kernel)) ggX6_winner_X6_atHome
theorem dX6_winner_0 : decode cX6_winner 0 = .ok (.bipush (-6), 2) := by decide +kernel
theorem dX6_winner_2 : decode cX6_winner 2 = .ok (.istore_n 1, 1) := by decide +kernel
theorem dX6_winner_3 : decode cX6_winner 3 = .ok (.iconst 3, 1) := by decide +kernel
theorem dX6_winner_4 : decode cX6_winner 4 = .ok (.istore_n 2, 1) := by decide +kernel
theorem dX6_winner_5 : decode cX6_winner 5 = .ok (.iload_n 2, 1) := by decide +kernel
theorem dX6_winner_6 : decode cX6_winner 6 = .ok (.ifCond .lt 24, 3) := by decide +kernel
theorem dX6_winner_9 : decode cX6_winner 9 = .ok (.aload_n 0, 1) := by decide +kernel
theorem dX6_winner_10 : decode cX6_winner 10 = .ok (.iload_n 2, 1) := by decide +kernel
theorem dX6_winner_11 : decode cX6_winner 11 = .ok (.invokevirtual 51, 3) := by decide +kernel
theorem dX6_winner_14 : decode cX6_winner 14 = .ok (.iconst 3, 1) := by decide +kernel
theorem dX6_winner_15 : decode cX6_winner 15 = .ok (.if_icmp .ne 7, 3) := by decide +kernel
theorem dX6_winner_18 : decode cX6_winner 18 = .ok (.iload_n 2, 1) := by decide +kernel
theorem dX6_winner_19 : decode cX6_winner 19 = .ok (.goto 4, 3) := by decide +kernel
theorem dX6_winner_22 : decode cX6_winner 22 = .ok (.iload_n 1, 1) := by decide +kernel
theorem dX6_winner_23 : decode cX6_winner 23 = .ok (.istore_n 1, 1) := by decide +kernel
theorem dX6_winner_24 : decode cX6_winner 24 = .ok (.iinc 2 (-1), 3) := by decide +kernel
theorem dX6_winner_27 : decode cX6_winner 27 = .ok (.goto (-22), 3) := by decide +kernel
theorem dX6_winner_30 : decode cX6_winner 30 = .ok (.iload_n 1, 1) := by decide +kernel
theorem dX6_winner_31 : decode cX6_winner 31 = .ok (.ireturn, 1) := by decide +kernel
set_option maxRecDepth 20000 in
theorem ggX6_isOver_X6_winner : GoodIn wsX6_isOver wsX6_winner := goodIn_r _ [5, 6, 7, 8, 4, 9, 10, 11, 12, 13, 14, 15, 16, 17, 18, 19, 20] (by decide +kernel) (by decide +kernel)
set_option maxRecDepth 20000 in
theorem gX6_isOver_X6_winner : GoodIn wsX6_isOver (wsV RX6 54 RX6 yX6_winner wsX6_winner) := goodIn_app (goodIn_of _ (by decide +kernel)) ggX6_isOver_X6_winner
theorem dX6_isOver_0 : decode cX6_isOver 0 = .ok (.aload_n 0, 1) := by decide +kernel
theorem dX6_isOver_1 : decode cX6_isOver 1 = .ok (.invokevirtual 54, 3) := by decide +kernel
theorem dX6_isOver_4 : decode cX6_isOver 4 = .ok (.ifCond .lt 7, 3) := by decide +kernel
theorem dX6_isOver_7 : decode cX6_isOver 7 = .ok (.iconst 1, 1) := by decide +kernel
theorem dX6_isOver_8 : decode cX6_isOver 8 = .ok (.goto 4, 3) := by decide +kernel
theorem dX6_isOver_11 : decode cX6_isOver 11 = .ok (.iconst 0, 1) := by decide +kernel
theorem dX6_isOver_12 : decode cX6_isOver 12 = .ok (.ireturn, 1) := by decide +kernel
set_option maxRecDepth 20000 in
theorem ggX6_lookAtBridges_X6_isPairOn : GoodIn wsX6_lookAtBridges wsX6_isPairOn := goodIn_r _ [6, 7, 8, 9, 5, 10, 11, 12, 13, 14, 1, 15, 16, 17, 18, 19, 20, 25, 26, 27, 28, 29, 30, 31, 32, 33, 34] (by decide +kernel) (by decide +kernel)
set_option maxRecDepth 20000 in
theorem gX6_lookAtBridges_X6_isPairOn : GoodIn wsX6_lookAtBridges (wsV RX6 58 RX6 yX6_isPairOn wsX6_isPairOn) := goodIn_app (goodIn_of _ (by decide +kernel)) ggX6_lookAtBridges_X6_isPairOn
set_option maxRecDepth 20000 in
theorem ggX6_lookAtBridges_X6_allOn : GoodIn wsX6_lookAtBridges wsX6_allOn := goodIn_r _ [24, 7, 8, 9, 5, 10, 11, 12, 13, 14, 1, 15, 16, 17, 18, 19, 20, 25, 26, 27, 28, 29, 30, 31, 32, 33, 34] (by decide +kernel) (by decide +kernel)
set_option maxRecDepth 20000 in
theorem gX6_lookAtBridges_X6_allOn : GoodIn wsX6_lookAtBridges (wsV RX6 61 RX6 yX6_allOn wsX6_allOn) := goodIn_app (goodIn_of _ (by decide +kernel)) ggX6_lookAtBridges_X6_allOn
theorem dX6_lookAtBridges_0 : decode cX6_lookAtBridges 0 = .ok (.iconst 0, 1) := by decide +kernel
theorem dX6_lookAtBridges_1 : decode cX6_lookAtBridges 1 = .ok (.istore_n 1, 1) := by decide +kernel
theorem dX6_lookAtBridges_2 : decode cX6_lookAtBridges 2 = .ok (.iload_n 1, 1) := by decide +kernel
theorem dX6_lookAtBridges_3 : decode cX6_lookAtBridges 3 = .ok (.iconst 4, 1) := by decide +kernel
theorem dX6_lookAtBridges_4 : decode cX6_lookAtBridges 4 = .ok (.if_icmp .ge 114, 3) := by decide +kernel
theorem dX6_lookAtBridges_7 : decode cX6_lookAtBridges 7 = .ok (.bipush 8, 2) := by decide +kernel
theorem dX6_lookAtBridges_9 : decode cX6_lookAtBridges 9 = .ok (.iload_n 1, 1) := by decide +kernel
theorem dX6_lookAtBridges_10 : decode cX6_lookAtBridges 10 = .ok (.imul, 1) := by decide +kernel
theorem dX6_lookAtBridges_11 : decode cX6_lookAtBridges 11 = .ok (.iconst 4, 1) := by decide +kernel
theorem dX6_lookAtBridges_12 : decode cX6_lookAtBridges 12 = .ok (.iadd, 1) := by decide +kernel
theorem dX6_lookAtBridges_13 : decode cX6_lookAtBridges 13 = .ok (.istore_n 2, 1) := by decide +kernel
theorem dX6_lookAtBridges_14 : decode cX6_lookAtBridges 14 = .ok (.aload_n 0, 1) := by decide +kernel
theorem dX6_lookAtBridges_15 : decode cX6_lookAtBridges 15 = .ok (.getfield 7, 3) := by decide +kernel
theorem dX6_lookAtBridges_18 : decode cX6_lookAtBridges 18 = .ok (.bipush 24, 2) := by decide +kernel
theorem dX6_lookAtBridges_20 : decode cX6_lookAtBridges 20 = .ok (.iload_n 1, 1) := by decide +kernel
theorem dX6_lookAtBridges_21 : decode cX6_lookAtBridges 21 = .ok (.iadd, 1) := by decide +kernel
theorem dX6_lookAtBridges_22 : decode cX6_lookAtBridges 22 = .ok (.iaload, 1) := by decide +kernel
theorem dX6_lookAtBridges_23 : decode cX6_lookAtBridges 23 = .ok (.ifCond .ne 21, 3) := by decide +kernel
theorem dX6_lookAtBridges_26 : decode cX6_lookAtBridges 26 = .ok (.aload_n 0, 1) := by decide +kernel
theorem dX6_lookAtBridges_27 : decode cX6_lookAtBridges 27 = .ok (.iload_n 2, 1) := by decide +kernel
theorem dX6_lookAtBridges_28 : decode cX6_lookAtBridges 28 = .ok (.invokevirtual 58, 3) := by decide +kernel
theorem dX6_lookAtBridges_31 : decode cX6_lookAtBridges 31 = .ok (.ifCond .eq 13, 3) := by decide +kernel
theorem dX6_lookAtBridges_34 : decode cX6_lookAtBridges 34 = .ok (.aload_n 0, 1) := by decide +kernel
theorem dX6_lookAtBridges_35 : decode cX6_lookAtBridges 35 = .ok (.getfield 7, 3) := by decide +kernel
theorem dX6_lookAtBridges_38 : decode cX6_lookAtBridges 38 = .ok (.bipush 28, 2) := by decide +kernel
theorem dX6_lookAtBridges_40 : decode cX6_lookAtBridges 40 = .ok (.iload_n 1, 1) := by decide +kernel
theorem dX6_lookAtBridges_41 : decode cX6_lookAtBridges 41 = .ok (.iadd, 1) := by decide +kernel
theorem dX6_lookAtBridges_42 : decode cX6_lookAtBridges 42 = .ok (.iconst 1, 1) := by decide +kernel
theorem dX6_lookAtBridges_43 : decode cX6_lookAtBridges 43 = .ok (.iastore, 1) := by decide +kernel
theorem dX6_lookAtBridges_44 : decode cX6_lookAtBridges 44 = .ok (.aload_n 0, 1) := by decide +kernel
theorem dX6_lookAtBridges_45 : decode cX6_lookAtBridges 45 = .ok (.getfield 7, 3) := by decide +kernel
theorem dX6_lookAtBridges_48 : decode cX6_lookAtBridges 48 = .ok (.bipush 28, 2) := by decide +kernel
theorem dX6_lookAtBridges_50 : decode cX6_lookAtBridges 50 = .ok (.iload_n 1, 1) := by decide +kernel
theorem dX6_lookAtBridges_51 : decode cX6_lookAtBridges 51 = .ok (.iadd, 1) := by decide +kernel
theorem dX6_lookAtBridges_52 : decode cX6_lookAtBridges 52 = .ok (.iaload, 1) := by decide +kernel
theorem dX6_lookAtBridges_53 : decode cX6_lookAtBridges 53 = .ok (.iconst 1, 1) := by decide +kernel
theorem dX6_lookAtBridges_54 : decode cX6_lookAtBridges 54 = .ok (.if_icmp .ne 58, 3) := by decide +kernel
theorem dX6_lookAtBridges_57 : decode cX6_lookAtBridges 57 = .ok (.aload_n 0, 1) := by decide +kernel
theorem dX6_lookAtBridges_58 : decode cX6_lookAtBridges 58 = .ok (.iload_n 2, 1) := by decide +kernel
theorem dX6_lookAtBridges_59 : decode cX6_lookAtBridges 59 = .ok (.invokevirtual 61, 3) := by decide +kernel
theorem dX6_lookAtBridges_62 : decode cX6_lookAtBridges 62 = .ok (.ifCond .ne 50, 3) := by decide +kernel
theorem dX6_lookAtBridges_65 : decode cX6_lookAtBridges 65 = .ok (.aload_n 0, 1) := by decide +kernel
theorem dX6_lookAtBridges_66 : decode cX6_lookAtBridges 66 = .ok (.getfield 7, 3) := by decide +kernel
theorem dX6_lookAtBridges_69 : decode cX6_lookAtBridges 69 = .ok (.bipush 28, 2) := by decide +kernel
theorem dX6_lookAtBridges_71 : decode cX6_lookAtBridges 71 = .ok (.iload_n 1, 1) := by decide +kernel
theorem dX6_lookAtBridges_72 : decode cX6_lookAtBridges 72 = .ok (.iadd, 1) := by decide +kernel
theorem dX6_lookAtBridges_73 : decode cX6_lookAtBridges 73 = .ok (.iconst 0, 1) := by decide +kernel
theorem dX6_lookAtBridges_74 : decode cX6_lookAtBridges 74 = .ok (.iastore, 1) := by decide +kernel
theorem dX6_lookAtBridges_75 : decode cX6_lookAtBridges 75 = .ok (.aload_n 0, 1) := by decide +kernel
theorem dX6_lookAtBridges_76 : decode cX6_lookAtBridges 76 = .ok (.getfield 7, 3) := by decide +kernel
theorem dX6_lookAtBridges_79 : decode cX6_lookAtBridges 79 = .ok (.bipush 24, 2) := by decide +kernel
theorem dX6_lookAtBridges_81 : decode cX6_lookAtBridges 81 = .ok (.iload_n 1, 1) := by decide +kernel
theorem dX6_lookAtBridges_82 : decode cX6_lookAtBridges 82 = .ok (.iadd, 1) := by decide +kernel
theorem dX6_lookAtBridges_83 : decode cX6_lookAtBridges 83 = .ok (.iconst 1, 1) := by decide +kernel
theorem dX6_lookAtBridges_84 : decode cX6_lookAtBridges 84 = .ok (.iastore, 1) := by decide +kernel
theorem dX6_lookAtBridges_85 : decode cX6_lookAtBridges 85 = .ok (.aload_n 0, 1) := by decide +kernel
theorem dX6_lookAtBridges_86 : decode cX6_lookAtBridges 86 = .ok (.getfield 7, 3) := by decide +kernel
theorem dX6_lookAtBridges_89 : decode cX6_lookAtBridges 89 = .ok (.bipush 32, 2) := by decide +kernel
theorem dX6_lookAtBridges_91 : decode cX6_lookAtBridges 91 = .ok (.iload_n 1, 1) := by decide +kernel
theorem dX6_lookAtBridges_92 : decode cX6_lookAtBridges 92 = .ok (.iadd, 1) := by decide +kernel
theorem dX6_lookAtBridges_93 : decode cX6_lookAtBridges 93 = .ok (.aload_n 0, 1) := by decide +kernel
theorem dX6_lookAtBridges_94 : decode cX6_lookAtBridges 94 = .ok (.getfield 7, 3) := by decide +kernel
theorem dX6_lookAtBridges_97 : decode cX6_lookAtBridges 97 = .ok (.bipush 42, 2) := by decide +kernel
theorem dX6_lookAtBridges_99 : decode cX6_lookAtBridges 99 = .ok (.iaload, 1) := by decide +kernel
theorem dX6_lookAtBridges_100 : decode cX6_lookAtBridges 100 = .ok (.iastore, 1) := by decide +kernel
theorem dX6_lookAtBridges_101 : decode cX6_lookAtBridges 101 = .ok (.aload_n 0, 1) := by decide +kernel
theorem dX6_lookAtBridges_102 : decode cX6_lookAtBridges 102 = .ok (.getfield 7, 3) := by decide +kernel
theorem dX6_lookAtBridges_105 : decode cX6_lookAtBridges 105 = .ok (.bipush 45, 2) := by decide +kernel
theorem dX6_lookAtBridges_107 : decode cX6_lookAtBridges 107 = .ok (.dup2, 1) := by decide +kernel
theorem dX6_lookAtBridges_108 : decode cX6_lookAtBridges 108 = .ok (.iaload, 1) := by decide +kernel
theorem dX6_lookAtBridges_109 : decode cX6_lookAtBridges 109 = .ok (.iconst 1, 1) := by decide +kernel
theorem dX6_lookAtBridges_110 : decode cX6_lookAtBridges 110 = .ok (.iadd, 1) := by decide +kernel
theorem dX6_lookAtBridges_111 : decode cX6_lookAtBridges 111 = .ok (.iastore, 1) := by decide +kernel
theorem dX6_lookAtBridges_112 : decode cX6_lookAtBridges 112 = .ok (.iinc 1 1, 3) := by decide +kernel
theorem dX6_lookAtBridges_115 : decode cX6_lookAtBridges 115 = .ok (.goto (-113), 3) := by decide +kernel
theorem dX6_lookAtBridges_118 : decode cX6_lookAtBridges 118 = .ok (.return_, 1) := by decide +kernel
theorem dX6_record_0 : decode cX6_record 0 = .ok (.aload_n 0, 1) := by decide +kernel
theorem dX6_record_1 : decode cX6_record 1 = .ok (.getfield 64, 3) := by decide +kernel
theorem dX6_record_4 : decode cX6_record 4 = .ok (.bipush 6, 2) := by decide +kernel
theorem dX6_record_6 : decode cX6_record 6 = .ok (.if_icmp .ne 43, 3) := by decide +kernel
theorem dX6_record_9 : decode cX6_record 9 = .ok (.iconst 0, 1) := by decide +kernel
theorem dX6_record_10 : decode cX6_record 10 = .ok (.istore_n 1, 1) := by decide +kernel
theorem dX6_record_11 : decode cX6_record 11 = .ok (.iload_n 1, 1) := by decide +kernel
theorem dX6_record_12 : decode cX6_record 12 = .ok (.sipush 230, 3) := by decide +kernel
theorem dX6_record_15 : decode cX6_record 15 = .ok (.if_icmp .ge 24, 3) := by decide +kernel
theorem dX6_record_18 : decode cX6_record 18 = .ok (.aload_n 0, 1) := by decide +kernel
theorem dX6_record_19 : decode cX6_record 19 = .ok (.getfield 16, 3) := by decide +kernel
theorem dX6_record_22 : decode cX6_record 22 = .ok (.iload_n 1, 1) := by decide +kernel
theorem dX6_record_23 : decode cX6_record 23 = .ok (.aload_n 0, 1) := by decide +kernel
theorem dX6_record_24 : decode cX6_record 24 = .ok (.getfield 16, 3) := by decide +kernel
theorem dX6_record_27 : decode cX6_record 27 = .ok (.bipush 46, 2) := by decide +kernel
theorem dX6_record_29 : decode cX6_record 29 = .ok (.iload_n 1, 1) := by decide +kernel
theorem dX6_record_30 : decode cX6_record 30 = .ok (.iadd, 1) := by decide +kernel
theorem dX6_record_31 : decode cX6_record 31 = .ok (.iaload, 1) := by decide +kernel
theorem dX6_record_32 : decode cX6_record 32 = .ok (.iastore, 1) := by decide +kernel
theorem dX6_record_33 : decode cX6_record 33 = .ok (.iinc 1 1, 3) := by decide +kernel
theorem dX6_record_36 : decode cX6_record 36 = .ok (.goto (-25), 3) := by decide +kernel
theorem dX6_record_39 : decode cX6_record 39 = .ok (.aload_n 0, 1) := by decide +kernel
theorem dX6_record_40 : decode cX6_record 40 = .ok (.dup, 1) := by decide +kernel
theorem dX6_record_41 : decode cX6_record 41 = .ok (.getfield 64, 3) := by decide +kernel
theorem dX6_record_44 : decode cX6_record 44 = .ok (.iconst 1, 1) := by decide +kernel
theorem dX6_record_45 : decode cX6_record 45 = .ok (.isub, 1) := by decide +kernel
theorem dX6_record_46 : decode cX6_record 46 = .ok (.putfield 64, 3) := by decide +kernel
theorem dX6_record_49 : decode cX6_record 49 = .ok (.iconst 0, 1) := by decide +kernel
theorem dX6_record_50 : decode cX6_record 50 = .ok (.istore_n 1, 1) := by decide +kernel
theorem dX6_record_51 : decode cX6_record 51 = .ok (.iload_n 1, 1) := by decide +kernel
theorem dX6_record_52 : decode cX6_record 52 = .ok (.bipush 46, 2) := by decide +kernel
theorem dX6_record_54 : decode cX6_record 54 = .ok (.if_icmp .ge 29, 3) := by decide +kernel
theorem dX6_record_57 : decode cX6_record 57 = .ok (.aload_n 0, 1) := by decide +kernel
theorem dX6_record_58 : decode cX6_record 58 = .ok (.getfield 16, 3) := by decide +kernel
theorem dX6_record_61 : decode cX6_record 61 = .ok (.bipush 46, 2) := by decide +kernel
theorem dX6_record_63 : decode cX6_record 63 = .ok (.aload_n 0, 1) := by decide +kernel
theorem dX6_record_64 : decode cX6_record 64 = .ok (.getfield 64, 3) := by decide +kernel
theorem dX6_record_67 : decode cX6_record 67 = .ok (.imul, 1) := by decide +kernel
theorem dX6_record_68 : decode cX6_record 68 = .ok (.iload_n 1, 1) := by decide +kernel
theorem dX6_record_69 : decode cX6_record 69 = .ok (.iadd, 1) := by decide +kernel
theorem dX6_record_70 : decode cX6_record 70 = .ok (.aload_n 0, 1) := by decide +kernel
theorem dX6_record_71 : decode cX6_record 71 = .ok (.getfield 7, 3) := by decide +kernel
theorem dX6_record_74 : decode cX6_record 74 = .ok (.iload_n 1, 1) := by decide +kernel
theorem dX6_record_75 : decode cX6_record 75 = .ok (.iaload, 1) := by decide +kernel
theorem dX6_record_76 : decode cX6_record 76 = .ok (.iastore, 1) := by decide +kernel
theorem dX6_record_77 : decode cX6_record 77 = .ok (.iinc 1 1, 3) := by decide +kernel
theorem dX6_record_80 : decode cX6_record 80 = .ok (.goto (-29), 3) := by decide +kernel
theorem dX6_record_83 : decode cX6_record 83 = .ok (.aload_n 0, 1) := by decide +kernel
theorem dX6_record_84 : decode cX6_record 84 = .ok (.dup, 1) := by decide +kernel
theorem dX6_record_85 : decode cX6_record 85 = .ok (.getfield 64, 3) := by decide +kernel
theorem dX6_record_88 : decode cX6_record 88 = .ok (.iconst 1, 1) := by decide +kernel
theorem dX6_record_89 : decode cX6_record 89 = .ok (.iadd, 1) := by decide +kernel
theorem dX6_record_90 : decode cX6_record 90 = .ok (.putfield 64, 3) := by decide +kernel
theorem dX6_record_93 : decode cX6_record 93 = .ok (.return_, 1) := by decide +kernel
theorem dX6_undo_0 : decode cX6_undo 0 = .ok (.aload_n 0, 1) := by decide +kernel
theorem dX6_undo_1 : decode cX6_undo 1 = .ok (.getfield 64, 3) := by decide +kernel
theorem dX6_undo_4 : decode cX6_undo 4 = .ok (.ifCond .ne 6, 3) := by decide +kernel
theorem dX6_undo_7 : decode cX6_undo 7 = .ok (.bipush (-5), 2) := by decide +kernel
theorem dX6_undo_9 : decode cX6_undo 9 = .ok (.ireturn, 1) := by decide +kernel
theorem dX6_undo_10 : decode cX6_undo 10 = .ok (.aload_n 0, 1) := by decide +kernel
theorem dX6_undo_11 : decode cX6_undo 11 = .ok (.dup, 1) := by decide +kernel
theorem dX6_undo_12 : decode cX6_undo 12 = .ok (.getfield 64, 3) := by decide +kernel
theorem dX6_undo_15 : decode cX6_undo 15 = .ok (.iconst 1, 1) := by decide +kernel
theorem dX6_undo_16 : decode cX6_undo 16 = .ok (.isub, 1) := by decide +kernel
theorem dX6_undo_17 : decode cX6_undo 17 = .ok (.putfield 64, 3) := by decide +kernel
theorem dX6_undo_20 : decode cX6_undo 20 = .ok (.iconst 0, 1) := by decide +kernel
theorem dX6_undo_21 : decode cX6_undo 21 = .ok (.istore_n 1, 1) := by decide +kernel
theorem dX6_undo_22 : decode cX6_undo 22 = .ok (.iload_n 1, 1) := by decide +kernel
theorem dX6_undo_23 : decode cX6_undo 23 = .ok (.bipush 46, 2) := by decide +kernel
theorem dX6_undo_25 : decode cX6_undo 25 = .ok (.if_icmp .ge 29, 3) := by decide +kernel
theorem dX6_undo_28 : decode cX6_undo 28 = .ok (.aload_n 0, 1) := by decide +kernel
theorem dX6_undo_29 : decode cX6_undo 29 = .ok (.getfield 7, 3) := by decide +kernel
theorem dX6_undo_32 : decode cX6_undo 32 = .ok (.iload_n 1, 1) := by decide +kernel
theorem dX6_undo_33 : decode cX6_undo 33 = .ok (.aload_n 0, 1) := by decide +kernel
theorem dX6_undo_34 : decode cX6_undo 34 = .ok (.getfield 16, 3) := by decide +kernel
theorem dX6_undo_37 : decode cX6_undo 37 = .ok (.bipush 46, 2) := by decide +kernel
theorem dX6_undo_39 : decode cX6_undo 39 = .ok (.aload_n 0, 1) := by decide +kernel
theorem dX6_undo_40 : decode cX6_undo 40 = .ok (.getfield 64, 3) := by decide +kernel
theorem dX6_undo_43 : decode cX6_undo 43 = .ok (.imul, 1) := by decide +kernel
theorem dX6_undo_44 : decode cX6_undo 44 = .ok (.iload_n 1, 1) := by decide +kernel
theorem dX6_undo_45 : decode cX6_undo 45 = .ok (.iadd, 1) := by decide +kernel
theorem dX6_undo_46 : decode cX6_undo 46 = .ok (.iaload, 1) := by decide +kernel
theorem dX6_undo_47 : decode cX6_undo 47 = .ok (.iastore, 1) := by decide +kernel
theorem dX6_undo_48 : decode cX6_undo 48 = .ok (.iinc 1 1, 3) := by decide +kernel
theorem dX6_undo_51 : decode cX6_undo 51 = .ok (.goto (-29), 3) := by decide +kernel
theorem dX6_undo_54 : decode cX6_undo 54 = .ok (.aload_n 0, 1) := by decide +kernel
theorem dX6_undo_55 : decode cX6_undo 55 = .ok (.getfield 64, 3) := by decide +kernel
theorem dX6_undo_58 : decode cX6_undo 58 = .ok (.ireturn, 1) := by decide +kernel
set_option maxRecDepth 20000 in
theorem ggX6_save_X6_in : GoodIn wsX6_save wsX6_in := goodIn_r _ [7] (by decide +kernel) (by decide +kernel)
set_option maxRecDepth 20000 in
theorem gX6_save_X6_in : GoodIn wsX6_save (va_wsS RX6 32 yX6_in wsX6_in) := goodIn_app (goodIn_of _ (by decide +kernel)) ggX6_save_X6_in
theorem dX6_save_0 : decode cX6_save 0 = .ok (.iload_n 1, 1) := by decide +kernel
theorem dX6_save_1 : decode cX6_save 1 = .ok (.iconst 0, 1) := by decide +kernel
theorem dX6_save_2 : decode cX6_save 2 = .ok (.iconst 1, 1) := by decide +kernel
theorem dX6_save_3 : decode cX6_save 3 = .ok (.invokestatic 32, 3) := by decide +kernel
