theorem dX6_read_26 : decode cX6_read 26 = .ok (.iconst 1, 1) := by decide +kernel
theorem dX6_read_27 : decode cX6_read 27 = .ok (.istore_n 2, 1) := by decide +kernel
theorem dX6_read_28 : decode cX6_read 28 = .ok (.iconst 0, 1) := by decide +kernel
theorem dX6_read_29 : decode cX6_read 29 = .ok (.istore_n 3, 1) := by decide +kernel
theorem dX6_read_30 : decode cX6_read 30 = .ok (.iload_n 3, 1) := by decide +kernel
theorem dX6_read_31 : decode cX6_read 31 = .ok (.aload_n 0, 1) := by decide +kernel
theorem dX6_read_32 : decode cX6_read 32 = .ok (.getfield 143, 3) := by decide +kernel
theorem dX6_read_35 : decode cX6_read 35 = .ok (.if_icmp .ge 134, 3) := by decide +kernel
theorem dX6_read_38 : decode cX6_read 38 = .ok (.iload_n 2, 1) := by decide +kernel
theorem dX6_read_39 : decode cX6_read 39 = .ok (.ifCond .eq 130, 3) := by decide +kernel
theorem dX6_read_42 : decode cX6_read 42 = .ok (.aload_n 0, 1) := by decide +kernel
theorem dX6_read_43 : decode cX6_read 43 = .ok (.getfield 26, 3) := by decide +kernel
theorem dX6_read_46 : decode cX6_read 46 = .ok (.iload_n 3, 1) := by decide +kernel
theorem dX6_read_47 : decode cX6_read 47 = .ok (.iaload, 1) := by decide +kernel
theorem dX6_read_48 : decode cX6_read 48 = .ok (.bipush 48, 2) := by decide +kernel
theorem dX6_read_50 : decode cX6_read 50 = .ok (.isub, 1) := by decide +kernel
theorem dX6_read_51 : decode cX6_read 51 = .ok (.istore 4, 2) := by decide +kernel
theorem dX6_read_53 : decode cX6_read 53 = .ok (.iconst 3, 1) := by decide +kernel
theorem dX6_read_54 : decode cX6_read 54 = .ok (.aload_n 0, 1) := by decide +kernel
theorem dX6_read_55 : decode cX6_read 55 = .ok (.getfield 7, 3) := by decide +kernel
theorem dX6_read_58 : decode cX6_read 58 = .ok (.bipush 40, 2) := by decide +kernel
theorem dX6_read_60 : decode cX6_read 60 = .ok (.iaload, 1) := by decide +kernel
theorem dX6_read_61 : decode cX6_read 61 = .ok (.imul, 1) := by decide +kernel
theorem dX6_read_62 : decode cX6_read 62 = .ok (.aload_n 0, 1) := by decide +kernel
theorem dX6_read_63 : decode cX6_read 63 = .ok (.getfield 26, 3) := by decide +kernel
theorem dX6_read_66 : decode cX6_read 66 = .ok (.iload_n 3, 1) := by decide +kernel
theorem dX6_read_67 : decode cX6_read 67 = .ok (.iconst 1, 1) := by decide +kernel
theorem dX6_read_68 : decode cX6_read 68 = .ok (.iadd, 1) := by decide +kernel
theorem dX6_read_69 : decode cX6_read 69 = .ok (.iaload, 1) := by decide +kernel
theorem dX6_read_70 : decode cX6_read 70 = .ok (.iadd, 1) := by decide +kernel
theorem dX6_read_71 : decode cX6_read 71 = .ok (.bipush 97, 2) := by decide +kernel
theorem dX6_read_73 : decode cX6_read 73 = .ok (.isub, 1) := by decide +kernel
theorem dX6_read_74 : decode cX6_read 74 = .ok (.istore 5, 2) := by decide +kernel
theorem dX6_read_76 : decode cX6_read 76 = .ok (.aload_n 0, 1) := by decide +kernel
theorem dX6_read_77 : decode cX6_read 77 = .ok (.invokevirtual 97, 3) := by decide +kernel
theorem dX6_read_80 : decode cX6_read 80 = .ok (.ifCond .ne 43, 3) := by decide +kernel
theorem dX6_read_83 : decode cX6_read 83 = .ok (.aload_n 0, 1) := by decide +kernel
theorem dX6_read_84 : decode cX6_read 84 = .ok (.getfield 26, 3) := by decide +kernel
theorem dX6_read_87 : decode cX6_read 87 = .ok (.iload_n 3, 1) := by decide +kernel
theorem dX6_read_88 : decode cX6_read 88 = .ok (.iconst 1, 1) := by decide +kernel
theorem dX6_read_89 : decode cX6_read 89 = .ok (.iadd, 1) := by decide +kernel
theorem dX6_read_90 : decode cX6_read 90 = .ok (.iaload, 1) := by decide +kernel
theorem dX6_read_91 : decode cX6_read 91 = .ok (.bipush 45, 2) := by decide +kernel
theorem dX6_read_93 : decode cX6_read 93 = .ok (.if_icmp .ne 15, 3) := by decide +kernel
theorem dX6_read_96 : decode cX6_read 96 = .ok (.aload_n 0, 1) := by decide +kernel
theorem dX6_read_97 : decode cX6_read 97 = .ok (.iload 4, 2) := by decide +kernel
theorem dX6_read_99 : decode cX6_read 99 = .ok (.invokevirtual 131, 3) := by decide +kernel
theorem dX6_read_102 : decode cX6_read 102 = .ok (.ifCond .ne 21, 3) := by decide +kernel
theorem dX6_read_105 : decode cX6_read 105 = .ok (.goto 14, 3) := by decide +kernel
theorem dX6_read_108 : decode cX6_read 108 = .ok (.aload_n 0, 1) := by decide +kernel
theorem dX6_read_109 : decode cX6_read 109 = .ok (.iload 5, 2) := by decide +kernel
theorem dX6_read_111 : decode cX6_read 111 = .ok (.iload 4, 2) := by decide +kernel
theorem dX6_read_113 : decode cX6_read 113 = .ok (.invokevirtual 88, 3) := by decide +kernel
theorem dX6_read_116 : decode cX6_read 116 = .ok (.ifCond .ne 7, 3) := by decide +kernel
theorem dX6_read_119 : decode cX6_read 119 = .ok (.iconst 1, 1) := by decide +kernel
theorem dX6_read_120 : decode cX6_read 120 = .ok (.goto 4, 3) := by decide +kernel
theorem dX6_read_123 : decode cX6_read 123 = .ok (.iconst 0, 1) := by decide +kernel
theorem dX6_read_124 : decode cX6_read 124 = .ok (.istore_n 2, 1) := by decide +kernel
theorem dX6_read_125 : decode cX6_read 125 = .ok (.iload_n 2, 1) := by decide +kernel
theorem dX6_read_126 : decode cX6_read 126 = .ok (.ifCond .eq 37, 3) := by decide +kernel
theorem dX6_read_129 : decode cX6_read 129 = .ok (.aload_n 0, 1) := by decide +kernel
theorem dX6_read_130 : decode cX6_read 130 = .ok (.iload 4, 2) := by decide +kernel
theorem dX6_read_132 : decode cX6_read 132 = .ok (.invokevirtual 120, 3) := by decide +kernel
theorem dX6_read_135 : decode cX6_read 135 = .ok (.aload_n 0, 1) := by decide +kernel
theorem dX6_read_136 : decode cX6_read 136 = .ok (.getfield 26, 3) := by decide +kernel
theorem dX6_read_139 : decode cX6_read 139 = .ok (.iload_n 3, 1) := by decide +kernel
theorem dX6_read_140 : decode cX6_read 140 = .ok (.iconst 1, 1) := by decide +kernel
theorem dX6_read_141 : decode cX6_read 141 = .ok (.iadd, 1) := by decide +kernel
theorem dX6_read_142 : decode cX6_read 142 = .ok (.iaload, 1) := by decide +kernel
theorem dX6_read_143 : decode cX6_read 143 = .ok (.bipush 45, 2) := by decide +kernel
theorem dX6_read_145 : decode cX6_read 145 = .ok (.if_icmp .eq 11, 3) := by decide +kernel
theorem dX6_read_148 : decode cX6_read 148 = .ok (.aload_n 0, 1) := by decide +kernel
theorem dX6_read_149 : decode cX6_read 149 = .ok (.iload 5, 2) := by decide +kernel
theorem dX6_read_151 : decode cX6_read 151 = .ok (.iload 4, 2) := by decide +kernel
theorem dX6_read_153 : decode cX6_read 153 = .ok (.invokevirtual 124, 3) := by decide +kernel
theorem dX6_read_156 : decode cX6_read 156 = .ok (.aload_n 0, 1) := by decide +kernel
theorem dX6_read_157 : decode cX6_read 157 = .ok (.invokevirtual 128, 3) := by decide +kernel
theorem dX6_read_160 : decode cX6_read 160 = .ok (.iinc 1 1, 3) := by decide +kernel
theorem dX6_read_163 : decode cX6_read 163 = .ok (.iinc 3 2, 3) := by decide +kernel
theorem dX6_read_166 : decode cX6_read 166 = .ok (.goto (-136), 3) := by decide +kernel
theorem dX6_read_169 : decode cX6_read 169 = .ok (.aload_n 0, 1) := by decide +kernel
theorem dX6_read_170 : decode cX6_read 170 = .ok (.iconst 0, 1) := by decide +kernel
theorem dX6_read_171 : decode cX6_read 171 = .ok (.putfield 143, 3) := by decide +kernel
theorem dX6_read_174 : decode cX6_read 174 = .ok (.iload_n 1, 1) := by decide +kernel
theorem dX6_read_175 : decode cX6_read 175 = .ok (.ireturn, 1) := by decide +kernel
set_option maxRecDepth 20000 in
theorem ggX6_lay_X6_isPiece : GoodIn wsX6_lay wsX6_isPiece := goodIn_r _ [5, 6, 7, 4, 8] (by decide +kernel) (by decide +kernel)
set_option maxRecDepth 20000 in
theorem gX6_lay_X6_isPiece : GoodIn wsX6_lay (va_wsS RX6 146 yX6_isPiece wsX6_isPiece) := goodIn_app (goodIn_of _ (by decide +kernel)) ggX6_lay_X6_isPiece
set_option maxRecDepth 20000 in
theorem ggX6_lay_X6_in : GoodIn wsX6_lay wsX6_in := goodIn_r _ [8] (by decide +kernel) (by decide +kernel)
set_option maxRecDepth 20000 in
theorem gX6_lay_X6_in : GoodIn wsX6_lay (va_wsS RX6 32 yX6_in wsX6_in) := goodIn_app (goodIn_of _ (by decide +kernel)) ggX6_lay_X6_in
set_option maxRecDepth 20000 in
theorem ggX6_lay_X6_fieldAt : GoodIn wsX6_lay wsX6_fieldAt := goodIn_r _ [11, 6, 7, 4, 8] (by decide +kernel) (by decide +kernel)
set_option maxRecDepth 20000 in
theorem gX6_lay_X6_fieldAt : GoodIn wsX6_lay (va_wsS RX6 36 yX6_fieldAt wsX6_fieldAt) := goodIn_app (goodIn_of _ (by decide +kernel)) ggX6_lay_X6_fieldAt
set_option maxRecDepth 20000 in
theorem ggX6_lay_X6_otherOn : GoodIn wsX6_lay wsX6_otherOn := goodIn_r _ [15, 16, 17, 18, 4, 19, 1, 9, 10, 11, 6, 7, 8, 49, 50, 51, 52, 53, 54, 55, 56, 57, 58] (by decide +kernel) (by decide +kernel)
set_option maxRecDepth 20000 in
theorem gX6_lay_X6_otherOn : GoodIn wsX6_lay (wsV RX6 91 RX6 yX6_otherOn wsX6_otherOn) := goodIn_app (goodIn_of _ (by decide +kernel)) ggX6_lay_X6_otherOn
set_option maxRecDepth 20000 in
theorem ggX6_lay_X6_isFallen : GoodIn wsX6_lay wsX6_isFallen := goodIn_r _ [23, 1, 24, 25, 4, 26, 49, 50, 51, 52, 53, 54, 55, 56, 57, 58] (by decide +kernel) (by decide +kernel)
set_option maxRecDepth 20000 in
theorem gX6_lay_X6_isFallen : GoodIn wsX6_lay (wsV RX6 71 RX6 yX6_isFallen wsX6_isFallen) := goodIn_app (goodIn_of _ (by decide +kernel)) ggX6_lay_X6_isFallen
set_option maxRecDepth 20000 in
theorem ggX6_lay_X6_record : GoodIn wsX6_lay wsX6_record := goodIn_r _ [30, 31, 32, 1, 49, 50, 51, 52, 53, 54, 55, 56, 57, 58] (by decide +kernel) (by decide +kernel)
set_option maxRecDepth 20000 in
theorem gX6_lay_X6_record : GoodIn wsX6_lay (wsV RX6 68 RX6 yX6_record wsX6_record) := goodIn_app (goodIn_of _ (by decide +kernel)) ggX6_lay_X6_record
set_option maxRecDepth 20000 in
theorem ggX6_lay_X6_lookAtBridges : GoodIn wsX6_lay wsX6_lookAtBridges := goodIn_r _ [36, 1, 37, 38, 39, 4, 40, 41, 42, 43, 44, 16, 17, 18, 19, 9, 10, 11, 6, 7, 8, 45, 46, 47, 48, 49, 50, 51, 52, 53, 54, 55, 56, 57, 58] (by decide +kernel) (by decide +kernel)
set_option maxRecDepth 20000 in
theorem gX6_lay_X6_lookAtBridges : GoodIn wsX6_lay (wsV RX6 94 RX6 yX6_lookAtBridges wsX6_lookAtBridges) := goodIn_app (goodIn_of _ (by decide +kernel)) ggX6_lay_X6_lookAtBridges
theorem dX6_lay_0 : decode cX6_lay 0 = .ok (.iload_n 1, 1) := by decide +kernel
theorem dX6_lay_1 : decode cX6_lay 1 = .ok (.invokestatic 146, 3) := by decide +kernel
theorem dX6_lay_4 : decode cX6_lay 4 = .ok (.ifCond .ne 5, 3) := by decide +kernel
theorem dX6_lay_7 : decode cX6_lay 7 = .ok (.iconst (-1), 1) := by decide +kernel
theorem dX6_lay_8 : decode cX6_lay 8 = .ok (.ireturn, 1) := by decide +kernel
theorem dX6_lay_9 : decode cX6_lay 9 = .ok (.iload_n 2, 1) := by decide +kernel
theorem dX6_lay_10 : decode cX6_lay 10 = .ok (.bipush (-6), 2) := by decide +kernel
theorem dX6_lay_12 : decode cX6_lay 12 = .ok (.if_icmp .eq 16, 3) := by decide +kernel
theorem dX6_lay_15 : decode cX6_lay 15 = .ok (.iload_n 2, 1) := by decide +kernel
theorem dX6_lay_16 : decode cX6_lay 16 = .ok (.iconst 0, 1) := by decide +kernel
theorem dX6_lay_17 : decode cX6_lay 17 = .ok (.bipush 35, 2) := by decide +kernel
theorem dX6_lay_19 : decode cX6_lay 19 = .ok (.invokestatic 32, 3) := by decide +kernel
theorem dX6_lay_22 : decode cX6_lay 22 = .ok (.ifCond .ne 6, 3) := by decide +kernel
theorem dX6_lay_25 : decode cX6_lay 25 = .ok (.bipush (-2), 2) := by decide +kernel
theorem dX6_lay_27 : decode cX6_lay 27 = .ok (.ireturn, 1) := by decide +kernel
theorem dX6_lay_28 : decode cX6_lay 28 = .ok (.iload_n 1, 1) := by decide +kernel
theorem dX6_lay_29 : decode cX6_lay 29 = .ok (.iconst 3, 1) := by decide +kernel
theorem dX6_lay_30 : decode cX6_lay 30 = .ok (.idiv, 1) := by decide +kernel
theorem dX6_lay_31 : decode cX6_lay 31 = .ok (.istore_n 3, 1) := by decide +kernel
theorem dX6_lay_32 : decode cX6_lay 32 = .ok (.iload_n 3, 1) := by decide +kernel
theorem dX6_lay_33 : decode cX6_lay 33 = .ok (.iload_n 2, 1) := by decide +kernel
theorem dX6_lay_34 : decode cX6_lay 34 = .ok (.invokestatic 36, 3) := by decide +kernel
theorem dX6_lay_37 : decode cX6_lay 37 = .ok (.istore 4, 2) := by decide +kernel
theorem dX6_lay_39 : decode cX6_lay 39 = .ok (.iconst 0, 1) := by decide +kernel
theorem dX6_lay_40 : decode cX6_lay 40 = .ok (.istore 5, 2) := by decide +kernel
theorem dX6_lay_42 : decode cX6_lay 42 = .ok (.iconst 3, 1) := by decide +kernel
theorem dX6_lay_43 : decode cX6_lay 43 = .ok (.iload_n 3, 1) := by decide +kernel
theorem dX6_lay_44 : decode cX6_lay 44 = .ok (.imul, 1) := by decide +kernel
theorem dX6_lay_45 : decode cX6_lay 45 = .ok (.istore 6, 2) := by decide +kernel
theorem dX6_lay_47 : decode cX6_lay 47 = .ok (.iload 6, 2) := by decide +kernel
theorem dX6_lay_49 : decode cX6_lay 49 = .ok (.iconst 3, 1) := by decide +kernel
theorem dX6_lay_50 : decode cX6_lay 50 = .ok (.iload_n 3, 1) := by decide +kernel
theorem dX6_lay_51 : decode cX6_lay 51 = .ok (.imul, 1) := by decide +kernel
theorem dX6_lay_52 : decode cX6_lay 52 = .ok (.iconst 3, 1) := by decide +kernel
theorem dX6_lay_53 : decode cX6_lay 53 = .ok (.iadd, 1) := by decide +kernel
theorem dX6_lay_54 : decode cX6_lay 54 = .ok (.if_icmp .ge 46, 3) := by decide +kernel
theorem dX6_lay_57 : decode cX6_lay 57 = .ok (.iload 5, 2) := by decide +kernel
theorem dX6_lay_59 : decode cX6_lay 59 = .ok (.iload 6, 2) := by decide +kernel
theorem dX6_lay_61 : decode cX6_lay 61 = .ok (.iload_n 1, 1) := by decide +kernel
theorem dX6_lay_62 : decode cX6_lay 62 = .ok (.if_icmp .eq 28, 3) := by decide +kernel
theorem dX6_lay_65 : decode cX6_lay 65 = .ok (.aload_n 0, 1) := by decide +kernel
theorem dX6_lay_66 : decode cX6_lay 66 = .ok (.getfield 7, 3) := by decide +kernel
theorem dX6_lay_69 : decode cX6_lay 69 = .ok (.iload 6, 2) := by decide +kernel
theorem dX6_lay_71 : decode cX6_lay 71 = .ok (.iaload, 1) := by decide +kernel
theorem dX6_lay_72 : decode cX6_lay 72 = .ok (.iload_n 2, 1) := by decide +kernel
theorem dX6_lay_73 : decode cX6_lay 73 = .ok (.if_icmp .ne 17, 3) := by decide +kernel
theorem dX6_lay_76 : decode cX6_lay 76 = .ok (.iload_n 2, 1) := by decide +kernel
theorem dX6_lay_77 : decode cX6_lay 77 = .ok (.iconst 0, 1) := by decide +kernel
theorem dX6_lay_78 : decode cX6_lay 78 = .ok (.bipush 34, 2) := by decide +kernel
theorem dX6_lay_80 : decode cX6_lay 80 = .ok (.invokestatic 32, 3) := by decide +kernel
theorem dX6_lay_83 : decode cX6_lay 83 = .ok (.ifCond .eq 7, 3) := by decide +kernel
theorem dX6_lay_86 : decode cX6_lay 86 = .ok (.iconst 1, 1) := by decide +kernel
theorem dX6_lay_87 : decode cX6_lay 87 = .ok (.goto 4, 3) := by decide +kernel
theorem dX6_lay_90 : decode cX6_lay 90 = .ok (.iconst 0, 1) := by decide +kernel
theorem dX6_lay_91 : decode cX6_lay 91 = .ok (.iadd, 1) := by decide +kernel
theorem dX6_lay_92 : decode cX6_lay 92 = .ok (.istore 5, 2) := by decide +kernel
theorem dX6_lay_94 : decode cX6_lay 94 = .ok (.iinc 6 1, 3) := by decide +kernel
theorem dX6_lay_97 : decode cX6_lay 97 = .ok (.goto (-50), 3) := by decide +kernel
theorem dX6_lay_100 : decode cX6_lay 100 = .ok (.aload_n 0, 1) := by decide +kernel
theorem dX6_lay_101 : decode cX6_lay 101 = .ok (.iload_n 3, 1) := by decide +kernel
theorem dX6_lay_102 : decode cX6_lay 102 = .ok (.iload 4, 2) := by decide +kernel
theorem dX6_lay_104 : decode cX6_lay 104 = .ok (.invokevirtual 91, 3) := by decide +kernel
theorem dX6_lay_107 : decode cX6_lay 107 = .ok (.ifCond .ge 18, 3) := by decide +kernel
theorem dX6_lay_110 : decode cX6_lay 110 = .ok (.iload 5, 2) := by decide +kernel
theorem dX6_lay_112 : decode cX6_lay 112 = .ok (.iconst 1, 1) := by decide +kernel
theorem dX6_lay_113 : decode cX6_lay 113 = .ok (.if_icmp .gt 12, 3) := by decide +kernel
theorem dX6_lay_116 : decode cX6_lay 116 = .ok (.aload_n 0, 1) := by decide +kernel
theorem dX6_lay_117 : decode cX6_lay 117 = .ok (.iload 4, 2) := by decide +kernel
theorem dX6_lay_119 : decode cX6_lay 119 = .ok (.invokevirtual 71, 3) := by decide +kernel
theorem dX6_lay_122 : decode cX6_lay 122 = .ok (.ifCond .eq 6, 3) := by decide +kernel
theorem dX6_lay_125 : decode cX6_lay 125 = .ok (.bipush (-5), 2) := by decide +kernel
theorem dX6_lay_127 : decode cX6_lay 127 = .ok (.ireturn, 1) := by decide +kernel
theorem dX6_lay_128 : decode cX6_lay 128 = .ok (.aload_n 0, 1) := by decide +kernel
theorem dX6_lay_129 : decode cX6_lay 129 = .ok (.invokevirtual 68, 3) := by decide +kernel
theorem dX6_lay_132 : decode cX6_lay 132 = .ok (.aload_n 0, 1) := by decide +kernel
theorem dX6_lay_133 : decode cX6_lay 133 = .ok (.getfield 7, 3) := by decide +kernel
theorem dX6_lay_136 : decode cX6_lay 136 = .ok (.iload_n 1, 1) := by decide +kernel
theorem dX6_lay_137 : decode cX6_lay 137 = .ok (.iaload, 1) := by decide +kernel
theorem dX6_lay_138 : decode cX6_lay 138 = .ok (.istore 6, 2) := by decide +kernel
theorem dX6_lay_140 : decode cX6_lay 140 = .ok (.aload_n 0, 1) := by decide +kernel
theorem dX6_lay_141 : decode cX6_lay 141 = .ok (.getfield 7, 3) := by decide +kernel
theorem dX6_lay_144 : decode cX6_lay 144 = .ok (.iload_n 1, 1) := by decide +kernel
theorem dX6_lay_145 : decode cX6_lay 145 = .ok (.iload_n 2, 1) := by decide +kernel
theorem dX6_lay_146 : decode cX6_lay 146 = .ok (.iastore, 1) := by decide +kernel
theorem dX6_lay_147 : decode cX6_lay 147 = .ok (.aload_n 0, 1) := by decide +kernel
theorem dX6_lay_148 : decode cX6_lay 148 = .ok (.invokevirtual 94, 3) := by decide +kernel
theorem dX6_lay_151 : decode cX6_lay 151 = .ok (.iload 6, 2) := by decide +kernel
theorem dX6_lay_153 : decode cX6_lay 153 = .ok (.ireturn, 1) := by decide +kernel
set_option maxRecDepth 20000 in
theorem ggX6_piece_X6_isPiece : GoodIn wsX6_piece wsX6_isPiece := goodIn_r _ [5, 6, 7, 4, 8] (by decide +kernel) (by decide +kernel)
set_option maxRecDepth 20000 in
theorem gX6_piece_X6_isPiece : GoodIn wsX6_piece (va_wsS RX6 146 yX6_isPiece wsX6_isPiece) := goodIn_app (goodIn_of _ (by decide +kernel)) ggX6_piece_X6_isPiece
set_option maxRecDepth 20000 in
theorem ggX6_piece_X6_fieldOf : GoodIn wsX6_piece wsX6_fieldOf := goodIn_r _ [12, 1, 13, 14, 4, 15, 6, 7, 8, 20, 21, 22, 23, 24, 25, 26, 27, 28, 29] (by decide +kernel) (by decide +kernel)
set_option maxRecDepth 20000 in
theorem gX6_piece_X6_fieldOf : GoodIn wsX6_piece (wsV RX6 44 RX6 yX6_fieldOf wsX6_fieldOf) := goodIn_app (goodIn_of _ (by decide +kernel)) ggX6_piece_X6_fieldOf
set_option maxRecDepth 20000 in
theorem ggX6_piece_X6_piecesOn : GoodIn wsX6_piece wsX6_piecesOn := goodIn_r _ [19, 9, 10, 11, 4, 12, 1, 13, 14, 15, 6, 7, 8, 20, 21, 22, 23, 24, 25, 26, 27, 28, 29] (by decide +kernel) (by decide +kernel)
set_option maxRecDepth 20000 in
theorem gX6_piece_X6_piecesOn : GoodIn wsX6_piece (wsV RX6 48 RX6 yX6_piecesOn wsX6_piecesOn) := goodIn_app (goodIn_of _ (by decide +kernel)) ggX6_piece_X6_piecesOn
theorem dX6_piece_0 : decode cX6_piece 0 = .ok (.iload_n 1, 1) := by decide +kernel
theorem dX6_piece_1 : decode cX6_piece 1 = .ok (.invokestatic 146, 3) := by decide +kernel
theorem dX6_piece_4 : decode cX6_piece 4 = .ok (.ifCond .ne 5, 3) := by decide +kernel
theorem dX6_piece_7 : decode cX6_piece 7 = .ok (.iconst (-1), 1) := by decide +kernel
theorem dX6_piece_8 : decode cX6_piece 8 = .ok (.ireturn, 1) := by decide +kernel
theorem dX6_piece_9 : decode cX6_piece 9 = .ok (.iload_n 2, 1) := by decide +kernel
theorem dX6_piece_10 : decode cX6_piece 10 = .ok (.tableswitch 75 0 3 #[30, 37, 43, 65], 30) := by decide +kernel
theorem dX6_piece_40 : decode cX6_piece 40 = .ok (.aload_n 0, 1) := by decide +kernel
theorem dX6_piece_41 : decode cX6_piece 41 = .ok (.getfield 7, 3) := by decide +kernel
theorem dX6_piece_44 : decode cX6_piece 44 = .ok (.iload_n 1, 1) := by decide +kernel
theorem dX6_piece_45 : decode cX6_piece 45 = .ok (.iaload, 1) := by decide +kernel
theorem dX6_piece_46 : decode cX6_piece 46 = .ok (.ireturn, 1) := by decide +kernel
theorem dX6_piece_47 : decode cX6_piece 47 = .ok (.aload_n 0, 1) := by decide +kernel
theorem dX6_piece_48 : decode cX6_piece 48 = .ok (.iload_n 1, 1) := by decide +kernel
theorem dX6_piece_49 : decode cX6_piece 49 = .ok (.invokevirtual 44, 3) := by decide +kernel
theorem dX6_piece_52 : decode cX6_piece 52 = .ok (.ireturn, 1) := by decide +kernel
theorem dX6_piece_53 : decode cX6_piece 53 = .ok (.aload_n 0, 1) := by decide +kernel
theorem dX6_piece_54 : decode cX6_piece 54 = .ok (.iload_n 1, 1) := by decide +kernel
theorem dX6_piece_55 : decode cX6_piece 55 = .ok (.iconst 3, 1) := by decide +kernel
theorem dX6_piece_56 : decode cX6_piece 56 = .ok (.idiv, 1) := by decide +kernel
theorem dX6_piece_57 : decode cX6_piece 57 = .ok (.aload_n 0, 1) := by decide +kernel
theorem dX6_piece_58 : decode cX6_piece 58 = .ok (.iload_n 1, 1) := by decide +kernel
theorem dX6_piece_59 : decode cX6_piece 59 = .ok (.invokevirtual 44, 3) := by decide +kernel
theorem dX6_piece_62 : decode cX6_piece 62 = .ok (.invokevirtual 48, 3) := by decide +kernel
theorem dX6_piece_65 : decode cX6_piece 65 = .ok (.iconst 1, 1) := by decide +kernel
theorem dX6_piece_66 : decode cX6_piece 66 = .ok (.if_icmp .le 7, 3) := by decide +kernel
theorem dX6_piece_69 : decode cX6_piece 69 = .ok (.iconst 1, 1) := by decide +kernel
theorem dX6_piece_70 : decode cX6_piece 70 = .ok (.goto 4, 3) := by decide +kernel
theorem dX6_piece_73 : decode cX6_piece 73 = .ok (.iconst 0, 1) := by decide +kernel
theorem dX6_piece_74 : decode cX6_piece 74 = .ok (.ireturn, 1) := by decide +kernel
theorem dX6_piece_75 : decode cX6_piece 75 = .ok (.aload_n 0, 1) := by decide +kernel
theorem dX6_piece_76 : decode cX6_piece 76 = .ok (.getfield 7, 3) := by decide +kernel
theorem dX6_piece_79 : decode cX6_piece 79 = .ok (.bipush 12, 2) := by decide +kernel
theorem dX6_piece_81 : decode cX6_piece 81 = .ok (.iload_n 1, 1) := by decide +kernel
theorem dX6_piece_82 : decode cX6_piece 82 = .ok (.iadd, 1) := by decide +kernel
theorem dX6_piece_83 : decode cX6_piece 83 = .ok (.iaload, 1) := by decide +kernel
theorem dX6_piece_84 : decode cX6_piece 84 = .ok (.ireturn, 1) := by decide +kernel
theorem dX6_piece_85 : decode cX6_piece 85 = .ok (.bipush (-2), 2) := by decide +kernel
theorem dX6_piece_87 : decode cX6_piece 87 = .ok (.ireturn, 1) := by decide +kernel
set_option maxRecDepth 20000 in
theorem ggX6_lowestOn_X6_fieldOf : GoodIn wsX6_lowestOn wsX6_fieldOf := goodIn_r _ [5, 6, 7, 8, 4, 9, 10, 11, 12, 13, 14, 15, 16, 17, 18, 19, 20, 21, 22] (by decide +kernel) (by decide +kernel)
set_option maxRecDepth 20000 in
theorem gX6_lowestOn_X6_fieldOf : GoodIn wsX6_lowestOn (wsV RX6 44 RX6 yX6_fieldOf wsX6_fieldOf) := goodIn_app (goodIn_of _ (by decide +kernel)) ggX6_lowestOn_X6_fieldOf
theorem dX6_lowestOn_0 : decode cX6_lowestOn 0 = .ok (.bipush (-6), 2) := by decide +kernel
theorem dX6_lowestOn_2 : decode cX6_lowestOn 2 = .ok (.istore_n 2, 1) := by decide +kernel
theorem dX6_lowestOn_3 : decode cX6_lowestOn 3 = .ok (.bipush 11, 2) := by decide +kernel
theorem dX6_lowestOn_5 : decode cX6_lowestOn 5 = .ok (.istore_n 3, 1) := by decide +kernel
theorem dX6_lowestOn_6 : decode cX6_lowestOn 6 = .ok (.iload_n 3, 1) := by decide +kernel
theorem dX6_lowestOn_7 : decode cX6_lowestOn 7 = .ok (.ifCond .lt 24, 3) := by decide +kernel
theorem dX6_lowestOn_10 : decode cX6_lowestOn 10 = .ok (.aload_n 0, 1) := by decide +kernel
theorem dX6_lowestOn_11 : decode cX6_lowestOn 11 = .ok (.iload_n 3, 1) := by decide +kernel
theorem dX6_lowestOn_12 : decode cX6_lowestOn 12 = .ok (.invokevirtual 44, 3) := by decide +kernel
theorem dX6_lowestOn_15 : decode cX6_lowestOn 15 = .ok (.iload_n 1, 1) := by decide +kernel
theorem dX6_lowestOn_16 : decode cX6_lowestOn 16 = .ok (.if_icmp .ne 7, 3) := by decide +kernel
theorem dX6_lowestOn_19 : decode cX6_lowestOn 19 = .ok (.iload_n 3, 1) := by decide +kernel
theorem dX6_lowestOn_20 : decode cX6_lowestOn 20 = .ok (.goto 4, 3) := by decide +kernel
theorem dX6_lowestOn_23 : decode cX6_lowestOn 23 = .ok (.iload_n 2, 1) := by decide +kernel
theorem dX6_lowestOn_24 : decode cX6_lowestOn 24 = .ok (.istore_n 2, 1) := by decide +kernel
theorem dX6_lowestOn_25 : decode cX6_lowestOn 25 = .ok (.iinc 3 (-1), 3) := by decide +kernel
theorem dX6_lowestOn_28 : decode cX6_lowestOn 28 = .ok (.goto (-22), 3) := by decide +kernel
theorem dX6_lowestOn_31 : decode cX6_lowestOn 31 = .ok (.iload_n 2, 1) := by decide +kernel
theorem dX6_lowestOn_32 : decode cX6_lowestOn 32 = .ok (.ireturn, 1) := by decide +kernel
set_option maxRecDepth 20000 in
theorem ggX6_bridgeOn_X6_isBridge : GoodIn wsX6_bridgeOn wsX6_isBridge := goodIn_r _ [5] (by decide +kernel) (by decide +kernel)
set_option maxRecDepth 20000 in
theorem gX6_bridgeOn_X6_isBridge : GoodIn wsX6_bridgeOn (va_wsS RX6 40 yX6_isBridge wsX6_isBridge) := goodIn_app (goodIn_of _ (by decide +kernel)) ggX6_bridgeOn_X6_isBridge
theorem dX6_bridgeOn_0 : decode cX6_bridgeOn 0 = .ok (.iload_n 1, 1) := by decide +kernel
theorem dX6_bridgeOn_1 : decode cX6_bridgeOn 1 = .ok (.bipush 8, 2) := by decide +kernel
theorem dX6_bridgeOn_3 : decode cX6_bridgeOn 3 = .ok (.idiv, 1) := by decide +kernel
theorem dX6_bridgeOn_4 : decode cX6_bridgeOn 4 = .ok (.istore_n 2, 1) := by decide +kernel
theorem dX6_bridgeOn_5 : decode cX6_bridgeOn 5 = .ok (.iload_n 1, 1) := by decide +kernel
theorem dX6_bridgeOn_6 : decode cX6_bridgeOn 6 = .ok (.invokestatic 40, 3) := by decide +kernel
theorem dX6_bridgeOn_9 : decode cX6_bridgeOn 9 = .ok (.ifCond .ne 7, 3) := by decide +kernel
theorem dX6_bridgeOn_12 : decode cX6_bridgeOn 12 = .ok (.iconst 0, 1) := by decide +kernel
theorem dX6_bridgeOn_13 : decode cX6_bridgeOn 13 = .ok (.goto 38, 3) := by decide +kernel
theorem dX6_bridgeOn_16 : decode cX6_bridgeOn 16 = .ok (.aload_n 0, 1) := by decide +kernel
theorem dX6_bridgeOn_17 : decode cX6_bridgeOn 17 = .ok (.getfield 7, 3) := by decide +kernel
theorem dX6_bridgeOn_20 : decode cX6_bridgeOn 20 = .ok (.bipush 24, 2) := by decide +kernel
theorem dX6_bridgeOn_22 : decode cX6_bridgeOn 22 = .ok (.iload_n 2, 1) := by decide +kernel
theorem dX6_bridgeOn_23 : decode cX6_bridgeOn 23 = .ok (.iadd, 1) := by decide +kernel
theorem dX6_bridgeOn_24 : decode cX6_bridgeOn 24 = .ok (.iaload, 1) := by decide +kernel
theorem dX6_bridgeOn_25 : decode cX6_bridgeOn 25 = .ok (.iconst 1, 1) := by decide +kernel
theorem dX6_bridgeOn_26 : decode cX6_bridgeOn 26 = .ok (.if_icmp .ne 7, 3) := by decide +kernel
theorem dX6_bridgeOn_29 : decode cX6_bridgeOn 29 = .ok (.iconst 3, 1) := by decide +kernel
theorem dX6_bridgeOn_30 : decode cX6_bridgeOn 30 = .ok (.goto 21, 3) := by decide +kernel
theorem dX6_bridgeOn_33 : decode cX6_bridgeOn 33 = .ok (.aload_n 0, 1) := by decide +kernel
theorem dX6_bridgeOn_34 : decode cX6_bridgeOn 34 = .ok (.getfield 7, 3) := by decide +kernel
theorem dX6_bridgeOn_37 : decode cX6_bridgeOn 37 = .ok (.bipush 28, 2) := by decide +kernel
theorem dX6_bridgeOn_39 : decode cX6_bridgeOn 39 = .ok (.iload_n 2, 1) := by decide +kernel
theorem dX6_bridgeOn_40 : decode cX6_bridgeOn 40 = .ok (.iadd, 1) := by decide +kernel
theorem dX6_bridgeOn_41 : decode cX6_bridgeOn 41 = .ok (.iaload, 1) := by decide +kernel
theorem dX6_bridgeOn_42 : decode cX6_bridgeOn 42 = .ok (.iconst 1, 1) := by decide +kernel
theorem dX6_bridgeOn_43 : decode cX6_bridgeOn 43 = .ok (.if_icmp .ne 7, 3) := by decide +kernel
theorem dX6_bridgeOn_46 : decode cX6_bridgeOn 46 = .ok (.iconst 2, 1) := by decide +kernel
theorem dX6_bridgeOn_47 : decode cX6_bridgeOn 47 = .ok (.goto 4, 3) := by decide +kernel
theorem dX6_bridgeOn_50 : decode cX6_bridgeOn 50 = .ok (.iconst 1, 1) := by decide +kernel
theorem dX6_bridgeOn_51 : decode cX6_bridgeOn 51 = .ok (.ireturn, 1) := by decide +kernel
set_option maxRecDepth 20000 in
theorem ggX6_mendedIn_X6_isFallen : GoodIn wsX6_mendedIn wsX6_isFallen := goodIn_r _ [6, 1, 7, 8, 5, 9, 10, 11, 12, 13, 14, 15, 16, 17, 18, 19] (by decide +kernel) (by decide +kernel)
set_option maxRecDepth 20000 in
theorem gX6_mendedIn_X6_isFallen : GoodIn wsX6_mendedIn (wsV RX6 71 RX6 yX6_isFallen wsX6_isFallen) := goodIn_app (goodIn_of _ (by decide +kernel)) ggX6_mendedIn_X6_isFallen
theorem dX6_mendedIn_0 : decode cX6_mendedIn 0 = .ok (.aload_n 0, 1) := by decide +kernel
theorem dX6_mendedIn_1 : decode cX6_mendedIn 1 = .ok (.iload_n 1, 1) := by decide +kernel
theorem dX6_mendedIn_2 : decode cX6_mendedIn 2 = .ok (.invokevirtual 71, 3) := by decide +kernel
theorem dX6_mendedIn_5 : decode cX6_mendedIn 5 = .ok (.ifCond .eq 13, 3) := by decide +kernel
theorem dX6_mendedIn_8 : decode cX6_mendedIn 8 = .ok (.aload_n 0, 1) := by decide +kernel
theorem dX6_mendedIn_9 : decode cX6_mendedIn 9 = .ok (.getfield 7, 3) := by decide +kernel
theorem dX6_mendedIn_12 : decode cX6_mendedIn 12 = .ok (.bipush 37, 2) := by decide +kernel
theorem dX6_mendedIn_14 : decode cX6_mendedIn 14 = .ok (.iaload, 1) := by decide +kernel
theorem dX6_mendedIn_15 : decode cX6_mendedIn 15 = .ok (.ifCond .ne 6, 3) := by decide +kernel
theorem dX6_mendedIn_18 : decode cX6_mendedIn 18 = .ok (.bipush (-6), 2) := by decide +kernel
theorem dX6_mendedIn_20 : decode cX6_mendedIn 20 = .ok (.ireturn, 1) := by decide +kernel
theorem dX6_mendedIn_21 : decode cX6_mendedIn 21 = .ok (.aload_n 0, 1) := by decide +kernel
theorem dX6_mendedIn_22 : decode cX6_mendedIn 22 = .ok (.getfield 7, 3) := by decide +kernel
theorem dX6_mendedIn_25 : decode cX6_mendedIn 25 = .ok (.bipush 37, 2) := by decide +kernel
theorem dX6_mendedIn_27 : decode cX6_mendedIn 27 = .ok (.iaload, 1) := by decide +kernel
theorem dX6_mendedIn_28 : decode cX6_mendedIn 28 = .ok (.aload_n 0, 1) := by decide +kernel
theorem dX6_mendedIn_29 : decode cX6_mendedIn 29 = .ok (.getfield 7, 3) := by decide +kernel
theorem dX6_mendedIn_32 : decode cX6_mendedIn 32 = .ok (.bipush 42, 2) := by decide +kernel
theorem dX6_mendedIn_34 : decode cX6_mendedIn 34 = .ok (.iaload, 1) := by decide +kernel
theorem dX6_mendedIn_35 : decode cX6_mendedIn 35 = .ok (.aload_n 0, 1) := by decide +kernel
theorem dX6_mendedIn_36 : decode cX6_mendedIn 36 = .ok (.getfield 7, 3) := by decide +kernel
theorem dX6_mendedIn_39 : decode cX6_mendedIn 39 = .ok (.bipush 32, 2) := by decide +kernel
theorem dX6_mendedIn_41 : decode cX6_mendedIn 41 = .ok (.iload_n 1, 1) := by decide +kernel
theorem dX6_mendedIn_42 : decode cX6_mendedIn 42 = .ok (.bipush 8, 2) := by decide +kernel
theorem dX6_mendedIn_44 : decode cX6_mendedIn 44 = .ok (.idiv, 1) := by decide +kernel
theorem dX6_mendedIn_45 : decode cX6_mendedIn 45 = .ok (.iadd, 1) := by decide +kernel
theorem dX6_mendedIn_46 : decode cX6_mendedIn 46 = .ok (.iaload, 1) := by decide +kernel
theorem dX6_mendedIn_47 : decode cX6_mendedIn 47 = .ok (.isub, 1) := by decide +kernel
theorem dX6_mendedIn_48 : decode cX6_mendedIn 48 = .ok (.isub, 1) := by decide +kernel
theorem dX6_mendedIn_49 : decode cX6_mendedIn 49 = .ok (.istore_n 2, 1) := by decide +kernel
theorem dX6_mendedIn_50 : decode cX6_mendedIn 50 = .ok (.iload_n 2, 1) := by decide +kernel
theorem dX6_mendedIn_51 : decode cX6_mendedIn 51 = .ok (.iconst 1, 1) := by decide +kernel
theorem dX6_mendedIn_52 : decode cX6_mendedIn 52 = .ok (.if_icmp .ge 7, 3) := by decide +kernel
theorem dX6_mendedIn_55 : decode cX6_mendedIn 55 = .ok (.iconst 1, 1) := by decide +kernel
theorem dX6_mendedIn_56 : decode cX6_mendedIn 56 = .ok (.goto 4, 3) := by decide +kernel
theorem dX6_mendedIn_59 : decode cX6_mendedIn 59 = .ok (.iload_n 2, 1) := by decide +kernel
theorem dX6_mendedIn_60 : decode cX6_mendedIn 60 = .ok (.ireturn, 1) := by decide +kernel
set_option maxRecDepth 20000 in
theorem ggX6_field_X6_in : GoodIn wsX6_field wsX6_in := goodIn_r _ [4] (by decide +kernel) (by decide +kernel)
set_option maxRecDepth 20000 in
theorem gX6_field_X6_in : GoodIn wsX6_field (va_wsS RX6 32 yX6_in wsX6_in) := goodIn_app (goodIn_of _ (by decide +kernel)) ggX6_field_X6_in
set_option maxRecDepth 20000 in
theorem ggX6_field_X6_allOn : GoodIn wsX6_field wsX6_allOn := goodIn_r _ [8, 9, 10, 11, 3, 12, 13, 14, 15, 16, 17, 18, 19, 20, 1, 2, 4, 43, 44, 45, 46, 47, 48, 49, 50, 51, 52] (by decide +kernel) (by decide +kernel)
set_option maxRecDepth 20000 in
theorem gX6_field_X6_allOn : GoodIn wsX6_field (wsV RX6 61 RX6 yX6_allOn wsX6_allOn) := goodIn_app (goodIn_of _ (by decide +kernel)) ggX6_field_X6_allOn
set_option maxRecDepth 20000 in
theorem ggX6_field_X6_lowestOn : GoodIn wsX6_field wsX6_lowestOn := goodIn_r _ [24, 13, 14, 15, 3, 16, 17, 18, 19, 20, 1, 2, 4, 43, 44, 45, 46, 47, 48, 49, 50, 51, 52] (by decide +kernel) (by decide +kernel)
set_option maxRecDepth 20000 in
theorem gX6_field_X6_lowestOn : GoodIn wsX6_field (wsV RX6 149 RX6 yX6_lowestOn wsX6_lowestOn) := goodIn_app (goodIn_of _ (by decide +kernel)) ggX6_field_X6_lowestOn
set_option maxRecDepth 20000 in
theorem ggX6_field_X6_isSafe : GoodIn wsX6_field wsX6_isSafe := goodIn_r _ [27] (by decide +kernel) (by decide +kernel)
set_option maxRecDepth 20000 in
theorem gX6_field_X6_isSafe : GoodIn wsX6_field (va_wsS RX6 85 yX6_isSafe wsX6_isSafe) := goodIn_app (goodIn_of _ (by decide +kernel)) ggX6_field_X6_isSafe
set_option maxRecDepth 20000 in
theorem ggX6_field_X6_bridgeOn : GoodIn wsX6_field wsX6_bridgeOn := goodIn_r _ [31, 17, 32, 33, 3, 34, 43, 44, 45, 46, 47, 48, 49, 50, 51, 52] (by decide +kernel) (by decide +kernel)
set_option maxRecDepth 20000 in
theorem gX6_field_X6_bridgeOn : GoodIn wsX6_field (wsV RX6 152 RX6 yX6_bridgeOn wsX6_bridgeOn) := goodIn_app (goodIn_of _ (by decide +kernel)) ggX6_field_X6_bridgeOn
set_option maxRecDepth 20000 in
theorem ggX6_field_X6_mendedIn : GoodIn wsX6_field wsX6_mendedIn := goodIn_r _ [38, 17, 39, 40, 41, 3, 42, 32, 33, 34, 43, 44, 45, 46, 47, 48, 49, 50, 51, 52] (by decide +kernel) (by decide +kernel)
set_option maxRecDepth 20000 in
theorem gX6_field_X6_mendedIn : GoodIn wsX6_field (wsV RX6 155 RX6 yX6_mendedIn wsX6_mendedIn) := goodIn_app (goodIn_of _ (by decide +kernel)) ggX6_field_X6_mendedIn
theorem dX6_field_0 : decode cX6_field 0 = .ok (.iload_n 1, 1) := by decide +kernel
theorem dX6_field_1 : decode cX6_field 1 = .ok (.iconst 0, 1) := by decide +kernel
theorem dX6_field_2 : decode cX6_field 2 = .ok (.bipush 31, 2) := by decide +kernel
theorem dX6_field_4 : decode cX6_field 4 = .ok (.invokestatic 32, 3) := by decide +kernel
theorem dX6_field_7 : decode cX6_field 7 = .ok (.ifCond .ne 5, 3) := by decide +kernel
theorem dX6_field_10 : decode cX6_field 10 = .ok (.iconst (-1), 1) := by decide +kernel
theorem dX6_field_11 : decode cX6_field 11 = .ok (.ireturn, 1) := by decide +kernel
theorem dX6_field_12 : decode cX6_field 12 = .ok (.iload_n 2, 1) := by decide +kernel
theorem dX6_field_13 : decode cX6_field 13 = .ok (.tableswitch 72 0 4 #[35, 41, 47, 60, 66], 35) := by decide +kernel
theorem dX6_field_48 : decode cX6_field 48 = .ok (.aload_n 0, 1) := by decide +kernel
theorem dX6_field_49 : decode cX6_field 49 = .ok (.iload_n 1, 1) := by decide +kernel
theorem dX6_field_50 : decode cX6_field 50 = .ok (.invokevirtual 61, 3) := by decide +kernel
theorem dX6_field_53 : decode cX6_field 53 = .ok (.ireturn, 1) := by decide +kernel
theorem dX6_field_54 : decode cX6_field 54 = .ok (.aload_n 0, 1) := by decide +kernel
theorem dX6_field_55 : decode cX6_field 55 = .ok (.iload_n 1, 1) := by decide +kernel
theorem dX6_field_56 : decode cX6_field 56 = .ok (.invokevirtual 149, 3) := by decide +kernel
theorem dX6_field_59 : decode cX6_field 59 = .ok (.ireturn, 1) := by decide +kernel
theorem dX6_field_60 : decode cX6_field 60 = .ok (.iload_n 1, 1) := by decide +kernel
theorem dX6_field_61 : decode cX6_field 61 = .ok (.invokestatic 85, 3) := by decide +kernel
theorem dX6_field_64 : decode cX6_field 64 = .ok (.ifCond .eq 7, 3) := by decide +kernel
theorem dX6_field_67 : decode cX6_field 67 = .ok (.iconst 1, 1) := by decide +kernel
theorem dX6_field_68 : decode cX6_field 68 = .ok (.goto 4, 3) := by decide +kernel
theorem dX6_field_71 : decode cX6_field 71 = .ok (.iconst 0, 1) := by decide +kernel
theorem dX6_field_72 : decode cX6_field 72 = .ok (.ireturn, 1) := by decide +kernel
theorem dX6_field_73 : decode cX6_field 73 = .ok (.aload_n 0, 1) := by decide +kernel
theorem dX6_field_74 : decode cX6_field 74 = .ok (.iload_n 1, 1) := by decide +kernel
theorem dX6_field_75 : decode cX6_field 75 = .ok (.invokevirtual 152, 3) := by decide +kernel
theorem dX6_field_78 : decode cX6_field 78 = .ok (.ireturn, 1) := by decide +kernel
theorem dX6_field_79 : decode cX6_field 79 = .ok (.aload_n 0, 1) := by decide +kernel
theorem dX6_field_80 : decode cX6_field 80 = .ok (.iload_n 1, 1) := by decide +kernel
theorem dX6_field_81 : decode cX6_field 81 = .ok (.invokevirtual 155, 3) := by decide +kernel
theorem dX6_field_84 : decode cX6_field 84 = .ok (.ireturn, 1) := by decide +kernel
theorem dX6_field_85 : decode cX6_field 85 = .ok (.bipush (-2), 2) := by decide +kernel
theorem dX6_field_87 : decode cX6_field 87 = .ok (.ireturn, 1) := by decide +kernel
set_option maxRecDepth 20000 in
theorem ggX6_why_X6_isPiece : GoodIn wsX6_why wsX6_isPiece := goodIn_r _ [4, 5, 6, 3, 7] (by decide +kernel) (by decide +kernel)
set_option maxRecDepth 20000 in
theorem gX6_why_X6_isPiece : GoodIn wsX6_why (va_wsS RX6 146 yX6_isPiece wsX6_isPiece) := goodIn_app (goodIn_of _ (by decide +kernel)) ggX6_why_X6_isPiece
set_option maxRecDepth 20000 in
theorem ggX6_why_X6_in : GoodIn wsX6_why wsX6_in := goodIn_r _ [7] (by decide +kernel) (by decide +kernel)
set_option maxRecDepth 20000 in
theorem gX6_why_X6_in : GoodIn wsX6_why (va_wsS RX6 32 yX6_in wsX6_in) := goodIn_app (goodIn_of _ (by decide +kernel)) ggX6_why_X6_in
set_option maxRecDepth 20000 in
theorem ggX6_why_X6_whyNot : GoodIn wsX6_why wsX6_whyNot := goodIn_r _ [11, 12, 13, 14, 15, 16, 3, 17, 18, 19, 20, 5, 6, 7, 21, 22, 23, 24, 25, 26, 27, 28, 29, 30, 31, 32, 33, 34, 35, 36, 37, 38, 39, 40, 41, 42, 43, 44, 45, 46, 47, 48, 49, 50, 51, 52, 53, 54, 55, 56] (by decide +kernel) (by decide +kernel)
set_option maxRecDepth 20000 in
theorem gX6_why_X6_whyNot : GoodIn wsX6_why (wsV RX6 88 RX6 yX6_whyNot wsX6_whyNot) := goodIn_app (goodIn_of _ (by decide +kernel)) ggX6_why_X6_whyNot
theorem dX6_why_0 : decode cX6_why 0 = .ok (.iload_n 1, 1) := by decide +kernel
theorem dX6_why_1 : decode cX6_why 1 = .ok (.invokestatic 146, 3) := by decide +kernel
theorem dX6_why_4 : decode cX6_why 4 = .ok (.ifCond .ne 7, 3) := by decide +kernel
theorem dX6_why_7 : decode cX6_why 7 = .ok (.iconst (-1), 1) := by decide +kernel
theorem dX6_why_8 : decode cX6_why 8 = .ok (.goto 24, 3) := by decide +kernel
theorem dX6_why_11 : decode cX6_why 11 = .ok (.iload_n 2, 1) := by decide +kernel
theorem dX6_why_12 : decode cX6_why 12 = .ok (.iconst 1, 1) := by decide +kernel
theorem dX6_why_13 : decode cX6_why 13 = .ok (.bipush 6, 2) := by decide +kernel
theorem dX6_why_15 : decode cX6_why 15 = .ok (.invokestatic 32, 3) := by decide +kernel
theorem dX6_why_18 : decode cX6_why 18 = .ok (.ifCond .eq 12, 3) := by decide +kernel
theorem dX6_why_21 : decode cX6_why 21 = .ok (.aload_n 0, 1) := by decide +kernel
theorem dX6_why_22 : decode cX6_why 22 = .ok (.iload_n 1, 1) := by decide +kernel
theorem dX6_why_23 : decode cX6_why 23 = .ok (.iload_n 2, 1) := by decide +kernel
theorem dX6_why_24 : decode cX6_why 24 = .ok (.invokevirtual 88, 3) := by decide +kernel
theorem dX6_why_27 : decode cX6_why 27 = .ok (.goto 5, 3) := by decide +kernel
theorem dX6_why_30 : decode cX6_why 30 = .ok (.bipush (-2), 2) := by decide +kernel
theorem dX6_why_32 : decode cX6_why 32 = .ok (.ireturn, 1) := by decide +kernel
theorem dX6_fallenBridges_0 : decode cX6_fallenBridges 0 = .ok (.iconst 0, 1) := by decide +kernel
theorem dX6_fallenBridges_1 : decode cX6_fallenBridges 1 = .ok (.istore_n 1, 1) := by decide +kernel
theorem dX6_fallenBridges_2 : decode cX6_fallenBridges 2 = .ok (.iconst 0, 1) := by decide +kernel
theorem dX6_fallenBridges_3 : decode cX6_fallenBridges 3 = .ok (.istore_n 2, 1) := by decide +kernel
theorem dX6_fallenBridges_4 : decode cX6_fallenBridges 4 = .ok (.iload_n 2, 1) := by decide +kernel
theorem dX6_fallenBridges_5 : decode cX6_fallenBridges 5 = .ok (.iconst 4, 1) := by decide +kernel
theorem dX6_fallenBridges_6 : decode cX6_fallenBridges 6 = .ok (.if_icmp .ge 23, 3) := by decide +kernel
theorem dX6_fallenBridges_9 : decode cX6_fallenBridges 9 = .ok (.iload_n 1, 1) := by decide +kernel
theorem dX6_fallenBridges_10 : decode cX6_fallenBridges 10 = .ok (.aload_n 0, 1) := by decide +kernel
theorem dX6_fallenBridges_11 : decode cX6_fallenBridges 11 = .ok (.getfield 7, 3) := by decide +kernel
theorem dX6_fallenBridges_14 : decode cX6_fallenBridges 14 = .ok (.bipush 24, 2) := by decide +kernel
theorem dX6_fallenBridges_16 : decode cX6_fallenBridges 16 = .ok (.iload_n 2, 1) := by decide +kernel
theorem dX6_fallenBridges_17 : decode cX6_fallenBridges 17 = .ok (.iadd, 1) := by decide +kernel
theorem dX6_fallenBridges_18 : decode cX6_fallenBridges 18 = .ok (.iaload, 1) := by decide +kernel
theorem dX6_fallenBridges_19 : decode cX6_fallenBridges 19 = .ok (.iload_n 2, 1) := by decide +kernel
theorem dX6_fallenBridges_20 : decode cX6_fallenBridges 20 = .ok (.ishl, 1) := by decide +kernel
theorem dX6_fallenBridges_21 : decode cX6_fallenBridges 21 = .ok (.ior, 1) := by decide +kernel
theorem dX6_fallenBridges_22 : decode cX6_fallenBridges 22 = .ok (.istore_n 1, 1) := by decide +kernel
theorem dX6_fallenBridges_23 : decode cX6_fallenBridges 23 = .ok (.iinc 2 1, 3) := by decide +kernel
theorem dX6_fallenBridges_26 : decode cX6_fallenBridges 26 = .ok (.goto (-22), 3) := by decide +kernel
theorem dX6_fallenBridges_29 : decode cX6_fallenBridges 29 = .ok (.iload_n 1, 1) := by decide +kernel
theorem dX6_fallenBridges_30 : decode cX6_fallenBridges 30 = .ok (.ireturn, 1) := by decide +kernel
set_option maxRecDepth 20000 in
theorem ggX6_count_X6_in : GoodIn wsX6_count wsX6_in := goodIn_r _ [7] (by decide +kernel) (by decide +kernel)
set_option maxRecDepth 20000 in
theorem gX6_count_X6_in : GoodIn wsX6_count (va_wsS RX6 32 yX6_in wsX6_in) := goodIn_app (goodIn_of _ (by decide +kernel)) ggX6_count_X6_in
set_option maxRecDepth 20000 in
theorem ggX6_count_X6_atHome : GoodIn wsX6_count wsX6_atHome := goodIn_r _ [11, 1, 20, 21, 22, 23, 24, 25, 26, 27, 28, 29] (by decide +kernel) (by decide +kernel)
set_option maxRecDepth 20000 in
theorem gX6_count_X6_atHome : GoodIn wsX6_count (wsV RX6 51 RX6 yX6_atHome wsX6_atHome) := goodIn_app (goodIn_of _ (by decide +kernel)) ggX6_count_X6_atHome
set_option maxRecDepth 20000 in
theorem ggX6_count_X6_winner : GoodIn wsX6_count wsX6_winner := goodIn_r _ [15, 8, 9, 10, 6, 11, 1, 20, 21, 22, 23, 24, 25, 26, 27, 28, 29] (by decide +kernel) (by decide +kernel)
set_option maxRecDepth 20000 in
theorem gX6_count_X6_winner : GoodIn wsX6_count (wsV RX6 54 RX6 yX6_winner wsX6_winner) := goodIn_app (goodIn_of _ (by decide +kernel)) ggX6_count_X6_winner
set_option maxRecDepth 20000 in
theorem ggX6_count_X6_fallenBridges : GoodIn wsX6_count wsX6_fallenBridges := goodIn_r _ [19, 1, 20, 21, 22, 23, 24, 25, 26, 27, 28, 29] (by decide +kernel) (by decide +kernel)
set_option maxRecDepth 20000 in
theorem gX6_count_X6_fallenBridges : GoodIn wsX6_count (wsV RX6 158 RX6 yX6_fallenBridges wsX6_fallenBridges) := goodIn_app (goodIn_of _ (by decide +kernel)) ggX6_count_X6_fallenBridges
theorem dX6_count_0 : decode cX6_count 0 = .ok (.iload_n 1, 1) := by decide +kernel
theorem dX6_count_1 : decode cX6_count 1 = .ok (.iconst 0, 1) := by decide +kernel
theorem dX6_count_2 : decode cX6_count 2 = .ok (.bipush 7, 2) := by decide +kernel
theorem dX6_count_4 : decode cX6_count 4 = .ok (.invokestatic 32, 3) := by decide +kernel
theorem dX6_count_7 : decode cX6_count 7 = .ok (.ifCond .eq 13, 3) := by decide +kernel
theorem dX6_count_10 : decode cX6_count 10 = .ok (.aload_n 0, 1) := by decide +kernel
theorem dX6_count_11 : decode cX6_count 11 = .ok (.getfield 7, 3) := by decide +kernel
theorem dX6_count_14 : decode cX6_count 14 = .ok (.bipush 36, 2) := by decide +kernel
theorem dX6_count_16 : decode cX6_count 16 = .ok (.iload_n 1, 1) := by decide +kernel
theorem dX6_count_17 : decode cX6_count 17 = .ok (.iadd, 1) := by decide +kernel
theorem dX6_count_18 : decode cX6_count 18 = .ok (.iaload, 1) := by decide +kernel
theorem dX6_count_19 : decode cX6_count 19 = .ok (.ireturn, 1) := by decide +kernel
theorem dX6_count_20 : decode cX6_count 20 = .ok (.iload_n 1, 1) := by decide +kernel
theorem dX6_count_21 : decode cX6_count 21 = .ok (.bipush 9, 2) := by decide +kernel
theorem dX6_count_23 : decode cX6_count 23 = .ok (.bipush 12, 2) := by decide +kernel
theorem dX6_count_25 : decode cX6_count 25 = .ok (.invokestatic 32, 3) := by decide +kernel
theorem dX6_count_28 : decode cX6_count 28 = .ok (.ifCond .eq 12, 3) := by decide +kernel
theorem dX6_count_31 : decode cX6_count 31 = .ok (.aload_n 0, 1) := by decide +kernel
theorem dX6_count_32 : decode cX6_count 32 = .ok (.iload_n 1, 1) := by decide +kernel
theorem dX6_count_33 : decode cX6_count 33 = .ok (.bipush 9, 2) := by decide +kernel
theorem dX6_count_35 : decode cX6_count 35 = .ok (.isub, 1) := by decide +kernel
theorem dX6_count_36 : decode cX6_count 36 = .ok (.invokevirtual 51, 3) := by decide +kernel
theorem dX6_count_39 : decode cX6_count 39 = .ok (.ireturn, 1) := by decide +kernel
theorem dX6_count_40 : decode cX6_count 40 = .ok (.iload_n 1, 1) := by decide +kernel
theorem dX6_count_41 : decode cX6_count 41 = .ok (.tableswitch 91 8 17 #[55, 91, 91, 91, 91, 60, 68, 73, 81, 86], 55) := by decide +kernel
theorem dX6_count_96 : decode cX6_count 96 = .ok (.aload_n 0, 1) := by decide +kernel
theorem dX6_count_97 : decode cX6_count 97 = .ok (.invokevirtual 54, 3) := by decide +kernel
theorem dX6_count_100 : decode cX6_count 100 = .ok (.ireturn, 1) := by decide +kernel
theorem dX6_count_101 : decode cX6_count 101 = .ok (.aload_n 0, 1) := by decide +kernel
theorem dX6_count_102 : decode cX6_count 102 = .ok (.getfield 7, 3) := by decide +kernel
theorem dX6_count_105 : decode cX6_count 105 = .ok (.bipush 44, 2) := by decide +kernel
theorem dX6_count_107 : decode cX6_count 107 = .ok (.iaload, 1) := by decide +kernel
theorem dX6_count_108 : decode cX6_count 108 = .ok (.ireturn, 1) := by decide +kernel
theorem dX6_count_109 : decode cX6_count 109 = .ok (.aload_n 0, 1) := by decide +kernel
theorem dX6_count_110 : decode cX6_count 110 = .ok (.invokevirtual 158, 3) := by decide +kernel
theorem dX6_count_113 : decode cX6_count 113 = .ok (.ireturn, 1) := by decide +kernel
theorem dX6_count_114 : decode cX6_count 114 = .ok (.aload_n 0, 1) := by decide +kernel
theorem dX6_count_115 : decode cX6_count 115 = .ok (.getfield 7, 3) := by decide +kernel
theorem dX6_count_118 : decode cX6_count 118 = .ok (.bipush 45, 2) := by decide +kernel
theorem dX6_count_120 : decode cX6_count 120 = .ok (.iaload, 1) := by decide +kernel
theorem dX6_count_121 : decode cX6_count 121 = .ok (.ireturn, 1) := by decide +kernel
theorem dX6_count_122 : decode cX6_count 122 = .ok (.aload_n 0, 1) := by decide +kernel
theorem dX6_count_123 : decode cX6_count 123 = .ok (.getfield 143, 3) := by decide +kernel
theorem dX6_count_126 : decode cX6_count 126 = .ok (.ireturn, 1) := by decide +kernel
theorem dX6_count_127 : decode cX6_count 127 = .ok (.aload_n 0, 1) := by decide +kernel
theorem dX6_count_128 : decode cX6_count 128 = .ok (.getfield 64, 3) := by decide +kernel
theorem dX6_count_131 : decode cX6_count 131 = .ok (.ireturn, 1) := by decide +kernel
theorem dX6_count_132 : decode cX6_count 132 = .ok (.bipush (-2), 2) := by decide +kernel
theorem dX6_count_134 : decode cX6_count 134 = .ok (.ireturn, 1) := by decide +kernel
set_option maxRecDepth 20000 in
theorem ggX6_kindOf_X6_whyNot : GoodIn wsX6_kindOf wsX6_whyNot := goodIn_r _ [6, 7, 1, 8, 9, 10, 5, 11, 12, 13, 14, 15, 16, 17, 18, 19, 20, 21, 22, 23, 24, 25, 26, 27, 28, 29, 30, 31, 32, 33, 34, 35, 36, 37, 38, 39, 40, 41, 42, 43, 48, 49, 50, 51, 52, 53, 54, 55, 56, 57] (by decide +kernel) (by decide +kernel)
set_option maxRecDepth 20000 in
theorem gX6_kindOf_X6_whyNot : GoodIn wsX6_kindOf (wsV RX6 88 RX6 yX6_whyNot wsX6_whyNot) := goodIn_app (goodIn_of _ (by decide +kernel)) ggX6_kindOf_X6_whyNot
set_option maxRecDepth 20000 in
theorem ggX6_kindOf_X6_fieldAt : GoodIn wsX6_kindOf wsX6_fieldAt := goodIn_r _ [14, 15, 16, 5, 17] (by decide +kernel) (by decide +kernel)
set_option maxRecDepth 20000 in
theorem gX6_kindOf_X6_fieldAt : GoodIn wsX6_kindOf (va_wsS RX6 36 yX6_fieldAt wsX6_fieldAt) := goodIn_app (goodIn_of _ (by decide +kernel)) ggX6_kindOf_X6_fieldAt
set_option maxRecDepth 20000 in
theorem ggX6_kindOf_X6_piecesOn : GoodIn wsX6_kindOf wsX6_piecesOn := goodIn_r _ [32, 33, 34, 35, 5, 36, 7, 12, 13, 14, 15, 16, 17, 48, 49, 50, 51, 52, 53, 54, 55, 56, 57] (by decide +kernel) (by decide +kernel)
set_option maxRecDepth 20000 in
theorem gX6_kindOf_X6_piecesOn : GoodIn wsX6_kindOf (wsV RX6 48 RX6 yX6_piecesOn wsX6_piecesOn) := goodIn_app (goodIn_of _ (by decide +kernel)) ggX6_kindOf_X6_piecesOn
set_option maxRecDepth 20000 in
theorem ggX6_kindOf_X6_otherOn : GoodIn wsX6_kindOf wsX6_otherOn := goodIn_r _ [47, 33, 34, 35, 5, 36, 7, 12, 13, 14, 15, 16, 17, 48, 49, 50, 51, 52, 53, 54, 55, 56, 57] (by decide +kernel) (by decide +kernel)
set_option maxRecDepth 20000 in
theorem gX6_kindOf_X6_otherOn : GoodIn wsX6_kindOf (wsV RX6 91 RX6 yX6_otherOn wsX6_otherOn) := goodIn_app (goodIn_of _ (by decide +kernel)) ggX6_kindOf_X6_otherOn
theorem dX6_kindOf_0 : decode cX6_kindOf 0 = .ok (.aload_n 0, 1) := by decide +kernel
theorem dX6_kindOf_1 : decode cX6_kindOf 1 = .ok (.iload_n 1, 1) := by decide +kernel
theorem dX6_kindOf_2 : decode cX6_kindOf 2 = .ok (.iload_n 2, 1) := by decide +kernel
theorem dX6_kindOf_3 : decode cX6_kindOf 3 = .ok (.invokevirtual 88, 3) := by decide +kernel
theorem dX6_kindOf_6 : decode cX6_kindOf 6 = .ok (.pop, 1) := by decide +kernel
theorem dX6_kindOf_7 : decode cX6_kindOf 7 = .ok (.iload_n 1, 1) := by decide +kernel
theorem dX6_kindOf_8 : decode cX6_kindOf 8 = .ok (.iconst 3, 1) := by decide +kernel
theorem dX6_kindOf_9 : decode cX6_kindOf 9 = .ok (.idiv, 1) := by decide +kernel
theorem dX6_kindOf_10 : decode cX6_kindOf 10 = .ok (.istore_n 3, 1) := by decide +kernel
theorem dX6_kindOf_11 : decode cX6_kindOf 11 = .ok (.iload_n 3, 1) := by decide +kernel
theorem dX6_kindOf_12 : decode cX6_kindOf 12 = .ok (.aload_n 0, 1) := by decide +kernel
theorem dX6_kindOf_13 : decode cX6_kindOf 13 = .ok (.getfield 78, 3) := by decide +kernel
theorem dX6_kindOf_16 : decode cX6_kindOf 16 = .ok (.invokestatic 36, 3) := by decide +kernel
theorem dX6_kindOf_19 : decode cX6_kindOf 19 = .ok (.istore 4, 2) := by decide +kernel
theorem dX6_kindOf_21 : decode cX6_kindOf 21 = .ok (.aload_n 0, 1) := by decide +kernel
theorem dX6_kindOf_22 : decode cX6_kindOf 22 = .ok (.iload_n 3, 1) := by decide +kernel
theorem dX6_kindOf_23 : decode cX6_kindOf 23 = .ok (.iload 4, 2) := by decide +kernel
theorem dX6_kindOf_25 : decode cX6_kindOf 25 = .ok (.invokevirtual 48, 3) := by decide +kernel
theorem dX6_kindOf_28 : decode cX6_kindOf 28 = .ok (.istore 5, 2) := by decide +kernel
theorem dX6_kindOf_30 : decode cX6_kindOf 30 = .ok (.aload_n 0, 1) := by decide +kernel
theorem dX6_kindOf_31 : decode cX6_kindOf 31 = .ok (.getfield 78, 3) := by decide +kernel
theorem dX6_kindOf_34 : decode cX6_kindOf 34 = .ok (.bipush 35, 2) := by decide +kernel
theorem dX6_kindOf_36 : decode cX6_kindOf 36 = .ok (.if_icmp .ne 7, 3) := by decide +kernel
theorem dX6_kindOf_39 : decode cX6_kindOf 39 = .ok (.iconst 3, 1) := by decide +kernel
theorem dX6_kindOf_40 : decode cX6_kindOf 40 = .ok (.goto 27, 3) := by decide +kernel
theorem dX6_kindOf_43 : decode cX6_kindOf 43 = .ok (.aload_n 0, 1) := by decide +kernel
theorem dX6_kindOf_44 : decode cX6_kindOf 44 = .ok (.iload_n 3, 1) := by decide +kernel
theorem dX6_kindOf_45 : decode cX6_kindOf 45 = .ok (.iload 4, 2) := by decide +kernel
theorem dX6_kindOf_47 : decode cX6_kindOf 47 = .ok (.invokevirtual 91, 3) := by decide +kernel
theorem dX6_kindOf_50 : decode cX6_kindOf 50 = .ok (.ifCond .lt 7, 3) := by decide +kernel
theorem dX6_kindOf_53 : decode cX6_kindOf 53 = .ok (.iconst 2, 1) := by decide +kernel
theorem dX6_kindOf_54 : decode cX6_kindOf 54 = .ok (.goto 13, 3) := by decide +kernel
theorem dX6_kindOf_57 : decode cX6_kindOf 57 = .ok (.iload 5, 2) := by decide +kernel
theorem dX6_kindOf_59 : decode cX6_kindOf 59 = .ok (.ifCond .le 7, 3) := by decide +kernel
theorem dX6_kindOf_62 : decode cX6_kindOf 62 = .ok (.iconst 1, 1) := by decide +kernel
theorem dX6_kindOf_63 : decode cX6_kindOf 63 = .ok (.goto 4, 3) := by decide +kernel
theorem dX6_kindOf_66 : decode cX6_kindOf 66 = .ok (.iconst 0, 1) := by decide +kernel
theorem dX6_kindOf_67 : decode cX6_kindOf 67 = .ok (.ireturn, 1) := by decide +kernel
set_option maxRecDepth 20000 in
theorem ggX6_bestPiece_X6_whyNot : GoodIn wsX6_bestPiece wsX6_whyNot := goodIn_r _ [6, 1, 7, 8, 9, 10, 5, 11, 12, 13, 14, 15, 16, 17, 18, 19, 20, 21, 22, 23, 24, 25, 26, 27, 28, 29, 30, 31, 32, 33, 34, 35, 36, 37, 38, 39, 40, 41, 42, 43, 52, 53, 54, 55, 56, 57, 58, 59, 60, 61] (by decide +kernel) (by decide +kernel)
set_option maxRecDepth 20000 in
theorem gX6_bestPiece_X6_whyNot : GoodIn wsX6_bestPiece (wsV RX6 88 RX6 yX6_whyNot wsX6_whyNot) := goodIn_app (goodIn_of _ (by decide +kernel)) ggX6_bestPiece_X6_whyNot
set_option maxRecDepth 20000 in
theorem ggX6_bestPiece_X6_kindOf : GoodIn wsX6_bestPiece wsX6_kindOf := goodIn_r _ [47, 7, 2, 3, 4, 5, 6, 1, 8, 9, 10, 11, 12, 13, 14, 15, 16, 17, 18, 19, 20, 21, 22, 23, 24, 25, 26, 27, 28, 29, 30, 31, 32, 33, 34, 35, 36, 37, 38, 39, 40, 41, 42, 43, 48, 49, 50, 51, 52, 53, 54, 55, 56, 57, 58, 59, 60, 61] (by decide +kernel) (by decide +kernel)
set_option maxRecDepth 20000 in
theorem gX6_bestPiece_X6_kindOf : GoodIn wsX6_bestPiece (wsV RX6 161 RX6 yX6_kindOf wsX6_kindOf) := goodIn_app (goodIn_of _ (by decide +kernel)) ggX6_bestPiece_X6_kindOf
theorem dX6_bestPiece_0 : decode cX6_bestPiece 0 = .ok (.bipush (-6), 2) := by decide +kernel
theorem dX6_bestPiece_2 : decode cX6_bestPiece 2 = .ok (.istore_n 1, 1) := by decide +kernel
theorem dX6_bestPiece_3 : decode cX6_bestPiece 3 = .ok (.iconst 0, 1) := by decide +kernel
theorem dX6_bestPiece_4 : decode cX6_bestPiece 4 = .ok (.istore_n 2, 1) := by decide +kernel
theorem dX6_bestPiece_5 : decode cX6_bestPiece 5 = .ok (.iconst 0, 1) := by decide +kernel
theorem dX6_bestPiece_6 : decode cX6_bestPiece 6 = .ok (.istore_n 3, 1) := by decide +kernel
theorem dX6_bestPiece_7 : decode cX6_bestPiece 7 = .ok (.iload_n 3, 1) := by decide +kernel
theorem dX6_bestPiece_8 : decode cX6_bestPiece 8 = .ok (.iconst 3, 1) := by decide +kernel
theorem dX6_bestPiece_9 : decode cX6_bestPiece 9 = .ok (.if_icmp .ge 97, 3) := by decide +kernel
theorem dX6_bestPiece_12 : decode cX6_bestPiece 12 = .ok (.iconst 3, 1) := by decide +kernel
theorem dX6_bestPiece_13 : decode cX6_bestPiece 13 = .ok (.aload_n 0, 1) := by decide +kernel
theorem dX6_bestPiece_14 : decode cX6_bestPiece 14 = .ok (.getfield 7, 3) := by decide +kernel
theorem dX6_bestPiece_17 : decode cX6_bestPiece 17 = .ok (.bipush 40, 2) := by decide +kernel
theorem dX6_bestPiece_19 : decode cX6_bestPiece 19 = .ok (.iaload, 1) := by decide +kernel
theorem dX6_bestPiece_20 : decode cX6_bestPiece 20 = .ok (.imul, 1) := by decide +kernel
theorem dX6_bestPiece_21 : decode cX6_bestPiece 21 = .ok (.iload_n 3, 1) := by decide +kernel
theorem dX6_bestPiece_22 : decode cX6_bestPiece 22 = .ok (.iadd, 1) := by decide +kernel
theorem dX6_bestPiece_23 : decode cX6_bestPiece 23 = .ok (.istore 4, 2) := by decide +kernel
theorem dX6_bestPiece_25 : decode cX6_bestPiece 25 = .ok (.aload_n 0, 1) := by decide +kernel
theorem dX6_bestPiece_26 : decode cX6_bestPiece 26 = .ok (.iload 4, 2) := by decide +kernel
theorem dX6_bestPiece_28 : decode cX6_bestPiece 28 = .ok (.aload_n 0, 1) := by decide +kernel
theorem dX6_bestPiece_29 : decode cX6_bestPiece 29 = .ok (.getfield 7, 3) := by decide +kernel
theorem dX6_bestPiece_32 : decode cX6_bestPiece 32 = .ok (.bipush 41, 2) := by decide +kernel
theorem dX6_bestPiece_34 : decode cX6_bestPiece 34 = .ok (.iaload, 1) := by decide +kernel
theorem dX6_bestPiece_35 : decode cX6_bestPiece 35 = .ok (.invokevirtual 88, 3) := by decide +kernel
theorem dX6_bestPiece_38 : decode cX6_bestPiece 38 = .ok (.ifCond .ne 62, 3) := by decide +kernel
theorem dX6_bestPiece_41 : decode cX6_bestPiece 41 = .ok (.bipush 100, 2) := by decide +kernel
theorem dX6_bestPiece_43 : decode cX6_bestPiece 43 = .ok (.aload_n 0, 1) := by decide +kernel
theorem dX6_bestPiece_44 : decode cX6_bestPiece 44 = .ok (.iload 4, 2) := by decide +kernel
theorem dX6_bestPiece_46 : decode cX6_bestPiece 46 = .ok (.aload_n 0, 1) := by decide +kernel
theorem dX6_bestPiece_47 : decode cX6_bestPiece 47 = .ok (.getfield 7, 3) := by decide +kernel
theorem dX6_bestPiece_50 : decode cX6_bestPiece 50 = .ok (.bipush 41, 2) := by decide +kernel
theorem dX6_bestPiece_52 : decode cX6_bestPiece 52 = .ok (.iaload, 1) := by decide +kernel
theorem dX6_bestPiece_53 : decode cX6_bestPiece 53 = .ok (.invokevirtual 161, 3) := by decide +kernel
theorem dX6_bestPiece_56 : decode cX6_bestPiece 56 = .ok (.imul, 1) := by decide +kernel
theorem dX6_bestPiece_57 : decode cX6_bestPiece 57 = .ok (.aload_n 0, 1) := by decide +kernel
theorem dX6_bestPiece_58 : decode cX6_bestPiece 58 = .ok (.getfield 7, 3) := by decide +kernel
theorem dX6_bestPiece_61 : decode cX6_bestPiece 61 = .ok (.iload 4, 2) := by decide +kernel
theorem dX6_bestPiece_63 : decode cX6_bestPiece 63 = .ok (.iaload, 1) := by decide +kernel
theorem dX6_bestPiece_64 : decode cX6_bestPiece 64 = .ok (.bipush (-6), 2) := by decide +kernel
theorem dX6_bestPiece_66 : decode cX6_bestPiece 66 = .ok (.if_icmp .ne 7, 3) := by decide +kernel
theorem dX6_bestPiece_69 : decode cX6_bestPiece 69 = .ok (.iconst 0, 1) := by decide +kernel
theorem dX6_bestPiece_70 : decode cX6_bestPiece 70 = .ok (.goto 12, 3) := by decide +kernel
theorem dX6_bestPiece_73 : decode cX6_bestPiece 73 = .ok (.aload_n 0, 1) := by decide +kernel
theorem dX6_bestPiece_74 : decode cX6_bestPiece 74 = .ok (.getfield 7, 3) := by decide +kernel
theorem dX6_bestPiece_77 : decode cX6_bestPiece 77 = .ok (.iload 4, 2) := by decide +kernel
theorem dX6_bestPiece_79 : decode cX6_bestPiece 79 = .ok (.iaload, 1) := by decide +kernel
theorem dX6_bestPiece_80 : decode cX6_bestPiece 80 = .ok (.iconst 1, 1) := by decide +kernel
theorem dX6_bestPiece_81 : decode cX6_bestPiece 81 = .ok (.iadd, 1) := by decide +kernel
theorem dX6_bestPiece_82 : decode cX6_bestPiece 82 = .ok (.iadd, 1) := by decide +kernel
theorem dX6_bestPiece_83 : decode cX6_bestPiece 83 = .ok (.istore 5, 2) := by decide +kernel
theorem dX6_bestPiece_85 : decode cX6_bestPiece 85 = .ok (.iload_n 1, 1) := by decide +kernel
theorem dX6_bestPiece_86 : decode cX6_bestPiece 86 = .ok (.ifCond .lt 9, 3) := by decide +kernel
theorem dX6_bestPiece_89 : decode cX6_bestPiece 89 = .ok (.iload 5, 2) := by decide +kernel
theorem dX6_bestPiece_91 : decode cX6_bestPiece 91 = .ok (.iload_n 2, 1) := by decide +kernel
theorem dX6_bestPiece_92 : decode cX6_bestPiece 92 = .ok (.if_icmp .le 8, 3) := by decide +kernel
theorem dX6_bestPiece_95 : decode cX6_bestPiece 95 = .ok (.iload_n 3, 1) := by decide +kernel
theorem dX6_bestPiece_96 : decode cX6_bestPiece 96 = .ok (.istore_n 1, 1) := by decide +kernel
theorem dX6_bestPiece_97 : decode cX6_bestPiece 97 = .ok (.iload 5, 2) := by decide +kernel
theorem dX6_bestPiece_99 : decode cX6_bestPiece 99 = .ok (.istore_n 2, 1) := by decide +kernel
theorem dX6_bestPiece_100 : decode cX6_bestPiece 100 = .ok (.iinc 3 1, 3) := by decide +kernel
theorem dX6_bestPiece_103 : decode cX6_bestPiece 103 = .ok (.goto (-96), 3) := by decide +kernel
theorem dX6_bestPiece_106 : decode cX6_bestPiece 106 = .ok (.iload_n 1, 1) := by decide +kernel
theorem dX6_bestPiece_107 : decode cX6_bestPiece 107 = .ok (.ireturn, 1) := by decide +kernel
set_option maxRecDepth 20000 in
theorem ggX6_best_X6_hasCast : GoodIn wsX6_best wsX6_hasCast := goodIn_r _ [5, 6, 60, 61, 62, 63, 64, 65, 66, 67, 68, 69] (by decide +kernel) (by decide +kernel)
set_option maxRecDepth 20000 in
theorem gX6_best_X6_hasCast : GoodIn wsX6_best (wsV RX6 114 RX6 yX6_hasCast wsX6_hasCast) := goodIn_app (goodIn_of _ (by decide +kernel)) ggX6_best_X6_hasCast
set_option maxRecDepth 20000 in
theorem ggX6_best_X6_bestPiece : GoodIn wsX6_best wsX6_bestPiece := goodIn_r _ [10, 6, 11, 12, 13, 4, 14, 15, 16, 17, 18, 19, 20, 21, 22, 23, 24, 25, 26, 27, 28, 29, 30, 31, 32, 33, 34, 35, 36, 37, 38, 39, 40, 41, 42, 43, 44, 45, 46, 47, 48, 49, 50, 51, 52, 53, 54, 55, 56, 57, 58, 59, 60, 61, 62, 63, 64, 65, 66, 67, 68, 69] (by decide +kernel) (by decide +kernel)
set_option maxRecDepth 20000 in
theorem gX6_best_X6_bestPiece : GoodIn wsX6_best (wsV RX6 134 RX6 yX6_bestPiece wsX6_bestPiece) := goodIn_app (goodIn_of _ (by decide +kernel)) ggX6_best_X6_bestPiece
theorem dX6_best_0 : decode cX6_best 0 = .ok (.aload_n 0, 1) := by decide +kernel
theorem dX6_best_1 : decode cX6_best 1 = .ok (.invokevirtual 114, 3) := by decide +kernel
theorem dX6_best_4 : decode cX6_best 4 = .ok (.ifCond .eq 10, 3) := by decide +kernel
theorem dX6_best_7 : decode cX6_best 7 = .ok (.aload_n 0, 1) := by decide +kernel
theorem dX6_best_8 : decode cX6_best 8 = .ok (.invokevirtual 134, 3) := by decide +kernel
theorem dX6_best_11 : decode cX6_best 11 = .ok (.goto 5, 3) := by decide +kernel
theorem dX6_best_14 : decode cX6_best 14 = .ok (.bipush (-5), 2) := by decide +kernel
theorem dX6_best_16 : decode cX6_best 16 = .ok (.ireturn, 1) := by decide +kernel
set_option maxRecDepth 20000 in
theorem ggX6_throwsNeeded_X6_stepOn : GoodIn wsX6_throwsNeeded wsX6_stepOn := goodIn_r _ [7, 8, 9, 6, 10, 11, 12, 13, 14, 15, 16, 17, 2, 18, 19, 20, 21, 22, 23, 24, 25, 26, 27, 28, 29, 30] (by decide +kernel) (by decide +kernel)
set_option maxRecDepth 20000 in
theorem gX6_throwsNeeded_X6_stepOn : GoodIn wsX6_throwsNeeded (wsV RX6 74 RX6 yX6_stepOn wsX6_stepOn) := goodIn_app (goodIn_of _ (by decide +kernel)) ggX6_throwsNeeded_X6_stepOn
theorem dX6_throwsNeeded_0 : decode cX6_throwsNeeded 0 = .ok (.iload_n 1, 1) := by decide +kernel
theorem dX6_throwsNeeded_1 : decode cX6_throwsNeeded 1 = .ok (.iconst 3, 1) := by decide +kernel
theorem dX6_throwsNeeded_2 : decode cX6_throwsNeeded 2 = .ok (.idiv, 1) := by decide +kernel
theorem dX6_throwsNeeded_3 : decode cX6_throwsNeeded 3 = .ok (.istore_n 2, 1) := by decide +kernel
theorem dX6_throwsNeeded_4 : decode cX6_throwsNeeded 4 = .ok (.aload_n 0, 1) := by decide +kernel
theorem dX6_throwsNeeded_5 : decode cX6_throwsNeeded 5 = .ok (.getfield 29, 3) := by decide +kernel
theorem dX6_throwsNeeded_8 : decode cX6_throwsNeeded 8 = .ok (.bipush 35, 2) := by decide +kernel
theorem dX6_throwsNeeded_10 : decode cX6_throwsNeeded 10 = .ok (.iconst 0, 1) := by decide +kernel
theorem dX6_throwsNeeded_11 : decode cX6_throwsNeeded 11 = .ok (.iastore, 1) := by decide +kernel
theorem dX6_throwsNeeded_12 : decode cX6_throwsNeeded 12 = .ok (.bipush 34, 2) := by decide +kernel
theorem dX6_throwsNeeded_14 : decode cX6_throwsNeeded 14 = .ok (.istore_n 3, 1) := by decide +kernel
theorem dX6_throwsNeeded_15 : decode cX6_throwsNeeded 15 = .ok (.iload_n 3, 1) := by decide +kernel
theorem dX6_throwsNeeded_16 : decode cX6_throwsNeeded 16 = .ok (.ifCond .lt 91, 3) := by decide +kernel
theorem dX6_throwsNeeded_19 : decode cX6_throwsNeeded 19 = .ok (.aload_n 0, 1) := by decide +kernel
theorem dX6_throwsNeeded_20 : decode cX6_throwsNeeded 20 = .ok (.getfield 29, 3) := by decide +kernel
theorem dX6_throwsNeeded_23 : decode cX6_throwsNeeded 23 = .ok (.iload_n 3, 1) := by decide +kernel
theorem dX6_throwsNeeded_24 : decode cX6_throwsNeeded 24 = .ok (.sipush 400, 3) := by decide +kernel
theorem dX6_throwsNeeded_27 : decode cX6_throwsNeeded 27 = .ok (.iastore, 1) := by decide +kernel
theorem dX6_throwsNeeded_28 : decode cX6_throwsNeeded 28 = .ok (.iconst 1, 1) := by decide +kernel
theorem dX6_throwsNeeded_29 : decode cX6_throwsNeeded 29 = .ok (.istore 4, 2) := by decide +kernel
theorem dX6_throwsNeeded_31 : decode cX6_throwsNeeded 31 = .ok (.iload 4, 2) := by decide +kernel
theorem dX6_throwsNeeded_33 : decode cX6_throwsNeeded 33 = .ok (.bipush 6, 2) := by decide +kernel
theorem dX6_throwsNeeded_35 : decode cX6_throwsNeeded 35 = .ok (.if_icmp .gt 66, 3) := by decide +kernel
theorem dX6_throwsNeeded_38 : decode cX6_throwsNeeded 38 = .ok (.aload_n 0, 1) := by decide +kernel
theorem dX6_throwsNeeded_39 : decode cX6_throwsNeeded 39 = .ok (.iload_n 2, 1) := by decide +kernel
theorem dX6_throwsNeeded_40 : decode cX6_throwsNeeded 40 = .ok (.iload_n 3, 1) := by decide +kernel
theorem dX6_throwsNeeded_41 : decode cX6_throwsNeeded 41 = .ok (.iload 4, 2) := by decide +kernel
theorem dX6_throwsNeeded_43 : decode cX6_throwsNeeded 43 = .ok (.invokevirtual 74, 3) := by decide +kernel
theorem dX6_throwsNeeded_46 : decode cX6_throwsNeeded 46 = .ok (.istore 5, 2) := by decide +kernel
theorem dX6_throwsNeeded_48 : decode cX6_throwsNeeded 48 = .ok (.aload_n 0, 1) := by decide +kernel
theorem dX6_throwsNeeded_49 : decode cX6_throwsNeeded 49 = .ok (.getfield 29, 3) := by decide +kernel
theorem dX6_throwsNeeded_52 : decode cX6_throwsNeeded 52 = .ok (.iload_n 3, 1) := by decide +kernel
theorem dX6_throwsNeeded_53 : decode cX6_throwsNeeded 53 = .ok (.iload 5, 2) := by decide +kernel
theorem dX6_throwsNeeded_55 : decode cX6_throwsNeeded 55 = .ok (.ifCond .lt 33, 3) := by decide +kernel
theorem dX6_throwsNeeded_58 : decode cX6_throwsNeeded 58 = .ok (.aload_n 0, 1) := by decide +kernel
theorem dX6_throwsNeeded_59 : decode cX6_throwsNeeded 59 = .ok (.getfield 29, 3) := by decide +kernel
theorem dX6_throwsNeeded_62 : decode cX6_throwsNeeded 62 = .ok (.iload 5, 2) := by decide +kernel
theorem dX6_throwsNeeded_64 : decode cX6_throwsNeeded 64 = .ok (.iaload, 1) := by decide +kernel
theorem dX6_throwsNeeded_65 : decode cX6_throwsNeeded 65 = .ok (.iconst 1, 1) := by decide +kernel
theorem dX6_throwsNeeded_66 : decode cX6_throwsNeeded 66 = .ok (.iadd, 1) := by decide +kernel
theorem dX6_throwsNeeded_67 : decode cX6_throwsNeeded 67 = .ok (.aload_n 0, 1) := by decide +kernel
theorem dX6_throwsNeeded_68 : decode cX6_throwsNeeded 68 = .ok (.getfield 29, 3) := by decide +kernel
theorem dX6_throwsNeeded_71 : decode cX6_throwsNeeded 71 = .ok (.iload_n 3, 1) := by decide +kernel
theorem dX6_throwsNeeded_72 : decode cX6_throwsNeeded 72 = .ok (.iaload, 1) := by decide +kernel
theorem dX6_throwsNeeded_73 : decode cX6_throwsNeeded 73 = .ok (.if_icmp .ge 15, 3) := by decide +kernel
theorem dX6_throwsNeeded_76 : decode cX6_throwsNeeded 76 = .ok (.aload_n 0, 1) := by decide +kernel
theorem dX6_throwsNeeded_77 : decode cX6_throwsNeeded 77 = .ok (.getfield 29, 3) := by decide +kernel
theorem dX6_throwsNeeded_80 : decode cX6_throwsNeeded 80 = .ok (.iload 5, 2) := by decide +kernel
theorem dX6_throwsNeeded_82 : decode cX6_throwsNeeded 82 = .ok (.iaload, 1) := by decide +kernel
theorem dX6_throwsNeeded_83 : decode cX6_throwsNeeded 83 = .ok (.iconst 1, 1) := by decide +kernel
theorem dX6_throwsNeeded_84 : decode cX6_throwsNeeded 84 = .ok (.iadd, 1) := by decide +kernel
theorem dX6_throwsNeeded_85 : decode cX6_throwsNeeded 85 = .ok (.goto 9, 3) := by decide +kernel
theorem dX6_throwsNeeded_88 : decode cX6_throwsNeeded 88 = .ok (.aload_n 0, 1) := by decide +kernel
theorem dX6_throwsNeeded_89 : decode cX6_throwsNeeded 89 = .ok (.getfield 29, 3) := by decide +kernel
theorem dX6_throwsNeeded_92 : decode cX6_throwsNeeded 92 = .ok (.iload_n 3, 1) := by decide +kernel
theorem dX6_throwsNeeded_93 : decode cX6_throwsNeeded 93 = .ok (.iaload, 1) := by decide +kernel
theorem dX6_throwsNeeded_94 : decode cX6_throwsNeeded 94 = .ok (.iastore, 1) := by decide +kernel
theorem dX6_throwsNeeded_95 : decode cX6_throwsNeeded 95 = .ok (.iinc 4 1, 3) := by decide +kernel
theorem dX6_throwsNeeded_98 : decode cX6_throwsNeeded 98 = .ok (.goto (-67), 3) := by decide +kernel
theorem dX6_throwsNeeded_101 : decode cX6_throwsNeeded 101 = .ok (.iinc 3 (-1), 3) := by decide +kernel
theorem dX6_throwsNeeded_104 : decode cX6_throwsNeeded 104 = .ok (.goto (-89), 3) := by decide +kernel
theorem dX6_throwsNeeded_107 : decode cX6_throwsNeeded 107 = .ok (.aload_n 0, 1) := by decide +kernel
theorem dX6_throwsNeeded_108 : decode cX6_throwsNeeded 108 = .ok (.getfield 7, 3) := by decide +kernel
theorem dX6_throwsNeeded_111 : decode cX6_throwsNeeded 111 = .ok (.iload_n 1, 1) := by decide +kernel
theorem dX6_throwsNeeded_112 : decode cX6_throwsNeeded 112 = .ok (.iaload, 1) := by decide +kernel
theorem dX6_throwsNeeded_113 : decode cX6_throwsNeeded 113 = .ok (.bipush (-6), 2) := by decide +kernel
theorem dX6_throwsNeeded_115 : decode cX6_throwsNeeded 115 = .ok (.if_icmp .ne 14, 3) := by decide +kernel
theorem dX6_throwsNeeded_118 : decode cX6_throwsNeeded 118 = .ok (.aload_n 0, 1) := by decide +kernel
theorem dX6_throwsNeeded_119 : decode cX6_throwsNeeded 119 = .ok (.getfield 29, 3) := by decide +kernel
theorem dX6_throwsNeeded_122 : decode cX6_throwsNeeded 122 = .ok (.iconst 0, 1) := by decide +kernel
theorem dX6_throwsNeeded_123 : decode cX6_throwsNeeded 123 = .ok (.iaload, 1) := by decide +kernel
theorem dX6_throwsNeeded_124 : decode cX6_throwsNeeded 124 = .ok (.iconst 1, 1) := by decide +kernel
theorem dX6_throwsNeeded_125 : decode cX6_throwsNeeded 125 = .ok (.iadd, 1) := by decide +kernel
theorem dX6_throwsNeeded_126 : decode cX6_throwsNeeded 126 = .ok (.goto 14, 3) := by decide +kernel
theorem dX6_throwsNeeded_129 : decode cX6_throwsNeeded 129 = .ok (.aload_n 0, 1) := by decide +kernel
theorem dX6_throwsNeeded_130 : decode cX6_throwsNeeded 130 = .ok (.getfield 29, 3) := by decide +kernel
theorem dX6_throwsNeeded_133 : decode cX6_throwsNeeded 133 = .ok (.aload_n 0, 1) := by decide +kernel
theorem dX6_throwsNeeded_134 : decode cX6_throwsNeeded 134 = .ok (.getfield 7, 3) := by decide +kernel
theorem dX6_throwsNeeded_137 : decode cX6_throwsNeeded 137 = .ok (.iload_n 1, 1) := by decide +kernel
theorem dX6_throwsNeeded_138 : decode cX6_throwsNeeded 138 = .ok (.iaload, 1) := by decide +kernel
theorem dX6_throwsNeeded_139 : decode cX6_throwsNeeded 139 = .ok (.iaload, 1) := by decide +kernel
theorem dX6_throwsNeeded_140 : decode cX6_throwsNeeded 140 = .ok (.ireturn, 1) := by decide +kernel
set_option maxRecDepth 20000 in
theorem ggX6_needs_X6_isPiece : GoodIn wsX6_needs wsX6_isPiece := goodIn_r _ [4, 5, 6, 3, 7] (by decide +kernel) (by decide +kernel)
set_option maxRecDepth 20000 in
theorem gX6_needs_X6_isPiece : GoodIn wsX6_needs (va_wsS RX6 146 yX6_isPiece wsX6_isPiece) := goodIn_app (goodIn_of _ (by decide +kernel)) ggX6_needs_X6_isPiece
set_option maxRecDepth 20000 in
theorem ggX6_needs_X6_in : GoodIn wsX6_needs wsX6_in := goodIn_r _ [7] (by decide +kernel) (by decide +kernel)
set_option maxRecDepth 20000 in
theorem gX6_needs_X6_in : GoodIn wsX6_needs (va_wsS RX6 32 yX6_in wsX6_in) := goodIn_app (goodIn_of _ (by decide +kernel)) ggX6_needs_X6_in
set_option maxRecDepth 20000 in
theorem ggX6_needs_X6_throwsNeeded : GoodIn wsX6_needs wsX6_throwsNeeded := goodIn_r _ [11, 12, 13, 14, 15, 16, 3, 17, 18, 19, 20, 5, 6, 7, 21, 22, 23, 24, 25, 26, 27, 28, 29, 30, 31, 32, 33, 34, 35, 36, 37] (by decide +kernel) (by decide +kernel)
set_option maxRecDepth 20000 in
theorem gX6_needs_X6_throwsNeeded : GoodIn wsX6_needs (wsV RX6 164 RX6 yX6_throwsNeeded wsX6_throwsNeeded) := goodIn_app (goodIn_of _ (by decide +kernel)) ggX6_needs_X6_throwsNeeded
theorem dX6_needs_0 : decode cX6_needs 0 = .ok (.iload_n 1, 1) := by decide +kernel
theorem dX6_needs_1 : decode cX6_needs 1 = .ok (.invokestatic 146, 3) := by decide +kernel
theorem dX6_needs_4 : decode cX6_needs 4 = .ok (.ifCond .ne 7, 3) := by decide +kernel
theorem dX6_needs_7 : decode cX6_needs 7 = .ok (.iconst (-1), 1) := by decide +kernel
theorem dX6_needs_8 : decode cX6_needs 8 = .ok (.goto 22, 3) := by decide +kernel
theorem dX6_needs_11 : decode cX6_needs 11 = .ok (.iload_n 2, 1) := by decide +kernel
theorem dX6_needs_12 : decode cX6_needs 12 = .ok (.iconst 0, 1) := by decide +kernel
theorem dX6_needs_13 : decode cX6_needs 13 = .ok (.iconst 1, 1) := by decide +kernel
theorem dX6_needs_14 : decode cX6_needs 14 = .ok (.invokestatic 32, 3) := by decide +kernel
theorem dX6_needs_17 : decode cX6_needs 17 = .ok (.ifCond .eq 11, 3) := by decide +kernel
theorem dX6_needs_20 : decode cX6_needs 20 = .ok (.aload_n 0, 1) := by decide +kernel
theorem dX6_needs_21 : decode cX6_needs 21 = .ok (.iload_n 1, 1) := by decide +kernel
theorem dX6_needs_22 : decode cX6_needs 22 = .ok (.invokevirtual 164, 3) := by decide +kernel
theorem dX6_needs_25 : decode cX6_needs 25 = .ok (.goto 5, 3) := by decide +kernel
theorem dX6_needs_28 : decode cX6_needs 28 = .ok (.bipush (-2), 2) := by decide +kernel
theorem dX6_needs_30 : decode cX6_needs 30 = .ok (.ireturn, 1) := by decide +kernel
set_option maxRecDepth 20000 in
theorem ggX6_nextCast_X6_in : GoodIn wsX6_nextCast wsX6_in := goodIn_r _ [5] (by decide +kernel) (by decide +kernel)
set_option maxRecDepth 20000 in
theorem gX6_nextCast_X6_in : GoodIn wsX6_nextCast (va_wsS RX6 32 yX6_in wsX6_in) := goodIn_app (goodIn_of _ (by decide +kernel)) ggX6_nextCast_X6_in
set_option maxRecDepth 20000 in
theorem ggX6_nextCast_X6_draw : GoodIn wsX6_nextCast wsX6_draw := goodIn_r _ [9, 1, 10, 11, 12, 13, 14, 15, 16, 17, 18, 19, 20, 21, 22, 23] (by decide +kernel) (by decide +kernel)
set_option maxRecDepth 20000 in
theorem gX6_nextCast_X6_draw : GoodIn wsX6_nextCast (wsV RX6 117 RX6 yX6_draw wsX6_draw) := goodIn_app (goodIn_of _ (by decide +kernel)) ggX6_nextCast_X6_draw
theorem dX6_nextCast_0 : decode cX6_nextCast 0 = .ok (.iload_n 1, 1) := by decide +kernel
theorem dX6_nextCast_1 : decode cX6_nextCast 1 = .ok (.iconst 0, 1) := by decide +kernel
theorem dX6_nextCast_2 : decode cX6_nextCast 2 = .ok (.bipush 99, 2) := by decide +kernel
theorem dX6_nextCast_4 : decode cX6_nextCast 4 = .ok (.invokestatic 32, 3) := by decide +kernel
theorem dX6_nextCast_7 : decode cX6_nextCast 7 = .ok (.ifCond .ne 6, 3) := by decide +kernel
theorem dX6_nextCast_10 : decode cX6_nextCast 10 = .ok (.bipush (-2), 2) := by decide +kernel
theorem dX6_nextCast_12 : decode cX6_nextCast 12 = .ok (.ireturn, 1) := by decide +kernel
theorem dX6_nextCast_13 : decode cX6_nextCast 13 = .ok (.aload_n 0, 1) := by decide +kernel
theorem dX6_nextCast_14 : decode cX6_nextCast 14 = .ok (.getfield 7, 3) := by decide +kernel
theorem dX6_nextCast_17 : decode cX6_nextCast 17 = .ok (.bipush 39, 2) := by decide +kernel
theorem dX6_nextCast_19 : decode cX6_nextCast 19 = .ok (.iaload, 1) := by decide +kernel
theorem dX6_nextCast_20 : decode cX6_nextCast 20 = .ok (.istore_n 2, 1) := by decide +kernel
theorem dX6_nextCast_21 : decode cX6_nextCast 21 = .ok (.iconst 0, 1) := by decide +kernel
theorem dX6_nextCast_22 : decode cX6_nextCast 22 = .ok (.istore_n 3, 1) := by decide +kernel
theorem dX6_nextCast_23 : decode cX6_nextCast 23 = .ok (.iconst 0, 1) := by decide +kernel
theorem dX6_nextCast_24 : decode cX6_nextCast 24 = .ok (.istore 4, 2) := by decide +kernel
theorem dX6_nextCast_26 : decode cX6_nextCast 26 = .ok (.iload 4, 2) := by decide +kernel
theorem dX6_nextCast_28 : decode cX6_nextCast 28 = .ok (.iload_n 1, 1) := by decide +kernel
theorem dX6_nextCast_29 : decode cX6_nextCast 29 = .ok (.if_icmp .gt 14, 3) := by decide +kernel
theorem dX6_nextCast_32 : decode cX6_nextCast 32 = .ok (.aload_n 0, 1) := by decide +kernel
theorem dX6_nextCast_33 : decode cX6_nextCast 33 = .ok (.invokevirtual 117, 3) := by decide +kernel
theorem dX6_nextCast_36 : decode cX6_nextCast 36 = .ok (.istore_n 3, 1) := by decide +kernel
theorem dX6_nextCast_37 : decode cX6_nextCast 37 = .ok (.iinc 4 1, 3) := by decide +kernel
theorem dX6_nextCast_40 : decode cX6_nextCast 40 = .ok (.goto (-14), 3) := by decide +kernel
theorem dX6_nextCast_43 : decode cX6_nextCast 43 = .ok (.aload_n 0, 1) := by decide +kernel
theorem dX6_nextCast_44 : decode cX6_nextCast 44 = .ok (.getfield 7, 3) := by decide +kernel
theorem dX6_nextCast_47 : decode cX6_nextCast 47 = .ok (.bipush 39, 2) := by decide +kernel
theorem dX6_nextCast_49 : decode cX6_nextCast 49 = .ok (.iload_n 2, 1) := by decide +kernel
theorem dX6_nextCast_50 : decode cX6_nextCast 50 = .ok (.iastore, 1) := by decide +kernel
theorem dX6_nextCast_51 : decode cX6_nextCast 51 = .ok (.iload_n 3, 1) := by decide +kernel
theorem dX6_nextCast_52 : decode cX6_nextCast 52 = .ok (.ireturn, 1) := by decide +kernel
set_option maxRecDepth 20000 in
theorem ggX6_untilOver_X6_hasCast : GoodIn wsX6_untilOver wsX6_hasCast := goodIn_r _ [5, 6, 113, 114, 115, 116, 117, 118, 119, 120, 121, 122] (by decide +kernel) (by decide +kernel)
set_option maxRecDepth 20000 in
theorem gX6_untilOver_X6_hasCast : GoodIn wsX6_untilOver (wsV RX6 114 RX6 yX6_hasCast wsX6_hasCast) := goodIn_app (goodIn_of _ (by decide +kernel)) ggX6_untilOver_X6_hasCast
set_option maxRecDepth 20000 in
theorem ggX6_untilOver_X6_putAside : GoodIn wsX6_untilOver wsX6_putAside := goodIn_r _ [10, 11, 6, 113, 114, 115, 116, 117, 118, 119, 120, 121, 122] (by decide +kernel) (by decide +kernel)
set_option maxRecDepth 20000 in
theorem gX6_untilOver_X6_putAside : GoodIn wsX6_untilOver (wsV RX6 167 RX6 yX6_putAside wsX6_putAside) := goodIn_app (goodIn_of _ (by decide +kernel)) ggX6_untilOver_X6_putAside
set_option maxRecDepth 20000 in
theorem ggX6_untilOver_X6_doPlay : GoodIn wsX6_untilOver wsX6_doPlay := goodIn_r _ [15, 6, 16, 17, 18, 4, 19, 20, 21, 22, 23, 24, 25, 26, 27, 28, 29, 30, 31, 32, 33, 34, 35, 36, 37, 38, 39, 40, 41, 42, 43, 44, 45, 46, 47, 48, 49, 50, 51, 52, 53, 54, 55, 56, 57, 58, 59, 60, 61, 62, 63, 64, 65, 66, 67, 68, 69, 70, 71, 72, 73, 74, 75, 76, 77, 78, 79, 80, 81, 82, 83, 84, 85, 86, 87, 88, 89, 90, 91, 92, 93, 94, 95, 96, 97, 98, 99, 100, 101, 102, 103, 104, 105, 106, 107, 108, 113, 114, 115, 116, 117, 118, 119, 120, 121, 122] (by decide +kernel) (by decide +kernel)
set_option maxRecDepth 20000 in
theorem gX6_untilOver_X6_doPlay : GoodIn wsX6_untilOver (wsV RX6 137 RX6 yX6_doPlay wsX6_doPlay) := goodIn_app (goodIn_of _ (by decide +kernel)) ggX6_untilOver_X6_doPlay
set_option maxRecDepth 20000 in
theorem ggX6_untilOver_X6_isOver : GoodIn wsX6_untilOver wsX6_isOver := goodIn_r _ [19, 20, 21, 22, 4, 23, 24, 25, 26, 27, 6, 113, 114, 115, 116, 117, 118, 119, 120, 121, 122] (by decide +kernel) (by decide +kernel)
set_option maxRecDepth 20000 in
theorem gX6_untilOver_X6_isOver : GoodIn wsX6_untilOver (wsV RX6 97 RX6 yX6_isOver wsX6_isOver) := goodIn_app (goodIn_of _ (by decide +kernel)) ggX6_untilOver_X6_isOver
set_option maxRecDepth 20000 in
theorem ggX6_untilOver_X6_putBack : GoodIn wsX6_untilOver wsX6_putBack := goodIn_r _ [112, 6, 11, 113, 114, 115, 116, 117, 118, 119, 120, 121, 122] (by decide +kernel) (by decide +kernel)
set_option maxRecDepth 20000 in
theorem gX6_untilOver_X6_putBack : GoodIn wsX6_untilOver (wsV RX6 170 RX6 yX6_putBack wsX6_putBack) := goodIn_app (goodIn_of _ (by decide +kernel)) ggX6_untilOver_X6_putBack
theorem dX6_untilOver_0 : decode cX6_untilOver 0 = .ok (.aload_n 0, 1) := by decide +kernel
theorem dX6_untilOver_1 : decode cX6_untilOver 1 = .ok (.invokevirtual 114, 3) := by decide +kernel
theorem dX6_untilOver_4 : decode cX6_untilOver 4 = .ok (.ifCond .eq 6, 3) := by decide +kernel
theorem dX6_untilOver_7 : decode cX6_untilOver 7 = .ok (.bipush (-5), 2) := by decide +kernel
theorem dX6_untilOver_9 : decode cX6_untilOver 9 = .ok (.ireturn, 1) := by decide +kernel
theorem dX6_untilOver_10 : decode cX6_untilOver 10 = .ok (.aload_n 0, 1) := by decide +kernel
theorem dX6_untilOver_11 : decode cX6_untilOver 11 = .ok (.invokevirtual 167, 3) := by decide +kernel
theorem dX6_untilOver_14 : decode cX6_untilOver 14 = .ok (.aload_n 0, 1) := by decide +kernel
theorem dX6_untilOver_15 : decode cX6_untilOver 15 = .ok (.sipush 400, 3) := by decide +kernel
theorem dX6_untilOver_18 : decode cX6_untilOver 18 = .ok (.invokevirtual 137, 3) := by decide +kernel
theorem dX6_untilOver_21 : decode cX6_untilOver 21 = .ok (.istore_n 1, 1) := by decide +kernel
theorem dX6_untilOver_22 : decode cX6_untilOver 22 = .ok (.aload_n 0, 1) := by decide +kernel
theorem dX6_untilOver_23 : decode cX6_untilOver 23 = .ok (.invokevirtual 97, 3) := by decide +kernel
theorem dX6_untilOver_26 : decode cX6_untilOver 26 = .ok (.istore_n 2, 1) := by decide +kernel
theorem dX6_untilOver_27 : decode cX6_untilOver 27 = .ok (.aload_n 0, 1) := by decide +kernel
theorem dX6_untilOver_28 : decode cX6_untilOver 28 = .ok (.invokevirtual 170, 3) := by decide +kernel
theorem dX6_untilOver_31 : decode cX6_untilOver 31 = .ok (.iload_n 2, 1) := by decide +kernel
theorem dX6_untilOver_32 : decode cX6_untilOver 32 = .ok (.ifCond .eq 7, 3) := by decide +kernel
theorem dX6_untilOver_35 : decode cX6_untilOver 35 = .ok (.iload_n 1, 1) := by decide +kernel
theorem dX6_untilOver_36 : decode cX6_untilOver 36 = .ok (.goto 5, 3) := by decide +kernel
theorem dX6_untilOver_39 : decode cX6_untilOver 39 = .ok (.bipush (-6), 2) := by decide +kernel
theorem dX6_untilOver_41 : decode cX6_untilOver 41 = .ok (.ireturn, 1) := by decide +kernel
set_option maxRecDepth 20000 in
theorem ggX6_put_X6_in : GoodIn wsX6_put wsX6_in := goodIn_r _ [7] (by decide +kernel) (by decide +kernel)
set_option maxRecDepth 20000 in
theorem gX6_put_X6_in : GoodIn wsX6_put (va_wsS RX6 32 yX6_in wsX6_in) := goodIn_app (goodIn_of _ (by decide +kernel)) ggX6_put_X6_in
theorem dX6_put_0 : decode cX6_put 0 = .ok (.iconst 0, 1) := by decide +kernel
theorem dX6_put_1 : decode cX6_put 1 = .ok (.istore_n 3, 1) := by decide +kernel
theorem dX6_put_2 : decode cX6_put 2 = .ok (.lload_n 1, 1) := by decide +kernel
theorem dX6_put_3 : decode cX6_put 3 = .ok (.lstore 4, 2) := by decide +kernel
theorem dX6_put_5 : decode cX6_put 5 = .ok (.lload_n 1, 1) := by decide +kernel
theorem dX6_put_6 : decode cX6_put 6 = .ok (.lconst 0, 1) := by decide +kernel
theorem dX6_put_7 : decode cX6_put 7 = .ok (.lcmp, 1) := by decide +kernel
theorem dX6_put_8 : decode cX6_put 8 = .ok (.ifCond .eq 7, 3) := by decide +kernel
theorem dX6_put_11 : decode cX6_put 11 = .ok (.iconst 1, 1) := by decide +kernel
theorem dX6_put_12 : decode cX6_put 12 = .ok (.goto 4, 3) := by decide +kernel
theorem dX6_put_15 : decode cX6_put 15 = .ok (.iconst 0, 1) := by decide +kernel
theorem dX6_put_16 : decode cX6_put 16 = .ok (.istore 6, 2) := by decide +kernel
theorem dX6_put_18 : decode cX6_put 18 = .ok (.lload 4, 2) := by decide +kernel
theorem dX6_put_20 : decode cX6_put 20 = .ok (.lconst 0, 1) := by decide +kernel
theorem dX6_put_21 : decode cX6_put 21 = .ok (.lcmp, 1) := by decide +kernel
theorem dX6_put_22 : decode cX6_put 22 = .ok (.ifCond .eq 45, 3) := by decide +kernel
theorem dX6_put_25 : decode cX6_put 25 = .ok (.iload 6, 2) := by decide +kernel
theorem dX6_put_27 : decode cX6_put 27 = .ok (.ifCond .eq 24, 3) := by decide +kernel
theorem dX6_put_30 : decode cX6_put 30 = .ok (.lload 4, 2) := by decide +kernel
theorem dX6_put_32 : decode cX6_put 32 = .ok (.ldc2_w 173, 3) := by decide +kernel
theorem dX6_put_35 : decode cX6_put 35 = .ok (.land, 1) := by decide +kernel
theorem dX6_put_36 : decode cX6_put 36 = .ok (.l2i, 1) := by decide +kernel
theorem dX6_put_37 : decode cX6_put 37 = .ok (.bipush 33, 2) := by decide +kernel
theorem dX6_put_39 : decode cX6_put 39 = .ok (.bipush 126, 2) := by decide +kernel
theorem dX6_put_41 : decode cX6_put 41 = .ok (.invokestatic 32, 3) := by decide +kernel
theorem dX6_put_44 : decode cX6_put 44 = .ok (.ifCond .eq 7, 3) := by decide +kernel
theorem dX6_put_47 : decode cX6_put 47 = .ok (.iconst 1, 1) := by decide +kernel
theorem dX6_put_48 : decode cX6_put 48 = .ok (.goto 4, 3) := by decide +kernel
theorem dX6_put_51 : decode cX6_put 51 = .ok (.iconst 0, 1) := by decide +kernel
theorem dX6_put_52 : decode cX6_put 52 = .ok (.istore 6, 2) := by decide +kernel
theorem dX6_put_54 : decode cX6_put 54 = .ok (.iinc 3 1, 3) := by decide +kernel
theorem dX6_put_57 : decode cX6_put 57 = .ok (.lload 4, 2) := by decide +kernel
theorem dX6_put_59 : decode cX6_put 59 = .ok (.bipush 8, 2) := by decide +kernel
theorem dX6_put_61 : decode cX6_put 61 = .ok (.lushr, 1) := by decide +kernel
theorem dX6_put_62 : decode cX6_put 62 = .ok (.lstore 4, 2) := by decide +kernel
theorem dX6_put_64 : decode cX6_put 64 = .ok (.goto (-46), 3) := by decide +kernel
theorem dX6_put_67 : decode cX6_put 67 = .ok (.iload 6, 2) := by decide +kernel
theorem dX6_put_69 : decode cX6_put 69 = .ok (.ifCond .ne 6, 3) := by decide +kernel
theorem dX6_put_72 : decode cX6_put 72 = .ok (.bipush (-2), 2) := by decide +kernel
theorem dX6_put_74 : decode cX6_put 74 = .ok (.ireturn, 1) := by decide +kernel
theorem dX6_put_75 : decode cX6_put 75 = .ok (.aload_n 0, 1) := by decide +kernel
theorem dX6_put_76 : decode cX6_put 76 = .ok (.getfield 143, 3) := by decide +kernel
theorem dX6_put_79 : decode cX6_put 79 = .ok (.iload_n 3, 1) := by decide +kernel
theorem dX6_put_80 : decode cX6_put 80 = .ok (.iadd, 1) := by decide +kernel
theorem dX6_put_81 : decode cX6_put 81 = .ok (.bipush 60, 2) := by decide +kernel
theorem dX6_put_83 : decode cX6_put 83 = .ok (.if_icmp .le 6, 3) := by decide +kernel
theorem dX6_put_86 : decode cX6_put 86 = .ok (.bipush (-4), 2) := by decide +kernel
theorem dX6_put_88 : decode cX6_put 88 = .ok (.ireturn, 1) := by decide +kernel
theorem dX6_put_89 : decode cX6_put 89 = .ok (.iload_n 3, 1) := by decide +kernel
theorem dX6_put_90 : decode cX6_put 90 = .ok (.iconst 1, 1) := by decide +kernel
theorem dX6_put_91 : decode cX6_put 91 = .ok (.isub, 1) := by decide +kernel
theorem dX6_put_92 : decode cX6_put 92 = .ok (.istore 7, 2) := by decide +kernel
theorem dX6_put_94 : decode cX6_put 94 = .ok (.iload 7, 2) := by decide +kernel
theorem dX6_put_96 : decode cX6_put 96 = .ok (.ifCond .lt 40, 3) := by decide +kernel
theorem dX6_put_99 : decode cX6_put 99 = .ok (.aload_n 0, 1) := by decide +kernel
theorem dX6_put_100 : decode cX6_put 100 = .ok (.getfield 26, 3) := by decide +kernel
theorem dX6_put_103 : decode cX6_put 103 = .ok (.aload_n 0, 1) := by decide +kernel
theorem dX6_put_104 : decode cX6_put 104 = .ok (.getfield 143, 3) := by decide +kernel
theorem dX6_put_107 : decode cX6_put 107 = .ok (.lload_n 1, 1) := by decide +kernel
theorem dX6_put_108 : decode cX6_put 108 = .ok (.bipush 8, 2) := by decide +kernel
theorem dX6_put_110 : decode cX6_put 110 = .ok (.iload 7, 2) := by decide +kernel
theorem dX6_put_112 : decode cX6_put 112 = .ok (.imul, 1) := by decide +kernel
theorem dX6_put_113 : decode cX6_put 113 = .ok (.lshr, 1) := by decide +kernel
theorem dX6_put_114 : decode cX6_put 114 = .ok (.ldc2_w 173, 3) := by decide +kernel
theorem dX6_put_117 : decode cX6_put 117 = .ok (.land, 1) := by decide +kernel
theorem dX6_put_118 : decode cX6_put 118 = .ok (.l2i, 1) := by decide +kernel
theorem dX6_put_119 : decode cX6_put 119 = .ok (.iastore, 1) := by decide +kernel
theorem dX6_put_120 : decode cX6_put 120 = .ok (.aload_n 0, 1) := by decide +kernel
theorem dX6_put_121 : decode cX6_put 121 = .ok (.dup, 1) := by decide +kernel
theorem dX6_put_122 : decode cX6_put 122 = .ok (.getfield 143, 3) := by decide +kernel
theorem dX6_put_125 : decode cX6_put 125 = .ok (.iconst 1, 1) := by decide +kernel
theorem dX6_put_126 : decode cX6_put 126 = .ok (.iadd, 1) := by decide +kernel
theorem dX6_put_127 : decode cX6_put 127 = .ok (.putfield 143, 3) := by decide +kernel
theorem dX6_put_130 : decode cX6_put 130 = .ok (.iinc 7 (-1), 3) := by decide +kernel
theorem dX6_put_133 : decode cX6_put 133 = .ok (.goto (-39), 3) := by decide +kernel
theorem dX6_put_136 : decode cX6_put 136 = .ok (.aload_n 0, 1) := by decide +kernel
theorem dX6_put_137 : decode cX6_put 137 = .ok (.getfield 143, 3) := by decide +kernel
theorem dX6_put_140 : decode cX6_put 140 = .ok (.ireturn, 1) := by decide +kernel
theorem dX6_wipe_0 : decode cX6_wipe 0 = .ok (.aload_n 0, 1) := by decide +kernel
theorem dX6_wipe_1 : decode cX6_wipe 1 = .ok (.getfield 143, 3) := by decide +kernel
theorem dX6_wipe_4 : decode cX6_wipe 4 = .ok (.istore_n 1, 1) := by decide +kernel
theorem dX6_wipe_5 : decode cX6_wipe 5 = .ok (.aload_n 0, 1) := by decide +kernel
theorem dX6_wipe_6 : decode cX6_wipe 6 = .ok (.iconst 0, 1) := by decide +kernel
theorem dX6_wipe_7 : decode cX6_wipe 7 = .ok (.putfield 143, 3) := by decide +kernel
theorem dX6_wipe_10 : decode cX6_wipe 10 = .ok (.iload_n 1, 1) := by decide +kernel
theorem dX6_wipe_11 : decode cX6_wipe 11 = .ok (.ireturn, 1) := by decide +kernel
set_option maxRecDepth 20000 in
theorem ggX6_findFault_X6_in : GoodIn wsX6_findFault wsX6_in := goodIn_r _ [6] (by decide +kernel) (by decide +kernel)
set_option maxRecDepth 20000 in
theorem gX6_findFault_X6_in : GoodIn wsX6_findFault (va_wsS RX6 32 yX6_in wsX6_in) := goodIn_app (goodIn_of _ (by decide +kernel)) ggX6_findFault_X6_in
theorem dX6_findFault_0 : decode cX6_findFault 0 = .ok (.iconst 0, 1) := by decide +kernel
theorem dX6_findFault_1 : decode cX6_findFault 1 = .ok (.istore_n 1, 1) := by decide +kernel
theorem dX6_findFault_2 : decode cX6_findFault 2 = .ok (.iload_n 1, 1) := by decide +kernel
theorem dX6_findFault_3 : decode cX6_findFault 3 = .ok (.aload_n 0, 1) := by decide +kernel
theorem dX6_findFault_4 : decode cX6_findFault 4 = .ok (.getfield 143, 3) := by decide +kernel
theorem dX6_findFault_7 : decode cX6_findFault 7 = .ok (.if_icmp .ge 70, 3) := by decide +kernel
theorem dX6_findFault_10 : decode cX6_findFault 10 = .ok (.iload_n 1, 1) := by decide +kernel
theorem dX6_findFault_11 : decode cX6_findFault 11 = .ok (.iconst 2, 1) := by decide +kernel
theorem dX6_findFault_12 : decode cX6_findFault 12 = .ok (.irem, 1) := by decide +kernel
theorem dX6_findFault_13 : decode cX6_findFault 13 = .ok (.ifCond .ne 19, 3) := by decide +kernel
theorem dX6_findFault_16 : decode cX6_findFault 16 = .ok (.aload_n 0, 1) := by decide +kernel
theorem dX6_findFault_17 : decode cX6_findFault 17 = .ok (.getfield 26, 3) := by decide +kernel
theorem dX6_findFault_20 : decode cX6_findFault 20 = .ok (.iload_n 1, 1) := by decide +kernel
theorem dX6_findFault_21 : decode cX6_findFault 21 = .ok (.iaload, 1) := by decide +kernel
theorem dX6_findFault_22 : decode cX6_findFault 22 = .ok (.bipush 49, 2) := by decide +kernel
theorem dX6_findFault_24 : decode cX6_findFault 24 = .ok (.bipush 54, 2) := by decide +kernel
theorem dX6_findFault_26 : decode cX6_findFault 26 = .ok (.invokestatic 32, 3) := by decide +kernel
theorem dX6_findFault_29 : decode cX6_findFault 29 = .ok (.goto 35, 3) := by decide +kernel
theorem dX6_findFault_32 : decode cX6_findFault 32 = .ok (.aload_n 0, 1) := by decide +kernel
theorem dX6_findFault_33 : decode cX6_findFault 33 = .ok (.getfield 26, 3) := by decide +kernel
theorem dX6_findFault_36 : decode cX6_findFault 36 = .ok (.iload_n 1, 1) := by decide +kernel
theorem dX6_findFault_37 : decode cX6_findFault 37 = .ok (.iaload, 1) := by decide +kernel
theorem dX6_findFault_38 : decode cX6_findFault 38 = .ok (.bipush 97, 2) := by decide +kernel
theorem dX6_findFault_40 : decode cX6_findFault 40 = .ok (.bipush 99, 2) := by decide +kernel
theorem dX6_findFault_42 : decode cX6_findFault 42 = .ok (.invokestatic 32, 3) := by decide +kernel
theorem dX6_findFault_45 : decode cX6_findFault 45 = .ok (.ifCond .ne 14, 3) := by decide +kernel
theorem dX6_findFault_48 : decode cX6_findFault 48 = .ok (.aload_n 0, 1) := by decide +kernel
theorem dX6_findFault_49 : decode cX6_findFault 49 = .ok (.getfield 26, 3) := by decide +kernel
theorem dX6_findFault_52 : decode cX6_findFault 52 = .ok (.iload_n 1, 1) := by decide +kernel
theorem dX6_findFault_53 : decode cX6_findFault 53 = .ok (.iaload, 1) := by decide +kernel
theorem dX6_findFault_54 : decode cX6_findFault 54 = .ok (.bipush 45, 2) := by decide +kernel
theorem dX6_findFault_56 : decode cX6_findFault 56 = .ok (.if_icmp .ne 7, 3) := by decide +kernel
theorem dX6_findFault_59 : decode cX6_findFault 59 = .ok (.iconst 1, 1) := by decide +kernel
theorem dX6_findFault_60 : decode cX6_findFault 60 = .ok (.goto 4, 3) := by decide +kernel
theorem dX6_findFault_63 : decode cX6_findFault 63 = .ok (.iconst 0, 1) := by decide +kernel
theorem dX6_findFault_64 : decode cX6_findFault 64 = .ok (.istore_n 2, 1) := by decide +kernel
theorem dX6_findFault_65 : decode cX6_findFault 65 = .ok (.iload_n 2, 1) := by decide +kernel
theorem dX6_findFault_66 : decode cX6_findFault 66 = .ok (.ifCond .ne 5, 3) := by decide +kernel
theorem dX6_findFault_69 : decode cX6_findFault 69 = .ok (.iload_n 1, 1) := by decide +kernel
theorem dX6_findFault_70 : decode cX6_findFault 70 = .ok (.ireturn, 1) := by decide +kernel
theorem dX6_findFault_71 : decode cX6_findFault 71 = .ok (.iinc 1 1, 3) := by decide +kernel
theorem dX6_findFault_74 : decode cX6_findFault 74 = .ok (.goto (-72), 3) := by decide +kernel
theorem dX6_findFault_77 : decode cX6_findFault 77 = .ok (.aload_n 0, 1) := by decide +kernel
theorem dX6_findFault_78 : decode cX6_findFault 78 = .ok (.getfield 143, 3) := by decide +kernel
