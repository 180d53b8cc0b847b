theorem dL_ends_36 : decode cL_ends 36 = .ok (.iload_n 3, 1) := by decide +kernel
theorem dL_ends_37 : decode cL_ends 37 = .ok (.ifCond .eq 4, 3) := by decide +kernel
theorem dL_ends_40 : decode cL_ends 40 = .ok (.return_, 1) := by decide +kernel
theorem dL_ends_41 : decode cL_ends 41 = .ok (.aload_n 2, 1) := by decide +kernel
theorem dL_ends_42 : decode cL_ends 42 = .ok (.iconst 4, 1) := by decide +kernel
theorem dL_ends_43 : decode cL_ends 43 = .ok (.aload_n 2, 1) := by decide +kernel
theorem dL_ends_44 : decode cL_ends 44 = .ok (.iconst 4, 1) := by decide +kernel
theorem dL_ends_45 : decode cL_ends 45 = .ok (.iaload, 1) := by decide +kernel
theorem dL_ends_46 : decode cL_ends 46 = .ok (.iconst 3, 1) := by decide +kernel
theorem dL_ends_47 : decode cL_ends 47 = .ok (.if_icmp .ne 7, 3) := by decide +kernel
theorem dL_ends_50 : decode cL_ends 50 = .ok (.iconst 0, 1) := by decide +kernel
theorem dL_ends_51 : decode cL_ends 51 = .ok (.goto 8, 3) := by decide +kernel
theorem dL_ends_54 : decode cL_ends 54 = .ok (.aload_n 2, 1) := by decide +kernel
theorem dL_ends_55 : decode cL_ends 55 = .ok (.iconst 4, 1) := by decide +kernel
theorem dL_ends_56 : decode cL_ends 56 = .ok (.iaload, 1) := by decide +kernel
theorem dL_ends_57 : decode cL_ends 57 = .ok (.iconst 1, 1) := by decide +kernel
theorem dL_ends_58 : decode cL_ends 58 = .ok (.iadd, 1) := by decide +kernel
theorem dL_ends_59 : decode cL_ends 59 = .ok (.iastore, 1) := by decide +kernel
theorem dL_ends_60 : decode cL_ends 60 = .ok (.aload_n 2, 1) := by decide +kernel
theorem dL_ends_61 : decode cL_ends 61 = .ok (.bipush 6, 2) := by decide +kernel
theorem dL_ends_63 : decode cL_ends 63 = .ok (.dup2, 1) := by decide +kernel
theorem dL_ends_64 : decode cL_ends 64 = .ok (.iaload, 1) := by decide +kernel
theorem dL_ends_65 : decode cL_ends 65 = .ok (.iconst 1, 1) := by decide +kernel
theorem dL_ends_66 : decode cL_ends 66 = .ok (.iadd, 1) := by decide +kernel
theorem dL_ends_67 : decode cL_ends 67 = .ok (.iastore, 1) := by decide +kernel
theorem dL_ends_68 : decode cL_ends 68 = .ok (.aload_n 2, 1) := by decide +kernel
theorem dL_ends_69 : decode cL_ends 69 = .ok (.bipush 7, 2) := by decide +kernel
theorem dL_ends_71 : decode cL_ends 71 = .ok (.iconst 0, 1) := by decide +kernel
theorem dL_ends_72 : decode cL_ends 72 = .ok (.iastore, 1) := by decide +kernel
theorem dL_ends_73 : decode cL_ends 73 = .ok (.iconst 0, 1) := by decide +kernel
theorem dL_ends_74 : decode cL_ends 74 = .ok (.istore 4, 2) := by decide +kernel
theorem dL_ends_76 : decode cL_ends 76 = .ok (.iload 4, 2) := by decide +kernel
theorem dL_ends_78 : decode cL_ends 78 = .ok (.iconst 4, 1) := by decide +kernel
theorem dL_ends_79 : decode cL_ends 79 = .ok (.if_icmp .ge 51, 3) := by decide +kernel
theorem dL_ends_82 : decode cL_ends 82 = .ok (.aload_n 1, 1) := by decide +kernel
theorem dL_ends_83 : decode cL_ends 83 = .ok (.iconst 3, 1) := by decide +kernel
theorem dL_ends_84 : decode cL_ends 84 = .ok (.iload 4, 2) := by decide +kernel
theorem dL_ends_86 : decode cL_ends 86 = .ok (.imul, 1) := by decide +kernel
theorem dL_ends_87 : decode cL_ends 87 = .ok (.iaload, 1) := by decide +kernel
theorem dL_ends_88 : decode cL_ends 88 = .ok (.iconst 1, 1) := by decide +kernel
theorem dL_ends_89 : decode cL_ends 89 = .ok (.if_icmp .ne 35, 3) := by decide +kernel
theorem dL_ends_92 : decode cL_ends 92 = .ok (.aload_n 2, 1) := by decide +kernel
theorem dL_ends_93 : decode cL_ends 93 = .ok (.iconst 1, 1) := by decide +kernel
theorem dL_ends_94 : decode cL_ends 94 = .ok (.iaload, 1) := by decide +kernel
theorem dL_ends_95 : decode cL_ends 95 = .ok (.ifCond .le 29, 3) := by decide +kernel
theorem dL_ends_98 : decode cL_ends 98 = .ok (.aload_n 1, 1) := by decide +kernel
theorem dL_ends_99 : decode cL_ends 99 = .ok (.iconst 3, 1) := by decide +kernel
theorem dL_ends_100 : decode cL_ends 100 = .ok (.iload 4, 2) := by decide +kernel
theorem dL_ends_102 : decode cL_ends 102 = .ok (.imul, 1) := by decide +kernel
theorem dL_ends_103 : decode cL_ends 103 = .ok (.iconst 2, 1) := by decide +kernel
theorem dL_ends_104 : decode cL_ends 104 = .ok (.iadd, 1) := by decide +kernel
theorem dL_ends_105 : decode cL_ends 105 = .ok (.iaload, 1) := by decide +kernel
theorem dL_ends_106 : decode cL_ends 106 = .ok (.aload_n 2, 1) := by decide +kernel
theorem dL_ends_107 : decode cL_ends 107 = .ok (.iconst 1, 1) := by decide +kernel
theorem dL_ends_108 : decode cL_ends 108 = .ok (.iaload, 1) := by decide +kernel
theorem dL_ends_109 : decode cL_ends 109 = .ok (.iadd, 1) := by decide +kernel
theorem dL_ends_110 : decode cL_ends 110 = .ok (.aload_n 2, 1) := by decide +kernel
theorem dL_ends_111 : decode cL_ends 111 = .ok (.bipush 6, 2) := by decide +kernel
theorem dL_ends_113 : decode cL_ends 113 = .ok (.iaload, 1) := by decide +kernel
theorem dL_ends_114 : decode cL_ends 114 = .ok (.if_icmp .gt 10, 3) := by decide +kernel
theorem dL_ends_117 : decode cL_ends 117 = .ok (.aload_n 1, 1) := by decide +kernel
theorem dL_ends_118 : decode cL_ends 118 = .ok (.iconst 3, 1) := by decide +kernel
theorem dL_ends_119 : decode cL_ends 119 = .ok (.iload 4, 2) := by decide +kernel
theorem dL_ends_121 : decode cL_ends 121 = .ok (.imul, 1) := by decide +kernel
theorem dL_ends_122 : decode cL_ends 122 = .ok (.iconst 0, 1) := by decide +kernel
theorem dL_ends_123 : decode cL_ends 123 = .ok (.iastore, 1) := by decide +kernel
theorem dL_ends_124 : decode cL_ends 124 = .ok (.iinc 4 1, 3) := by decide +kernel
theorem dL_ends_127 : decode cL_ends 127 = .ok (.goto (-51), 3) := by decide +kernel
theorem dL_ends_130 : decode cL_ends 130 = .ok (.return_, 1) := by decide +kernel
theorem dL_best_0 : decode cL_best 0 = .ok (.bipush (-6), 2) := by decide +kernel
theorem dL_best_2 : decode cL_best 2 = .ok (.istore_n 3, 1) := by decide +kernel
theorem dL_best_3 : decode cL_best 3 = .ok (.iconst (-1), 1) := by decide +kernel
theorem dL_best_4 : decode cL_best 4 = .ok (.istore 4, 2) := by decide +kernel
theorem dL_best_6 : decode cL_best 6 = .ok (.iconst 2, 1) := by decide +kernel
theorem dL_best_7 : decode cL_best 7 = .ok (.istore 5, 2) := by decide +kernel
theorem dL_best_9 : decode cL_best 9 = .ok (.iload 5, 2) := by decide +kernel
theorem dL_best_11 : decode cL_best 11 = .ok (.ifCond .lt 164, 3) := by decide +kernel
theorem dL_best_14 : decode cL_best 14 = .ok (.iconst 3, 1) := by decide +kernel
theorem dL_best_15 : decode cL_best 15 = .ok (.aload_n 2, 1) := by decide +kernel
theorem dL_best_16 : decode cL_best 16 = .ok (.iconst 4, 1) := by decide +kernel
theorem dL_best_17 : decode cL_best 17 = .ok (.iaload, 1) := by decide +kernel
theorem dL_best_18 : decode cL_best 18 = .ok (.imul, 1) := by decide +kernel
theorem dL_best_19 : decode cL_best 19 = .ok (.iload 5, 2) := by decide +kernel
theorem dL_best_21 : decode cL_best 21 = .ok (.iadd, 1) := by decide +kernel
theorem dL_best_22 : decode cL_best 22 = .ok (.istore 6, 2) := by decide +kernel
theorem dL_best_24 : decode cL_best 24 = .ok (.aload_n 0, 1) := by decide +kernel
theorem dL_best_25 : decode cL_best 25 = .ok (.aload_n 1, 1) := by decide +kernel
theorem dL_best_26 : decode cL_best 26 = .ok (.aload_n 2, 1) := by decide +kernel
theorem dL_best_27 : decode cL_best 27 = .ok (.iload 6, 2) := by decide +kernel
theorem dL_best_29 : decode cL_best 29 = .ok (.aload_n 2, 1) := by decide +kernel
theorem dL_best_30 : decode cL_best 30 = .ok (.iconst 5, 1) := by decide +kernel
theorem dL_best_31 : decode cL_best 31 = .ok (.iaload, 1) := by decide +kernel
theorem dL_best_32 : decode cL_best 32 = .ok (.invokestatic 43, 3) := by decide +kernel
theorem dL_best_35 : decode cL_best 35 = .ok (.bipush 10, 2) := by decide +kernel
theorem dL_best_37 : decode cL_best 37 = .ok (.isub, 1) := by decide +kernel
theorem dL_best_38 : decode cL_best 38 = .ok (.istore 7, 2) := by decide +kernel
theorem dL_best_40 : decode cL_best 40 = .ok (.iload 7, 2) := by decide +kernel
theorem dL_best_42 : decode cL_best 42 = .ok (.ifCond .ge 6, 3) := by decide +kernel
theorem dL_best_45 : decode cL_best 45 = .ok (.goto 124, 3) := by decide +kernel
theorem dL_best_48 : decode cL_best 48 = .ok (.iload 6, 2) := by decide +kernel
theorem dL_best_50 : decode cL_best 50 = .ok (.iload 7, 2) := by decide +kernel
theorem dL_best_52 : decode cL_best 52 = .ok (.invokestatic 9, 3) := by decide +kernel
theorem dL_best_55 : decode cL_best 55 = .ok (.istore 8, 2) := by decide +kernel
theorem dL_best_57 : decode cL_best 57 = .ok (.iload 7, 2) := by decide +kernel
theorem dL_best_59 : decode cL_best 59 = .ok (.bipush 35, 2) := by decide +kernel
theorem dL_best_61 : decode cL_best 61 = .ok (.if_icmp .ne 7, 3) := by decide +kernel
theorem dL_best_64 : decode cL_best 64 = .ok (.iconst 3, 1) := by decide +kernel
theorem dL_best_65 : decode cL_best 65 = .ok (.goto 47, 3) := by decide +kernel
theorem dL_best_68 : decode cL_best 68 = .ok (.iload 8, 2) := by decide +kernel
theorem dL_best_70 : decode cL_best 70 = .ok (.ifCond .lt 25, 3) := by decide +kernel
theorem dL_best_73 : decode cL_best 73 = .ok (.aload_n 0, 1) := by decide +kernel
theorem dL_best_74 : decode cL_best 74 = .ok (.iload 8, 2) := by decide +kernel
theorem dL_best_76 : decode cL_best 76 = .ok (.invokestatic 29, 3) := by decide +kernel
theorem dL_best_79 : decode cL_best 79 = .ok (.aload_n 0, 1) := by decide +kernel
theorem dL_best_80 : decode cL_best 80 = .ok (.aload_n 2, 1) := by decide +kernel
theorem dL_best_81 : decode cL_best 81 = .ok (.iconst 4, 1) := by decide +kernel
theorem dL_best_82 : decode cL_best 82 = .ok (.iaload, 1) := by decide +kernel
theorem dL_best_83 : decode cL_best 83 = .ok (.iload 8, 2) := by decide +kernel
theorem dL_best_85 : decode cL_best 85 = .ok (.invokestatic 15, 3) := by decide +kernel
theorem dL_best_88 : decode cL_best 88 = .ok (.if_icmp .le 7, 3) := by decide +kernel
theorem dL_best_91 : decode cL_best 91 = .ok (.iconst 2, 1) := by decide +kernel
theorem dL_best_92 : decode cL_best 92 = .ok (.goto 20, 3) := by decide +kernel
theorem dL_best_95 : decode cL_best 95 = .ok (.aload_n 0, 1) := by decide +kernel
theorem dL_best_96 : decode cL_best 96 = .ok (.aload_n 2, 1) := by decide +kernel
theorem dL_best_97 : decode cL_best 97 = .ok (.iconst 4, 1) := by decide +kernel
theorem dL_best_98 : decode cL_best 98 = .ok (.iaload, 1) := by decide +kernel
theorem dL_best_99 : decode cL_best 99 = .ok (.iload 8, 2) := by decide +kernel
theorem dL_best_101 : decode cL_best 101 = .ok (.invokestatic 15, 3) := by decide +kernel
theorem dL_best_104 : decode cL_best 104 = .ok (.ifCond .le 7, 3) := by decide +kernel
theorem dL_best_107 : decode cL_best 107 = .ok (.iconst 1, 1) := by decide +kernel
theorem dL_best_108 : decode cL_best 108 = .ok (.goto 4, 3) := by decide +kernel
theorem dL_best_111 : decode cL_best 111 = .ok (.iconst 0, 1) := by decide +kernel
theorem dL_best_112 : decode cL_best 112 = .ok (.istore 9, 2) := by decide +kernel
theorem dL_best_114 : decode cL_best 114 = .ok (.bipush 64, 2) := by decide +kernel
theorem dL_best_116 : decode cL_best 116 = .ok (.iload 9, 2) := by decide +kernel
theorem dL_best_118 : decode cL_best 118 = .ok (.imul, 1) := by decide +kernel
theorem dL_best_119 : decode cL_best 119 = .ok (.aload_n 0, 1) := by decide +kernel
theorem dL_best_120 : decode cL_best 120 = .ok (.iload 6, 2) := by decide +kernel
theorem dL_best_122 : decode cL_best 122 = .ok (.iaload, 1) := by decide +kernel
theorem dL_best_123 : decode cL_best 123 = .ok (.ifCond .ge 7, 3) := by decide +kernel
theorem dL_best_126 : decode cL_best 126 = .ok (.iconst 0, 1) := by decide +kernel
theorem dL_best_127 : decode cL_best 127 = .ok (.goto 9, 3) := by decide +kernel
theorem dL_best_130 : decode cL_best 130 = .ok (.aload_n 0, 1) := by decide +kernel
theorem dL_best_131 : decode cL_best 131 = .ok (.iload 6, 2) := by decide +kernel
theorem dL_best_133 : decode cL_best 133 = .ok (.iaload, 1) := by decide +kernel
theorem dL_best_134 : decode cL_best 134 = .ok (.iconst 1, 1) := by decide +kernel
theorem dL_best_135 : decode cL_best 135 = .ok (.iadd, 1) := by decide +kernel
theorem dL_best_136 : decode cL_best 136 = .ok (.iadd, 1) := by decide +kernel
theorem dL_best_137 : decode cL_best 137 = .ok (.istore 10, 2) := by decide +kernel
theorem dL_best_139 : decode cL_best 139 = .ok (.iload 10, 2) := by decide +kernel
theorem dL_best_141 : decode cL_best 141 = .ok (.iload 4, 2) := by decide +kernel
theorem dL_best_143 : decode cL_best 143 = .ok (.if_icmp .lt 8, 3) := by decide +kernel
theorem dL_best_146 : decode cL_best 146 = .ok (.iload 5, 2) := by decide +kernel
theorem dL_best_148 : decode cL_best 148 = .ok (.goto 4, 3) := by decide +kernel
theorem dL_best_151 : decode cL_best 151 = .ok (.iload_n 3, 1) := by decide +kernel
theorem dL_best_152 : decode cL_best 152 = .ok (.istore_n 3, 1) := by decide +kernel
theorem dL_best_153 : decode cL_best 153 = .ok (.iload 10, 2) := by decide +kernel
theorem dL_best_155 : decode cL_best 155 = .ok (.iload 4, 2) := by decide +kernel
theorem dL_best_157 : decode cL_best 157 = .ok (.if_icmp .lt 8, 3) := by decide +kernel
theorem dL_best_160 : decode cL_best 160 = .ok (.iload 10, 2) := by decide +kernel
theorem dL_best_162 : decode cL_best 162 = .ok (.goto 5, 3) := by decide +kernel
theorem dL_best_165 : decode cL_best 165 = .ok (.iload 4, 2) := by decide +kernel
theorem dL_best_167 : decode cL_best 167 = .ok (.istore 4, 2) := by decide +kernel
theorem dL_best_169 : decode cL_best 169 = .ok (.iinc 5 (-1), 3) := by decide +kernel
theorem dL_best_172 : decode cL_best 172 = .ok (.goto (-163), 3) := by decide +kernel
theorem dL_best_175 : decode cL_best 175 = .ok (.iload_n 3, 1) := by decide +kernel
theorem dL_best_176 : decode cL_best 176 = .ok (.ireturn, 1) := by decide +kernel
theorem dL_plays_0 : decode cL_plays 0 = .ok (.aload_n 3, 1) := by decide +kernel
theorem dL_plays_1 : decode cL_plays 1 = .ok (.iconst 5, 1) := by decide +kernel
theorem dL_plays_2 : decode cL_plays 2 = .ok (.aload_n 3, 1) := by decide +kernel
theorem dL_plays_3 : decode cL_plays 3 = .ok (.invokestatic 47, 3) := by decide +kernel
theorem dL_plays_6 : decode cL_plays 6 = .ok (.iastore, 1) := by decide +kernel
theorem dL_plays_7 : decode cL_plays 7 = .ok (.aload_n 3, 1) := by decide +kernel
theorem dL_plays_8 : decode cL_plays 8 = .ok (.bipush 7, 2) := by decide +kernel
theorem dL_plays_10 : decode cL_plays 10 = .ok (.dup2, 1) := by decide +kernel
theorem dL_plays_11 : decode cL_plays 11 = .ok (.iaload, 1) := by decide +kernel
theorem dL_plays_12 : decode cL_plays 12 = .ok (.iconst 1, 1) := by decide +kernel
theorem dL_plays_13 : decode cL_plays 13 = .ok (.iadd, 1) := by decide +kernel
theorem dL_plays_14 : decode cL_plays 14 = .ok (.iastore, 1) := by decide +kernel
theorem dL_plays_15 : decode cL_plays 15 = .ok (.aload_n 0, 1) := by decide +kernel
theorem dL_plays_16 : decode cL_plays 16 = .ok (.aload_n 2, 1) := by decide +kernel
theorem dL_plays_17 : decode cL_plays 17 = .ok (.aload_n 3, 1) := by decide +kernel
theorem dL_plays_18 : decode cL_plays 18 = .ok (.invokestatic 50, 3) := by decide +kernel
theorem dL_plays_21 : decode cL_plays 21 = .ok (.istore 4, 2) := by decide +kernel
theorem dL_plays_23 : decode cL_plays 23 = .ok (.iload 4, 2) := by decide +kernel
theorem dL_plays_25 : decode cL_plays 25 = .ok (.ifCond .lt 38, 3) := by decide +kernel
theorem dL_plays_28 : decode cL_plays 28 = .ok (.aload_n 0, 1) := by decide +kernel
theorem dL_plays_29 : decode cL_plays 29 = .ok (.aload_n 1, 1) := by decide +kernel
theorem dL_plays_30 : decode cL_plays 30 = .ok (.aload_n 2, 1) := by decide +kernel
theorem dL_plays_31 : decode cL_plays 31 = .ok (.aload_n 3, 1) := by decide +kernel
theorem dL_plays_32 : decode cL_plays 32 = .ok (.iconst 3, 1) := by decide +kernel
theorem dL_plays_33 : decode cL_plays 33 = .ok (.aload_n 3, 1) := by decide +kernel
theorem dL_plays_34 : decode cL_plays 34 = .ok (.iconst 4, 1) := by decide +kernel
theorem dL_plays_35 : decode cL_plays 35 = .ok (.iaload, 1) := by decide +kernel
theorem dL_plays_36 : decode cL_plays 36 = .ok (.imul, 1) := by decide +kernel
theorem dL_plays_37 : decode cL_plays 37 = .ok (.iload 4, 2) := by decide +kernel
theorem dL_plays_39 : decode cL_plays 39 = .ok (.iadd, 1) := by decide +kernel
theorem dL_plays_40 : decode cL_plays 40 = .ok (.aload_n 0, 1) := by decide +kernel
theorem dL_plays_41 : decode cL_plays 41 = .ok (.aload_n 2, 1) := by decide +kernel
theorem dL_plays_42 : decode cL_plays 42 = .ok (.aload_n 3, 1) := by decide +kernel
theorem dL_plays_43 : decode cL_plays 43 = .ok (.iconst 3, 1) := by decide +kernel
theorem dL_plays_44 : decode cL_plays 44 = .ok (.aload_n 3, 1) := by decide +kernel
theorem dL_plays_45 : decode cL_plays 45 = .ok (.iconst 4, 1) := by decide +kernel
theorem dL_plays_46 : decode cL_plays 46 = .ok (.iaload, 1) := by decide +kernel
theorem dL_plays_47 : decode cL_plays 47 = .ok (.imul, 1) := by decide +kernel
theorem dL_plays_48 : decode cL_plays 48 = .ok (.iload 4, 2) := by decide +kernel
theorem dL_plays_50 : decode cL_plays 50 = .ok (.iadd, 1) := by decide +kernel
theorem dL_plays_51 : decode cL_plays 51 = .ok (.aload_n 3, 1) := by decide +kernel
theorem dL_plays_52 : decode cL_plays 52 = .ok (.iconst 5, 1) := by decide +kernel
theorem dL_plays_53 : decode cL_plays 53 = .ok (.iaload, 1) := by decide +kernel
theorem dL_plays_54 : decode cL_plays 54 = .ok (.invokestatic 43, 3) := by decide +kernel
theorem dL_plays_57 : decode cL_plays 57 = .ok (.bipush 10, 2) := by decide +kernel
theorem dL_plays_59 : decode cL_plays 59 = .ok (.isub, 1) := by decide +kernel
theorem dL_plays_60 : decode cL_plays 60 = .ok (.invokestatic 54, 3) := by decide +kernel
theorem dL_plays_63 : decode cL_plays 63 = .ok (.aload_n 0, 1) := by decide +kernel
theorem dL_plays_64 : decode cL_plays 64 = .ok (.aload_n 2, 1) := by decide +kernel
theorem dL_plays_65 : decode cL_plays 65 = .ok (.aload_n 3, 1) := by decide +kernel
theorem dL_plays_66 : decode cL_plays 66 = .ok (.invokestatic 58, 3) := by decide +kernel
theorem dL_plays_69 : decode cL_plays 69 = .ok (.return_, 1) := by decide +kernel
theorem dL_needs_0 : decode cL_needs 0 = .ok (.aload_n 0, 1) := by decide +kernel
theorem dL_needs_1 : decode cL_needs 1 = .ok (.iload_n 2, 1) := by decide +kernel
theorem dL_needs_2 : decode cL_needs 2 = .ok (.iaload, 1) := by decide +kernel
theorem dL_needs_3 : decode cL_needs 3 = .ok (.ifCond .ge 7, 3) := by decide +kernel
theorem dL_needs_6 : decode cL_needs 6 = .ok (.lconst 1, 1) := by decide +kernel
theorem dL_needs_7 : decode cL_needs 7 = .ok (.goto 8, 3) := by decide +kernel
theorem dL_needs_10 : decode cL_needs 10 = .ok (.lconst 1, 1) := by decide +kernel
theorem dL_needs_11 : decode cL_needs 11 = .ok (.aload_n 0, 1) := by decide +kernel
theorem dL_needs_12 : decode cL_needs 12 = .ok (.iload_n 2, 1) := by decide +kernel
theorem dL_needs_13 : decode cL_needs 13 = .ok (.iaload, 1) := by decide +kernel
theorem dL_needs_14 : decode cL_needs 14 = .ok (.lshl, 1) := by decide +kernel
theorem dL_needs_15 : decode cL_needs 15 = .ok (.lstore_n 3, 1) := by decide +kernel
theorem dL_needs_16 : decode cL_needs 16 = .ok (.aload_n 0, 1) := by decide +kernel
theorem dL_needs_17 : decode cL_needs 17 = .ok (.iload_n 2, 1) := by decide +kernel
theorem dL_needs_18 : decode cL_needs 18 = .ok (.iaload, 1) := by decide +kernel
theorem dL_needs_19 : decode cL_needs 19 = .ok (.ifCond .ge 7, 3) := by decide +kernel
theorem dL_needs_22 : decode cL_needs 22 = .ok (.iconst 1, 1) := by decide +kernel
theorem dL_needs_23 : decode cL_needs 23 = .ok (.goto 4, 3) := by decide +kernel
theorem dL_needs_26 : decode cL_needs 26 = .ok (.iconst 0, 1) := by decide +kernel
theorem dL_needs_27 : decode cL_needs 27 = .ok (.istore 5, 2) := by decide +kernel
theorem dL_needs_29 : decode cL_needs 29 = .ok (.lload_n 3, 1) := by decide +kernel
theorem dL_needs_30 : decode cL_needs 30 = .ok (.bipush 35, 2) := by decide +kernel
theorem dL_needs_32 : decode cL_needs 32 = .ok (.lshr, 1) := by decide +kernel
theorem dL_needs_33 : decode cL_needs 33 = .ok (.lconst 1, 1) := by decide +kernel
theorem dL_needs_34 : decode cL_needs 34 = .ok (.land, 1) := by decide +kernel
theorem dL_needs_35 : decode cL_needs 35 = .ok (.lconst 0, 1) := by decide +kernel
theorem dL_needs_36 : decode cL_needs 36 = .ok (.lcmp, 1) := by decide +kernel
theorem dL_needs_37 : decode cL_needs 37 = .ok (.ifCond .ne 90, 3) := by decide +kernel
theorem dL_needs_40 : decode cL_needs 40 = .ok (.lconst 0, 1) := by decide +kernel
theorem dL_needs_41 : decode cL_needs 41 = .ok (.lstore 6, 2) := by decide +kernel
theorem dL_needs_43 : decode cL_needs 43 = .ok (.iconst 0, 1) := by decide +kernel
theorem dL_needs_44 : decode cL_needs 44 = .ok (.istore 8, 2) := by decide +kernel
theorem dL_needs_46 : decode cL_needs 46 = .ok (.iload 8, 2) := by decide +kernel
theorem dL_needs_48 : decode cL_needs 48 = .ok (.bipush 35, 2) := by decide +kernel
theorem dL_needs_50 : decode cL_needs 50 = .ok (.if_icmp .ge 68, 3) := by decide +kernel
theorem dL_needs_53 : decode cL_needs 53 = .ok (.lload_n 3, 1) := by decide +kernel
theorem dL_needs_54 : decode cL_needs 54 = .ok (.iload 8, 2) := by decide +kernel
theorem dL_needs_56 : decode cL_needs 56 = .ok (.lshr, 1) := by decide +kernel
theorem dL_needs_57 : decode cL_needs 57 = .ok (.lconst 1, 1) := by decide +kernel
theorem dL_needs_58 : decode cL_needs 58 = .ok (.land, 1) := by decide +kernel
theorem dL_needs_59 : decode cL_needs 59 = .ok (.lconst 0, 1) := by decide +kernel
theorem dL_needs_60 : decode cL_needs 60 = .ok (.lcmp, 1) := by decide +kernel
theorem dL_needs_61 : decode cL_needs 61 = .ok (.ifCond .ne 6, 3) := by decide +kernel
theorem dL_needs_64 : decode cL_needs 64 = .ok (.goto 48, 3) := by decide +kernel
theorem dL_needs_67 : decode cL_needs 67 = .ok (.iconst 1, 1) := by decide +kernel
theorem dL_needs_68 : decode cL_needs 68 = .ok (.istore 9, 2) := by decide +kernel
theorem dL_needs_70 : decode cL_needs 70 = .ok (.iload 9, 2) := by decide +kernel
theorem dL_needs_72 : decode cL_needs 72 = .ok (.bipush 7, 2) := by decide +kernel
theorem dL_needs_74 : decode cL_needs 74 = .ok (.if_icmp .ge 38, 3) := by decide +kernel
theorem dL_needs_77 : decode cL_needs 77 = .ok (.aload_n 1, 1) := by decide +kernel
theorem dL_needs_78 : decode cL_needs 78 = .ok (.iload_n 2, 1) := by decide +kernel
theorem dL_needs_79 : decode cL_needs 79 = .ok (.iload 8, 2) := by decide +kernel
theorem dL_needs_81 : decode cL_needs 81 = .ok (.iload 9, 2) := by decide +kernel
theorem dL_needs_83 : decode cL_needs 83 = .ok (.invokestatic 25, 3) := by decide +kernel
theorem dL_needs_86 : decode cL_needs 86 = .ok (.istore 10, 2) := by decide +kernel
theorem dL_needs_88 : decode cL_needs 88 = .ok (.lload 6, 2) := by decide +kernel
theorem dL_needs_90 : decode cL_needs 90 = .ok (.iload 10, 2) := by decide +kernel
theorem dL_needs_92 : decode cL_needs 92 = .ok (.ifCond .ge 7, 3) := by decide +kernel
theorem dL_needs_95 : decode cL_needs 95 = .ok (.lconst 0, 1) := by decide +kernel
theorem dL_needs_96 : decode cL_needs 96 = .ok (.goto 7, 3) := by decide +kernel
theorem dL_needs_99 : decode cL_needs 99 = .ok (.lconst 1, 1) := by decide +kernel
theorem dL_needs_100 : decode cL_needs 100 = .ok (.iload 10, 2) := by decide +kernel
theorem dL_needs_102 : decode cL_needs 102 = .ok (.lshl, 1) := by decide +kernel
theorem dL_needs_103 : decode cL_needs 103 = .ok (.lor, 1) := by decide +kernel
theorem dL_needs_104 : decode cL_needs 104 = .ok (.lstore 6, 2) := by decide +kernel
theorem dL_needs_106 : decode cL_needs 106 = .ok (.iinc 9 1, 3) := by decide +kernel
theorem dL_needs_109 : decode cL_needs 109 = .ok (.goto (-39), 3) := by decide +kernel
theorem dL_needs_112 : decode cL_needs 112 = .ok (.iinc 8 1, 3) := by decide +kernel
theorem dL_needs_115 : decode cL_needs 115 = .ok (.goto (-69), 3) := by decide +kernel
theorem dL_needs_118 : decode cL_needs 118 = .ok (.lload 6, 2) := by decide +kernel
theorem dL_needs_120 : decode cL_needs 120 = .ok (.lstore_n 3, 1) := by decide +kernel
theorem dL_needs_121 : decode cL_needs 121 = .ok (.iinc 5 1, 3) := by decide +kernel
theorem dL_needs_124 : decode cL_needs 124 = .ok (.goto (-95), 3) := by decide +kernel
theorem dL_needs_127 : decode cL_needs 127 = .ok (.iload 5, 2) := by decide +kernel
theorem dL_needs_129 : decode cL_needs 129 = .ok (.ireturn, 1) := by decide +kernel
theorem dL_copy_0 : decode cL_copy 0 = .ok (.iconst 0, 1) := by decide +kernel
theorem dL_copy_1 : decode cL_copy 1 = .ok (.istore_n 2, 1) := by decide +kernel
theorem dL_copy_2 : decode cL_copy 2 = .ok (.iload_n 2, 1) := by decide +kernel
theorem dL_copy_3 : decode cL_copy 3 = .ok (.aload_n 0, 1) := by decide +kernel
theorem dL_copy_4 : decode cL_copy 4 = .ok (.arraylength, 1) := by decide +kernel
theorem dL_copy_5 : decode cL_copy 5 = .ok (.if_icmp .ge 15, 3) := by decide +kernel
theorem dL_copy_8 : decode cL_copy 8 = .ok (.aload_n 1, 1) := by decide +kernel
theorem dL_copy_9 : decode cL_copy 9 = .ok (.iload_n 2, 1) := by decide +kernel
theorem dL_copy_10 : decode cL_copy 10 = .ok (.aload_n 0, 1) := by decide +kernel
theorem dL_copy_11 : decode cL_copy 11 = .ok (.iload_n 2, 1) := by decide +kernel
theorem dL_copy_12 : decode cL_copy 12 = .ok (.iaload, 1) := by decide +kernel
theorem dL_copy_13 : decode cL_copy 13 = .ok (.iastore, 1) := by decide +kernel
theorem dL_copy_14 : decode cL_copy 14 = .ok (.iinc 2 1, 3) := by decide +kernel
theorem dL_copy_17 : decode cL_copy 17 = .ok (.goto (-15), 3) := by decide +kernel
theorem dL_copy_20 : decode cL_copy 20 = .ok (.return_, 1) := by decide +kernel
theorem dL_isBoard_0 : decode cL_isBoard 0 = .ok (.bipush (-6), 2) := by decide +kernel
theorem dL_isBoard_2 : decode cL_isBoard 2 = .ok (.istore 5, 2) := by decide +kernel
theorem dL_isBoard_4 : decode cL_isBoard 4 = .ok (.iconst 0, 1) := by decide +kernel
theorem dL_isBoard_5 : decode cL_isBoard 5 = .ok (.istore 6, 2) := by decide +kernel
theorem dL_isBoard_7 : decode cL_isBoard 7 = .ok (.iconst 0, 1) := by decide +kernel
theorem dL_isBoard_8 : decode cL_isBoard 8 = .ok (.istore 7, 2) := by decide +kernel
theorem dL_isBoard_10 : decode cL_isBoard 10 = .ok (.iload 7, 2) := by decide +kernel
theorem dL_isBoard_12 : decode cL_isBoard 12 = .ok (.bipush 12, 2) := by decide +kernel
theorem dL_isBoard_14 : decode cL_isBoard 14 = .ok (.if_icmp .ge 101, 3) := by decide +kernel
theorem dL_isBoard_17 : decode cL_isBoard 17 = .ok (.iload 7, 2) := by decide +kernel
theorem dL_isBoard_19 : decode cL_isBoard 19 = .ok (.aload_n 1, 1) := by decide +kernel
theorem dL_isBoard_20 : decode cL_isBoard 20 = .ok (.iload 7, 2) := by decide +kernel
theorem dL_isBoard_22 : decode cL_isBoard 22 = .ok (.iaload, 1) := by decide +kernel
theorem dL_isBoard_23 : decode cL_isBoard 23 = .ok (.invokestatic 9, 3) := by decide +kernel
theorem dL_isBoard_26 : decode cL_isBoard 26 = .ok (.istore 8, 2) := by decide +kernel
theorem dL_isBoard_28 : decode cL_isBoard 28 = .ok (.aload_n 0, 1) := by decide +kernel
theorem dL_isBoard_29 : decode cL_isBoard 29 = .ok (.iload 7, 2) := by decide +kernel
theorem dL_isBoard_31 : decode cL_isBoard 31 = .ok (.iconst 0, 1) := by decide +kernel
theorem dL_isBoard_32 : decode cL_isBoard 32 = .ok (.invokevirtual 61, 3) := by decide +kernel
theorem dL_isBoard_35 : decode cL_isBoard 35 = .ok (.aload_n 1, 1) := by decide +kernel
theorem dL_isBoard_36 : decode cL_isBoard 36 = .ok (.iload 7, 2) := by decide +kernel
theorem dL_isBoard_38 : decode cL_isBoard 38 = .ok (.iaload, 1) := by decide +kernel
theorem dL_isBoard_39 : decode cL_isBoard 39 = .ok (.if_icmp .ne 68, 3) := by decide +kernel
theorem dL_isBoard_42 : decode cL_isBoard 42 = .ok (.aload_n 0, 1) := by decide +kernel
theorem dL_isBoard_43 : decode cL_isBoard 43 = .ok (.iload 7, 2) := by decide +kernel
theorem dL_isBoard_45 : decode cL_isBoard 45 = .ok (.iconst 1, 1) := by decide +kernel
theorem dL_isBoard_46 : decode cL_isBoard 46 = .ok (.invokevirtual 61, 3) := by decide +kernel
theorem dL_isBoard_49 : decode cL_isBoard 49 = .ok (.iload 8, 2) := by decide +kernel
theorem dL_isBoard_51 : decode cL_isBoard 51 = .ok (.ifCond .ge 8, 3) := by decide +kernel
theorem dL_isBoard_54 : decode cL_isBoard 54 = .ok (.iload 5, 2) := by decide +kernel
theorem dL_isBoard_56 : decode cL_isBoard 56 = .ok (.goto 5, 3) := by decide +kernel
theorem dL_isBoard_59 : decode cL_isBoard 59 = .ok (.iload 8, 2) := by decide +kernel
theorem dL_isBoard_61 : decode cL_isBoard 61 = .ok (.if_icmp .ne 46, 3) := by decide +kernel
theorem dL_isBoard_64 : decode cL_isBoard 64 = .ok (.aload_n 0, 1) := by decide +kernel
theorem dL_isBoard_65 : decode cL_isBoard 65 = .ok (.iload 7, 2) := by decide +kernel
theorem dL_isBoard_67 : decode cL_isBoard 67 = .ok (.iconst 2, 1) := by decide +kernel
theorem dL_isBoard_68 : decode cL_isBoard 68 = .ok (.invokevirtual 61, 3) := by decide +kernel
theorem dL_isBoard_71 : decode cL_isBoard 71 = .ok (.aload_n 1, 1) := by decide +kernel
theorem dL_isBoard_72 : decode cL_isBoard 72 = .ok (.iload 7, 2) := by decide +kernel
theorem dL_isBoard_74 : decode cL_isBoard 74 = .ok (.iconst 3, 1) := by decide +kernel
theorem dL_isBoard_75 : decode cL_isBoard 75 = .ok (.idiv, 1) := by decide +kernel
theorem dL_isBoard_76 : decode cL_isBoard 76 = .ok (.iload 8, 2) := by decide +kernel
theorem dL_isBoard_78 : decode cL_isBoard 78 = .ok (.invokestatic 15, 3) := by decide +kernel
theorem dL_isBoard_81 : decode cL_isBoard 81 = .ok (.iconst 1, 1) := by decide +kernel
theorem dL_isBoard_82 : decode cL_isBoard 82 = .ok (.if_icmp .le 7, 3) := by decide +kernel
theorem dL_isBoard_85 : decode cL_isBoard 85 = .ok (.iconst 1, 1) := by decide +kernel
theorem dL_isBoard_86 : decode cL_isBoard 86 = .ok (.goto 4, 3) := by decide +kernel
theorem dL_isBoard_89 : decode cL_isBoard 89 = .ok (.iconst 0, 1) := by decide +kernel
theorem dL_isBoard_90 : decode cL_isBoard 90 = .ok (.if_icmp .ne 17, 3) := by decide +kernel
theorem dL_isBoard_93 : decode cL_isBoard 93 = .ok (.aload_n 0, 1) := by decide +kernel
theorem dL_isBoard_94 : decode cL_isBoard 94 = .ok (.iload 7, 2) := by decide +kernel
theorem dL_isBoard_96 : decode cL_isBoard 96 = .ok (.iconst 3, 1) := by decide +kernel
theorem dL_isBoard_97 : decode cL_isBoard 97 = .ok (.invokevirtual 61, 3) := by decide +kernel
theorem dL_isBoard_100 : decode cL_isBoard 100 = .ok (.aload_n 2, 1) := by decide +kernel
theorem dL_isBoard_101 : decode cL_isBoard 101 = .ok (.iload 7, 2) := by decide +kernel
theorem dL_isBoard_103 : decode cL_isBoard 103 = .ok (.iaload, 1) := by decide +kernel
theorem dL_isBoard_104 : decode cL_isBoard 104 = .ok (.if_icmp .eq 5, 3) := by decide +kernel
theorem dL_isBoard_107 : decode cL_isBoard 107 = .ok (.iconst 0, 1) := by decide +kernel
theorem dL_isBoard_108 : decode cL_isBoard 108 = .ok (.ireturn, 1) := by decide +kernel
theorem dL_isBoard_109 : decode cL_isBoard 109 = .ok (.iinc 7 1, 3) := by decide +kernel
theorem dL_isBoard_112 : decode cL_isBoard 112 = .ok (.goto (-102), 3) := by decide +kernel
theorem dL_isBoard_115 : decode cL_isBoard 115 = .ok (.iconst 0, 1) := by decide +kernel
theorem dL_isBoard_116 : decode cL_isBoard 116 = .ok (.istore 7, 2) := by decide +kernel
theorem dL_isBoard_118 : decode cL_isBoard 118 = .ok (.iload 7, 2) := by decide +kernel
theorem dL_isBoard_120 : decode cL_isBoard 120 = .ok (.bipush 32, 2) := by decide +kernel
theorem dL_isBoard_122 : decode cL_isBoard 122 = .ok (.if_icmp .ge 248, 3) := by decide +kernel
theorem dL_isBoard_125 : decode cL_isBoard 125 = .ok (.iload 5, 2) := by decide +kernel
theorem dL_isBoard_127 : decode cL_isBoard 127 = .ok (.istore 8, 2) := by decide +kernel
theorem dL_isBoard_129 : decode cL_isBoard 129 = .ok (.bipush 11, 2) := by decide +kernel
theorem dL_isBoard_131 : decode cL_isBoard 131 = .ok (.istore 9, 2) := by decide +kernel
theorem dL_isBoard_133 : decode cL_isBoard 133 = .ok (.iload 9, 2) := by decide +kernel
theorem dL_isBoard_135 : decode cL_isBoard 135 = .ok (.ifCond .lt 32, 3) := by decide +kernel
theorem dL_isBoard_138 : decode cL_isBoard 138 = .ok (.iload 9, 2) := by decide +kernel
theorem dL_isBoard_140 : decode cL_isBoard 140 = .ok (.aload_n 1, 1) := by decide +kernel
theorem dL_isBoard_141 : decode cL_isBoard 141 = .ok (.iload 9, 2) := by decide +kernel
theorem dL_isBoard_143 : decode cL_isBoard 143 = .ok (.iaload, 1) := by decide +kernel
theorem dL_isBoard_144 : decode cL_isBoard 144 = .ok (.invokestatic 9, 3) := by decide +kernel
theorem dL_isBoard_147 : decode cL_isBoard 147 = .ok (.iload 7, 2) := by decide +kernel
theorem dL_isBoard_149 : decode cL_isBoard 149 = .ok (.if_icmp .ne 8, 3) := by decide +kernel
theorem dL_isBoard_152 : decode cL_isBoard 152 = .ok (.iload 9, 2) := by decide +kernel
theorem dL_isBoard_154 : decode cL_isBoard 154 = .ok (.goto 5, 3) := by decide +kernel
theorem dL_isBoard_157 : decode cL_isBoard 157 = .ok (.iload 8, 2) := by decide +kernel
theorem dL_isBoard_159 : decode cL_isBoard 159 = .ok (.istore 8, 2) := by decide +kernel
theorem dL_isBoard_161 : decode cL_isBoard 161 = .ok (.iinc 9 (-1), 3) := by decide +kernel
theorem dL_isBoard_164 : decode cL_isBoard 164 = .ok (.goto (-31), 3) := by decide +kernel
theorem dL_isBoard_167 : decode cL_isBoard 167 = .ok (.iconst 3, 1) := by decide +kernel
theorem dL_isBoard_168 : decode cL_isBoard 168 = .ok (.iload 7, 2) := by decide +kernel
theorem dL_isBoard_170 : decode cL_isBoard 170 = .ok (.bipush 8, 2) := by decide +kernel
theorem dL_isBoard_172 : decode cL_isBoard 172 = .ok (.idiv, 1) := by decide +kernel
theorem dL_isBoard_173 : decode cL_isBoard 173 = .ok (.imul, 1) := by decide +kernel
theorem dL_isBoard_174 : decode cL_isBoard 174 = .ok (.istore 9, 2) := by decide +kernel
theorem dL_isBoard_176 : decode cL_isBoard 176 = .ok (.iload 7, 2) := by decide +kernel
theorem dL_isBoard_178 : decode cL_isBoard 178 = .ok (.bipush 8, 2) := by decide +kernel
theorem dL_isBoard_180 : decode cL_isBoard 180 = .ok (.irem, 1) := by decide +kernel
theorem dL_isBoard_181 : decode cL_isBoard 181 = .ok (.iconst 4, 1) := by decide +kernel
theorem dL_isBoard_182 : decode cL_isBoard 182 = .ok (.if_icmp .eq 7, 3) := by decide +kernel
theorem dL_isBoard_185 : decode cL_isBoard 185 = .ok (.iconst 0, 1) := by decide +kernel
theorem dL_isBoard_186 : decode cL_isBoard 186 = .ok (.goto 30, 3) := by decide +kernel
theorem dL_isBoard_189 : decode cL_isBoard 189 = .ok (.aload_n 3, 1) := by decide +kernel
theorem dL_isBoard_190 : decode cL_isBoard 190 = .ok (.iload 9, 2) := by decide +kernel
theorem dL_isBoard_192 : decode cL_isBoard 192 = .ok (.iaload, 1) := by decide +kernel
theorem dL_isBoard_193 : decode cL_isBoard 193 = .ok (.iconst 1, 1) := by decide +kernel
theorem dL_isBoard_194 : decode cL_isBoard 194 = .ok (.if_icmp .ne 7, 3) := by decide +kernel
theorem dL_isBoard_197 : decode cL_isBoard 197 = .ok (.iconst 3, 1) := by decide +kernel
theorem dL_isBoard_198 : decode cL_isBoard 198 = .ok (.goto 18, 3) := by decide +kernel
theorem dL_isBoard_201 : decode cL_isBoard 201 = .ok (.aload_n 3, 1) := by decide +kernel
theorem dL_isBoard_202 : decode cL_isBoard 202 = .ok (.iload 9, 2) := by decide +kernel
theorem dL_isBoard_204 : decode cL_isBoard 204 = .ok (.iconst 1, 1) := by decide +kernel
theorem dL_isBoard_205 : decode cL_isBoard 205 = .ok (.iadd, 1) := by decide +kernel
theorem dL_isBoard_206 : decode cL_isBoard 206 = .ok (.iaload, 1) := by decide +kernel
theorem dL_isBoard_207 : decode cL_isBoard 207 = .ok (.iconst 1, 1) := by decide +kernel
theorem dL_isBoard_208 : decode cL_isBoard 208 = .ok (.if_icmp .ne 7, 3) := by decide +kernel
theorem dL_isBoard_211 : decode cL_isBoard 211 = .ok (.iconst 2, 1) := by decide +kernel
theorem dL_isBoard_212 : decode cL_isBoard 212 = .ok (.goto 4, 3) := by decide +kernel
theorem dL_isBoard_215 : decode cL_isBoard 215 = .ok (.iconst 1, 1) := by decide +kernel
theorem dL_isBoard_216 : decode cL_isBoard 216 = .ok (.istore 10, 2) := by decide +kernel
theorem dL_isBoard_218 : decode cL_isBoard 218 = .ok (.aload_n 3, 1) := by decide +kernel
theorem dL_isBoard_219 : decode cL_isBoard 219 = .ok (.iload 9, 2) := by decide +kernel
theorem dL_isBoard_221 : decode cL_isBoard 221 = .ok (.iconst 2, 1) := by decide +kernel
theorem dL_isBoard_222 : decode cL_isBoard 222 = .ok (.iadd, 1) := by decide +kernel
theorem dL_isBoard_223 : decode cL_isBoard 223 = .ok (.iaload, 1) := by decide +kernel
theorem dL_isBoard_224 : decode cL_isBoard 224 = .ok (.aload 4, 2) := by decide +kernel
theorem dL_isBoard_226 : decode cL_isBoard 226 = .ok (.iconst 1, 1) := by decide +kernel
theorem dL_isBoard_227 : decode cL_isBoard 227 = .ok (.iaload, 1) := by decide +kernel
theorem dL_isBoard_228 : decode cL_isBoard 228 = .ok (.iadd, 1) := by decide +kernel
theorem dL_isBoard_229 : decode cL_isBoard 229 = .ok (.aload 4, 2) := by decide +kernel
theorem dL_isBoard_231 : decode cL_isBoard 231 = .ok (.bipush 6, 2) := by decide +kernel
theorem dL_isBoard_233 : decode cL_isBoard 233 = .ok (.iaload, 1) := by decide +kernel
theorem dL_isBoard_234 : decode cL_isBoard 234 = .ok (.isub, 1) := by decide +kernel
theorem dL_isBoard_235 : decode cL_isBoard 235 = .ok (.istore 11, 2) := by decide +kernel
theorem dL_isBoard_237 : decode cL_isBoard 237 = .ok (.aload_n 0, 1) := by decide +kernel
theorem dL_isBoard_238 : decode cL_isBoard 238 = .ok (.iload 7, 2) := by decide +kernel
theorem dL_isBoard_240 : decode cL_isBoard 240 = .ok (.iconst 0, 1) := by decide +kernel
theorem dL_isBoard_241 : decode cL_isBoard 241 = .ok (.invokevirtual 64, 3) := by decide +kernel
theorem dL_isBoard_244 : decode cL_isBoard 244 = .ok (.aload_n 1, 1) := by decide +kernel
theorem dL_isBoard_245 : decode cL_isBoard 245 = .ok (.iload 7, 2) := by decide +kernel
theorem dL_isBoard_247 : decode cL_isBoard 247 = .ok (.invokestatic 29, 3) := by decide +kernel
theorem dL_isBoard_250 : decode cL_isBoard 250 = .ok (.if_icmp .ne 90, 3) := by decide +kernel
theorem dL_isBoard_253 : decode cL_isBoard 253 = .ok (.aload_n 0, 1) := by decide +kernel
theorem dL_isBoard_254 : decode cL_isBoard 254 = .ok (.iload 7, 2) := by decide +kernel
theorem dL_isBoard_256 : decode cL_isBoard 256 = .ok (.iconst 1, 1) := by decide +kernel
theorem dL_isBoard_257 : decode cL_isBoard 257 = .ok (.invokevirtual 64, 3) := by decide +kernel
theorem dL_isBoard_260 : decode cL_isBoard 260 = .ok (.iload 8, 2) := by decide +kernel
theorem dL_isBoard_262 : decode cL_isBoard 262 = .ok (.if_icmp .ne 78, 3) := by decide +kernel
theorem dL_isBoard_265 : decode cL_isBoard 265 = .ok (.aload_n 0, 1) := by decide +kernel
theorem dL_isBoard_266 : decode cL_isBoard 266 = .ok (.iload 7, 2) := by decide +kernel
theorem dL_isBoard_268 : decode cL_isBoard 268 = .ok (.iconst 2, 1) := by decide +kernel
theorem dL_isBoard_269 : decode cL_isBoard 269 = .ok (.invokevirtual 64, 3) := by decide +kernel
theorem dL_isBoard_272 : decode cL_isBoard 272 = .ok (.iload 7, 2) := by decide +kernel
theorem dL_isBoard_274 : decode cL_isBoard 274 = .ok (.bipush 8, 2) := by decide +kernel
theorem dL_isBoard_276 : decode cL_isBoard 276 = .ok (.irem, 1) := by decide +kernel
theorem dL_isBoard_277 : decode cL_isBoard 277 = .ok (.ifCond .ne 7, 3) := by decide +kernel
theorem dL_isBoard_280 : decode cL_isBoard 280 = .ok (.iconst 1, 1) := by decide +kernel
theorem dL_isBoard_281 : decode cL_isBoard 281 = .ok (.goto 4, 3) := by decide +kernel
theorem dL_isBoard_284 : decode cL_isBoard 284 = .ok (.iconst 0, 1) := by decide +kernel
theorem dL_isBoard_285 : decode cL_isBoard 285 = .ok (.if_icmp .ne 55, 3) := by decide +kernel
theorem dL_isBoard_288 : decode cL_isBoard 288 = .ok (.aload_n 0, 1) := by decide +kernel
theorem dL_isBoard_289 : decode cL_isBoard 289 = .ok (.iload 7, 2) := by decide +kernel
theorem dL_isBoard_291 : decode cL_isBoard 291 = .ok (.iconst 3, 1) := by decide +kernel
theorem dL_isBoard_292 : decode cL_isBoard 292 = .ok (.invokevirtual 64, 3) := by decide +kernel
theorem dL_isBoard_295 : decode cL_isBoard 295 = .ok (.iload 10, 2) := by decide +kernel
theorem dL_isBoard_297 : decode cL_isBoard 297 = .ok (.if_icmp .ne 43, 3) := by decide +kernel
theorem dL_isBoard_300 : decode cL_isBoard 300 = .ok (.aload_n 0, 1) := by decide +kernel
theorem dL_isBoard_301 : decode cL_isBoard 301 = .ok (.iload 7, 2) := by decide +kernel
theorem dL_isBoard_303 : decode cL_isBoard 303 = .ok (.iconst 4, 1) := by decide +kernel
theorem dL_isBoard_304 : decode cL_isBoard 304 = .ok (.invokevirtual 64, 3) := by decide +kernel
theorem dL_isBoard_307 : decode cL_isBoard 307 = .ok (.iload 10, 2) := by decide +kernel
theorem dL_isBoard_309 : decode cL_isBoard 309 = .ok (.iconst 3, 1) := by decide +kernel
theorem dL_isBoard_310 : decode cL_isBoard 310 = .ok (.if_icmp .lt 10, 3) := by decide +kernel
theorem dL_isBoard_313 : decode cL_isBoard 313 = .ok (.aload 4, 2) := by decide +kernel
theorem dL_isBoard_315 : decode cL_isBoard 315 = .ok (.iconst 1, 1) := by decide +kernel
theorem dL_isBoard_316 : decode cL_isBoard 316 = .ok (.iaload, 1) := by decide +kernel
theorem dL_isBoard_317 : decode cL_isBoard 317 = .ok (.ifCond .ne 8, 3) := by decide +kernel
theorem dL_isBoard_320 : decode cL_isBoard 320 = .ok (.iload 5, 2) := by decide +kernel
theorem dL_isBoard_322 : decode cL_isBoard 322 = .ok (.goto 15, 3) := by decide +kernel
theorem dL_isBoard_325 : decode cL_isBoard 325 = .ok (.iload 11, 2) := by decide +kernel
theorem dL_isBoard_327 : decode cL_isBoard 327 = .ok (.iconst 1, 1) := by decide +kernel
theorem dL_isBoard_328 : decode cL_isBoard 328 = .ok (.if_icmp .ge 7, 3) := by decide +kernel
theorem dL_isBoard_331 : decode cL_isBoard 331 = .ok (.iconst 1, 1) := by decide +kernel
theorem dL_isBoard_332 : decode cL_isBoard 332 = .ok (.goto 5, 3) := by decide +kernel
theorem dL_isBoard_335 : decode cL_isBoard 335 = .ok (.iload 11, 2) := by decide +kernel
theorem dL_isBoard_337 : decode cL_isBoard 337 = .ok (.if_icmp .eq 5, 3) := by decide +kernel
theorem dL_isBoard_340 : decode cL_isBoard 340 = .ok (.iconst 0, 1) := by decide +kernel
theorem dL_isBoard_341 : decode cL_isBoard 341 = .ok (.ireturn, 1) := by decide +kernel
theorem dL_isBoard_342 : decode cL_isBoard 342 = .ok (.iload 6, 2) := by decide +kernel
theorem dL_isBoard_344 : decode cL_isBoard 344 = .ok (.iload 10, 2) := by decide +kernel
theorem dL_isBoard_346 : decode cL_isBoard 346 = .ok (.iconst 3, 1) := by decide +kernel
theorem dL_isBoard_347 : decode cL_isBoard 347 = .ok (.if_icmp .ne 13, 3) := by decide +kernel
theorem dL_isBoard_350 : decode cL_isBoard 350 = .ok (.iconst 1, 1) := by decide +kernel
theorem dL_isBoard_351 : decode cL_isBoard 351 = .ok (.iload 7, 2) := by decide +kernel
theorem dL_isBoard_353 : decode cL_isBoard 353 = .ok (.bipush 8, 2) := by decide +kernel
theorem dL_isBoard_355 : decode cL_isBoard 355 = .ok (.idiv, 1) := by decide +kernel
theorem dL_isBoard_356 : decode cL_isBoard 356 = .ok (.ishl, 1) := by decide +kernel
theorem dL_isBoard_357 : decode cL_isBoard 357 = .ok (.goto 4, 3) := by decide +kernel
theorem dL_isBoard_360 : decode cL_isBoard 360 = .ok (.iconst 0, 1) := by decide +kernel
theorem dL_isBoard_361 : decode cL_isBoard 361 = .ok (.ior, 1) := by decide +kernel
theorem dL_isBoard_362 : decode cL_isBoard 362 = .ok (.istore 6, 2) := by decide +kernel
theorem dL_isBoard_364 : decode cL_isBoard 364 = .ok (.iinc 7 1, 3) := by decide +kernel
theorem dL_isBoard_367 : decode cL_isBoard 367 = .ok (.goto (-249), 3) := by decide +kernel
theorem dL_isBoard_370 : decode cL_isBoard 370 = .ok (.iconst 0, 1) := by decide +kernel
theorem dL_isBoard_371 : decode cL_isBoard 371 = .ok (.istore 7, 2) := by decide +kernel
theorem dL_isBoard_373 : decode cL_isBoard 373 = .ok (.iload 7, 2) := by decide +kernel
theorem dL_isBoard_375 : decode cL_isBoard 375 = .ok (.bipush 8, 2) := by decide +kernel
theorem dL_isBoard_377 : decode cL_isBoard 377 = .ok (.if_icmp .ge 25, 3) := by decide +kernel
theorem dL_isBoard_380 : decode cL_isBoard 380 = .ok (.aload_n 0, 1) := by decide +kernel
theorem dL_isBoard_381 : decode cL_isBoard 381 = .ok (.iload 7, 2) := by decide +kernel
theorem dL_isBoard_383 : decode cL_isBoard 383 = .ok (.invokevirtual 65, 3) := by decide +kernel
theorem dL_isBoard_386 : decode cL_isBoard 386 = .ok (.aload 4, 2) := by decide +kernel
theorem dL_isBoard_388 : decode cL_isBoard 388 = .ok (.iload 7, 2) := by decide +kernel
theorem dL_isBoard_390 : decode cL_isBoard 390 = .ok (.iaload, 1) := by decide +kernel
theorem dL_isBoard_391 : decode cL_isBoard 391 = .ok (.if_icmp .eq 5, 3) := by decide +kernel
theorem dL_isBoard_394 : decode cL_isBoard 394 = .ok (.iconst 0, 1) := by decide +kernel
theorem dL_isBoard_395 : decode cL_isBoard 395 = .ok (.ireturn, 1) := by decide +kernel
theorem dL_isBoard_396 : decode cL_isBoard 396 = .ok (.iinc 7 1, 3) := by decide +kernel
theorem dL_isBoard_399 : decode cL_isBoard 399 = .ok (.goto (-26), 3) := by decide +kernel
theorem dL_isBoard_402 : decode cL_isBoard 402 = .ok (.iconst 0, 1) := by decide +kernel
theorem dL_isBoard_403 : decode cL_isBoard 403 = .ok (.istore 7, 2) := by decide +kernel
theorem dL_isBoard_405 : decode cL_isBoard 405 = .ok (.iload 7, 2) := by decide +kernel
theorem dL_isBoard_407 : decode cL_isBoard 407 = .ok (.iconst 4, 1) := by decide +kernel
theorem dL_isBoard_408 : decode cL_isBoard 408 = .ok (.if_icmp .ge 67, 3) := by decide +kernel
theorem dL_isBoard_411 : decode cL_isBoard 411 = .ok (.iconst 0, 1) := by decide +kernel
theorem dL_isBoard_412 : decode cL_isBoard 412 = .ok (.istore 8, 2) := by decide +kernel
theorem dL_isBoard_414 : decode cL_isBoard 414 = .ok (.iconst 0, 1) := by decide +kernel
theorem dL_isBoard_415 : decode cL_isBoard 415 = .ok (.istore 9, 2) := by decide +kernel
theorem dL_isBoard_417 : decode cL_isBoard 417 = .ok (.iload 9, 2) := by decide +kernel
theorem dL_isBoard_419 : decode cL_isBoard 419 = .ok (.iconst 3, 1) := by decide +kernel
theorem dL_isBoard_420 : decode cL_isBoard 420 = .ok (.if_icmp .ge 33, 3) := by decide +kernel
theorem dL_isBoard_423 : decode cL_isBoard 423 = .ok (.iload 8, 2) := by decide +kernel
theorem dL_isBoard_425 : decode cL_isBoard 425 = .ok (.aload_n 1, 1) := by decide +kernel
theorem dL_isBoard_426 : decode cL_isBoard 426 = .ok (.iconst 3, 1) := by decide +kernel
theorem dL_isBoard_427 : decode cL_isBoard 427 = .ok (.iload 7, 2) := by decide +kernel
theorem dL_isBoard_429 : decode cL_isBoard 429 = .ok (.imul, 1) := by decide +kernel
theorem dL_isBoard_430 : decode cL_isBoard 430 = .ok (.iload 9, 2) := by decide +kernel
theorem dL_isBoard_432 : decode cL_isBoard 432 = .ok (.iadd, 1) := by decide +kernel
theorem dL_isBoard_433 : decode cL_isBoard 433 = .ok (.iaload, 1) := by decide +kernel
theorem dL_isBoard_434 : decode cL_isBoard 434 = .ok (.bipush 35, 2) := by decide +kernel
theorem dL_isBoard_436 : decode cL_isBoard 436 = .ok (.if_icmp .ne 7, 3) := by decide +kernel
theorem dL_isBoard_439 : decode cL_isBoard 439 = .ok (.iconst 1, 1) := by decide +kernel
theorem dL_isBoard_440 : decode cL_isBoard 440 = .ok (.goto 4, 3) := by decide +kernel
theorem dL_isBoard_443 : decode cL_isBoard 443 = .ok (.iconst 0, 1) := by decide +kernel
theorem dL_isBoard_444 : decode cL_isBoard 444 = .ok (.iadd, 1) := by decide +kernel
theorem dL_isBoard_445 : decode cL_isBoard 445 = .ok (.istore 8, 2) := by decide +kernel
theorem dL_isBoard_447 : decode cL_isBoard 447 = .ok (.iinc 9 1, 3) := by decide +kernel
theorem dL_isBoard_450 : decode cL_isBoard 450 = .ok (.goto (-33), 3) := by decide +kernel
theorem dL_isBoard_453 : decode cL_isBoard 453 = .ok (.aload_n 0, 1) := by decide +kernel
theorem dL_isBoard_454 : decode cL_isBoard 454 = .ok (.bipush 9, 2) := by decide +kernel
theorem dL_isBoard_456 : decode cL_isBoard 456 = .ok (.iload 7, 2) := by decide +kernel
theorem dL_isBoard_458 : decode cL_isBoard 458 = .ok (.iadd, 1) := by decide +kernel
theorem dL_isBoard_459 : decode cL_isBoard 459 = .ok (.invokevirtual 65, 3) := by decide +kernel
theorem dL_isBoard_462 : decode cL_isBoard 462 = .ok (.iload 8, 2) := by decide +kernel
theorem dL_isBoard_464 : decode cL_isBoard 464 = .ok (.if_icmp .eq 5, 3) := by decide +kernel
theorem dL_isBoard_467 : decode cL_isBoard 467 = .ok (.iconst 0, 1) := by decide +kernel
theorem dL_isBoard_468 : decode cL_isBoard 468 = .ok (.ireturn, 1) := by decide +kernel
theorem dL_isBoard_469 : decode cL_isBoard 469 = .ok (.iinc 7 1, 3) := by decide +kernel
theorem dL_isBoard_472 : decode cL_isBoard 472 = .ok (.goto (-67), 3) := by decide +kernel
theorem dL_isBoard_475 : decode cL_isBoard 475 = .ok (.aload_n 0, 1) := by decide +kernel
theorem dL_isBoard_476 : decode cL_isBoard 476 = .ok (.bipush 8, 2) := by decide +kernel
theorem dL_isBoard_478 : decode cL_isBoard 478 = .ok (.invokevirtual 65, 3) := by decide +kernel
theorem dL_isBoard_481 : decode cL_isBoard 481 = .ok (.aload_n 1, 1) := by decide +kernel
theorem dL_isBoard_482 : decode cL_isBoard 482 = .ok (.invokestatic 39, 3) := by decide +kernel
theorem dL_isBoard_485 : decode cL_isBoard 485 = .ok (.if_icmp .ne 72, 3) := by decide +kernel
theorem dL_isBoard_488 : decode cL_isBoard 488 = .ok (.aload_n 0, 1) := by decide +kernel
theorem dL_isBoard_489 : decode cL_isBoard 489 = .ok (.bipush 13, 2) := by decide +kernel
theorem dL_isBoard_491 : decode cL_isBoard 491 = .ok (.invokevirtual 65, 3) := by decide +kernel
theorem dL_isBoard_494 : decode cL_isBoard 494 = .ok (.aload 4, 2) := by decide +kernel
theorem dL_isBoard_496 : decode cL_isBoard 496 = .ok (.bipush 8, 2) := by decide +kernel
theorem dL_isBoard_498 : decode cL_isBoard 498 = .ok (.iaload, 1) := by decide +kernel
theorem dL_isBoard_499 : decode cL_isBoard 499 = .ok (.if_icmp .ne 58, 3) := by decide +kernel
theorem dL_isBoard_502 : decode cL_isBoard 502 = .ok (.aload_n 0, 1) := by decide +kernel
theorem dL_isBoard_503 : decode cL_isBoard 503 = .ok (.bipush 14, 2) := by decide +kernel
theorem dL_isBoard_505 : decode cL_isBoard 505 = .ok (.invokevirtual 65, 3) := by decide +kernel
theorem dL_isBoard_508 : decode cL_isBoard 508 = .ok (.iload 6, 2) := by decide +kernel
theorem dL_isBoard_510 : decode cL_isBoard 510 = .ok (.if_icmp .ne 47, 3) := by decide +kernel
theorem dL_isBoard_513 : decode cL_isBoard 513 = .ok (.aload_n 0, 1) := by decide +kernel
theorem dL_isBoard_514 : decode cL_isBoard 514 = .ok (.bipush 15, 2) := by decide +kernel
theorem dL_isBoard_516 : decode cL_isBoard 516 = .ok (.invokevirtual 65, 3) := by decide +kernel
theorem dL_isBoard_519 : decode cL_isBoard 519 = .ok (.aload 4, 2) := by decide +kernel
theorem dL_isBoard_521 : decode cL_isBoard 521 = .ok (.bipush 9, 2) := by decide +kernel
theorem dL_isBoard_523 : decode cL_isBoard 523 = .ok (.iaload, 1) := by decide +kernel
theorem dL_isBoard_524 : decode cL_isBoard 524 = .ok (.if_icmp .ne 33, 3) := by decide +kernel
theorem dL_isBoard_527 : decode cL_isBoard 527 = .ok (.aload_n 0, 1) := by decide +kernel
theorem dL_isBoard_528 : decode cL_isBoard 528 = .ok (.invokevirtual 69, 3) := by decide +kernel
theorem dL_isBoard_531 : decode cL_isBoard 531 = .ok (.aload 4, 2) := by decide +kernel
theorem dL_isBoard_533 : decode cL_isBoard 533 = .ok (.iconst 5, 1) := by decide +kernel
theorem dL_isBoard_534 : decode cL_isBoard 534 = .ok (.iaload, 1) := by decide +kernel
theorem dL_isBoard_535 : decode cL_isBoard 535 = .ok (.ifCond .ge 8, 3) := by decide +kernel
theorem dL_isBoard_538 : decode cL_isBoard 538 = .ok (.bipush (-5), 2) := by decide +kernel
theorem dL_isBoard_540 : decode cL_isBoard 540 = .ok (.goto 10, 3) := by decide +kernel
theorem dL_isBoard_543 : decode cL_isBoard 543 = .ok (.aload_n 1, 1) := by decide +kernel
theorem dL_isBoard_544 : decode cL_isBoard 544 = .ok (.aload_n 3, 1) := by decide +kernel
theorem dL_isBoard_545 : decode cL_isBoard 545 = .ok (.aload 4, 2) := by decide +kernel
theorem dL_isBoard_547 : decode cL_isBoard 547 = .ok (.invokestatic 50, 3) := by decide +kernel
theorem dL_isBoard_550 : decode cL_isBoard 550 = .ok (.if_icmp .ne 7, 3) := by decide +kernel
theorem dL_isBoard_553 : decode cL_isBoard 553 = .ok (.iconst 1, 1) := by decide +kernel
theorem dL_isBoard_554 : decode cL_isBoard 554 = .ok (.goto 4, 3) := by decide +kernel
theorem dL_isBoard_557 : decode cL_isBoard 557 = .ok (.iconst 0, 1) := by decide +kernel
theorem dL_isBoard_558 : decode cL_isBoard 558 = .ok (.ireturn, 1) := by decide +kernel
theorem dL_isAhead_0 : decode cL_isAhead 0 = .ok (.iconst 1, 1) := by decide +kernel
theorem dL_isAhead_1 : decode cL_isAhead 1 = .ok (.iload_n 1, 1) := by decide +kernel
theorem dL_isAhead_2 : decode cL_isAhead 2 = .ok (.bipush 6, 2) := by decide +kernel
theorem dL_isAhead_4 : decode cL_isAhead 4 = .ok (.invokestatic 72, 3) := by decide +kernel
theorem dL_isAhead_7 : decode cL_isAhead 7 = .ok (.iadd, 1) := by decide +kernel
theorem dL_isAhead_8 : decode cL_isAhead 8 = .ok (.istore 6, 2) := by decide +kernel
theorem dL_isAhead_10 : decode cL_isAhead 10 = .ok (.iconst 0, 1) := by decide +kernel
theorem dL_isAhead_11 : decode cL_isAhead 11 = .ok (.istore 7, 2) := by decide +kernel
theorem dL_isAhead_13 : decode cL_isAhead 13 = .ok (.iload 7, 2) := by decide +kernel
theorem dL_isAhead_15 : decode cL_isAhead 15 = .ok (.bipush 12, 2) := by decide +kernel
theorem dL_isAhead_17 : decode cL_isAhead 17 = .ok (.if_icmp .ge 83, 3) := by decide +kernel
theorem dL_isAhead_20 : decode cL_isAhead 20 = .ok (.aload_n 2, 1) := by decide +kernel
theorem dL_isAhead_21 : decode cL_isAhead 21 = .ok (.aload 4, 2) := by decide +kernel
theorem dL_isAhead_23 : decode cL_isAhead 23 = .ok (.aload 5, 2) := by decide +kernel
theorem dL_isAhead_25 : decode cL_isAhead 25 = .ok (.iload 7, 2) := by decide +kernel
theorem dL_isAhead_27 : decode cL_isAhead 27 = .ok (.iload 6, 2) := by decide +kernel
theorem dL_isAhead_29 : decode cL_isAhead 29 = .ok (.invokestatic 43, 3) := by decide +kernel
theorem dL_isAhead_32 : decode cL_isAhead 32 = .ok (.istore 8, 2) := by decide +kernel
theorem dL_isAhead_34 : decode cL_isAhead 34 = .ok (.aload_n 2, 1) := by decide +kernel
theorem dL_isAhead_35 : decode cL_isAhead 35 = .ok (.aload 4, 2) := by decide +kernel
theorem dL_isAhead_37 : decode cL_isAhead 37 = .ok (.iload 7, 2) := by decide +kernel
theorem dL_isAhead_39 : decode cL_isAhead 39 = .ok (.invokestatic 75, 3) := by decide +kernel
theorem dL_isAhead_42 : decode cL_isAhead 42 = .ok (.istore 9, 2) := by decide +kernel
theorem dL_isAhead_44 : decode cL_isAhead 44 = .ok (.aload_n 0, 1) := by decide +kernel
theorem dL_isAhead_45 : decode cL_isAhead 45 = .ok (.iload 7, 2) := by decide +kernel
theorem dL_isAhead_47 : decode cL_isAhead 47 = .ok (.iload 6, 2) := by decide +kernel
theorem dL_isAhead_49 : decode cL_isAhead 49 = .ok (.invokevirtual 79, 3) := by decide +kernel
theorem dL_isAhead_52 : decode cL_isAhead 52 = .ok (.iload 8, 2) := by decide +kernel
theorem dL_isAhead_54 : decode cL_isAhead 54 = .ok (.bipush 9, 2) := by decide +kernel
theorem dL_isAhead_56 : decode cL_isAhead 56 = .ok (.if_icmp .le 7, 3) := by decide +kernel
theorem dL_isAhead_59 : decode cL_isAhead 59 = .ok (.iconst 0, 1) := by decide +kernel
theorem dL_isAhead_60 : decode cL_isAhead 60 = .ok (.goto 5, 3) := by decide +kernel
theorem dL_isAhead_63 : decode cL_isAhead 63 = .ok (.iload 8, 2) := by decide +kernel
theorem dL_isAhead_65 : decode cL_isAhead 65 = .ok (.if_icmp .ne 27, 3) := by decide +kernel
theorem dL_isAhead_68 : decode cL_isAhead 68 = .ok (.aload_n 0, 1) := by decide +kernel
theorem dL_isAhead_69 : decode cL_isAhead 69 = .ok (.iload 7, 2) := by decide +kernel
theorem dL_isAhead_71 : decode cL_isAhead 71 = .ok (.iconst 0, 1) := by decide +kernel
theorem dL_isAhead_72 : decode cL_isAhead 72 = .ok (.invokevirtual 81, 3) := by decide +kernel
theorem dL_isAhead_75 : decode cL_isAhead 75 = .ok (.iload 9, 2) := by decide +kernel
theorem dL_isAhead_77 : decode cL_isAhead 77 = .ok (.if_icmp .ne 15, 3) := by decide +kernel
theorem dL_isAhead_80 : decode cL_isAhead 80 = .ok (.aload_n 0, 1) := by decide +kernel
theorem dL_isAhead_81 : decode cL_isAhead 81 = .ok (.iload 7, 2) := by decide +kernel
theorem dL_isAhead_83 : decode cL_isAhead 83 = .ok (.iconst 1, 1) := by decide +kernel
theorem dL_isAhead_84 : decode cL_isAhead 84 = .ok (.invokevirtual 81, 3) := by decide +kernel
theorem dL_isAhead_87 : decode cL_isAhead 87 = .ok (.iload 9, 2) := by decide +kernel
theorem dL_isAhead_89 : decode cL_isAhead 89 = .ok (.if_icmp .eq 5, 3) := by decide +kernel
theorem dL_isAhead_92 : decode cL_isAhead 92 = .ok (.iconst 0, 1) := by decide +kernel
theorem dL_isAhead_93 : decode cL_isAhead 93 = .ok (.ireturn, 1) := by decide +kernel
theorem dL_isAhead_94 : decode cL_isAhead 94 = .ok (.iinc 7 1, 3) := by decide +kernel
theorem dL_isAhead_97 : decode cL_isAhead 97 = .ok (.goto (-84), 3) := by decide +kernel
theorem dL_isAhead_100 : decode cL_isAhead 100 = .ok (.bipush 12, 2) := by decide +kernel
theorem dL_isAhead_102 : decode cL_isAhead 102 = .ok (.newarray .int, 2) := by decide +kernel
theorem dL_isAhead_104 : decode cL_isAhead 104 = .ok (.astore 7, 2) := by decide +kernel
theorem dL_isAhead_106 : decode cL_isAhead 106 = .ok (.bipush 12, 2) := by decide +kernel
theorem dL_isAhead_108 : decode cL_isAhead 108 = .ok (.newarray .int, 2) := by decide +kernel
theorem dL_isAhead_110 : decode cL_isAhead 110 = .ok (.astore 8, 2) := by decide +kernel
theorem dL_isAhead_112 : decode cL_isAhead 112 = .ok (.bipush 12, 2) := by decide +kernel
theorem dL_isAhead_114 : decode cL_isAhead 114 = .ok (.newarray .int, 2) := by decide +kernel
theorem dL_isAhead_116 : decode cL_isAhead 116 = .ok (.astore 9, 2) := by decide +kernel
theorem dL_isAhead_118 : decode cL_isAhead 118 = .ok (.bipush 10, 2) := by decide +kernel
theorem dL_isAhead_120 : decode cL_isAhead 120 = .ok (.newarray .int, 2) := by decide +kernel
theorem dL_isAhead_122 : decode cL_isAhead 122 = .ok (.astore 10, 2) := by decide +kernel
theorem dL_isAhead_124 : decode cL_isAhead 124 = .ok (.aload 5, 2) := by decide +kernel
theorem dL_isAhead_126 : decode cL_isAhead 126 = .ok (.aload 10, 2) := by decide +kernel
theorem dL_isAhead_128 : decode cL_isAhead 128 = .ok (.invokestatic 83, 3) := by decide +kernel
theorem dL_isAhead_131 : decode cL_isAhead 131 = .ok (.iload_n 1, 1) := by decide +kernel
theorem dL_isAhead_132 : decode cL_isAhead 132 = .ok (.iconst 3, 1) := by decide +kernel
theorem dL_isAhead_133 : decode cL_isAhead 133 = .ok (.ishr, 1) := by decide +kernel
theorem dL_isAhead_134 : decode cL_isAhead 134 = .ok (.bipush 100, 2) := by decide +kernel
theorem dL_isAhead_136 : decode cL_isAhead 136 = .ok (.invokestatic 72, 3) := by decide +kernel
theorem dL_isAhead_139 : decode cL_isAhead 139 = .ok (.istore 11, 2) := by decide +kernel
theorem dL_isAhead_141 : decode cL_isAhead 141 = .ok (.iconst 0, 1) := by decide +kernel
theorem dL_isAhead_142 : decode cL_isAhead 142 = .ok (.istore 12, 2) := by decide +kernel
theorem dL_isAhead_144 : decode cL_isAhead 144 = .ok (.iconst 0, 1) := by decide +kernel
theorem dL_isAhead_145 : decode cL_isAhead 145 = .ok (.istore 13, 2) := by decide +kernel
theorem dL_isAhead_147 : decode cL_isAhead 147 = .ok (.iload 13, 2) := by decide +kernel
theorem dL_isAhead_149 : decode cL_isAhead 149 = .ok (.iload 11, 2) := by decide +kernel
theorem dL_isAhead_151 : decode cL_isAhead 151 = .ok (.if_icmp .gt 16, 3) := by decide +kernel
theorem dL_isAhead_154 : decode cL_isAhead 154 = .ok (.aload 10, 2) := by decide +kernel
theorem dL_isAhead_156 : decode cL_isAhead 156 = .ok (.invokestatic 47, 3) := by decide +kernel
theorem dL_isAhead_159 : decode cL_isAhead 159 = .ok (.istore 12, 2) := by decide +kernel
theorem dL_isAhead_161 : decode cL_isAhead 161 = .ok (.iinc 13 1, 3) := by decide +kernel
theorem dL_isAhead_164 : decode cL_isAhead 164 = .ok (.goto (-17), 3) := by decide +kernel
theorem dL_isAhead_167 : decode cL_isAhead 167 = .ok (.aload_n 0, 1) := by decide +kernel
theorem dL_isAhead_168 : decode cL_isAhead 168 = .ok (.iload 11, 2) := by decide +kernel
theorem dL_isAhead_170 : decode cL_isAhead 170 = .ok (.invokevirtual 87, 3) := by decide +kernel
theorem dL_isAhead_173 : decode cL_isAhead 173 = .ok (.iload 12, 2) := by decide +kernel
theorem dL_isAhead_175 : decode cL_isAhead 175 = .ok (.if_icmp .ne 14, 3) := by decide +kernel
theorem dL_isAhead_178 : decode cL_isAhead 178 = .ok (.aload_n 0, 1) := by decide +kernel
theorem dL_isAhead_179 : decode cL_isAhead 179 = .ok (.bipush 100, 2) := by decide +kernel
theorem dL_isAhead_181 : decode cL_isAhead 181 = .ok (.invokevirtual 87, 3) := by decide +kernel
theorem dL_isAhead_184 : decode cL_isAhead 184 = .ok (.bipush (-2), 2) := by decide +kernel
theorem dL_isAhead_186 : decode cL_isAhead 186 = .ok (.if_icmp .eq 5, 3) := by decide +kernel
theorem dL_isAhead_189 : decode cL_isAhead 189 = .ok (.iconst 0, 1) := by decide +kernel
theorem dL_isAhead_190 : decode cL_isAhead 190 = .ok (.ireturn, 1) := by decide +kernel
theorem dL_isAhead_191 : decode cL_isAhead 191 = .ok (.aload_n 2, 1) := by decide +kernel
theorem dL_isAhead_192 : decode cL_isAhead 192 = .ok (.aload 7, 2) := by decide +kernel
theorem dL_isAhead_194 : decode cL_isAhead 194 = .ok (.invokestatic 83, 3) := by decide +kernel
theorem dL_isAhead_197 : decode cL_isAhead 197 = .ok (.aload_n 3, 1) := by decide +kernel
theorem dL_isAhead_198 : decode cL_isAhead 198 = .ok (.aload 8, 2) := by decide +kernel
theorem dL_isAhead_200 : decode cL_isAhead 200 = .ok (.invokestatic 83, 3) := by decide +kernel
theorem dL_isAhead_203 : decode cL_isAhead 203 = .ok (.aload 4, 2) := by decide +kernel
theorem dL_isAhead_205 : decode cL_isAhead 205 = .ok (.aload 9, 2) := by decide +kernel
theorem dL_isAhead_207 : decode cL_isAhead 207 = .ok (.invokestatic 83, 3) := by decide +kernel
theorem dL_isAhead_210 : decode cL_isAhead 210 = .ok (.aload 5, 2) := by decide +kernel
theorem dL_isAhead_212 : decode cL_isAhead 212 = .ok (.aload 10, 2) := by decide +kernel
theorem dL_isAhead_214 : decode cL_isAhead 214 = .ok (.invokestatic 83, 3) := by decide +kernel
theorem dL_isAhead_217 : decode cL_isAhead 217 = .ok (.iconst 0, 1) := by decide +kernel
theorem dL_isAhead_218 : decode cL_isAhead 218 = .ok (.istore 13, 2) := by decide +kernel
theorem dL_isAhead_220 : decode cL_isAhead 220 = .ok (.aload 5, 2) := by decide +kernel
theorem dL_isAhead_222 : decode cL_isAhead 222 = .ok (.iconst 5, 1) := by decide +kernel
theorem dL_isAhead_223 : decode cL_isAhead 223 = .ok (.iaload, 1) := by decide +kernel
theorem dL_isAhead_224 : decode cL_isAhead 224 = .ok (.ifCond .ge 36, 3) := by decide +kernel
theorem dL_isAhead_227 : decode cL_isAhead 227 = .ok (.iload 13, 2) := by decide +kernel
theorem dL_isAhead_229 : decode cL_isAhead 229 = .ok (.sipush 400, 3) := by decide +kernel
theorem dL_isAhead_232 : decode cL_isAhead 232 = .ok (.if_icmp .ge 28, 3) := by decide +kernel
theorem dL_isAhead_235 : decode cL_isAhead 235 = .ok (.aload 7, 2) := by decide +kernel
theorem dL_isAhead_237 : decode cL_isAhead 237 = .ok (.invokestatic 39, 3) := by decide +kernel
theorem dL_isAhead_240 : decode cL_isAhead 240 = .ok (.ifCond .ge 20, 3) := by decide +kernel
theorem dL_isAhead_243 : decode cL_isAhead 243 = .ok (.aload 7, 2) := by decide +kernel
theorem dL_isAhead_245 : decode cL_isAhead 245 = .ok (.aload 8, 2) := by decide +kernel
theorem dL_isAhead_247 : decode cL_isAhead 247 = .ok (.aload 9, 2) := by decide +kernel
theorem dL_isAhead_249 : decode cL_isAhead 249 = .ok (.aload 10, 2) := by decide +kernel
theorem dL_isAhead_251 : decode cL_isAhead 251 = .ok (.invokestatic 90, 3) := by decide +kernel
theorem dL_isAhead_254 : decode cL_isAhead 254 = .ok (.iinc 13 1, 3) := by decide +kernel
theorem dL_isAhead_257 : decode cL_isAhead 257 = .ok (.goto (-37), 3) := by decide +kernel
theorem dL_isAhead_260 : decode cL_isAhead 260 = .ok (.aload_n 0, 1) := by decide +kernel
theorem dL_isAhead_261 : decode cL_isAhead 261 = .ok (.invokevirtual 94, 3) := by decide +kernel
theorem dL_isAhead_264 : decode cL_isAhead 264 = .ok (.aload 5, 2) := by decide +kernel
theorem dL_isAhead_266 : decode cL_isAhead 266 = .ok (.iconst 5, 1) := by decide +kernel
theorem dL_isAhead_267 : decode cL_isAhead 267 = .ok (.iaload, 1) := by decide +kernel
theorem dL_isAhead_268 : decode cL_isAhead 268 = .ok (.ifCond .lt 8, 3) := by decide +kernel
theorem dL_isAhead_271 : decode cL_isAhead 271 = .ok (.bipush (-5), 2) := by decide +kernel
theorem dL_isAhead_273 : decode cL_isAhead 273 = .ok (.goto 18, 3) := by decide +kernel
theorem dL_isAhead_276 : decode cL_isAhead 276 = .ok (.aload 7, 2) := by decide +kernel
theorem dL_isAhead_278 : decode cL_isAhead 278 = .ok (.invokestatic 39, 3) := by decide +kernel
theorem dL_isAhead_281 : decode cL_isAhead 281 = .ok (.ifCond .ge 8, 3) := by decide +kernel
theorem dL_isAhead_284 : decode cL_isAhead 284 = .ok (.bipush (-6), 2) := by decide +kernel
theorem dL_isAhead_286 : decode cL_isAhead 286 = .ok (.goto 5, 3) := by decide +kernel
theorem dL_isAhead_289 : decode cL_isAhead 289 = .ok (.iload 13, 2) := by decide +kernel
theorem dL_isAhead_291 : decode cL_isAhead 291 = .ok (.if_icmp .ne 7, 3) := by decide +kernel
theorem dL_isAhead_294 : decode cL_isAhead 294 = .ok (.iconst 1, 1) := by decide +kernel
theorem dL_isAhead_295 : decode cL_isAhead 295 = .ok (.goto 4, 3) := by decide +kernel
theorem dL_isAhead_298 : decode cL_isAhead 298 = .ok (.iconst 0, 1) := by decide +kernel
theorem dL_isAhead_299 : decode cL_isAhead 299 = .ok (.ireturn, 1) := by decide +kernel
theorem dL_lays_0 : decode cL_lays 0 = .ok (.bipush (-6), 2) := by decide +kernel
theorem dL_lays_2 : decode cL_lays 2 = .ok (.istore 5, 2) := by decide +kernel
theorem dL_lays_4 : decode cL_lays 4 = .ok (.iload_n 1, 1) := by decide +kernel
theorem dL_lays_5 : decode cL_lays 5 = .ok (.bipush 12, 2) := by decide +kernel
theorem dL_lays_7 : decode cL_lays 7 = .ok (.invokestatic 72, 3) := by decide +kernel
theorem dL_lays_10 : decode cL_lays 10 = .ok (.istore 6, 2) := by decide +kernel
theorem dL_lays_12 : decode cL_lays 12 = .ok (.iload_n 1, 1) := by decide +kernel
theorem dL_lays_13 : decode cL_lays 13 = .ok (.bipush 20, 2) := by decide +kernel
theorem dL_lays_15 : decode cL_lays 15 = .ok (.ishr, 1) := by decide +kernel
theorem dL_lays_16 : decode cL_lays 16 = .ok (.bipush 7, 2) := by decide +kernel
theorem dL_lays_18 : decode cL_lays 18 = .ok (.iand, 1) := by decide +kernel
theorem dL_lays_19 : decode cL_lays 19 = .ok (.ifCond .ne 8, 3) := by decide +kernel
theorem dL_lays_22 : decode cL_lays 22 = .ok (.iload 5, 2) := by decide +kernel
theorem dL_lays_24 : decode cL_lays 24 = .ok (.goto 34, 3) := by decide +kernel
theorem dL_lays_27 : decode cL_lays 27 = .ok (.iload_n 1, 1) := by decide +kernel
theorem dL_lays_28 : decode cL_lays 28 = .ok (.bipush 20, 2) := by decide +kernel
theorem dL_lays_30 : decode cL_lays 30 = .ok (.ishr, 1) := by decide +kernel
theorem dL_lays_31 : decode cL_lays 31 = .ok (.iconst 3, 1) := by decide +kernel
theorem dL_lays_32 : decode cL_lays 32 = .ok (.iand, 1) := by decide +kernel
theorem dL_lays_33 : decode cL_lays 33 = .ok (.iconst 1, 1) := by decide +kernel
theorem dL_lays_34 : decode cL_lays 34 = .ok (.if_icmp .ne 16, 3) := by decide +kernel
theorem dL_lays_37 : decode cL_lays 37 = .ok (.iconst 4, 1) := by decide +kernel
theorem dL_lays_38 : decode cL_lays 38 = .ok (.bipush 8, 2) := by decide +kernel
theorem dL_lays_40 : decode cL_lays 40 = .ok (.iload_n 1, 1) := by decide +kernel
theorem dL_lays_41 : decode cL_lays 41 = .ok (.iconst 5, 1) := by decide +kernel
theorem dL_lays_42 : decode cL_lays 42 = .ok (.ishr, 1) := by decide +kernel
theorem dL_lays_43 : decode cL_lays 43 = .ok (.iconst 3, 1) := by decide +kernel
theorem dL_lays_44 : decode cL_lays 44 = .ok (.iand, 1) := by decide +kernel
theorem dL_lays_45 : decode cL_lays 45 = .ok (.imul, 1) := by decide +kernel
theorem dL_lays_46 : decode cL_lays 46 = .ok (.iadd, 1) := by decide +kernel
theorem dL_lays_47 : decode cL_lays 47 = .ok (.goto 11, 3) := by decide +kernel
theorem dL_lays_50 : decode cL_lays 50 = .ok (.iload_n 1, 1) := by decide +kernel
theorem dL_lays_51 : decode cL_lays 51 = .ok (.iconst 5, 1) := by decide +kernel
theorem dL_lays_52 : decode cL_lays 52 = .ok (.ishr, 1) := by decide +kernel
theorem dL_lays_53 : decode cL_lays 53 = .ok (.bipush 36, 2) := by decide +kernel
theorem dL_lays_55 : decode cL_lays 55 = .ok (.invokestatic 72, 3) := by decide +kernel
theorem dL_lays_58 : decode cL_lays 58 = .ok (.istore 7, 2) := by decide +kernel
theorem dL_lays_60 : decode cL_lays 60 = .ok (.iload 6, 2) := by decide +kernel
theorem dL_lays_62 : decode cL_lays 62 = .ok (.iload 7, 2) := by decide +kernel
theorem dL_lays_64 : decode cL_lays 64 = .ok (.invokestatic 9, 3) := by decide +kernel
theorem dL_lays_67 : decode cL_lays 67 = .ok (.istore 8, 2) := by decide +kernel
theorem dL_lays_69 : decode cL_lays 69 = .ok (.iconst 0, 1) := by decide +kernel
theorem dL_lays_70 : decode cL_lays 70 = .ok (.istore 9, 2) := by decide +kernel
theorem dL_lays_72 : decode cL_lays 72 = .ok (.iload 6, 2) := by decide +kernel
theorem dL_lays_74 : decode cL_lays 74 = .ok (.iconst 3, 1) := by decide +kernel
theorem dL_lays_75 : decode cL_lays 75 = .ok (.idiv, 1) := by decide +kernel
theorem dL_lays_76 : decode cL_lays 76 = .ok (.iconst 3, 1) := by decide +kernel
theorem dL_lays_77 : decode cL_lays 77 = .ok (.imul, 1) := by decide +kernel
theorem dL_lays_78 : decode cL_lays 78 = .ok (.istore 10, 2) := by decide +kernel
theorem dL_lays_80 : decode cL_lays 80 = .ok (.iload 10, 2) := by decide +kernel
theorem dL_lays_82 : decode cL_lays 82 = .ok (.iload 6, 2) := by decide +kernel
theorem dL_lays_84 : decode cL_lays 84 = .ok (.iconst 3, 1) := by decide +kernel
theorem dL_lays_85 : decode cL_lays 85 = .ok (.idiv, 1) := by decide +kernel
theorem dL_lays_86 : decode cL_lays 86 = .ok (.iconst 3, 1) := by decide +kernel
theorem dL_lays_87 : decode cL_lays 87 = .ok (.imul, 1) := by decide +kernel
theorem dL_lays_88 : decode cL_lays 88 = .ok (.iconst 3, 1) := by decide +kernel
theorem dL_lays_89 : decode cL_lays 89 = .ok (.iadd, 1) := by decide +kernel
theorem dL_lays_90 : decode cL_lays 90 = .ok (.if_icmp .ge 47, 3) := by decide +kernel
theorem dL_lays_93 : decode cL_lays 93 = .ok (.iload 9, 2) := by decide +kernel
theorem dL_lays_95 : decode cL_lays 95 = .ok (.iload 10, 2) := by decide +kernel
theorem dL_lays_97 : decode cL_lays 97 = .ok (.iload 6, 2) := by decide +kernel
theorem dL_lays_99 : decode cL_lays 99 = .ok (.if_icmp .eq 28, 3) := by decide +kernel
theorem dL_lays_102 : decode cL_lays 102 = .ok (.aload_n 2, 1) := by decide +kernel
theorem dL_lays_103 : decode cL_lays 103 = .ok (.iload 10, 2) := by decide +kernel
theorem dL_lays_105 : decode cL_lays 105 = .ok (.iaload, 1) := by decide +kernel
theorem dL_lays_106 : decode cL_lays 106 = .ok (.iload 7, 2) := by decide +kernel
theorem dL_lays_108 : decode cL_lays 108 = .ok (.if_icmp .ne 19, 3) := by decide +kernel
theorem dL_lays_111 : decode cL_lays 111 = .ok (.iload 7, 2) := by decide +kernel
theorem dL_lays_113 : decode cL_lays 113 = .ok (.ifCond .lt 14, 3) := by decide +kernel
theorem dL_lays_116 : decode cL_lays 116 = .ok (.iload 7, 2) := by decide +kernel
theorem dL_lays_118 : decode cL_lays 118 = .ok (.bipush 35, 2) := by decide +kernel
theorem dL_lays_120 : decode cL_lays 120 = .ok (.if_icmp .ge 7, 3) := by decide +kernel
theorem dL_lays_123 : decode cL_lays 123 = .ok (.iconst 1, 1) := by decide +kernel
theorem dL_lays_124 : decode cL_lays 124 = .ok (.goto 4, 3) := by decide +kernel
theorem dL_lays_127 : decode cL_lays 127 = .ok (.iconst 0, 1) := by decide +kernel
theorem dL_lays_128 : decode cL_lays 128 = .ok (.iadd, 1) := by decide +kernel
theorem dL_lays_129 : decode cL_lays 129 = .ok (.istore 9, 2) := by decide +kernel
theorem dL_lays_131 : decode cL_lays 131 = .ok (.iinc 10 1, 3) := by decide +kernel
theorem dL_lays_134 : decode cL_lays 134 = .ok (.goto (-54), 3) := by decide +kernel
theorem dL_lays_137 : decode cL_lays 137 = .ok (.iload 9, 2) := by decide +kernel
theorem dL_lays_139 : decode cL_lays 139 = .ok (.iconst 2, 1) := by decide +kernel
theorem dL_lays_140 : decode cL_lays 140 = .ok (.if_icmp .ge 52, 3) := by decide +kernel
theorem dL_lays_143 : decode cL_lays 143 = .ok (.iload 8, 2) := by decide +kernel
theorem dL_lays_145 : decode cL_lays 145 = .ok (.ifCond .lt 43, 3) := by decide +kernel
theorem dL_lays_148 : decode cL_lays 148 = .ok (.aload_n 2, 1) := by decide +kernel
theorem dL_lays_149 : decode cL_lays 149 = .ok (.iload 8, 2) := by decide +kernel
theorem dL_lays_151 : decode cL_lays 151 = .ok (.invokestatic 29, 3) := by decide +kernel
theorem dL_lays_154 : decode cL_lays 154 = .ok (.aload_n 2, 1) := by decide +kernel
theorem dL_lays_155 : decode cL_lays 155 = .ok (.iload 6, 2) := by decide +kernel
theorem dL_lays_157 : decode cL_lays 157 = .ok (.iconst 3, 1) := by decide +kernel
theorem dL_lays_158 : decode cL_lays 158 = .ok (.idiv, 1) := by decide +kernel
theorem dL_lays_159 : decode cL_lays 159 = .ok (.iload 8, 2) := by decide +kernel
theorem dL_lays_161 : decode cL_lays 161 = .ok (.invokestatic 15, 3) := by decide +kernel
theorem dL_lays_164 : decode cL_lays 164 = .ok (.if_icmp .ne 28, 3) := by decide +kernel
theorem dL_lays_167 : decode cL_lays 167 = .ok (.iload 8, 2) := by decide +kernel
theorem dL_lays_169 : decode cL_lays 169 = .ok (.bipush 8, 2) := by decide +kernel
theorem dL_lays_171 : decode cL_lays 171 = .ok (.irem, 1) := by decide +kernel
theorem dL_lays_172 : decode cL_lays 172 = .ok (.iconst 4, 1) := by decide +kernel
theorem dL_lays_173 : decode cL_lays 173 = .ok (.if_icmp .ne 15, 3) := by decide +kernel
theorem dL_lays_176 : decode cL_lays 176 = .ok (.aload_n 3, 1) := by decide +kernel
theorem dL_lays_177 : decode cL_lays 177 = .ok (.iconst 3, 1) := by decide +kernel
theorem dL_lays_178 : decode cL_lays 178 = .ok (.iload 8, 2) := by decide +kernel
theorem dL_lays_180 : decode cL_lays 180 = .ok (.bipush 8, 2) := by decide +kernel
theorem dL_lays_182 : decode cL_lays 182 = .ok (.idiv, 1) := by decide +kernel
theorem dL_lays_183 : decode cL_lays 183 = .ok (.imul, 1) := by decide +kernel
theorem dL_lays_184 : decode cL_lays 184 = .ok (.iaload, 1) := by decide +kernel
theorem dL_lays_185 : decode cL_lays 185 = .ok (.ifCond .ne 7, 3) := by decide +kernel
theorem dL_lays_188 : decode cL_lays 188 = .ok (.iconst 1, 1) := by decide +kernel
theorem dL_lays_189 : decode cL_lays 189 = .ok (.goto 4, 3) := by decide +kernel
theorem dL_lays_192 : decode cL_lays 192 = .ok (.iconst 0, 1) := by decide +kernel
theorem dL_lays_193 : decode cL_lays 193 = .ok (.istore 10, 2) := by decide +kernel
theorem dL_lays_195 : decode cL_lays 195 = .ok (.aload_n 2, 1) := by decide +kernel
theorem dL_lays_196 : decode cL_lays 196 = .ok (.iload 6, 2) := by decide +kernel
theorem dL_lays_198 : decode cL_lays 198 = .ok (.iaload, 1) := by decide +kernel
theorem dL_lays_199 : decode cL_lays 199 = .ok (.istore 11, 2) := by decide +kernel
theorem dL_lays_201 : decode cL_lays 201 = .ok (.iload 10, 2) := by decide +kernel
theorem dL_lays_203 : decode cL_lays 203 = .ok (.ifCond .eq 16, 3) := by decide +kernel
theorem dL_lays_206 : decode cL_lays 206 = .ok (.aload_n 2, 1) := by decide +kernel
theorem dL_lays_207 : decode cL_lays 207 = .ok (.iload 6, 2) := by decide +kernel
theorem dL_lays_209 : decode cL_lays 209 = .ok (.iload 7, 2) := by decide +kernel
theorem dL_lays_211 : decode cL_lays 211 = .ok (.iastore, 1) := by decide +kernel
theorem dL_lays_212 : decode cL_lays 212 = .ok (.aload_n 2, 1) := by decide +kernel
theorem dL_lays_213 : decode cL_lays 213 = .ok (.aload_n 3, 1) := by decide +kernel
theorem dL_lays_214 : decode cL_lays 214 = .ok (.aload 4, 2) := by decide +kernel
theorem dL_lays_216 : decode cL_lays 216 = .ok (.invokestatic 35, 3) := by decide +kernel
theorem dL_lays_219 : decode cL_lays 219 = .ok (.aload_n 0, 1) := by decide +kernel
theorem dL_lays_220 : decode cL_lays 220 = .ok (.iload 6, 2) := by decide +kernel
theorem dL_lays_222 : decode cL_lays 222 = .ok (.iload 7, 2) := by decide +kernel
theorem dL_lays_224 : decode cL_lays 224 = .ok (.invokevirtual 97, 3) := by decide +kernel
theorem dL_lays_227 : decode cL_lays 227 = .ok (.iload 10, 2) := by decide +kernel
theorem dL_lays_229 : decode cL_lays 229 = .ok (.ifCond .eq 8, 3) := by decide +kernel
theorem dL_lays_232 : decode cL_lays 232 = .ok (.iload 11, 2) := by decide +kernel
theorem dL_lays_234 : decode cL_lays 234 = .ok (.goto 5, 3) := by decide +kernel
theorem dL_lays_237 : decode cL_lays 237 = .ok (.bipush (-5), 2) := by decide +kernel
theorem dL_lays_239 : decode cL_lays 239 = .ok (.if_icmp .ne 42, 3) := by decide +kernel
theorem dL_lays_242 : decode cL_lays 242 = .ok (.aload_n 0, 1) := by decide +kernel
theorem dL_lays_243 : decode cL_lays 243 = .ok (.bipush 12, 2) := by decide +kernel
theorem dL_lays_245 : decode cL_lays 245 = .ok (.bipush 99, 2) := by decide +kernel
theorem dL_lays_247 : decode cL_lays 247 = .ok (.invokevirtual 97, 3) := by decide +kernel
theorem dL_lays_250 : decode cL_lays 250 = .ok (.iconst (-1), 1) := by decide +kernel
theorem dL_lays_251 : decode cL_lays 251 = .ok (.if_icmp .ne 30, 3) := by decide +kernel
theorem dL_lays_254 : decode cL_lays 254 = .ok (.aload_n 0, 1) := by decide +kernel
theorem dL_lays_255 : decode cL_lays 255 = .ok (.iconst 0, 1) := by decide +kernel
theorem dL_lays_256 : decode cL_lays 256 = .ok (.bipush 36, 2) := by decide +kernel
theorem dL_lays_258 : decode cL_lays 258 = .ok (.invokevirtual 97, 3) := by decide +kernel
theorem dL_lays_261 : decode cL_lays 261 = .ok (.bipush (-2), 2) := by decide +kernel
theorem dL_lays_263 : decode cL_lays 263 = .ok (.if_icmp .ne 18, 3) := by decide +kernel
theorem dL_lays_266 : decode cL_lays 266 = .ok (.aload_n 0, 1) := by decide +kernel
theorem dL_lays_267 : decode cL_lays 267 = .ok (.iconst 0, 1) := by decide +kernel
theorem dL_lays_268 : decode cL_lays 268 = .ok (.iconst (-1), 1) := by decide +kernel
theorem dL_lays_269 : decode cL_lays 269 = .ok (.invokevirtual 97, 3) := by decide +kernel
theorem dL_lays_272 : decode cL_lays 272 = .ok (.bipush (-2), 2) := by decide +kernel
theorem dL_lays_274 : decode cL_lays 274 = .ok (.if_icmp .ne 7, 3) := by decide +kernel
theorem dL_lays_277 : decode cL_lays 277 = .ok (.iconst 1, 1) := by decide +kernel
theorem dL_lays_278 : decode cL_lays 278 = .ok (.goto 4, 3) := by decide +kernel
theorem dL_lays_281 : decode cL_lays 281 = .ok (.iconst 0, 1) := by decide +kernel
theorem dL_lays_282 : decode cL_lays 282 = .ok (.ireturn, 1) := by decide +kernel
theorem dL_act_0 : decode cL_act 0 = .ok (.iload_n 1, 1) := by decide +kernel
theorem dL_act_1 : decode cL_act 1 = .ok (.bipush 16, 2) := by decide +kernel
theorem dL_act_3 : decode cL_act 3 = .ok (.invokestatic 72, 3) := by decide +kernel
theorem dL_act_6 : decode cL_act 6 = .ok (.istore 7, 2) := by decide +kernel
theorem dL_act_8 : decode cL_act 8 = .ok (.bipush (-5), 2) := by decide +kernel
theorem dL_act_10 : decode cL_act 10 = .ok (.istore 8, 2) := by decide +kernel
theorem dL_act_12 : decode cL_act 12 = .ok (.aload_n 3, 1) := by decide +kernel
theorem dL_act_13 : decode cL_act 13 = .ok (.invokestatic 39, 3) := by decide +kernel
theorem dL_act_16 : decode cL_act 16 = .ok (.ifCond .lt 7, 3) := by decide +kernel
theorem dL_act_19 : decode cL_act 19 = .ok (.iconst 1, 1) := by decide +kernel
theorem dL_act_20 : decode cL_act 20 = .ok (.goto 4, 3) := by decide +kernel
theorem dL_act_23 : decode cL_act 23 = .ok (.iconst 0, 1) := by decide +kernel
theorem dL_act_24 : decode cL_act 24 = .ok (.istore 9, 2) := by decide +kernel
theorem dL_act_26 : decode cL_act 26 = .ok (.iload 7, 2) := by decide +kernel
theorem dL_act_28 : decode cL_act 28 = .ok (.iconst 3, 1) := by decide +kernel
theorem dL_act_29 : decode cL_act 29 = .ok (.if_icmp .ge 14, 3) := by decide +kernel
theorem dL_act_32 : decode cL_act 32 = .ok (.aload_n 0, 1) := by decide +kernel
theorem dL_act_33 : decode cL_act 33 = .ok (.iload_n 2, 1) := by decide +kernel
theorem dL_act_34 : decode cL_act 34 = .ok (.aload_n 3, 1) := by decide +kernel
theorem dL_act_35 : decode cL_act 35 = .ok (.aload 5, 2) := by decide +kernel
theorem dL_act_37 : decode cL_act 37 = .ok (.aload 6, 2) := by decide +kernel
theorem dL_act_39 : decode cL_act 39 = .ok (.invokestatic 100, 3) := by decide +kernel
theorem dL_act_42 : decode cL_act 42 = .ok (.ireturn, 1) := by decide +kernel
theorem dL_act_43 : decode cL_act 43 = .ok (.iload 7, 2) := by decide +kernel
theorem dL_act_45 : decode cL_act 45 = .ok (.iconst 3, 1) := by decide +kernel
theorem dL_act_46 : decode cL_act 46 = .ok (.if_icmp .ne 144, 3) := by decide +kernel
theorem dL_act_49 : decode cL_act 49 = .ok (.iload_n 2, 1) := by decide +kernel
theorem dL_act_50 : decode cL_act 50 = .ok (.iconst 3, 1) := by decide +kernel
theorem dL_act_51 : decode cL_act 51 = .ok (.invokestatic 72, 3) := by decide +kernel
theorem dL_act_54 : decode cL_act 54 = .ok (.istore 10, 2) := by decide +kernel
theorem dL_act_56 : decode cL_act 56 = .ok (.aload 6, 2) := by decide +kernel
theorem dL_act_58 : decode cL_act 58 = .ok (.iload 10, 2) := by decide +kernel
theorem dL_act_60 : decode cL_act 60 = .ok (.iaload, 1) := by decide +kernel
theorem dL_act_61 : decode cL_act 61 = .ok (.istore 11, 2) := by decide +kernel
theorem dL_act_63 : decode cL_act 63 = .ok (.aload 6, 2) := by decide +kernel
theorem dL_act_65 : decode cL_act 65 = .ok (.iload 10, 2) := by decide +kernel
theorem dL_act_67 : decode cL_act 67 = .ok (.iload 10, 2) := by decide +kernel
theorem dL_act_69 : decode cL_act 69 = .ok (.ifCond .ne 16, 3) := by decide +kernel
theorem dL_act_72 : decode cL_act 72 = .ok (.iconst 1, 1) := by decide +kernel
theorem dL_act_73 : decode cL_act 73 = .ok (.iload_n 2, 1) := by decide +kernel
theorem dL_act_74 : decode cL_act 74 = .ok (.iconst 2, 1) := by decide +kernel
theorem dL_act_75 : decode cL_act 75 = .ok (.ishr, 1) := by decide +kernel
theorem dL_act_76 : decode cL_act 76 = .ok (.bipush 6, 2) := by decide +kernel
theorem dL_act_78 : decode cL_act 78 = .ok (.invokestatic 72, 3) := by decide +kernel
theorem dL_act_81 : decode cL_act 81 = .ok (.iadd, 1) := by decide +kernel
theorem dL_act_82 : decode cL_act 82 = .ok (.goto 40, 3) := by decide +kernel
theorem dL_act_85 : decode cL_act 85 = .ok (.iload 10, 2) := by decide +kernel
theorem dL_act_87 : decode cL_act 87 = .ok (.iconst 1, 1) := by decide +kernel
theorem dL_act_88 : decode cL_act 88 = .ok (.if_icmp .ne 27, 3) := by decide +kernel
theorem dL_act_91 : decode cL_act 91 = .ok (.iload_n 2, 1) := by decide +kernel
theorem dL_act_92 : decode cL_act 92 = .ok (.iconst 2, 1) := by decide +kernel
theorem dL_act_93 : decode cL_act 93 = .ok (.ishr, 1) := by decide +kernel
theorem dL_act_94 : decode cL_act 94 = .ok (.iload_n 2, 1) := by decide +kernel
theorem dL_act_95 : decode cL_act 95 = .ok (.bipush 20, 2) := by decide +kernel
theorem dL_act_97 : decode cL_act 97 = .ok (.ishr, 1) := by decide +kernel
theorem dL_act_98 : decode cL_act 98 = .ok (.iconst 1, 1) := by decide +kernel
theorem dL_act_99 : decode cL_act 99 = .ok (.iand, 1) := by decide +kernel
theorem dL_act_100 : decode cL_act 100 = .ok (.ifCond .ne 7, 3) := by decide +kernel
theorem dL_act_103 : decode cL_act 103 = .ok (.iconst 4, 1) := by decide +kernel
theorem dL_act_104 : decode cL_act 104 = .ok (.goto 5, 3) := by decide +kernel
theorem dL_act_107 : decode cL_act 107 = .ok (.bipush 41, 2) := by decide +kernel
theorem dL_act_109 : decode cL_act 109 = .ok (.invokestatic 72, 3) := by decide +kernel
theorem dL_act_112 : decode cL_act 112 = .ok (.goto 10, 3) := by decide +kernel
theorem dL_act_115 : decode cL_act 115 = .ok (.iload_n 2, 1) := by decide +kernel
theorem dL_act_116 : decode cL_act 116 = .ok (.iconst 2, 1) := by decide +kernel
theorem dL_act_117 : decode cL_act 117 = .ok (.ishr, 1) := by decide +kernel
theorem dL_act_118 : decode cL_act 118 = .ok (.iconst 4, 1) := by decide +kernel
theorem dL_act_119 : decode cL_act 119 = .ok (.invokestatic 72, 3) := by decide +kernel
theorem dL_act_122 : decode cL_act 122 = .ok (.iastore, 1) := by decide +kernel
theorem dL_act_123 : decode cL_act 123 = .ok (.aload_n 0, 1) := by decide +kernel
theorem dL_act_124 : decode cL_act 124 = .ok (.iload 10, 2) := by decide +kernel
theorem dL_act_126 : decode cL_act 126 = .ok (.aload 6, 2) := by decide +kernel
theorem dL_act_128 : decode cL_act 128 = .ok (.iload 10, 2) := by decide +kernel
theorem dL_act_130 : decode cL_act 130 = .ok (.iaload, 1) := by decide +kernel
theorem dL_act_131 : decode cL_act 131 = .ok (.invokevirtual 104, 3) := by decide +kernel
theorem dL_act_134 : decode cL_act 134 = .ok (.iload 11, 2) := by decide +kernel
theorem dL_act_136 : decode cL_act 136 = .ok (.if_icmp .ne 52, 3) := by decide +kernel
theorem dL_act_139 : decode cL_act 139 = .ok (.aload_n 0, 1) := by decide +kernel
theorem dL_act_140 : decode cL_act 140 = .ok (.iconst 0, 1) := by decide +kernel
theorem dL_act_141 : decode cL_act 141 = .ok (.iconst 0, 1) := by decide +kernel
theorem dL_act_142 : decode cL_act 142 = .ok (.invokevirtual 104, 3) := by decide +kernel
theorem dL_act_145 : decode cL_act 145 = .ok (.bipush (-2), 2) := by decide +kernel
theorem dL_act_147 : decode cL_act 147 = .ok (.if_icmp .ne 41, 3) := by decide +kernel
theorem dL_act_150 : decode cL_act 150 = .ok (.aload_n 0, 1) := by decide +kernel
theorem dL_act_151 : decode cL_act 151 = .ok (.iconst 1, 1) := by decide +kernel
theorem dL_act_152 : decode cL_act 152 = .ok (.bipush 41, 2) := by decide +kernel
theorem dL_act_154 : decode cL_act 154 = .ok (.invokevirtual 104, 3) := by decide +kernel
theorem dL_act_157 : decode cL_act 157 = .ok (.bipush (-2), 2) := by decide +kernel
theorem dL_act_159 : decode cL_act 159 = .ok (.if_icmp .ne 29, 3) := by decide +kernel
theorem dL_act_162 : decode cL_act 162 = .ok (.aload_n 0, 1) := by decide +kernel
theorem dL_act_163 : decode cL_act 163 = .ok (.iconst 2, 1) := by decide +kernel
theorem dL_act_164 : decode cL_act 164 = .ok (.iconst 4, 1) := by decide +kernel
theorem dL_act_165 : decode cL_act 165 = .ok (.invokevirtual 104, 3) := by decide +kernel
theorem dL_act_168 : decode cL_act 168 = .ok (.bipush (-2), 2) := by decide +kernel
theorem dL_act_170 : decode cL_act 170 = .ok (.if_icmp .ne 18, 3) := by decide +kernel
theorem dL_act_173 : decode cL_act 173 = .ok (.aload_n 0, 1) := by decide +kernel
theorem dL_act_174 : decode cL_act 174 = .ok (.iconst 3, 1) := by decide +kernel
theorem dL_act_175 : decode cL_act 175 = .ok (.iconst 1, 1) := by decide +kernel
theorem dL_act_176 : decode cL_act 176 = .ok (.invokevirtual 104, 3) := by decide +kernel
theorem dL_act_179 : decode cL_act 179 = .ok (.bipush (-2), 2) := by decide +kernel
theorem dL_act_181 : decode cL_act 181 = .ok (.if_icmp .ne 7, 3) := by decide +kernel
theorem dL_act_184 : decode cL_act 184 = .ok (.iconst 1, 1) := by decide +kernel
theorem dL_act_185 : decode cL_act 185 = .ok (.goto 4, 3) := by decide +kernel
theorem dL_act_188 : decode cL_act 188 = .ok (.iconst 0, 1) := by decide +kernel
theorem dL_act_189 : decode cL_act 189 = .ok (.ireturn, 1) := by decide +kernel
theorem dL_act_190 : decode cL_act 190 = .ok (.iload 7, 2) := by decide +kernel
theorem dL_act_192 : decode cL_act 192 = .ok (.iconst 4, 1) := by decide +kernel
theorem dL_act_193 : decode cL_act 193 = .ok (.if_icmp .ne 46, 3) := by decide +kernel
theorem dL_act_196 : decode cL_act 196 = .ok (.aload 6, 2) := by decide +kernel
theorem dL_act_198 : decode cL_act 198 = .ok (.iconst 3, 1) := by decide +kernel
theorem dL_act_199 : decode cL_act 199 = .ok (.iaload, 1) := by decide +kernel
theorem dL_act_200 : decode cL_act 200 = .ok (.istore 10, 2) := by decide +kernel
theorem dL_act_202 : decode cL_act 202 = .ok (.aload 6, 2) := by decide +kernel
theorem dL_act_204 : decode cL_act 204 = .ok (.iconst 3, 1) := by decide +kernel
theorem dL_act_205 : decode cL_act 205 = .ok (.iload_n 2, 1) := by decide +kernel
theorem dL_act_206 : decode cL_act 206 = .ok (.ldc 8, 2) := by decide +kernel
theorem dL_act_208 : decode cL_act 208 = .ok (.iand, 1) := by decide +kernel
theorem dL_act_209 : decode cL_act 209 = .ok (.iastore, 1) := by decide +kernel
theorem dL_act_210 : decode cL_act 210 = .ok (.aload_n 0, 1) := by decide +kernel
theorem dL_act_211 : decode cL_act 211 = .ok (.aload 6, 2) := by decide +kernel
theorem dL_act_213 : decode cL_act 213 = .ok (.iconst 3, 1) := by decide +kernel
theorem dL_act_214 : decode cL_act 214 = .ok (.iaload, 1) := by decide +kernel
theorem dL_act_215 : decode cL_act 215 = .ok (.invokevirtual 107, 3) := by decide +kernel
theorem dL_act_218 : decode cL_act 218 = .ok (.iload 10, 2) := by decide +kernel
theorem dL_act_220 : decode cL_act 220 = .ok (.if_icmp .ne 17, 3) := by decide +kernel
theorem dL_act_223 : decode cL_act 223 = .ok (.aload_n 0, 1) := by decide +kernel
theorem dL_act_224 : decode cL_act 224 = .ok (.iconst (-1), 1) := by decide +kernel
theorem dL_act_225 : decode cL_act 225 = .ok (.invokevirtual 107, 3) := by decide +kernel
theorem dL_act_228 : decode cL_act 228 = .ok (.bipush (-2), 2) := by decide +kernel
theorem dL_act_230 : decode cL_act 230 = .ok (.if_icmp .ne 7, 3) := by decide +kernel
theorem dL_act_233 : decode cL_act 233 = .ok (.iconst 1, 1) := by decide +kernel
theorem dL_act_234 : decode cL_act 234 = .ok (.goto 4, 3) := by decide +kernel
theorem dL_act_237 : decode cL_act 237 = .ok (.iconst 0, 1) := by decide +kernel
theorem dL_act_238 : decode cL_act 238 = .ok (.ireturn, 1) := by decide +kernel
theorem dL_act_239 : decode cL_act 239 = .ok (.iload 7, 2) := by decide +kernel
theorem dL_act_241 : decode cL_act 241 = .ok (.bipush 7, 2) := by decide +kernel
theorem dL_act_243 : decode cL_act 243 = .ok (.if_icmp .ge 113, 3) := by decide +kernel
theorem dL_act_246 : decode cL_act 246 = .ok (.iconst 1, 1) := by decide +kernel
theorem dL_act_247 : decode cL_act 247 = .ok (.iload_n 2, 1) := by decide +kernel
theorem dL_act_248 : decode cL_act 248 = .ok (.bipush 12, 2) := by decide +kernel
theorem dL_act_250 : decode cL_act 250 = .ok (.invokestatic 72, 3) := by decide +kernel
theorem dL_act_253 : decode cL_act 253 = .ok (.iadd, 1) := by decide +kernel
theorem dL_act_254 : decode cL_act 254 = .ok (.istore 10, 2) := by decide +kernel
theorem dL_act_256 : decode cL_act 256 = .ok (.iload 9, 2) := by decide +kernel
theorem dL_act_258 : decode cL_act 258 = .ok (.ifCond .ne 10, 3) := by decide +kernel
theorem dL_act_261 : decode cL_act 261 = .ok (.aload 6, 2) := by decide +kernel
theorem dL_act_263 : decode cL_act 263 = .ok (.iconst 5, 1) := by decide +kernel
theorem dL_act_264 : decode cL_act 264 = .ok (.iaload, 1) := by decide +kernel
theorem dL_act_265 : decode cL_act 265 = .ok (.ifCond .lt 31, 3) := by decide +kernel
theorem dL_act_268 : decode cL_act 268 = .ok (.aload_n 0, 1) := by decide +kernel
theorem dL_act_269 : decode cL_act 269 = .ok (.iload 10, 2) := by decide +kernel
theorem dL_act_271 : decode cL_act 271 = .ok (.invokevirtual 110, 3) := by decide +kernel
theorem dL_act_274 : decode cL_act 274 = .ok (.iload 8, 2) := by decide +kernel
theorem dL_act_276 : decode cL_act 276 = .ok (.if_icmp .ne 18, 3) := by decide +kernel
theorem dL_act_279 : decode cL_act 279 = .ok (.aload_n 0, 1) := by decide +kernel
theorem dL_act_280 : decode cL_act 280 = .ok (.bipush 101, 2) := by decide +kernel
theorem dL_act_282 : decode cL_act 282 = .ok (.invokevirtual 110, 3) := by decide +kernel
theorem dL_act_285 : decode cL_act 285 = .ok (.bipush (-2), 2) := by decide +kernel
theorem dL_act_287 : decode cL_act 287 = .ok (.if_icmp .ne 7, 3) := by decide +kernel
theorem dL_act_290 : decode cL_act 290 = .ok (.iconst 1, 1) := by decide +kernel
theorem dL_act_291 : decode cL_act 291 = .ok (.goto 4, 3) := by decide +kernel
theorem dL_act_294 : decode cL_act 294 = .ok (.iconst 0, 1) := by decide +kernel
theorem dL_act_295 : decode cL_act 295 = .ok (.ireturn, 1) := by decide +kernel
theorem dL_act_296 : decode cL_act 296 = .ok (.iconst 0, 1) := by decide +kernel
theorem dL_act_297 : decode cL_act 297 = .ok (.istore 11, 2) := by decide +kernel
theorem dL_act_299 : decode cL_act 299 = .ok (.iload 11, 2) := by decide +kernel
theorem dL_act_301 : decode cL_act 301 = .ok (.iload 10, 2) := by decide +kernel
theorem dL_act_303 : decode cL_act 303 = .ok (.if_icmp .ge 26, 3) := by decide +kernel
theorem dL_act_306 : decode cL_act 306 = .ok (.aload_n 3, 1) := by decide +kernel
theorem dL_act_307 : decode cL_act 307 = .ok (.invokestatic 39, 3) := by decide +kernel
theorem dL_act_310 : decode cL_act 310 = .ok (.ifCond .ge 19, 3) := by decide +kernel
theorem dL_act_313 : decode cL_act 313 = .ok (.aload_n 3, 1) := by decide +kernel
theorem dL_act_314 : decode cL_act 314 = .ok (.aload 4, 2) := by decide +kernel
theorem dL_act_316 : decode cL_act 316 = .ok (.aload 5, 2) := by decide +kernel
theorem dL_act_318 : decode cL_act 318 = .ok (.aload 6, 2) := by decide +kernel
theorem dL_act_320 : decode cL_act 320 = .ok (.invokestatic 90, 3) := by decide +kernel
theorem dL_act_323 : decode cL_act 323 = .ok (.iinc 11 1, 3) := by decide +kernel
theorem dL_act_326 : decode cL_act 326 = .ok (.goto (-27), 3) := by decide +kernel
theorem dL_act_329 : decode cL_act 329 = .ok (.aload_n 0, 1) := by decide +kernel
theorem dL_act_330 : decode cL_act 330 = .ok (.iload 10, 2) := by decide +kernel
theorem dL_act_332 : decode cL_act 332 = .ok (.invokevirtual 110, 3) := by decide +kernel
theorem dL_act_335 : decode cL_act 335 = .ok (.iload 11, 2) := by decide +kernel
theorem dL_act_337 : decode cL_act 337 = .ok (.if_icmp .ne 17, 3) := by decide +kernel
theorem dL_act_340 : decode cL_act 340 = .ok (.aload_n 0, 1) := by decide +kernel
theorem dL_act_341 : decode cL_act 341 = .ok (.iconst 0, 1) := by decide +kernel
theorem dL_act_342 : decode cL_act 342 = .ok (.invokevirtual 110, 3) := by decide +kernel
theorem dL_act_345 : decode cL_act 345 = .ok (.bipush (-2), 2) := by decide +kernel
theorem dL_act_347 : decode cL_act 347 = .ok (.if_icmp .ne 7, 3) := by decide +kernel
theorem dL_act_350 : decode cL_act 350 = .ok (.iconst 1, 1) := by decide +kernel
theorem dL_act_351 : decode cL_act 351 = .ok (.goto 4, 3) := by decide +kernel
theorem dL_act_354 : decode cL_act 354 = .ok (.iconst 0, 1) := by decide +kernel
theorem dL_act_355 : decode cL_act 355 = .ok (.ireturn, 1) := by decide +kernel
theorem dL_act_356 : decode cL_act 356 = .ok (.aload 6, 2) := by decide +kernel
theorem dL_act_358 : decode cL_act 358 = .ok (.iconst 5, 1) := by decide +kernel
theorem dL_act_359 : decode cL_act 359 = .ok (.iaload, 1) := by decide +kernel
theorem dL_act_360 : decode cL_act 360 = .ok (.ifCond .ge 105, 3) := by decide +kernel
theorem dL_act_363 : decode cL_act 363 = .ok (.iload 9, 2) := by decide +kernel
theorem dL_act_365 : decode cL_act 365 = .ok (.ifCond .eq 37, 3) := by decide +kernel
theorem dL_act_368 : decode cL_act 368 = .ok (.aload_n 0, 1) := by decide +kernel
theorem dL_act_369 : decode cL_act 369 = .ok (.invokevirtual 113, 3) := by decide +kernel
theorem dL_act_372 : decode cL_act 372 = .ok (.iload 8, 2) := by decide +kernel
theorem dL_act_374 : decode cL_act 374 = .ok (.if_icmp .ne 26, 3) := by decide +kernel
theorem dL_act_377 : decode cL_act 377 = .ok (.aload_n 0, 1) := by decide +kernel
theorem dL_act_378 : decode cL_act 378 = .ok (.iconst 0, 1) := by decide +kernel
theorem dL_act_379 : decode cL_act 379 = .ok (.invokevirtual 116, 3) := by decide +kernel
theorem dL_act_382 : decode cL_act 382 = .ok (.iload 8, 2) := by decide +kernel
theorem dL_act_384 : decode cL_act 384 = .ok (.if_icmp .ne 16, 3) := by decide +kernel
theorem dL_act_387 : decode cL_act 387 = .ok (.aload_n 0, 1) := by decide +kernel
theorem dL_act_388 : decode cL_act 388 = .ok (.invokevirtual 119, 3) := by decide +kernel
theorem dL_act_391 : decode cL_act 391 = .ok (.iload 8, 2) := by decide +kernel
theorem dL_act_393 : decode cL_act 393 = .ok (.if_icmp .ne 7, 3) := by decide +kernel
theorem dL_act_396 : decode cL_act 396 = .ok (.iconst 1, 1) := by decide +kernel
theorem dL_act_397 : decode cL_act 397 = .ok (.goto 4, 3) := by decide +kernel
theorem dL_act_400 : decode cL_act 400 = .ok (.iconst 0, 1) := by decide +kernel
theorem dL_act_401 : decode cL_act 401 = .ok (.ireturn, 1) := by decide +kernel
theorem dL_act_402 : decode cL_act 402 = .ok (.aload 6, 2) := by decide +kernel
theorem dL_act_404 : decode cL_act 404 = .ok (.iconst 5, 1) := by decide +kernel
theorem dL_act_405 : decode cL_act 405 = .ok (.aload 6, 2) := by decide +kernel
theorem dL_act_407 : decode cL_act 407 = .ok (.invokestatic 47, 3) := by decide +kernel
theorem dL_act_410 : decode cL_act 410 = .ok (.iastore, 1) := by decide +kernel
theorem dL_act_411 : decode cL_act 411 = .ok (.aload 6, 2) := by decide +kernel
theorem dL_act_413 : decode cL_act 413 = .ok (.bipush 7, 2) := by decide +kernel
theorem dL_act_415 : decode cL_act 415 = .ok (.dup2, 1) := by decide +kernel
theorem dL_act_416 : decode cL_act 416 = .ok (.iaload, 1) := by decide +kernel
theorem dL_act_417 : decode cL_act 417 = .ok (.iconst 1, 1) := by decide +kernel
theorem dL_act_418 : decode cL_act 418 = .ok (.iadd, 1) := by decide +kernel
theorem dL_act_419 : decode cL_act 419 = .ok (.iastore, 1) := by decide +kernel
theorem dL_act_420 : decode cL_act 420 = .ok (.aload_n 0, 1) := by decide +kernel
theorem dL_act_421 : decode cL_act 421 = .ok (.iconst 0, 1) := by decide +kernel
theorem dL_act_422 : decode cL_act 422 = .ok (.invokevirtual 116, 3) := by decide +kernel
theorem dL_act_425 : decode cL_act 425 = .ok (.iload 8, 2) := by decide +kernel
theorem dL_act_427 : decode cL_act 427 = .ok (.if_icmp .ne 36, 3) := by decide +kernel
theorem dL_act_430 : decode cL_act 430 = .ok (.aload_n 0, 1) := by decide +kernel
theorem dL_act_431 : decode cL_act 431 = .ok (.invokevirtual 119, 3) := by decide +kernel
theorem dL_act_434 : decode cL_act 434 = .ok (.iload 8, 2) := by decide +kernel
theorem dL_act_436 : decode cL_act 436 = .ok (.if_icmp .ne 27, 3) := by decide +kernel
theorem dL_act_439 : decode cL_act 439 = .ok (.aload_n 0, 1) := by decide +kernel
theorem dL_act_440 : decode cL_act 440 = .ok (.invokevirtual 113, 3) := by decide +kernel
theorem dL_act_443 : decode cL_act 443 = .ok (.aload 6, 2) := by decide +kernel
theorem dL_act_445 : decode cL_act 445 = .ok (.iconst 5, 1) := by decide +kernel
theorem dL_act_446 : decode cL_act 446 = .ok (.iaload, 1) := by decide +kernel
theorem dL_act_447 : decode cL_act 447 = .ok (.if_icmp .ne 16, 3) := by decide +kernel
theorem dL_act_450 : decode cL_act 450 = .ok (.aload_n 0, 1) := by decide +kernel
theorem dL_act_451 : decode cL_act 451 = .ok (.invokevirtual 113, 3) := by decide +kernel
theorem dL_act_454 : decode cL_act 454 = .ok (.iload 8, 2) := by decide +kernel
theorem dL_act_456 : decode cL_act 456 = .ok (.if_icmp .ne 7, 3) := by decide +kernel
theorem dL_act_459 : decode cL_act 459 = .ok (.iconst 1, 1) := by decide +kernel
theorem dL_act_460 : decode cL_act 460 = .ok (.goto 4, 3) := by decide +kernel
theorem dL_act_463 : decode cL_act 463 = .ok (.iconst 0, 1) := by decide +kernel
theorem dL_act_464 : decode cL_act 464 = .ok (.ireturn, 1) := by decide +kernel
theorem dL_act_465 : decode cL_act 465 = .ok (.iload_n 2, 1) := by decide +kernel
theorem dL_act_466 : decode cL_act 466 = .ok (.iconst 3, 1) := by decide +kernel
theorem dL_act_467 : decode cL_act 467 = .ok (.invokestatic 72, 3) := by decide +kernel
theorem dL_act_470 : decode cL_act 470 = .ok (.istore 10, 2) := by decide +kernel
theorem dL_act_472 : decode cL_act 472 = .ok (.aload_n 3, 1) := by decide +kernel
theorem dL_act_473 : decode cL_act 473 = .ok (.aload 5, 2) := by decide +kernel
theorem dL_act_475 : decode cL_act 475 = .ok (.aload 6, 2) := by decide +kernel
theorem dL_act_477 : decode cL_act 477 = .ok (.iconst 3, 1) := by decide +kernel
theorem dL_act_478 : decode cL_act 478 = .ok (.aload 6, 2) := by decide +kernel
theorem dL_act_480 : decode cL_act 480 = .ok (.iconst 4, 1) := by decide +kernel
theorem dL_act_481 : decode cL_act 481 = .ok (.iaload, 1) := by decide +kernel
theorem dL_act_482 : decode cL_act 482 = .ok (.imul, 1) := by decide +kernel
theorem dL_act_483 : decode cL_act 483 = .ok (.iload 10, 2) := by decide +kernel
theorem dL_act_485 : decode cL_act 485 = .ok (.iadd, 1) := by decide +kernel
theorem dL_act_486 : decode cL_act 486 = .ok (.aload 6, 2) := by decide +kernel
theorem dL_act_488 : decode cL_act 488 = .ok (.iconst 5, 1) := by decide +kernel
theorem dL_act_489 : decode cL_act 489 = .ok (.iaload, 1) := by decide +kernel
theorem dL_act_490 : decode cL_act 490 = .ok (.invokestatic 43, 3) := by decide +kernel
theorem dL_act_493 : decode cL_act 493 = .ok (.bipush 10, 2) := by decide +kernel
theorem dL_act_495 : decode cL_act 495 = .ok (.isub, 1) := by decide +kernel
theorem dL_act_496 : decode cL_act 496 = .ok (.istore 11, 2) := by decide +kernel
theorem dL_act_498 : decode cL_act 498 = .ok (.iload 11, 2) := by decide +kernel
theorem dL_act_500 : decode cL_act 500 = .ok (.ifCond .ge 83, 3) := by decide +kernel
theorem dL_act_503 : decode cL_act 503 = .ok (.aload_n 3, 1) := by decide +kernel
theorem dL_act_504 : decode cL_act 504 = .ok (.aload 5, 2) := by decide +kernel
theorem dL_act_506 : decode cL_act 506 = .ok (.aload 6, 2) := by decide +kernel
theorem dL_act_508 : decode cL_act 508 = .ok (.invokestatic 50, 3) := by decide +kernel
theorem dL_act_511 : decode cL_act 511 = .ok (.ifCond .ge 7, 3) := by decide +kernel
theorem dL_act_514 : decode cL_act 514 = .ok (.iconst 1, 1) := by decide +kernel
theorem dL_act_515 : decode cL_act 515 = .ok (.goto 4, 3) := by decide +kernel
theorem dL_act_518 : decode cL_act 518 = .ok (.iconst 0, 1) := by decide +kernel
theorem dL_act_519 : decode cL_act 519 = .ok (.istore 12, 2) := by decide +kernel
theorem dL_act_521 : decode cL_act 521 = .ok (.aload_n 0, 1) := by decide +kernel
theorem dL_act_522 : decode cL_act 522 = .ok (.iload 10, 2) := by decide +kernel
theorem dL_act_524 : decode cL_act 524 = .ok (.invokevirtual 116, 3) := by decide +kernel
theorem dL_act_527 : decode cL_act 527 = .ok (.iload 8, 2) := by decide +kernel
theorem dL_act_529 : decode cL_act 529 = .ok (.if_icmp .ne 12, 3) := by decide +kernel
theorem dL_act_532 : decode cL_act 532 = .ok (.aload_n 0, 1) := by decide +kernel
theorem dL_act_533 : decode cL_act 533 = .ok (.iconst 3, 1) := by decide +kernel
theorem dL_act_534 : decode cL_act 534 = .ok (.invokevirtual 116, 3) := by decide +kernel
theorem dL_act_537 : decode cL_act 537 = .ok (.iconst (-1), 1) := by decide +kernel
theorem dL_act_538 : decode cL_act 538 = .ok (.if_icmp .eq 5, 3) := by decide +kernel
