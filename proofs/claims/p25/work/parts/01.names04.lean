theorem dL_act_541 : decode cL_act 541 = .ok (.iconst 0, 1) := by decide +kernel
theorem dL_act_542 : decode cL_act 542 = .ok (.ireturn, 1) := by decide +kernel
theorem dL_act_543 : decode cL_act 543 = .ok (.iload 12, 2) := by decide +kernel
theorem dL_act_545 : decode cL_act 545 = .ok (.ifCond .eq 11, 3) := by decide +kernel
theorem dL_act_548 : decode cL_act 548 = .ok (.aload_n 3, 1) := by decide +kernel
theorem dL_act_549 : decode cL_act 549 = .ok (.aload 5, 2) := by decide +kernel
theorem dL_act_551 : decode cL_act 551 = .ok (.aload 6, 2) := by decide +kernel
theorem dL_act_553 : decode cL_act 553 = .ok (.invokestatic 58, 3) := by decide +kernel
theorem dL_act_556 : decode cL_act 556 = .ok (.aload_n 0, 1) := by decide +kernel
theorem dL_act_557 : decode cL_act 557 = .ok (.invokevirtual 119, 3) := by decide +kernel
theorem dL_act_560 : decode cL_act 560 = .ok (.iload 12, 2) := by decide +kernel
theorem dL_act_562 : decode cL_act 562 = .ok (.ifCond .eq 10, 3) := by decide +kernel
theorem dL_act_565 : decode cL_act 565 = .ok (.aload 6, 2) := by decide +kernel
theorem dL_act_567 : decode cL_act 567 = .ok (.iconst 4, 1) := by decide +kernel
theorem dL_act_568 : decode cL_act 568 = .ok (.iaload, 1) := by decide +kernel
theorem dL_act_569 : decode cL_act 569 = .ok (.goto 5, 3) := by decide +kernel
theorem dL_act_572 : decode cL_act 572 = .ok (.iload 8, 2) := by decide +kernel
theorem dL_act_574 : decode cL_act 574 = .ok (.if_icmp .ne 7, 3) := by decide +kernel
theorem dL_act_577 : decode cL_act 577 = .ok (.iconst 1, 1) := by decide +kernel
theorem dL_act_578 : decode cL_act 578 = .ok (.goto 4, 3) := by decide +kernel
theorem dL_act_581 : decode cL_act 581 = .ok (.iconst 0, 1) := by decide +kernel
theorem dL_act_582 : decode cL_act 582 = .ok (.ireturn, 1) := by decide +kernel
theorem dL_act_583 : decode cL_act 583 = .ok (.aload_n 3, 1) := by decide +kernel
theorem dL_act_584 : decode cL_act 584 = .ok (.aload 4, 2) := by decide +kernel
theorem dL_act_586 : decode cL_act 586 = .ok (.aload 5, 2) := by decide +kernel
theorem dL_act_588 : decode cL_act 588 = .ok (.aload 6, 2) := by decide +kernel
theorem dL_act_590 : decode cL_act 590 = .ok (.iconst 3, 1) := by decide +kernel
theorem dL_act_591 : decode cL_act 591 = .ok (.aload 6, 2) := by decide +kernel
theorem dL_act_593 : decode cL_act 593 = .ok (.iconst 4, 1) := by decide +kernel
theorem dL_act_594 : decode cL_act 594 = .ok (.iaload, 1) := by decide +kernel
theorem dL_act_595 : decode cL_act 595 = .ok (.imul, 1) := by decide +kernel
theorem dL_act_596 : decode cL_act 596 = .ok (.iload 10, 2) := by decide +kernel
theorem dL_act_598 : decode cL_act 598 = .ok (.iadd, 1) := by decide +kernel
theorem dL_act_599 : decode cL_act 599 = .ok (.iload 11, 2) := by decide +kernel
theorem dL_act_601 : decode cL_act 601 = .ok (.invokestatic 54, 3) := by decide +kernel
theorem dL_act_604 : decode cL_act 604 = .ok (.aload_n 3, 1) := by decide +kernel
theorem dL_act_605 : decode cL_act 605 = .ok (.iconst 3, 1) := by decide +kernel
theorem dL_act_606 : decode cL_act 606 = .ok (.aload 6, 2) := by decide +kernel
theorem dL_act_608 : decode cL_act 608 = .ok (.iconst 4, 1) := by decide +kernel
theorem dL_act_609 : decode cL_act 609 = .ok (.iaload, 1) := by decide +kernel
theorem dL_act_610 : decode cL_act 610 = .ok (.imul, 1) := by decide +kernel
theorem dL_act_611 : decode cL_act 611 = .ok (.iload 10, 2) := by decide +kernel
theorem dL_act_613 : decode cL_act 613 = .ok (.iadd, 1) := by decide +kernel
theorem dL_act_614 : decode cL_act 614 = .ok (.iaload, 1) := by decide +kernel
theorem dL_act_615 : decode cL_act 615 = .ok (.istore 12, 2) := by decide +kernel
theorem dL_act_617 : decode cL_act 617 = .ok (.aload_n 3, 1) := by decide +kernel
theorem dL_act_618 : decode cL_act 618 = .ok (.aload 5, 2) := by decide +kernel
theorem dL_act_620 : decode cL_act 620 = .ok (.aload 6, 2) := by decide +kernel
theorem dL_act_622 : decode cL_act 622 = .ok (.invokestatic 58, 3) := by decide +kernel
theorem dL_act_625 : decode cL_act 625 = .ok (.aload_n 0, 1) := by decide +kernel
theorem dL_act_626 : decode cL_act 626 = .ok (.invokevirtual 119, 3) := by decide +kernel
theorem dL_act_629 : decode cL_act 629 = .ok (.iload 8, 2) := by decide +kernel
theorem dL_act_631 : decode cL_act 631 = .ok (.if_icmp .ne 18, 3) := by decide +kernel
theorem dL_act_634 : decode cL_act 634 = .ok (.aload_n 0, 1) := by decide +kernel
theorem dL_act_635 : decode cL_act 635 = .ok (.iload 10, 2) := by decide +kernel
theorem dL_act_637 : decode cL_act 637 = .ok (.invokevirtual 116, 3) := by decide +kernel
theorem dL_act_640 : decode cL_act 640 = .ok (.iload 12, 2) := by decide +kernel
theorem dL_act_642 : decode cL_act 642 = .ok (.if_icmp .ne 7, 3) := by decide +kernel
theorem dL_act_645 : decode cL_act 645 = .ok (.iconst 1, 1) := by decide +kernel
theorem dL_act_646 : decode cL_act 646 = .ok (.goto 4, 3) := by decide +kernel
theorem dL_act_649 : decode cL_act 649 = .ok (.iconst 0, 1) := by decide +kernel
theorem dL_act_650 : decode cL_act 650 = .ok (.ireturn, 1) := by decide +kernel
theorem dL_law_0 : decode cL_law 0 = .ok (.new 33, 3) := by decide +kernel
theorem dL_law_3 : decode cL_law 3 = .ok (.dup, 1) := by decide +kernel
theorem dL_law_4 : decode cL_law 4 = .ok (.invokespecial 122, 3) := by decide +kernel
theorem dL_law_7 : decode cL_law 7 = .ok (.astore_n 1, 1) := by decide +kernel
theorem dL_law_8 : decode cL_law 8 = .ok (.bipush 12, 2) := by decide +kernel
theorem dL_law_10 : decode cL_law 10 = .ok (.newarray .int, 2) := by decide +kernel
theorem dL_law_12 : decode cL_law 12 = .ok (.astore_n 2, 1) := by decide +kernel
theorem dL_law_13 : decode cL_law 13 = .ok (.bipush 12, 2) := by decide +kernel
theorem dL_law_15 : decode cL_law 15 = .ok (.newarray .int, 2) := by decide +kernel
theorem dL_law_17 : decode cL_law 17 = .ok (.astore_n 3, 1) := by decide +kernel
theorem dL_law_18 : decode cL_law 18 = .ok (.bipush 12, 2) := by decide +kernel
theorem dL_law_20 : decode cL_law 20 = .ok (.newarray .int, 2) := by decide +kernel
theorem dL_law_22 : decode cL_law 22 = .ok (.astore 4, 2) := by decide +kernel
theorem dL_law_24 : decode cL_law 24 = .ok (.bipush 10, 2) := by decide +kernel
theorem dL_law_26 : decode cL_law 26 = .ok (.newarray .int, 2) := by decide +kernel
theorem dL_law_28 : decode cL_law 28 = .ok (.astore 5, 2) := by decide +kernel
theorem dL_law_30 : decode cL_law 30 = .ok (.iconst 0, 1) := by decide +kernel
theorem dL_law_31 : decode cL_law 31 = .ok (.istore 6, 2) := by decide +kernel
theorem dL_law_33 : decode cL_law 33 = .ok (.iload 6, 2) := by decide +kernel
theorem dL_law_35 : decode cL_law 35 = .ok (.bipush 12, 2) := by decide +kernel
theorem dL_law_37 : decode cL_law 37 = .ok (.if_icmp .ge 15, 3) := by decide +kernel
theorem dL_law_40 : decode cL_law 40 = .ok (.aload_n 2, 1) := by decide +kernel
theorem dL_law_41 : decode cL_law 41 = .ok (.iload 6, 2) := by decide +kernel
theorem dL_law_43 : decode cL_law 43 = .ok (.bipush (-6), 2) := by decide +kernel
theorem dL_law_45 : decode cL_law 45 = .ok (.iastore, 1) := by decide +kernel
theorem dL_law_46 : decode cL_law 46 = .ok (.iinc 6 1, 3) := by decide +kernel
theorem dL_law_49 : decode cL_law 49 = .ok (.goto (-16), 3) := by decide +kernel
theorem dL_law_52 : decode cL_law 52 = .ok (.aload 5, 2) := by decide +kernel
theorem dL_law_54 : decode cL_law 54 = .ok (.iconst 0, 1) := by decide +kernel
theorem dL_law_55 : decode cL_law 55 = .ok (.iconst 5, 1) := by decide +kernel
theorem dL_law_56 : decode cL_law 56 = .ok (.iastore, 1) := by decide +kernel
theorem dL_law_57 : decode cL_law 57 = .ok (.aload 5, 2) := by decide +kernel
theorem dL_law_59 : decode cL_law 59 = .ok (.iconst 2, 1) := by decide +kernel
theorem dL_law_60 : decode cL_law 60 = .ok (.iconst 1, 1) := by decide +kernel
theorem dL_law_61 : decode cL_law 61 = .ok (.iastore, 1) := by decide +kernel
theorem dL_law_62 : decode cL_law 62 = .ok (.aload 5, 2) := by decide +kernel
theorem dL_law_64 : decode cL_law 64 = .ok (.iconst 3, 1) := by decide +kernel
theorem dL_law_65 : decode cL_law 65 = .ok (.iconst 1, 1) := by decide +kernel
theorem dL_law_66 : decode cL_law 66 = .ok (.iastore, 1) := by decide +kernel
theorem dL_law_67 : decode cL_law 67 = .ok (.aload 5, 2) := by decide +kernel
theorem dL_law_69 : decode cL_law 69 = .ok (.iconst 5, 1) := by decide +kernel
theorem dL_law_70 : decode cL_law 70 = .ok (.bipush (-6), 2) := by decide +kernel
theorem dL_law_72 : decode cL_law 72 = .ok (.iastore, 1) := by decide +kernel
theorem dL_law_73 : decode cL_law 73 = .ok (.aload 5, 2) := by decide +kernel
theorem dL_law_75 : decode cL_law 75 = .ok (.bipush 6, 2) := by decide +kernel
theorem dL_law_77 : decode cL_law 77 = .ok (.iconst 1, 1) := by decide +kernel
theorem dL_law_78 : decode cL_law 78 = .ok (.iastore, 1) := by decide +kernel
theorem dL_law_79 : decode cL_law 79 = .ok (.aload_n 1, 1) := by decide +kernel
theorem dL_law_80 : decode cL_law 80 = .ok (.aload_n 2, 1) := by decide +kernel
theorem dL_law_81 : decode cL_law 81 = .ok (.aload_n 3, 1) := by decide +kernel
theorem dL_law_82 : decode cL_law 82 = .ok (.aload 4, 2) := by decide +kernel
theorem dL_law_84 : decode cL_law 84 = .ok (.aload 5, 2) := by decide +kernel
theorem dL_law_86 : decode cL_law 86 = .ok (.invokestatic 123, 3) := by decide +kernel
theorem dL_law_89 : decode cL_law 89 = .ok (.ifCond .eq 36, 3) := by decide +kernel
theorem dL_law_92 : decode cL_law 92 = .ok (.aload_n 1, 1) := by decide +kernel
theorem dL_law_93 : decode cL_law 93 = .ok (.iconst 0, 1) := by decide +kernel
theorem dL_law_94 : decode cL_law 94 = .ok (.aload_n 2, 1) := by decide +kernel
theorem dL_law_95 : decode cL_law 95 = .ok (.aload_n 3, 1) := by decide +kernel
theorem dL_law_96 : decode cL_law 96 = .ok (.aload 4, 2) := by decide +kernel
theorem dL_law_98 : decode cL_law 98 = .ok (.aload 5, 2) := by decide +kernel
theorem dL_law_100 : decode cL_law 100 = .ok (.invokestatic 127, 3) := by decide +kernel
theorem dL_law_103 : decode cL_law 103 = .ok (.ifCond .eq 22, 3) := by decide +kernel
theorem dL_law_106 : decode cL_law 106 = .ok (.aload_n 1, 1) := by decide +kernel
theorem dL_law_107 : decode cL_law 107 = .ok (.invokevirtual 131, 3) := by decide +kernel
theorem dL_law_110 : decode cL_law 110 = .ok (.bipush (-5), 2) := by decide +kernel
theorem dL_law_112 : decode cL_law 112 = .ok (.if_icmp .ne 13, 3) := by decide +kernel
theorem dL_law_115 : decode cL_law 115 = .ok (.aload_n 1, 1) := by decide +kernel
theorem dL_law_116 : decode cL_law 116 = .ok (.iconst 0, 1) := by decide +kernel
theorem dL_law_117 : decode cL_law 117 = .ok (.invokevirtual 134, 3) := by decide +kernel
theorem dL_law_120 : decode cL_law 120 = .ok (.bipush (-5), 2) := by decide +kernel
theorem dL_law_122 : decode cL_law 122 = .ok (.if_icmp .eq 5, 3) := by decide +kernel
theorem dL_law_125 : decode cL_law 125 = .ok (.iconst 0, 1) := by decide +kernel
theorem dL_law_126 : decode cL_law 126 = .ok (.ireturn, 1) := by decide +kernel
theorem dL_law_127 : decode cL_law 127 = .ok (.iconst 0, 1) := by decide +kernel
theorem dL_law_128 : decode cL_law 128 = .ok (.istore 6, 2) := by decide +kernel
theorem dL_law_130 : decode cL_law 130 = .ok (.iload 6, 2) := by decide +kernel
theorem dL_law_132 : decode cL_law 132 = .ok (.bipush 60, 2) := by decide +kernel
theorem dL_law_134 : decode cL_law 134 = .ok (.if_icmp .ge 100, 3) := by decide +kernel
theorem dL_law_137 : decode cL_law 137 = .ok (.aload_n 0, 1) := by decide +kernel
theorem dL_law_138 : decode cL_law 138 = .ok (.iconst 2, 1) := by decide +kernel
theorem dL_law_139 : decode cL_law 139 = .ok (.iload 6, 2) := by decide +kernel
theorem dL_law_141 : decode cL_law 141 = .ok (.imul, 1) := by decide +kernel
theorem dL_law_142 : decode cL_law 142 = .ok (.invokestatic 137, 3) := by decide +kernel
theorem dL_law_145 : decode cL_law 145 = .ok (.istore 7, 2) := by decide +kernel
theorem dL_law_147 : decode cL_law 147 = .ok (.aload_n 0, 1) := by decide +kernel
theorem dL_law_148 : decode cL_law 148 = .ok (.iconst 2, 1) := by decide +kernel
theorem dL_law_149 : decode cL_law 149 = .ok (.iload 6, 2) := by decide +kernel
theorem dL_law_151 : decode cL_law 151 = .ok (.imul, 1) := by decide +kernel
theorem dL_law_152 : decode cL_law 152 = .ok (.iconst 1, 1) := by decide +kernel
theorem dL_law_153 : decode cL_law 153 = .ok (.iadd, 1) := by decide +kernel
theorem dL_law_154 : decode cL_law 154 = .ok (.invokestatic 137, 3) := by decide +kernel
theorem dL_law_157 : decode cL_law 157 = .ok (.istore 8, 2) := by decide +kernel
theorem dL_law_159 : decode cL_law 159 = .ok (.aload_n 1, 1) := by decide +kernel
theorem dL_law_160 : decode cL_law 160 = .ok (.iload 6, 2) := by decide +kernel
theorem dL_law_162 : decode cL_law 162 = .ok (.bipush 8, 2) := by decide +kernel
theorem dL_law_164 : decode cL_law 164 = .ok (.if_icmp .ge 7, 3) := by decide +kernel
theorem dL_law_167 : decode cL_law 167 = .ok (.iconst 0, 1) := by decide +kernel
theorem dL_law_168 : decode cL_law 168 = .ok (.goto 5, 3) := by decide +kernel
theorem dL_law_171 : decode cL_law 171 = .ok (.iload 7, 2) := by decide +kernel
theorem dL_law_173 : decode cL_law 173 = .ok (.iload 8, 2) := by decide +kernel
theorem dL_law_175 : decode cL_law 175 = .ok (.aload_n 2, 1) := by decide +kernel
theorem dL_law_176 : decode cL_law 176 = .ok (.aload_n 3, 1) := by decide +kernel
theorem dL_law_177 : decode cL_law 177 = .ok (.aload 4, 2) := by decide +kernel
theorem dL_law_179 : decode cL_law 179 = .ok (.aload 5, 2) := by decide +kernel
theorem dL_law_181 : decode cL_law 181 = .ok (.invokestatic 140, 3) := by decide +kernel
theorem dL_law_184 : decode cL_law 184 = .ok (.ifCond .eq 42, 3) := by decide +kernel
theorem dL_law_187 : decode cL_law 187 = .ok (.aload_n 1, 1) := by decide +kernel
theorem dL_law_188 : decode cL_law 188 = .ok (.aload_n 2, 1) := by decide +kernel
theorem dL_law_189 : decode cL_law 189 = .ok (.aload_n 3, 1) := by decide +kernel
theorem dL_law_190 : decode cL_law 190 = .ok (.aload 4, 2) := by decide +kernel
theorem dL_law_192 : decode cL_law 192 = .ok (.aload 5, 2) := by decide +kernel
theorem dL_law_194 : decode cL_law 194 = .ok (.invokestatic 123, 3) := by decide +kernel
theorem dL_law_197 : decode cL_law 197 = .ok (.ifCond .eq 29, 3) := by decide +kernel
theorem dL_law_200 : decode cL_law 200 = .ok (.iload 6, 2) := by decide +kernel
theorem dL_law_202 : decode cL_law 202 = .ok (.bipush 6, 2) := by decide +kernel
theorem dL_law_204 : decode cL_law 204 = .ok (.irem, 1) := by decide +kernel
theorem dL_law_205 : decode cL_law 205 = .ok (.iconst 5, 1) := by decide +kernel
theorem dL_law_206 : decode cL_law 206 = .ok (.if_icmp .ne 22, 3) := by decide +kernel
theorem dL_law_209 : decode cL_law 209 = .ok (.aload_n 1, 1) := by decide +kernel
theorem dL_law_210 : decode cL_law 210 = .ok (.iload 7, 2) := by decide +kernel
theorem dL_law_212 : decode cL_law 212 = .ok (.iconst 4, 1) := by decide +kernel
theorem dL_law_213 : decode cL_law 213 = .ok (.ishr, 1) := by decide +kernel
theorem dL_law_214 : decode cL_law 214 = .ok (.aload_n 2, 1) := by decide +kernel
theorem dL_law_215 : decode cL_law 215 = .ok (.aload_n 3, 1) := by decide +kernel
theorem dL_law_216 : decode cL_law 216 = .ok (.aload 4, 2) := by decide +kernel
theorem dL_law_218 : decode cL_law 218 = .ok (.aload 5, 2) := by decide +kernel
theorem dL_law_220 : decode cL_law 220 = .ok (.invokestatic 127, 3) := by decide +kernel
theorem dL_law_223 : decode cL_law 223 = .ok (.ifCond .ne 5, 3) := by decide +kernel
theorem dL_law_226 : decode cL_law 226 = .ok (.iconst 0, 1) := by decide +kernel
theorem dL_law_227 : decode cL_law 227 = .ok (.ireturn, 1) := by decide +kernel
theorem dL_law_228 : decode cL_law 228 = .ok (.iinc 6 1, 3) := by decide +kernel
theorem dL_law_231 : decode cL_law 231 = .ok (.goto (-101), 3) := by decide +kernel
theorem dL_law_234 : decode cL_law 234 = .ok (.aload_n 1, 1) := by decide +kernel
theorem dL_law_235 : decode cL_law 235 = .ok (.bipush 12, 2) := by decide +kernel
theorem dL_law_237 : decode cL_law 237 = .ok (.bipush 9, 2) := by decide +kernel
theorem dL_law_239 : decode cL_law 239 = .ok (.invokevirtual 61, 3) := by decide +kernel
theorem dL_law_242 : decode cL_law 242 = .ok (.iconst (-1), 1) := by decide +kernel
theorem dL_law_243 : decode cL_law 243 = .ok (.if_icmp .ne 98, 3) := by decide +kernel
theorem dL_law_246 : decode cL_law 246 = .ok (.aload_n 1, 1) := by decide +kernel
theorem dL_law_247 : decode cL_law 247 = .ok (.iconst 0, 1) := by decide +kernel
theorem dL_law_248 : decode cL_law 248 = .ok (.iconst 4, 1) := by decide +kernel
theorem dL_law_249 : decode cL_law 249 = .ok (.invokevirtual 61, 3) := by decide +kernel
theorem dL_law_252 : decode cL_law 252 = .ok (.bipush (-2), 2) := by decide +kernel
theorem dL_law_254 : decode cL_law 254 = .ok (.if_icmp .ne 87, 3) := by decide +kernel
theorem dL_law_257 : decode cL_law 257 = .ok (.aload_n 1, 1) := by decide +kernel
theorem dL_law_258 : decode cL_law 258 = .ok (.bipush 32, 2) := by decide +kernel
theorem dL_law_260 : decode cL_law 260 = .ok (.bipush 9, 2) := by decide +kernel
theorem dL_law_262 : decode cL_law 262 = .ok (.invokevirtual 64, 3) := by decide +kernel
theorem dL_law_265 : decode cL_law 265 = .ok (.iconst (-1), 1) := by decide +kernel
theorem dL_law_266 : decode cL_law 266 = .ok (.if_icmp .ne 75, 3) := by decide +kernel
theorem dL_law_269 : decode cL_law 269 = .ok (.aload_n 1, 1) := by decide +kernel
theorem dL_law_270 : decode cL_law 270 = .ok (.iconst 0, 1) := by decide +kernel
theorem dL_law_271 : decode cL_law 271 = .ok (.iconst 5, 1) := by decide +kernel
theorem dL_law_272 : decode cL_law 272 = .ok (.invokevirtual 64, 3) := by decide +kernel
theorem dL_law_275 : decode cL_law 275 = .ok (.bipush (-2), 2) := by decide +kernel
theorem dL_law_277 : decode cL_law 277 = .ok (.if_icmp .ne 64, 3) := by decide +kernel
theorem dL_law_280 : decode cL_law 280 = .ok (.aload_n 1, 1) := by decide +kernel
theorem dL_law_281 : decode cL_law 281 = .ok (.bipush 12, 2) := by decide +kernel
theorem dL_law_283 : decode cL_law 283 = .ok (.bipush 9, 2) := by decide +kernel
theorem dL_law_285 : decode cL_law 285 = .ok (.invokevirtual 79, 3) := by decide +kernel
theorem dL_law_288 : decode cL_law 288 = .ok (.iconst (-1), 1) := by decide +kernel
theorem dL_law_289 : decode cL_law 289 = .ok (.if_icmp .ne 52, 3) := by decide +kernel
theorem dL_law_292 : decode cL_law 292 = .ok (.aload_n 1, 1) := by decide +kernel
theorem dL_law_293 : decode cL_law 293 = .ok (.iconst 0, 1) := by decide +kernel
theorem dL_law_294 : decode cL_law 294 = .ok (.bipush 7, 2) := by decide +kernel
theorem dL_law_296 : decode cL_law 296 = .ok (.invokevirtual 79, 3) := by decide +kernel
theorem dL_law_299 : decode cL_law 299 = .ok (.bipush (-2), 2) := by decide +kernel
theorem dL_law_301 : decode cL_law 301 = .ok (.if_icmp .ne 40, 3) := by decide +kernel
theorem dL_law_304 : decode cL_law 304 = .ok (.aload_n 1, 1) := by decide +kernel
theorem dL_law_305 : decode cL_law 305 = .ok (.iconst (-1), 1) := by decide +kernel
theorem dL_law_306 : decode cL_law 306 = .ok (.bipush 9, 2) := by decide +kernel
theorem dL_law_308 : decode cL_law 308 = .ok (.invokevirtual 81, 3) := by decide +kernel
theorem dL_law_311 : decode cL_law 311 = .ok (.iconst (-1), 1) := by decide +kernel
theorem dL_law_312 : decode cL_law 312 = .ok (.if_icmp .ne 29, 3) := by decide +kernel
theorem dL_law_315 : decode cL_law 315 = .ok (.aload_n 1, 1) := by decide +kernel
theorem dL_law_316 : decode cL_law 316 = .ok (.iconst 0, 1) := by decide +kernel
theorem dL_law_317 : decode cL_law 317 = .ok (.iconst 2, 1) := by decide +kernel
theorem dL_law_318 : decode cL_law 318 = .ok (.invokevirtual 81, 3) := by decide +kernel
theorem dL_law_321 : decode cL_law 321 = .ok (.bipush (-2), 2) := by decide +kernel
theorem dL_law_323 : decode cL_law 323 = .ok (.if_icmp .ne 18, 3) := by decide +kernel
theorem dL_law_326 : decode cL_law 326 = .ok (.aload_n 1, 1) := by decide +kernel
theorem dL_law_327 : decode cL_law 327 = .ok (.bipush 18, 2) := by decide +kernel
theorem dL_law_329 : decode cL_law 329 = .ok (.invokevirtual 65, 3) := by decide +kernel
theorem dL_law_332 : decode cL_law 332 = .ok (.bipush (-2), 2) := by decide +kernel
theorem dL_law_334 : decode cL_law 334 = .ok (.if_icmp .ne 7, 3) := by decide +kernel
theorem dL_law_337 : decode cL_law 337 = .ok (.iconst 1, 1) := by decide +kernel
theorem dL_law_338 : decode cL_law 338 = .ok (.goto 4, 3) := by decide +kernel
theorem dL_law_341 : decode cL_law 341 = .ok (.iconst 0, 1) := by decide +kernel
theorem dL_law_342 : decode cL_law 342 = .ok (.ireturn, 1) := by decide +kernel
