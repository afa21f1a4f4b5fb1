theorem dX7_feed_12 : decode cX7_feed 12 = .ok (.sipush 740, 3) := by decide +kernel
theorem dX7_feed_15 : decode cX7_feed 15 = .ok (.if_icmp .le 5, 3) := by decide +kernel
theorem dX7_feed_18 : decode cX7_feed 18 = .ok (.iconst (-1), 1) := by decide +kernel
theorem dX7_feed_19 : decode cX7_feed 19 = .ok (.ireturn, 1) := by decide +kernel
theorem dX7_feed_20 : decode cX7_feed 20 = .ok (.aload_n 0, 1) := by decide +kernel
theorem dX7_feed_21 : decode cX7_feed 21 = .ok (.iload_n 1, 1) := by decide +kernel
theorem dX7_feed_22 : decode cX7_feed 22 = .ok (.invokevirtual 14, 3) := by decide +kernel
theorem dX7_feed_25 : decode cX7_feed 25 = .ok (.aload_n 0, 1) := by decide +kernel
theorem dX7_feed_26 : decode cX7_feed 26 = .ok (.iload_n 2, 1) := by decide +kernel
theorem dX7_feed_27 : decode cX7_feed 27 = .ok (.invokevirtual 14, 3) := by decide +kernel
theorem dX7_feed_30 : decode cX7_feed 30 = .ok (.aload_n 0, 1) := by decide +kernel
theorem dX7_feed_31 : decode cX7_feed 31 = .ok (.iload_n 3, 1) := by decide +kernel
theorem dX7_feed_32 : decode cX7_feed 32 = .ok (.invokevirtual 14, 3) := by decide +kernel
theorem dX7_feed_35 : decode cX7_feed 35 = .ok (.aload_n 0, 1) := by decide +kernel
theorem dX7_feed_36 : decode cX7_feed 36 = .ok (.iload 4, 2) := by decide +kernel
theorem dX7_feed_38 : decode cX7_feed 38 = .ok (.invokevirtual 14, 3) := by decide +kernel
theorem dX7_feed_41 : decode cX7_feed 41 = .ok (.aload_n 0, 1) := by decide +kernel
theorem dX7_feed_42 : decode cX7_feed 42 = .ok (.iload 5, 2) := by decide +kernel
theorem dX7_feed_44 : decode cX7_feed 44 = .ok (.invokevirtual 14, 3) := by decide +kernel
theorem dX7_feed_47 : decode cX7_feed 47 = .ok (.aload_n 0, 1) := by decide +kernel
theorem dX7_feed_48 : decode cX7_feed 48 = .ok (.getfield 11, 3) := by decide +kernel
theorem dX7_feed_51 : decode cX7_feed 51 = .ok (.ireturn, 1) := by decide +kernel
theorem dX7_end_0 : decode cX7_end 0 = .ok (.aload_n 0, 1) := by decide +kernel
theorem dX7_end_1 : decode cX7_end 1 = .ok (.iconst 0, 1) := by decide +kernel
theorem dX7_end_2 : decode cX7_end 2 = .ok (.putfield 1, 3) := by decide +kernel
theorem dX7_end_5 : decode cX7_end 5 = .ok (.iload_n 1, 1) := by decide +kernel
theorem dX7_end_6 : decode cX7_end 6 = .ok (.ifCond .lt 11, 3) := by decide +kernel
theorem dX7_end_9 : decode cX7_end 9 = .ok (.iload_n 1, 1) := by decide +kernel
theorem dX7_end_10 : decode cX7_end 10 = .ok (.aload_n 0, 1) := by decide +kernel
theorem dX7_end_11 : decode cX7_end 11 = .ok (.getfield 11, 3) := by decide +kernel
theorem dX7_end_14 : decode cX7_end 14 = .ok (.if_icmp .le 5, 3) := by decide +kernel
theorem dX7_end_17 : decode cX7_end 17 = .ok (.iconst 0, 1) := by decide +kernel
theorem dX7_end_18 : decode cX7_end 18 = .ok (.ireturn, 1) := by decide +kernel
theorem dX7_end_19 : decode cX7_end 19 = .ok (.aload_n 0, 1) := by decide +kernel
theorem dX7_end_20 : decode cX7_end 20 = .ok (.iload_n 1, 1) := by decide +kernel
theorem dX7_end_21 : decode cX7_end 21 = .ok (.putfield 11, 3) := by decide +kernel
theorem dX7_end_24 : decode cX7_end 24 = .ok (.iconst 1, 1) := by decide +kernel
theorem dX7_end_25 : decode cX7_end 25 = .ok (.ireturn, 1) := by decide +kernel
theorem dX7_tapeAt_0 : decode cX7_tapeAt 0 = .ok (.iload_n 1, 1) := by decide +kernel
theorem dX7_tapeAt_1 : decode cX7_tapeAt 1 = .ok (.aload_n 0, 1) := by decide +kernel
theorem dX7_tapeAt_2 : decode cX7_tapeAt 2 = .ok (.getfield 18, 3) := by decide +kernel
theorem dX7_tapeAt_5 : decode cX7_tapeAt 5 = .ok (.if_icmp .ge 12, 3) := by decide +kernel
theorem dX7_tapeAt_8 : decode cX7_tapeAt 8 = .ok (.aload_n 0, 1) := by decide +kernel
theorem dX7_tapeAt_9 : decode cX7_tapeAt 9 = .ok (.getfield 7, 3) := by decide +kernel
theorem dX7_tapeAt_12 : decode cX7_tapeAt 12 = .ok (.iload_n 1, 1) := by decide +kernel
theorem dX7_tapeAt_13 : decode cX7_tapeAt 13 = .ok (.iaload, 1) := by decide +kernel
theorem dX7_tapeAt_14 : decode cX7_tapeAt 14 = .ok (.goto 4, 3) := by decide +kernel
theorem dX7_tapeAt_17 : decode cX7_tapeAt 17 = .ok (.iconst 0, 1) := by decide +kernel
theorem dX7_tapeAt_18 : decode cX7_tapeAt 18 = .ok (.ireturn, 1) := by decide +kernel
theorem dX7_isDigit_0 : decode cX7_isDigit 0 = .ok (.iload_n 0, 1) := by decide +kernel
theorem dX7_isDigit_1 : decode cX7_isDigit 1 = .ok (.bipush 48, 2) := by decide +kernel
theorem dX7_isDigit_3 : decode cX7_isDigit 3 = .ok (.if_icmp .lt 13, 3) := by decide +kernel
theorem dX7_isDigit_6 : decode cX7_isDigit 6 = .ok (.iload_n 0, 1) := by decide +kernel
theorem dX7_isDigit_7 : decode cX7_isDigit 7 = .ok (.bipush 57, 2) := by decide +kernel
theorem dX7_isDigit_9 : decode cX7_isDigit 9 = .ok (.if_icmp .gt 7, 3) := by decide +kernel
theorem dX7_isDigit_12 : decode cX7_isDigit 12 = .ok (.iconst 1, 1) := by decide +kernel
theorem dX7_isDigit_13 : decode cX7_isDigit 13 = .ok (.goto 4, 3) := by decide +kernel
theorem dX7_isDigit_16 : decode cX7_isDigit 16 = .ok (.iconst 0, 1) := by decide +kernel
theorem dX7_isDigit_17 : decode cX7_isDigit 17 = .ok (.ireturn, 1) := by decide +kernel
theorem dX7_isLetter_0 : decode cX7_isLetter 0 = .ok (.iload_n 0, 1) := by decide +kernel
theorem dX7_isLetter_1 : decode cX7_isLetter 1 = .ok (.bipush 97, 2) := by decide +kernel
theorem dX7_isLetter_3 : decode cX7_isLetter 3 = .ok (.if_icmp .lt 13, 3) := by decide +kernel
theorem dX7_isLetter_6 : decode cX7_isLetter 6 = .ok (.iload_n 0, 1) := by decide +kernel
theorem dX7_isLetter_7 : decode cX7_isLetter 7 = .ok (.bipush 122, 2) := by decide +kernel
theorem dX7_isLetter_9 : decode cX7_isLetter 9 = .ok (.if_icmp .gt 7, 3) := by decide +kernel
theorem dX7_isLetter_12 : decode cX7_isLetter 12 = .ok (.iconst 1, 1) := by decide +kernel
theorem dX7_isLetter_13 : decode cX7_isLetter 13 = .ok (.goto 4, 3) := by decide +kernel
theorem dX7_isLetter_16 : decode cX7_isLetter 16 = .ok (.iconst 0, 1) := by decide +kernel
theorem dX7_isLetter_17 : decode cX7_isLetter 17 = .ok (.ireturn, 1) := by decide +kernel
set_option maxRecDepth 20000 in
theorem ggX7_go_X7_isLetter : GoodIn wsX7_go wsX7_isLetter := goodIn_r _ [13] (by decide +kernel) (by decide +kernel)
set_option maxRecDepth 20000 in
theorem gX7_go_X7_isLetter : GoodIn wsX7_go (va_wsS RX7 30 yX7_isLetter wsX7_isLetter) := goodIn_app (goodIn_of _ (by decide +kernel)) ggX7_go_X7_isLetter
set_option maxRecDepth 20000 in
theorem ggX7_go_X7_isDigit : GoodIn wsX7_go wsX7_isDigit := goodIn_r _ [16] (by decide +kernel) (by decide +kernel)
set_option maxRecDepth 20000 in
theorem gX7_go_X7_isDigit : GoodIn wsX7_go (va_wsS RX7 34 yX7_isDigit wsX7_isDigit) := goodIn_app (goodIn_of _ (by decide +kernel)) ggX7_go_X7_isDigit
set_option maxRecDepth 20000 in
theorem ggX7_go_X7_tapeAt : GoodIn wsX7_go wsX7_tapeAt := goodIn_r _ [20, 2, 3, 21, 22, 23, 24, 25, 26, 27, 28, 29, 30, 31, 32, 33, 34, 35, 36, 37, 38, 39, 40, 41, 42] (by decide +kernel) (by decide +kernel)
set_option maxRecDepth 20000 in
theorem gX7_go_X7_tapeAt : GoodIn wsX7_go (wsV RX7 44 RX7 yX7_tapeAt wsX7_tapeAt) := goodIn_app (goodIn_of _ (by decide +kernel)) ggX7_go_X7_tapeAt
theorem dX7_go_0 : decode cX7_go 0 = .ok (.aload_n 0, 1) := by decide +kernel
theorem dX7_go_1 : decode cX7_go 1 = .ok (.getfield 21, 3) := by decide +kernel
theorem dX7_go_4 : decode cX7_go 4 = .ok (.aload_n 0, 1) := by decide +kernel
theorem dX7_go_5 : decode cX7_go 5 = .ok (.getfield 18, 3) := by decide +kernel
theorem dX7_go_8 : decode cX7_go 8 = .ok (.if_icmp .ge 44, 3) := by decide +kernel
theorem dX7_go_11 : decode cX7_go 11 = .ok (.aload_n 0, 1) := by decide +kernel
theorem dX7_go_12 : decode cX7_go 12 = .ok (.getfield 7, 3) := by decide +kernel
theorem dX7_go_15 : decode cX7_go 15 = .ok (.aload_n 0, 1) := by decide +kernel
theorem dX7_go_16 : decode cX7_go 16 = .ok (.getfield 21, 3) := by decide +kernel
theorem dX7_go_19 : decode cX7_go 19 = .ok (.iaload, 1) := by decide +kernel
theorem dX7_go_20 : decode cX7_go 20 = .ok (.bipush 32, 2) := by decide +kernel
theorem dX7_go_22 : decode cX7_go 22 = .ok (.if_icmp .eq 17, 3) := by decide +kernel
theorem dX7_go_25 : decode cX7_go 25 = .ok (.aload_n 0, 1) := by decide +kernel
theorem dX7_go_26 : decode cX7_go 26 = .ok (.getfield 7, 3) := by decide +kernel
theorem dX7_go_29 : decode cX7_go 29 = .ok (.aload_n 0, 1) := by decide +kernel
theorem dX7_go_30 : decode cX7_go 30 = .ok (.getfield 21, 3) := by decide +kernel
theorem dX7_go_33 : decode cX7_go 33 = .ok (.iaload, 1) := by decide +kernel
theorem dX7_go_34 : decode cX7_go 34 = .ok (.bipush 10, 2) := by decide +kernel
theorem dX7_go_36 : decode cX7_go 36 = .ok (.if_icmp .ne 16, 3) := by decide +kernel
theorem dX7_go_39 : decode cX7_go 39 = .ok (.aload_n 0, 1) := by decide +kernel
theorem dX7_go_40 : decode cX7_go 40 = .ok (.dup, 1) := by decide +kernel
theorem dX7_go_41 : decode cX7_go 41 = .ok (.getfield 21, 3) := by decide +kernel
theorem dX7_go_44 : decode cX7_go 44 = .ok (.iconst 1, 1) := by decide +kernel
theorem dX7_go_45 : decode cX7_go 45 = .ok (.iadd, 1) := by decide +kernel
theorem dX7_go_46 : decode cX7_go 46 = .ok (.putfield 21, 3) := by decide +kernel
theorem dX7_go_49 : decode cX7_go 49 = .ok (.goto (-49), 3) := by decide +kernel
theorem dX7_go_52 : decode cX7_go 52 = .ok (.aload_n 0, 1) := by decide +kernel
theorem dX7_go_53 : decode cX7_go 53 = .ok (.aload_n 0, 1) := by decide +kernel
theorem dX7_go_54 : decode cX7_go 54 = .ok (.getfield 21, 3) := by decide +kernel
theorem dX7_go_57 : decode cX7_go 57 = .ok (.putfield 24, 3) := by decide +kernel
theorem dX7_go_60 : decode cX7_go 60 = .ok (.aload_n 0, 1) := by decide +kernel
theorem dX7_go_61 : decode cX7_go 61 = .ok (.getfield 18, 3) := by decide +kernel
theorem dX7_go_64 : decode cX7_go 64 = .ok (.sipush 700, 3) := by decide +kernel
theorem dX7_go_67 : decode cX7_go 67 = .ok (.if_icmp .le 26, 3) := by decide +kernel
theorem dX7_go_70 : decode cX7_go 70 = .ok (.aload_n 0, 1) := by decide +kernel
theorem dX7_go_71 : decode cX7_go 71 = .ok (.getfield 24, 3) := by decide +kernel
theorem dX7_go_74 : decode cX7_go 74 = .ok (.sipush 700, 3) := by decide +kernel
theorem dX7_go_77 : decode cX7_go 77 = .ok (.if_icmp .lt 16, 3) := by decide +kernel
theorem dX7_go_80 : decode cX7_go 80 = .ok (.aload_n 0, 1) := by decide +kernel
theorem dX7_go_81 : decode cX7_go 81 = .ok (.sipush 700, 3) := by decide +kernel
theorem dX7_go_84 : decode cX7_go 84 = .ok (.putfield 24, 3) := by decide +kernel
theorem dX7_go_87 : decode cX7_go 87 = .ok (.aload_n 0, 1) := by decide +kernel
theorem dX7_go_88 : decode cX7_go 88 = .ok (.iconst 1, 1) := by decide +kernel
theorem dX7_go_89 : decode cX7_go 89 = .ok (.putfield 27, 3) := by decide +kernel
theorem dX7_go_92 : decode cX7_go 92 = .ok (.return_, 1) := by decide +kernel
theorem dX7_go_93 : decode cX7_go 93 = .ok (.aload_n 0, 1) := by decide +kernel
theorem dX7_go_94 : decode cX7_go 94 = .ok (.getfield 21, 3) := by decide +kernel
theorem dX7_go_97 : decode cX7_go 97 = .ok (.aload_n 0, 1) := by decide +kernel
theorem dX7_go_98 : decode cX7_go 98 = .ok (.getfield 18, 3) := by decide +kernel
theorem dX7_go_101 : decode cX7_go 101 = .ok (.if_icmp .lt 9, 3) := by decide +kernel
theorem dX7_go_104 : decode cX7_go 104 = .ok (.aload_n 0, 1) := by decide +kernel
theorem dX7_go_105 : decode cX7_go 105 = .ok (.iconst 0, 1) := by decide +kernel
theorem dX7_go_106 : decode cX7_go 106 = .ok (.putfield 27, 3) := by decide +kernel
theorem dX7_go_109 : decode cX7_go 109 = .ok (.return_, 1) := by decide +kernel
theorem dX7_go_110 : decode cX7_go 110 = .ok (.aload_n 0, 1) := by decide +kernel
theorem dX7_go_111 : decode cX7_go 111 = .ok (.getfield 7, 3) := by decide +kernel
theorem dX7_go_114 : decode cX7_go 114 = .ok (.aload_n 0, 1) := by decide +kernel
theorem dX7_go_115 : decode cX7_go 115 = .ok (.getfield 21, 3) := by decide +kernel
theorem dX7_go_118 : decode cX7_go 118 = .ok (.iaload, 1) := by decide +kernel
theorem dX7_go_119 : decode cX7_go 119 = .ok (.istore_n 1, 1) := by decide +kernel
theorem dX7_go_120 : decode cX7_go 120 = .ok (.iload_n 1, 1) := by decide +kernel
theorem dX7_go_121 : decode cX7_go 121 = .ok (.invokestatic 30, 3) := by decide +kernel
theorem dX7_go_124 : decode cX7_go 124 = .ok (.ifCond .ne 36, 3) := by decide +kernel
theorem dX7_go_127 : decode cX7_go 127 = .ok (.iload_n 1, 1) := by decide +kernel
theorem dX7_go_128 : decode cX7_go 128 = .ok (.invokestatic 34, 3) := by decide +kernel
theorem dX7_go_131 : decode cX7_go 131 = .ok (.ifCond .ne 29, 3) := by decide +kernel
theorem dX7_go_134 : decode cX7_go 134 = .ok (.aload_n 0, 1) := by decide +kernel
theorem dX7_go_135 : decode cX7_go 135 = .ok (.iload_n 1, 1) := by decide +kernel
theorem dX7_go_136 : decode cX7_go 136 = .ok (.bipush 59, 2) := by decide +kernel
theorem dX7_go_138 : decode cX7_go 138 = .ok (.if_icmp .ne 7, 3) := by decide +kernel
theorem dX7_go_141 : decode cX7_go 141 = .ok (.iconst 4, 1) := by decide +kernel
theorem dX7_go_142 : decode cX7_go 142 = .ok (.goto 4, 3) := by decide +kernel
theorem dX7_go_145 : decode cX7_go 145 = .ok (.iconst 1, 1) := by decide +kernel
theorem dX7_go_146 : decode cX7_go 146 = .ok (.putfield 27, 3) := by decide +kernel
theorem dX7_go_149 : decode cX7_go 149 = .ok (.aload_n 0, 1) := by decide +kernel
theorem dX7_go_150 : decode cX7_go 150 = .ok (.dup, 1) := by decide +kernel
theorem dX7_go_151 : decode cX7_go 151 = .ok (.getfield 21, 3) := by decide +kernel
theorem dX7_go_154 : decode cX7_go 154 = .ok (.iconst 1, 1) := by decide +kernel
theorem dX7_go_155 : decode cX7_go 155 = .ok (.iadd, 1) := by decide +kernel
theorem dX7_go_156 : decode cX7_go 156 = .ok (.putfield 21, 3) := by decide +kernel
theorem dX7_go_159 : decode cX7_go 159 = .ok (.return_, 1) := by decide +kernel
theorem dX7_go_160 : decode cX7_go 160 = .ok (.iload_n 1, 1) := by decide +kernel
theorem dX7_go_161 : decode cX7_go 161 = .ok (.invokestatic 30, 3) := by decide +kernel
theorem dX7_go_164 : decode cX7_go 164 = .ok (.istore_n 2, 1) := by decide +kernel
theorem dX7_go_165 : decode cX7_go 165 = .ok (.iconst 1, 1) := by decide +kernel
theorem dX7_go_166 : decode cX7_go 166 = .ok (.istore_n 3, 1) := by decide +kernel
theorem dX7_go_167 : decode cX7_go 167 = .ok (.aload_n 0, 1) := by decide +kernel
theorem dX7_go_168 : decode cX7_go 168 = .ok (.lconst 0, 1) := by decide +kernel
theorem dX7_go_169 : decode cX7_go 169 = .ok (.putfield 37, 3) := by decide +kernel
theorem dX7_go_172 : decode cX7_go 172 = .ok (.aload_n 0, 1) := by decide +kernel
theorem dX7_go_173 : decode cX7_go 173 = .ok (.iconst 0, 1) := by decide +kernel
theorem dX7_go_174 : decode cX7_go 174 = .ok (.putfield 41, 3) := by decide +kernel
theorem dX7_go_177 : decode cX7_go 177 = .ok (.aload_n 0, 1) := by decide +kernel
theorem dX7_go_178 : decode cX7_go 178 = .ok (.aload_n 0, 1) := by decide +kernel
theorem dX7_go_179 : decode cX7_go 179 = .ok (.getfield 21, 3) := by decide +kernel
theorem dX7_go_182 : decode cX7_go 182 = .ok (.invokevirtual 44, 3) := by decide +kernel
theorem dX7_go_185 : decode cX7_go 185 = .ok (.invokestatic 30, 3) := by decide +kernel
theorem dX7_go_188 : decode cX7_go 188 = .ok (.ifCond .ne 17, 3) := by decide +kernel
theorem dX7_go_191 : decode cX7_go 191 = .ok (.aload_n 0, 1) := by decide +kernel
theorem dX7_go_192 : decode cX7_go 192 = .ok (.aload_n 0, 1) := by decide +kernel
theorem dX7_go_193 : decode cX7_go 193 = .ok (.getfield 21, 3) := by decide +kernel
theorem dX7_go_196 : decode cX7_go 196 = .ok (.invokevirtual 44, 3) := by decide +kernel
theorem dX7_go_199 : decode cX7_go 199 = .ok (.invokestatic 34, 3) := by decide +kernel
theorem dX7_go_202 : decode cX7_go 202 = .ok (.ifCond .eq 110, 3) := by decide +kernel
theorem dX7_go_205 : decode cX7_go 205 = .ok (.aload_n 0, 1) := by decide +kernel
theorem dX7_go_206 : decode cX7_go 206 = .ok (.getfield 7, 3) := by decide +kernel
theorem dX7_go_209 : decode cX7_go 209 = .ok (.aload_n 0, 1) := by decide +kernel
theorem dX7_go_210 : decode cX7_go 210 = .ok (.getfield 21, 3) := by decide +kernel
theorem dX7_go_213 : decode cX7_go 213 = .ok (.iaload, 1) := by decide +kernel
theorem dX7_go_214 : decode cX7_go 214 = .ok (.istore 4, 2) := by decide +kernel
theorem dX7_go_216 : decode cX7_go 216 = .ok (.iload_n 3, 1) := by decide +kernel
theorem dX7_go_217 : decode cX7_go 217 = .ok (.ifCond .eq 16, 3) := by decide +kernel
theorem dX7_go_220 : decode cX7_go 220 = .ok (.iload 4, 2) := by decide +kernel
theorem dX7_go_222 : decode cX7_go 222 = .ok (.invokestatic 30, 3) := by decide +kernel
theorem dX7_go_225 : decode cX7_go 225 = .ok (.iload_n 2, 1) := by decide +kernel
theorem dX7_go_226 : decode cX7_go 226 = .ok (.if_icmp .ne 7, 3) := by decide +kernel
theorem dX7_go_229 : decode cX7_go 229 = .ok (.iconst 1, 1) := by decide +kernel
theorem dX7_go_230 : decode cX7_go 230 = .ok (.goto 4, 3) := by decide +kernel
theorem dX7_go_233 : decode cX7_go 233 = .ok (.iconst 0, 1) := by decide +kernel
theorem dX7_go_234 : decode cX7_go 234 = .ok (.istore_n 3, 1) := by decide +kernel
theorem dX7_go_235 : decode cX7_go 235 = .ok (.aload_n 0, 1) := by decide +kernel
theorem dX7_go_236 : decode cX7_go 236 = .ok (.getfield 21, 3) := by decide +kernel
theorem dX7_go_239 : decode cX7_go 239 = .ok (.aload_n 0, 1) := by decide +kernel
theorem dX7_go_240 : decode cX7_go 240 = .ok (.getfield 24, 3) := by decide +kernel
theorem dX7_go_243 : decode cX7_go 243 = .ok (.isub, 1) := by decide +kernel
theorem dX7_go_244 : decode cX7_go 244 = .ok (.bipush 8, 2) := by decide +kernel
theorem dX7_go_246 : decode cX7_go 246 = .ok (.if_icmp .ge 23, 3) := by decide +kernel
theorem dX7_go_249 : decode cX7_go 249 = .ok (.aload_n 0, 1) := by decide +kernel
theorem dX7_go_250 : decode cX7_go 250 = .ok (.ldc2_w 48, 3) := by decide +kernel
theorem dX7_go_253 : decode cX7_go 253 = .ok (.aload_n 0, 1) := by decide +kernel
theorem dX7_go_254 : decode cX7_go 254 = .ok (.getfield 37, 3) := by decide +kernel
theorem dX7_go_257 : decode cX7_go 257 = .ok (.lmul, 1) := by decide +kernel
theorem dX7_go_258 : decode cX7_go 258 = .ok (.iload 4, 2) := by decide +kernel
theorem dX7_go_260 : decode cX7_go 260 = .ok (.i2l, 1) := by decide +kernel
theorem dX7_go_261 : decode cX7_go 261 = .ok (.ladd, 1) := by decide +kernel
theorem dX7_go_262 : decode cX7_go 262 = .ok (.ldc2_w 50, 3) := by decide +kernel
theorem dX7_go_265 : decode cX7_go 265 = .ok (.lsub, 1) := by decide +kernel
theorem dX7_go_266 : decode cX7_go 266 = .ok (.putfield 37, 3) := by decide +kernel
theorem dX7_go_269 : decode cX7_go 269 = .ok (.aload_n 0, 1) := by decide +kernel
theorem dX7_go_270 : decode cX7_go 270 = .ok (.getfield 21, 3) := by decide +kernel
theorem dX7_go_273 : decode cX7_go 273 = .ok (.aload_n 0, 1) := by decide +kernel
theorem dX7_go_274 : decode cX7_go 274 = .ok (.getfield 24, 3) := by decide +kernel
theorem dX7_go_277 : decode cX7_go 277 = .ok (.isub, 1) := by decide +kernel
theorem dX7_go_278 : decode cX7_go 278 = .ok (.iconst 3, 1) := by decide +kernel
theorem dX7_go_279 : decode cX7_go 279 = .ok (.if_icmp .ge 20, 3) := by decide +kernel
theorem dX7_go_282 : decode cX7_go 282 = .ok (.aload_n 0, 1) := by decide +kernel
theorem dX7_go_283 : decode cX7_go 283 = .ok (.bipush 10, 2) := by decide +kernel
theorem dX7_go_285 : decode cX7_go 285 = .ok (.aload_n 0, 1) := by decide +kernel
theorem dX7_go_286 : decode cX7_go 286 = .ok (.getfield 41, 3) := by decide +kernel
theorem dX7_go_289 : decode cX7_go 289 = .ok (.imul, 1) := by decide +kernel
theorem dX7_go_290 : decode cX7_go 290 = .ok (.iload 4, 2) := by decide +kernel
theorem dX7_go_292 : decode cX7_go 292 = .ok (.iadd, 1) := by decide +kernel
theorem dX7_go_293 : decode cX7_go 293 = .ok (.bipush 48, 2) := by decide +kernel
theorem dX7_go_295 : decode cX7_go 295 = .ok (.isub, 1) := by decide +kernel
theorem dX7_go_296 : decode cX7_go 296 = .ok (.putfield 41, 3) := by decide +kernel
theorem dX7_go_299 : decode cX7_go 299 = .ok (.aload_n 0, 1) := by decide +kernel
theorem dX7_go_300 : decode cX7_go 300 = .ok (.dup, 1) := by decide +kernel
theorem dX7_go_301 : decode cX7_go 301 = .ok (.getfield 21, 3) := by decide +kernel
theorem dX7_go_304 : decode cX7_go 304 = .ok (.iconst 1, 1) := by decide +kernel
theorem dX7_go_305 : decode cX7_go 305 = .ok (.iadd, 1) := by decide +kernel
theorem dX7_go_306 : decode cX7_go 306 = .ok (.putfield 21, 3) := by decide +kernel
theorem dX7_go_309 : decode cX7_go 309 = .ok (.goto (-132), 3) := by decide +kernel
theorem dX7_go_312 : decode cX7_go 312 = .ok (.aload_n 0, 1) := by decide +kernel
theorem dX7_go_313 : decode cX7_go 313 = .ok (.iload_n 3, 1) := by decide +kernel
theorem dX7_go_314 : decode cX7_go 314 = .ok (.ifCond .eq 20, 3) := by decide +kernel
theorem dX7_go_317 : decode cX7_go 317 = .ok (.iload_n 2, 1) := by decide +kernel
theorem dX7_go_318 : decode cX7_go 318 = .ok (.ifCond .ne 20, 3) := by decide +kernel
theorem dX7_go_321 : decode cX7_go 321 = .ok (.aload_n 0, 1) := by decide +kernel
theorem dX7_go_322 : decode cX7_go 322 = .ok (.getfield 21, 3) := by decide +kernel
theorem dX7_go_325 : decode cX7_go 325 = .ok (.aload_n 0, 1) := by decide +kernel
theorem dX7_go_326 : decode cX7_go 326 = .ok (.getfield 24, 3) := by decide +kernel
theorem dX7_go_329 : decode cX7_go 329 = .ok (.isub, 1) := by decide +kernel
theorem dX7_go_330 : decode cX7_go 330 = .ok (.iconst 3, 1) := by decide +kernel
theorem dX7_go_331 : decode cX7_go 331 = .ok (.if_icmp .le 7, 3) := by decide +kernel
theorem dX7_go_334 : decode cX7_go 334 = .ok (.iconst 1, 1) := by decide +kernel
theorem dX7_go_335 : decode cX7_go 335 = .ok (.goto 12, 3) := by decide +kernel
theorem dX7_go_338 : decode cX7_go 338 = .ok (.iload_n 2, 1) := by decide +kernel
theorem dX7_go_339 : decode cX7_go 339 = .ok (.ifCond .eq 7, 3) := by decide +kernel
theorem dX7_go_342 : decode cX7_go 342 = .ok (.iconst 2, 1) := by decide +kernel
theorem dX7_go_343 : decode cX7_go 343 = .ok (.goto 4, 3) := by decide +kernel
theorem dX7_go_346 : decode cX7_go 346 = .ok (.iconst 3, 1) := by decide +kernel
theorem dX7_go_347 : decode cX7_go 347 = .ok (.putfield 27, 3) := by decide +kernel
theorem dX7_go_350 : decode cX7_go 350 = .ok (.return_, 1) := by decide +kernel
theorem dX7_two_0 : decode cX7_two 0 = .ok (.ldc2_w 48, 3) := by decide +kernel
theorem dX7_two_3 : decode cX7_two 3 = .ok (.iload_n 0, 1) := by decide +kernel
theorem dX7_two_4 : decode cX7_two 4 = .ok (.i2l, 1) := by decide +kernel
theorem dX7_two_5 : decode cX7_two 5 = .ok (.ldc2_w 50, 3) := by decide +kernel
theorem dX7_two_8 : decode cX7_two 8 = .ok (.lsub, 1) := by decide +kernel
theorem dX7_two_9 : decode cX7_two 9 = .ok (.lmul, 1) := by decide +kernel
theorem dX7_two_10 : decode cX7_two 10 = .ok (.iload_n 1, 1) := by decide +kernel
theorem dX7_two_11 : decode cX7_two 11 = .ok (.i2l, 1) := by decide +kernel
theorem dX7_two_12 : decode cX7_two 12 = .ok (.ladd, 1) := by decide +kernel
theorem dX7_two_13 : decode cX7_two 13 = .ok (.ldc2_w 50, 3) := by decide +kernel
theorem dX7_two_16 : decode cX7_two 16 = .ok (.lsub, 1) := by decide +kernel
theorem dX7_two_17 : decode cX7_two 17 = .ok (.lreturn, 1) := by decide +kernel
set_option maxRecDepth 20000 in
theorem ggX7_four_X7_two : GoodIn wsX7_four wsX7_two := goodIn_r _ [5, 6, 7] (by decide +kernel) (by decide +kernel)
set_option maxRecDepth 20000 in
theorem gX7_four_X7_two : GoodIn wsX7_four (va_wsS RX7 54 yX7_two wsX7_two) := goodIn_app (goodIn_of _ (by decide +kernel)) ggX7_four_X7_two
theorem dX7_four_0 : decode cX7_four 0 = .ok (.ldc2_w 52, 3) := by decide +kernel
theorem dX7_four_3 : decode cX7_four 3 = .ok (.iload_n 0, 1) := by decide +kernel
theorem dX7_four_4 : decode cX7_four 4 = .ok (.iload_n 1, 1) := by decide +kernel
theorem dX7_four_5 : decode cX7_four 5 = .ok (.invokestatic 54, 3) := by decide +kernel
theorem dX7_four_8 : decode cX7_four 8 = .ok (.lmul, 1) := by decide +kernel
theorem dX7_four_9 : decode cX7_four 9 = .ok (.iload_n 2, 1) := by decide +kernel
theorem dX7_four_10 : decode cX7_four 10 = .ok (.iload_n 3, 1) := by decide +kernel
theorem dX7_four_11 : decode cX7_four 11 = .ok (.invokestatic 54, 3) := by decide +kernel
theorem dX7_four_14 : decode cX7_four 14 = .ok (.ladd, 1) := by decide +kernel
theorem dX7_four_15 : decode cX7_four 15 = .ok (.lreturn, 1) := by decide +kernel
set_option maxRecDepth 20000 in
theorem ggX7_five_X7_four : GoodIn wsX7_five wsX7_four := goodIn_r _ [6, 7, 8, 9, 5, 10, 1, 2] (by decide +kernel) (by decide +kernel)
set_option maxRecDepth 20000 in
theorem gX7_five_X7_four : GoodIn wsX7_five (va_wsS RX7 58 yX7_four wsX7_four) := goodIn_app (goodIn_of _ (by decide +kernel)) ggX7_five_X7_four
theorem dX7_five_0 : decode cX7_five 0 = .ok (.ldc2_w 48, 3) := by decide +kernel
theorem dX7_five_3 : decode cX7_five 3 = .ok (.iload_n 0, 1) := by decide +kernel
theorem dX7_five_4 : decode cX7_five 4 = .ok (.iload_n 1, 1) := by decide +kernel
theorem dX7_five_5 : decode cX7_five 5 = .ok (.iload_n 2, 1) := by decide +kernel
theorem dX7_five_6 : decode cX7_five 6 = .ok (.iload_n 3, 1) := by decide +kernel
theorem dX7_five_7 : decode cX7_five 7 = .ok (.invokestatic 58, 3) := by decide +kernel
theorem dX7_five_10 : decode cX7_five 10 = .ok (.lmul, 1) := by decide +kernel
theorem dX7_five_11 : decode cX7_five 11 = .ok (.iload 4, 2) := by decide +kernel
theorem dX7_five_13 : decode cX7_five 13 = .ok (.i2l, 1) := by decide +kernel
theorem dX7_five_14 : decode cX7_five 14 = .ok (.ladd, 1) := by decide +kernel
theorem dX7_five_15 : decode cX7_five 15 = .ok (.ldc2_w 50, 3) := by decide +kernel
theorem dX7_five_18 : decode cX7_five 18 = .ok (.lsub, 1) := by decide +kernel
theorem dX7_five_19 : decode cX7_five 19 = .ok (.lreturn, 1) := by decide +kernel
theorem dX7_isWord_0 : decode cX7_isWord 0 = .ok (.aload_n 0, 1) := by decide +kernel
theorem dX7_isWord_1 : decode cX7_isWord 1 = .ok (.getfield 27, 3) := by decide +kernel
theorem dX7_isWord_4 : decode cX7_isWord 4 = .ok (.iconst 2, 1) := by decide +kernel
theorem dX7_isWord_5 : decode cX7_isWord 5 = .ok (.if_icmp .ne 16, 3) := by decide +kernel
theorem dX7_isWord_8 : decode cX7_isWord 8 = .ok (.aload_n 0, 1) := by decide +kernel
theorem dX7_isWord_9 : decode cX7_isWord 9 = .ok (.getfield 37, 3) := by decide +kernel
theorem dX7_isWord_12 : decode cX7_isWord 12 = .ok (.lload_n 1, 1) := by decide +kernel
theorem dX7_isWord_13 : decode cX7_isWord 13 = .ok (.lcmp, 1) := by decide +kernel
theorem dX7_isWord_14 : decode cX7_isWord 14 = .ok (.ifCond .ne 7, 3) := by decide +kernel
theorem dX7_isWord_17 : decode cX7_isWord 17 = .ok (.iconst 1, 1) := by decide +kernel
theorem dX7_isWord_18 : decode cX7_isWord 18 = .ok (.goto 4, 3) := by decide +kernel
theorem dX7_isWord_21 : decode cX7_isWord 21 = .ok (.iconst 0, 1) := by decide +kernel
theorem dX7_isWord_22 : decode cX7_isWord 22 = .ok (.ireturn, 1) := by decide +kernel
theorem dX7_bad_0 : decode cX7_bad 0 = .ok (.aload_n 0, 1) := by decide +kernel
theorem dX7_bad_1 : decode cX7_bad 1 = .ok (.aload_n 0, 1) := by decide +kernel
theorem dX7_bad_2 : decode cX7_bad 2 = .ok (.getfield 27, 3) := by decide +kernel
theorem dX7_bad_5 : decode cX7_bad 5 = .ok (.iconst 1, 1) := by decide +kernel
theorem dX7_bad_6 : decode cX7_bad 6 = .ok (.if_icmp .ne 7, 3) := by decide +kernel
theorem dX7_bad_9 : decode cX7_bad 9 = .ok (.iconst 1, 1) := by decide +kernel
theorem dX7_bad_10 : decode cX7_bad 10 = .ok (.goto 4, 3) := by decide +kernel
theorem dX7_bad_13 : decode cX7_bad 13 = .ok (.iload_n 1, 1) := by decide +kernel
theorem dX7_bad_14 : decode cX7_bad 14 = .ok (.putfield 62, 3) := by decide +kernel
theorem dX7_bad_17 : decode cX7_bad 17 = .ok (.aload_n 0, 1) := by decide +kernel
theorem dX7_bad_18 : decode cX7_bad 18 = .ok (.aload_n 0, 1) := by decide +kernel
theorem dX7_bad_19 : decode cX7_bad 19 = .ok (.getfield 24, 3) := by decide +kernel
theorem dX7_bad_22 : decode cX7_bad 22 = .ok (.putfield 65, 3) := by decide +kernel
theorem dX7_bad_25 : decode cX7_bad 25 = .ok (.iconst 0, 1) := by decide +kernel
theorem dX7_bad_26 : decode cX7_bad 26 = .ok (.ireturn, 1) := by decide +kernel
theorem dX7_init_0 : decode cX7_init 0 = .ok (.aload_n 0, 1) := by decide +kernel
theorem dX7_init_1 : decode cX7_init 1 = .ok (.invokespecial 68, 3) := by decide +kernel
theorem dX7_init_4 : decode cX7_init 4 = .ok (.aload_n 0, 1) := by decide +kernel
theorem dX7_init_5 : decode cX7_init 5 = .ok (.sipush 740, 3) := by decide +kernel
theorem dX7_init_8 : decode cX7_init 8 = .ok (.newarray .int, 2) := by decide +kernel
theorem dX7_init_10 : decode cX7_init 10 = .ok (.putfield 7, 3) := by decide +kernel
theorem dX7_init_13 : decode cX7_init 13 = .ok (.aload_n 0, 1) := by decide +kernel
theorem dX7_init_14 : decode cX7_init 14 = .ok (.sipush 181, 3) := by decide +kernel
theorem dX7_init_17 : decode cX7_init 17 = .ok (.newarray .int, 2) := by decide +kernel
theorem dX7_init_19 : decode cX7_init 19 = .ok (.putfield 74, 3) := by decide +kernel
theorem dX7_init_22 : decode cX7_init 22 = .ok (.aload_n 0, 1) := by decide +kernel
theorem dX7_init_23 : decode cX7_init 23 = .ok (.sipush 181, 3) := by decide +kernel
theorem dX7_init_26 : decode cX7_init 26 = .ok (.newarray .int, 2) := by decide +kernel
theorem dX7_init_28 : decode cX7_init 28 = .ok (.putfield 77, 3) := by decide +kernel
theorem dX7_init_31 : decode cX7_init 31 = .ok (.aload_n 0, 1) := by decide +kernel
theorem dX7_init_32 : decode cX7_init 32 = .ok (.sipush 1810, 3) := by decide +kernel
theorem dX7_init_35 : decode cX7_init 35 = .ok (.newarray .int, 2) := by decide +kernel
theorem dX7_init_37 : decode cX7_init 37 = .ok (.putfield 80, 3) := by decide +kernel
theorem dX7_init_40 : decode cX7_init 40 = .ok (.aload_n 0, 1) := by decide +kernel
theorem dX7_init_41 : decode cX7_init 41 = .ok (.sipush 256, 3) := by decide +kernel
theorem dX7_init_44 : decode cX7_init 44 = .ok (.newarray .int, 2) := by decide +kernel
theorem dX7_init_46 : decode cX7_init 46 = .ok (.putfield 83, 3) := by decide +kernel
theorem dX7_init_49 : decode cX7_init 49 = .ok (.aload_n 0, 1) := by decide +kernel
theorem dX7_init_50 : decode cX7_init 50 = .ok (.sipush 256, 3) := by decide +kernel
theorem dX7_init_53 : decode cX7_init 53 = .ok (.newarray .int, 2) := by decide +kernel
theorem dX7_init_55 : decode cX7_init 55 = .ok (.putfield 86, 3) := by decide +kernel
theorem dX7_init_58 : decode cX7_init 58 = .ok (.aload_n 0, 1) := by decide +kernel
theorem dX7_init_59 : decode cX7_init 59 = .ok (.bipush 8, 2) := by decide +kernel
theorem dX7_init_61 : decode cX7_init 61 = .ok (.newarray .int, 2) := by decide +kernel
theorem dX7_init_63 : decode cX7_init 63 = .ok (.putfield 89, 3) := by decide +kernel
theorem dX7_init_66 : decode cX7_init 66 = .ok (.aload_n 0, 1) := by decide +kernel
theorem dX7_init_67 : decode cX7_init 67 = .ok (.bipush 8, 2) := by decide +kernel
theorem dX7_init_69 : decode cX7_init 69 = .ok (.newarray .int, 2) := by decide +kernel
theorem dX7_init_71 : decode cX7_init 71 = .ok (.putfield 92, 3) := by decide +kernel
theorem dX7_init_74 : decode cX7_init 74 = .ok (.aload_n 0, 1) := by decide +kernel
theorem dX7_init_75 : decode cX7_init 75 = .ok (.bipush 8, 2) := by decide +kernel
theorem dX7_init_77 : decode cX7_init 77 = .ok (.newarray .int, 2) := by decide +kernel
theorem dX7_init_79 : decode cX7_init 79 = .ok (.putfield 95, 3) := by decide +kernel
theorem dX7_init_82 : decode cX7_init 82 = .ok (.aload_n 0, 1) := by decide +kernel
theorem dX7_init_83 : decode cX7_init 83 = .ok (.getfield 74, 3) := by decide +kernel
theorem dX7_init_86 : decode cX7_init 86 = .ok (.iconst 0, 1) := by decide +kernel
theorem dX7_init_87 : decode cX7_init 87 = .ok (.iconst 1, 1) := by decide +kernel
theorem dX7_init_88 : decode cX7_init 88 = .ok (.iastore, 1) := by decide +kernel
theorem dX7_init_89 : decode cX7_init 89 = .ok (.aload_n 0, 1) := by decide +kernel
theorem dX7_init_90 : decode cX7_init 90 = .ok (.getfield 74, 3) := by decide +kernel
theorem dX7_init_93 : decode cX7_init 93 = .ok (.iconst 4, 1) := by decide +kernel
theorem dX7_init_94 : decode cX7_init 94 = .ok (.bipush 99, 2) := by decide +kernel
theorem dX7_init_96 : decode cX7_init 96 = .ok (.iastore, 1) := by decide +kernel
theorem dX7_init_97 : decode cX7_init 97 = .ok (.aload_n 0, 1) := by decide +kernel
theorem dX7_init_98 : decode cX7_init 98 = .ok (.getfield 74, 3) := by decide +kernel
theorem dX7_init_101 : decode cX7_init 101 = .ok (.iconst 5, 1) := by decide +kernel
theorem dX7_init_102 : decode cX7_init 102 = .ok (.sipush 999, 3) := by decide +kernel
theorem dX7_init_105 : decode cX7_init 105 = .ok (.iastore, 1) := by decide +kernel
theorem dX7_init_106 : decode cX7_init 106 = .ok (.aload_n 0, 1) := by decide +kernel
theorem dX7_init_107 : decode cX7_init 107 = .ok (.getfield 74, 3) := by decide +kernel
theorem dX7_init_110 : decode cX7_init 110 = .ok (.bipush 6, 2) := by decide +kernel
theorem dX7_init_112 : decode cX7_init 112 = .ok (.bipush 99, 2) := by decide +kernel
theorem dX7_init_114 : decode cX7_init 114 = .ok (.iastore, 1) := by decide +kernel
theorem dX7_init_115 : decode cX7_init 115 = .ok (.aload_n 0, 1) := by decide +kernel
theorem dX7_init_116 : decode cX7_init 116 = .ok (.getfield 74, 3) := by decide +kernel
theorem dX7_init_119 : decode cX7_init 119 = .ok (.bipush 8, 2) := by decide +kernel
theorem dX7_init_121 : decode cX7_init 121 = .ok (.sipush 999, 3) := by decide +kernel
theorem dX7_init_124 : decode cX7_init 124 = .ok (.iastore, 1) := by decide +kernel
theorem dX7_init_125 : decode cX7_init 125 = .ok (.aload_n 0, 1) := by decide +kernel
theorem dX7_init_126 : decode cX7_init 126 = .ok (.getfield 74, 3) := by decide +kernel
theorem dX7_init_129 : decode cX7_init 129 = .ok (.bipush 10, 2) := by decide +kernel
theorem dX7_init_131 : decode cX7_init 131 = .ok (.iconst 1, 1) := by decide +kernel
theorem dX7_init_132 : decode cX7_init 132 = .ok (.iastore, 1) := by decide +kernel
theorem dX7_init_133 : decode cX7_init 133 = .ok (.aload_n 0, 1) := by decide +kernel
theorem dX7_init_134 : decode cX7_init 134 = .ok (.getfield 74, 3) := by decide +kernel
theorem dX7_init_137 : decode cX7_init 137 = .ok (.bipush 11, 2) := by decide +kernel
theorem dX7_init_139 : decode cX7_init 139 = .ok (.bipush 99, 2) := by decide +kernel
theorem dX7_init_141 : decode cX7_init 141 = .ok (.iastore, 1) := by decide +kernel
theorem dX7_init_142 : decode cX7_init 142 = .ok (.aload_n 0, 1) := by decide +kernel
theorem dX7_init_143 : decode cX7_init 143 = .ok (.getfield 74, 3) := by decide +kernel
theorem dX7_init_146 : decode cX7_init 146 = .ok (.bipush 31, 2) := by decide +kernel
theorem dX7_init_148 : decode cX7_init 148 = .ok (.iconst 1, 1) := by decide +kernel
theorem dX7_init_149 : decode cX7_init 149 = .ok (.iastore, 1) := by decide +kernel
theorem dX7_init_150 : decode cX7_init 150 = .ok (.return_, 1) := by decide +kernel
set_option maxRecDepth 20000 in
theorem ggX7_told_X7_bad : GoodIn wsX7_told wsX7_bad := goodIn_r _ [8, 1, 9, 10, 11, 35, 36, 37, 38, 39, 40, 41, 42, 43, 44, 45, 46, 47, 48, 49, 50, 51, 52, 53, 54, 55, 56] (by decide +kernel) (by decide +kernel)
set_option maxRecDepth 20000 in
theorem gX7_told_X7_bad : GoodIn wsX7_told (wsV RX7 98 RX7 yX7_bad wsX7_bad) := goodIn_app (goodIn_of _ (by decide +kernel)) ggX7_told_X7_bad
set_option maxRecDepth 20000 in
theorem ggX7_told_X7_isIn : GoodIn wsX7_told wsX7_isIn := goodIn_r _ [14] (by decide +kernel) (by decide +kernel)
set_option maxRecDepth 20000 in
theorem gX7_told_X7_isIn : GoodIn wsX7_told (va_wsS RX7 101 yX7_isIn wsX7_isIn) := goodIn_app (goodIn_of _ (by decide +kernel)) ggX7_told_X7_isIn
set_option maxRecDepth 20000 in
theorem ggX7_told_X7_go : GoodIn wsX7_told wsX7_go := goodIn_r _ [18, 19, 20, 21, 10, 1, 22, 2, 23, 24, 25, 26, 7, 27, 28, 29, 30, 31, 32, 33, 34, 35, 36, 37, 38, 39, 40, 41, 42, 43, 44, 45, 46, 47, 48, 49, 50, 51, 52, 53, 54, 55, 56] (by decide +kernel) (by decide +kernel)
set_option maxRecDepth 20000 in
theorem gX7_told_X7_go : GoodIn wsX7_told (wsV RX7 105 RX7 yX7_go wsX7_go) := goodIn_app (goodIn_of _ (by decide +kernel)) ggX7_told_X7_go
theorem dX7_told_0 : decode cX7_told 0 = .ok (.aload_n 0, 1) := by decide +kernel
theorem dX7_told_1 : decode cX7_told 1 = .ok (.getfield 27, 3) := by decide +kernel
theorem dX7_told_4 : decode cX7_told 4 = .ok (.iconst 3, 1) := by decide +kernel
theorem dX7_told_5 : decode cX7_told 5 = .ok (.if_icmp .eq 9, 3) := by decide +kernel
theorem dX7_told_8 : decode cX7_told 8 = .ok (.aload_n 0, 1) := by decide +kernel
theorem dX7_told_9 : decode cX7_told 9 = .ok (.iconst 1, 1) := by decide +kernel
theorem dX7_told_10 : decode cX7_told 10 = .ok (.invokevirtual 98, 3) := by decide +kernel
theorem dX7_told_13 : decode cX7_told 13 = .ok (.ireturn, 1) := by decide +kernel
theorem dX7_told_14 : decode cX7_told 14 = .ok (.aload_n 0, 1) := by decide +kernel
theorem dX7_told_15 : decode cX7_told 15 = .ok (.getfield 41, 3) := by decide +kernel
theorem dX7_told_18 : decode cX7_told 18 = .ok (.iload_n 2, 1) := by decide +kernel
theorem dX7_told_19 : decode cX7_told 19 = .ok (.iload_n 3, 1) := by decide +kernel
theorem dX7_told_20 : decode cX7_told 20 = .ok (.invokestatic 101, 3) := by decide +kernel
theorem dX7_told_23 : decode cX7_told 23 = .ok (.ifCond .ne 9, 3) := by decide +kernel
theorem dX7_told_26 : decode cX7_told 26 = .ok (.aload_n 0, 1) := by decide +kernel
theorem dX7_told_27 : decode cX7_told 27 = .ok (.iconst 2, 1) := by decide +kernel
theorem dX7_told_28 : decode cX7_told 28 = .ok (.invokevirtual 98, 3) := by decide +kernel
theorem dX7_told_31 : decode cX7_told 31 = .ok (.ireturn, 1) := by decide +kernel
theorem dX7_told_32 : decode cX7_told 32 = .ok (.aload_n 0, 1) := by decide +kernel
theorem dX7_told_33 : decode cX7_told 33 = .ok (.getfield 77, 3) := by decide +kernel
theorem dX7_told_36 : decode cX7_told 36 = .ok (.iload_n 1, 1) := by decide +kernel
theorem dX7_told_37 : decode cX7_told 37 = .ok (.aload_n 0, 1) := by decide +kernel
theorem dX7_told_38 : decode cX7_told 38 = .ok (.getfield 41, 3) := by decide +kernel
theorem dX7_told_41 : decode cX7_told 41 = .ok (.iastore, 1) := by decide +kernel
theorem dX7_told_42 : decode cX7_told 42 = .ok (.aload_n 0, 1) := by decide +kernel
theorem dX7_told_43 : decode cX7_told 43 = .ok (.invokevirtual 105, 3) := by decide +kernel
theorem dX7_told_46 : decode cX7_told 46 = .ok (.iconst 1, 1) := by decide +kernel
theorem dX7_told_47 : decode cX7_told 47 = .ok (.ireturn, 1) := by decide +kernel
set_option maxRecDepth 20000 in
theorem ggX7_readEnd_X7_bad : GoodIn wsX7_readEnd wsX7_bad := goodIn_r _ [7, 1, 8, 9, 10, 32, 33, 34, 35, 36, 37, 38, 39, 40, 41, 42, 43, 44, 45, 46, 47, 48, 49, 50, 51, 52, 53] (by decide +kernel) (by decide +kernel)
set_option maxRecDepth 20000 in
theorem gX7_readEnd_X7_bad : GoodIn wsX7_readEnd (wsV RX7 98 RX7 yX7_bad wsX7_bad) := goodIn_app (goodIn_of _ (by decide +kernel)) ggX7_readEnd_X7_bad
set_option maxRecDepth 20000 in
theorem ggX7_readEnd_X7_go : GoodIn wsX7_readEnd wsX7_go := goodIn_r _ [14, 15, 16, 17, 9, 1, 18, 19, 20, 21, 22, 23, 6, 24, 25, 26, 27, 28, 29, 30, 31, 32, 33, 34, 35, 36, 37, 38, 39, 40, 41, 42, 43, 44, 45, 46, 47, 48, 49, 50, 51, 52, 53] (by decide +kernel) (by decide +kernel)
set_option maxRecDepth 20000 in
theorem gX7_readEnd_X7_go : GoodIn wsX7_readEnd (wsV RX7 105 RX7 yX7_go wsX7_go) := goodIn_app (goodIn_of _ (by decide +kernel)) ggX7_readEnd_X7_go
theorem dX7_readEnd_0 : decode cX7_readEnd 0 = .ok (.aload_n 0, 1) := by decide +kernel
theorem dX7_readEnd_1 : decode cX7_readEnd 1 = .ok (.getfield 27, 3) := by decide +kernel
theorem dX7_readEnd_4 : decode cX7_readEnd 4 = .ok (.iconst 4, 1) := by decide +kernel
theorem dX7_readEnd_5 : decode cX7_readEnd 5 = .ok (.if_icmp .eq 9, 3) := by decide +kernel
theorem dX7_readEnd_8 : decode cX7_readEnd 8 = .ok (.aload_n 0, 1) := by decide +kernel
theorem dX7_readEnd_9 : decode cX7_readEnd 9 = .ok (.iconst 1, 1) := by decide +kernel
theorem dX7_readEnd_10 : decode cX7_readEnd 10 = .ok (.invokevirtual 98, 3) := by decide +kernel
theorem dX7_readEnd_13 : decode cX7_readEnd 13 = .ok (.ireturn, 1) := by decide +kernel
theorem dX7_readEnd_14 : decode cX7_readEnd 14 = .ok (.aload_n 0, 1) := by decide +kernel
theorem dX7_readEnd_15 : decode cX7_readEnd 15 = .ok (.dup, 1) := by decide +kernel
theorem dX7_readEnd_16 : decode cX7_readEnd 16 = .ok (.getfield 108, 3) := by decide +kernel
theorem dX7_readEnd_19 : decode cX7_readEnd 19 = .ok (.iconst 1, 1) := by decide +kernel
theorem dX7_readEnd_20 : decode cX7_readEnd 20 = .ok (.iadd, 1) := by decide +kernel
theorem dX7_readEnd_21 : decode cX7_readEnd 21 = .ok (.putfield 108, 3) := by decide +kernel
theorem dX7_readEnd_24 : decode cX7_readEnd 24 = .ok (.aload_n 0, 1) := by decide +kernel
theorem dX7_readEnd_25 : decode cX7_readEnd 25 = .ok (.invokevirtual 105, 3) := by decide +kernel
theorem dX7_readEnd_28 : decode cX7_readEnd 28 = .ok (.iconst 1, 1) := by decide +kernel
theorem dX7_readEnd_29 : decode cX7_readEnd 29 = .ok (.ireturn, 1) := by decide +kernel
set_option maxRecDepth 20000 in
theorem ggX7_isCarrierWord_X7_five : GoodIn wsX7_isCarrierWord wsX7_five := goodIn_r _ [5, 6, 7, 8, 9, 4, 10, 1, 11, 12, 13] (by decide +kernel) (by decide +kernel)
set_option maxRecDepth 20000 in
theorem gX7_isCarrierWord_X7_five : GoodIn wsX7_isCarrierWord (va_wsS RX7 111 yX7_five wsX7_five) := goodIn_app (goodIn_of _ (by decide +kernel)) ggX7_isCarrierWord_X7_five
set_option maxRecDepth 20000 in
theorem ggX7_isCarrierWord_X7_two : GoodIn wsX7_isCarrierWord wsX7_two := goodIn_r _ [13, 6, 7] (by decide +kernel) (by decide +kernel)
set_option maxRecDepth 20000 in
theorem gX7_isCarrierWord_X7_two : GoodIn wsX7_isCarrierWord (va_wsS RX7 54 yX7_two wsX7_two) := goodIn_app (goodIn_of _ (by decide +kernel)) ggX7_isCarrierWord_X7_two
set_option maxRecDepth 20000 in
theorem ggX7_isCarrierWord_X7_isWord : GoodIn wsX7_isCarrierWord wsX7_isWord := goodIn_r _ [17, 18, 19, 20, 21, 22, 23, 24, 25, 26, 27, 28, 29, 30, 31, 32, 33, 34, 35, 36, 37, 38, 39, 40, 41] (by decide +kernel) (by decide +kernel)
set_option maxRecDepth 20000 in
theorem gX7_isCarrierWord_X7_isWord : GoodIn wsX7_isCarrierWord (wsV RX7 115 RX7 yX7_isWord wsX7_isWord) := goodIn_app (goodIn_of _ (by decide +kernel)) ggX7_isCarrierWord_X7_isWord
theorem dX7_isCarrierWord_0 : decode cX7_isCarrierWord 0 = .ok (.aload_n 0, 1) := by decide +kernel
theorem dX7_isCarrierWord_1 : decode cX7_isCarrierWord 1 = .ok (.ldc2_w 52, 3) := by decide +kernel
theorem dX7_isCarrierWord_4 : decode cX7_isCarrierWord 4 = .ok (.bipush 99, 2) := by decide +kernel
theorem dX7_isCarrierWord_6 : decode cX7_isCarrierWord 6 = .ok (.bipush 97, 2) := by decide +kernel
theorem dX7_isCarrierWord_8 : decode cX7_isCarrierWord 8 = .ok (.bipush 114, 2) := by decide +kernel
theorem dX7_isCarrierWord_10 : decode cX7_isCarrierWord 10 = .ok (.bipush 114, 2) := by decide +kernel
theorem dX7_isCarrierWord_12 : decode cX7_isCarrierWord 12 = .ok (.bipush 105, 2) := by decide +kernel
theorem dX7_isCarrierWord_14 : decode cX7_isCarrierWord 14 = .ok (.invokestatic 111, 3) := by decide +kernel
theorem dX7_isCarrierWord_17 : decode cX7_isCarrierWord 17 = .ok (.lmul, 1) := by decide +kernel
theorem dX7_isCarrierWord_18 : decode cX7_isCarrierWord 18 = .ok (.bipush 101, 2) := by decide +kernel
theorem dX7_isCarrierWord_20 : decode cX7_isCarrierWord 20 = .ok (.bipush 114, 2) := by decide +kernel
theorem dX7_isCarrierWord_22 : decode cX7_isCarrierWord 22 = .ok (.invokestatic 54, 3) := by decide +kernel
theorem dX7_isCarrierWord_25 : decode cX7_isCarrierWord 25 = .ok (.ladd, 1) := by decide +kernel
theorem dX7_isCarrierWord_26 : decode cX7_isCarrierWord 26 = .ok (.invokevirtual 115, 3) := by decide +kernel
theorem dX7_isCarrierWord_29 : decode cX7_isCarrierWord 29 = .ok (.ireturn, 1) := by decide +kernel
set_option maxRecDepth 20000 in
theorem ggX7_isBreakWord_X7_five : GoodIn wsX7_isBreakWord wsX7_five := goodIn_r _ [4, 5, 6, 7, 8, 3, 9, 10, 11, 12, 13] (by decide +kernel) (by decide +kernel)
set_option maxRecDepth 20000 in
theorem gX7_isBreakWord_X7_five : GoodIn wsX7_isBreakWord (va_wsS RX7 111 yX7_five wsX7_five) := goodIn_app (goodIn_of _ (by decide +kernel)) ggX7_isBreakWord_X7_five
set_option maxRecDepth 20000 in
theorem ggX7_isBreakWord_X7_isWord : GoodIn wsX7_isBreakWord wsX7_isWord := goodIn_r _ [17, 18, 19, 20, 21, 22, 23, 24, 25, 26, 27, 28, 29, 30, 31, 32, 33, 34, 35, 36, 37, 38, 39, 40, 41] (by decide +kernel) (by decide +kernel)
set_option maxRecDepth 20000 in
theorem gX7_isBreakWord_X7_isWord : GoodIn wsX7_isBreakWord (wsV RX7 115 RX7 yX7_isWord wsX7_isWord) := goodIn_app (goodIn_of _ (by decide +kernel)) ggX7_isBreakWord_X7_isWord
theorem dX7_isBreakWord_0 : decode cX7_isBreakWord 0 = .ok (.aload_n 0, 1) := by decide +kernel
theorem dX7_isBreakWord_1 : decode cX7_isBreakWord 1 = .ok (.bipush 98, 2) := by decide +kernel
theorem dX7_isBreakWord_3 : decode cX7_isBreakWord 3 = .ok (.bipush 114, 2) := by decide +kernel
theorem dX7_isBreakWord_5 : decode cX7_isBreakWord 5 = .ok (.bipush 101, 2) := by decide +kernel
theorem dX7_isBreakWord_7 : decode cX7_isBreakWord 7 = .ok (.bipush 97, 2) := by decide +kernel
theorem dX7_isBreakWord_9 : decode cX7_isBreakWord 9 = .ok (.bipush 107, 2) := by decide +kernel
theorem dX7_isBreakWord_11 : decode cX7_isBreakWord 11 = .ok (.invokestatic 111, 3) := by decide +kernel
theorem dX7_isBreakWord_14 : decode cX7_isBreakWord 14 = .ok (.invokevirtual 115, 3) := by decide +kernel
theorem dX7_isBreakWord_17 : decode cX7_isBreakWord 17 = .ok (.ireturn, 1) := by decide +kernel
set_option maxRecDepth 20000 in
theorem ggX7_isZonesWord_X7_five : GoodIn wsX7_isZonesWord wsX7_five := goodIn_r _ [4, 5, 6, 7, 8, 3, 9, 10, 11, 12, 13] (by decide +kernel) (by decide +kernel)
set_option maxRecDepth 20000 in
theorem gX7_isZonesWord_X7_five : GoodIn wsX7_isZonesWord (va_wsS RX7 111 yX7_five wsX7_five) := goodIn_app (goodIn_of _ (by decide +kernel)) ggX7_isZonesWord_X7_five
set_option maxRecDepth 20000 in
theorem ggX7_isZonesWord_X7_isWord : GoodIn wsX7_isZonesWord wsX7_isWord := goodIn_r _ [17, 18, 19, 20, 21, 22, 23, 24, 25, 26, 27, 28, 29, 30, 31, 32, 33, 34, 35, 36, 37, 38, 39, 40, 41] (by decide +kernel) (by decide +kernel)
set_option maxRecDepth 20000 in
theorem gX7_isZonesWord_X7_isWord : GoodIn wsX7_isZonesWord (wsV RX7 115 RX7 yX7_isWord wsX7_isWord) := goodIn_app (goodIn_of _ (by decide +kernel)) ggX7_isZonesWord_X7_isWord
theorem dX7_isZonesWord_0 : decode cX7_isZonesWord 0 = .ok (.aload_n 0, 1) := by decide +kernel
theorem dX7_isZonesWord_1 : decode cX7_isZonesWord 1 = .ok (.bipush 122, 2) := by decide +kernel
theorem dX7_isZonesWord_3 : decode cX7_isZonesWord 3 = .ok (.bipush 111, 2) := by decide +kernel
theorem dX7_isZonesWord_5 : decode cX7_isZonesWord 5 = .ok (.bipush 110, 2) := by decide +kernel
theorem dX7_isZonesWord_7 : decode cX7_isZonesWord 7 = .ok (.bipush 101, 2) := by decide +kernel
theorem dX7_isZonesWord_9 : decode cX7_isZonesWord 9 = .ok (.bipush 115, 2) := by decide +kernel
theorem dX7_isZonesWord_11 : decode cX7_isZonesWord 11 = .ok (.invokestatic 111, 3) := by decide +kernel
theorem dX7_isZonesWord_14 : decode cX7_isZonesWord 14 = .ok (.invokevirtual 115, 3) := by decide +kernel
theorem dX7_isZonesWord_17 : decode cX7_isZonesWord 17 = .ok (.ireturn, 1) := by decide +kernel
set_option maxRecDepth 20000 in
theorem ggX7_readBreak_X7_isBreakWord : GoodIn wsX7_readBreak wsX7_isBreakWord := goodIn_r _ [6, 7, 8, 5, 9, 10, 11, 12, 13, 14, 15, 16, 17, 18, 19, 20, 21, 22, 23, 24, 62, 63, 64, 65, 66, 67, 68, 69, 70, 71, 72, 73, 74, 75, 76, 77, 78, 79, 80, 81, 82, 83] (by decide +kernel) (by decide +kernel)
set_option maxRecDepth 20000 in
theorem gX7_readBreak_X7_isBreakWord : GoodIn wsX7_readBreak (wsV RX7 119 RX7 yX7_isBreakWord wsX7_isBreakWord) := goodIn_app (goodIn_of _ (by decide +kernel)) ggX7_readBreak_X7_isBreakWord
set_option maxRecDepth 20000 in
theorem ggX7_readBreak_X7_bad : GoodIn wsX7_readBreak wsX7_bad := goodIn_r _ [28, 23, 29, 30, 31, 62, 63, 64, 65, 66, 67, 68, 69, 70, 71, 72, 73, 74, 75, 76, 77, 78, 79, 80, 81, 82, 83] (by decide +kernel) (by decide +kernel)
set_option maxRecDepth 20000 in
theorem gX7_readBreak_X7_bad : GoodIn wsX7_readBreak (wsV RX7 98 RX7 yX7_bad wsX7_bad) := goodIn_app (goodIn_of _ (by decide +kernel)) ggX7_readBreak_X7_bad
set_option maxRecDepth 20000 in
theorem ggX7_readBreak_X7_go : GoodIn wsX7_readBreak wsX7_go := goodIn_r _ [35, 36, 37, 38, 30, 23, 24, 39, 10, 11, 40, 41, 5, 42, 43, 44, 45, 46, 47, 48, 49, 62, 63, 64, 65, 66, 67, 68, 69, 70, 71, 72, 73, 74, 75, 76, 77, 78, 79, 80, 81, 82, 83] (by decide +kernel) (by decide +kernel)
set_option maxRecDepth 20000 in
theorem gX7_readBreak_X7_go : GoodIn wsX7_readBreak (wsV RX7 105 RX7 yX7_go wsX7_go) := goodIn_app (goodIn_of _ (by decide +kernel)) ggX7_readBreak_X7_go
set_option maxRecDepth 20000 in
theorem ggX7_readBreak_X7_told : GoodIn wsX7_readBreak wsX7_told := goodIn_r _ [53, 23, 39, 1, 25, 26, 27, 5, 28, 29, 30, 31, 54, 55, 56, 32, 33, 34, 35, 36, 37, 38, 24, 10, 11, 40, 41, 42, 43, 44, 45, 46, 47, 48, 49, 62, 63, 64, 65, 66, 67, 68, 69, 70, 71, 72, 73, 74, 75, 76, 77, 78, 79, 80, 81, 82, 83] (by decide +kernel) (by decide +kernel)
set_option maxRecDepth 20000 in
theorem gX7_readBreak_X7_told : GoodIn wsX7_readBreak (wsV RX7 123 RX7 yX7_told wsX7_told) := goodIn_app (goodIn_of _ (by decide +kernel)) ggX7_readBreak_X7_told
set_option maxRecDepth 20000 in
theorem ggX7_readBreak_X7_readEnd : GoodIn wsX7_readBreak wsX7_readEnd := goodIn_r _ [60, 23, 61, 25, 26, 27, 5, 28, 29, 30, 31, 32, 33, 34, 35, 36, 37, 38, 24, 39, 10, 11, 40, 41, 42, 43, 44, 45, 46, 47, 48, 49, 62, 63, 64, 65, 66, 67, 68, 69, 70, 71, 72, 73, 74, 75, 76, 77, 78, 79, 80, 81, 82, 83] (by decide +kernel) (by decide +kernel)
set_option maxRecDepth 20000 in
theorem gX7_readBreak_X7_readEnd : GoodIn wsX7_readBreak (wsV RX7 126 RX7 yX7_readEnd wsX7_readEnd) := goodIn_app (goodIn_of _ (by decide +kernel)) ggX7_readBreak_X7_readEnd
theorem dX7_readBreak_0 : decode cX7_readBreak 0 = .ok (.aload_n 0, 1) := by decide +kernel
theorem dX7_readBreak_1 : decode cX7_readBreak 1 = .ok (.invokevirtual 119, 3) := by decide +kernel
theorem dX7_readBreak_4 : decode cX7_readBreak 4 = .ok (.ifCond .ne 9, 3) := by decide +kernel
theorem dX7_readBreak_7 : decode cX7_readBreak 7 = .ok (.aload_n 0, 1) := by decide +kernel
theorem dX7_readBreak_8 : decode cX7_readBreak 8 = .ok (.iconst 1, 1) := by decide +kernel
theorem dX7_readBreak_9 : decode cX7_readBreak 9 = .ok (.invokevirtual 98, 3) := by decide +kernel
theorem dX7_readBreak_12 : decode cX7_readBreak 12 = .ok (.ireturn, 1) := by decide +kernel
theorem dX7_readBreak_13 : decode cX7_readBreak 13 = .ok (.aload_n 0, 1) := by decide +kernel
theorem dX7_readBreak_14 : decode cX7_readBreak 14 = .ok (.getfield 77, 3) := by decide +kernel
theorem dX7_readBreak_17 : decode cX7_readBreak 17 = .ok (.iload_n 1, 1) := by decide +kernel
theorem dX7_readBreak_18 : decode cX7_readBreak 18 = .ok (.bipush 6, 2) := by decide +kernel
theorem dX7_readBreak_20 : decode cX7_readBreak 20 = .ok (.iadd, 1) := by decide +kernel
theorem dX7_readBreak_21 : decode cX7_readBreak 21 = .ok (.iaload, 1) := by decide +kernel
theorem dX7_readBreak_22 : decode cX7_readBreak 22 = .ok (.istore_n 2, 1) := by decide +kernel
theorem dX7_readBreak_23 : decode cX7_readBreak 23 = .ok (.iload_n 2, 1) := by decide +kernel
theorem dX7_readBreak_24 : decode cX7_readBreak 24 = .ok (.iconst 5, 1) := by decide +kernel
theorem dX7_readBreak_25 : decode cX7_readBreak 25 = .ok (.if_icmp .ne 9, 3) := by decide +kernel
theorem dX7_readBreak_28 : decode cX7_readBreak 28 = .ok (.aload_n 0, 1) := by decide +kernel
theorem dX7_readBreak_29 : decode cX7_readBreak 29 = .ok (.iconst 3, 1) := by decide +kernel
theorem dX7_readBreak_30 : decode cX7_readBreak 30 = .ok (.invokevirtual 98, 3) := by decide +kernel
theorem dX7_readBreak_33 : decode cX7_readBreak 33 = .ok (.ireturn, 1) := by decide +kernel
theorem dX7_readBreak_34 : decode cX7_readBreak 34 = .ok (.aload_n 0, 1) := by decide +kernel
theorem dX7_readBreak_35 : decode cX7_readBreak 35 = .ok (.invokevirtual 105, 3) := by decide +kernel
theorem dX7_readBreak_38 : decode cX7_readBreak 38 = .ok (.iload_n 1, 1) := by decide +kernel
theorem dX7_readBreak_39 : decode cX7_readBreak 39 = .ok (.bipush 7, 2) := by decide +kernel
theorem dX7_readBreak_41 : decode cX7_readBreak 41 = .ok (.iadd, 1) := by decide +kernel
theorem dX7_readBreak_42 : decode cX7_readBreak 42 = .ok (.iconst 4, 1) := by decide +kernel
theorem dX7_readBreak_43 : decode cX7_readBreak 43 = .ok (.iload_n 2, 1) := by decide +kernel
theorem dX7_readBreak_44 : decode cX7_readBreak 44 = .ok (.imul, 1) := by decide +kernel
theorem dX7_readBreak_45 : decode cX7_readBreak 45 = .ok (.iadd, 1) := by decide +kernel
theorem dX7_readBreak_46 : decode cX7_readBreak 46 = .ok (.istore_n 3, 1) := by decide +kernel
theorem dX7_readBreak_47 : decode cX7_readBreak 47 = .ok (.aload_n 0, 1) := by decide +kernel
theorem dX7_readBreak_48 : decode cX7_readBreak 48 = .ok (.iload_n 3, 1) := by decide +kernel
theorem dX7_readBreak_49 : decode cX7_readBreak 49 = .ok (.iload_n 2, 1) := by decide +kernel
theorem dX7_readBreak_50 : decode cX7_readBreak 50 = .ok (.ifCond .ne 7, 3) := by decide +kernel
theorem dX7_readBreak_53 : decode cX7_readBreak 53 = .ok (.iconst 1, 1) := by decide +kernel
theorem dX7_readBreak_54 : decode cX7_readBreak 54 = .ok (.goto 13, 3) := by decide +kernel
theorem dX7_readBreak_57 : decode cX7_readBreak 57 = .ok (.aload_n 0, 1) := by decide +kernel
theorem dX7_readBreak_58 : decode cX7_readBreak 58 = .ok (.getfield 77, 3) := by decide +kernel
theorem dX7_readBreak_61 : decode cX7_readBreak 61 = .ok (.iload_n 3, 1) := by decide +kernel
theorem dX7_readBreak_62 : decode cX7_readBreak 62 = .ok (.iconst 4, 1) := by decide +kernel
theorem dX7_readBreak_63 : decode cX7_readBreak 63 = .ok (.isub, 1) := by decide +kernel
theorem dX7_readBreak_64 : decode cX7_readBreak 64 = .ok (.iaload, 1) := by decide +kernel
theorem dX7_readBreak_65 : decode cX7_readBreak 65 = .ok (.iconst 1, 1) := by decide +kernel
theorem dX7_readBreak_66 : decode cX7_readBreak 66 = .ok (.iadd, 1) := by decide +kernel
theorem dX7_readBreak_67 : decode cX7_readBreak 67 = .ok (.bipush 99, 2) := by decide +kernel
theorem dX7_readBreak_69 : decode cX7_readBreak 69 = .ok (.invokevirtual 123, 3) := by decide +kernel
theorem dX7_readBreak_72 : decode cX7_readBreak 72 = .ok (.ifCond .ne 5, 3) := by decide +kernel
theorem dX7_readBreak_75 : decode cX7_readBreak 75 = .ok (.iconst 0, 1) := by decide +kernel
theorem dX7_readBreak_76 : decode cX7_readBreak 76 = .ok (.ireturn, 1) := by decide +kernel
theorem dX7_readBreak_77 : decode cX7_readBreak 77 = .ok (.iconst 1, 1) := by decide +kernel
theorem dX7_readBreak_78 : decode cX7_readBreak 78 = .ok (.istore 4, 2) := by decide +kernel
theorem dX7_readBreak_80 : decode cX7_readBreak 80 = .ok (.iload 4, 2) := by decide +kernel
theorem dX7_readBreak_82 : decode cX7_readBreak 82 = .ok (.iconst 4, 1) := by decide +kernel
theorem dX7_readBreak_83 : decode cX7_readBreak 83 = .ok (.if_icmp .ge 26, 3) := by decide +kernel
theorem dX7_readBreak_86 : decode cX7_readBreak 86 = .ok (.aload_n 0, 1) := by decide +kernel
theorem dX7_readBreak_87 : decode cX7_readBreak 87 = .ok (.iload_n 3, 1) := by decide +kernel
theorem dX7_readBreak_88 : decode cX7_readBreak 88 = .ok (.iload 4, 2) := by decide +kernel
theorem dX7_readBreak_90 : decode cX7_readBreak 90 = .ok (.iadd, 1) := by decide +kernel
theorem dX7_readBreak_91 : decode cX7_readBreak 91 = .ok (.iconst 0, 1) := by decide +kernel
theorem dX7_readBreak_92 : decode cX7_readBreak 92 = .ok (.sipush 999, 3) := by decide +kernel
theorem dX7_readBreak_95 : decode cX7_readBreak 95 = .ok (.invokevirtual 123, 3) := by decide +kernel
theorem dX7_readBreak_98 : decode cX7_readBreak 98 = .ok (.ifCond .ne 5, 3) := by decide +kernel
theorem dX7_readBreak_101 : decode cX7_readBreak 101 = .ok (.iconst 0, 1) := by decide +kernel
theorem dX7_readBreak_102 : decode cX7_readBreak 102 = .ok (.ireturn, 1) := by decide +kernel
theorem dX7_readBreak_103 : decode cX7_readBreak 103 = .ok (.iinc 4 1, 3) := by decide +kernel
theorem dX7_readBreak_106 : decode cX7_readBreak 106 = .ok (.goto (-26), 3) := by decide +kernel
theorem dX7_readBreak_109 : decode cX7_readBreak 109 = .ok (.aload_n 0, 1) := by decide +kernel
theorem dX7_readBreak_110 : decode cX7_readBreak 110 = .ok (.getfield 77, 3) := by decide +kernel
theorem dX7_readBreak_113 : decode cX7_readBreak 113 = .ok (.iload_n 1, 1) := by decide +kernel
theorem dX7_readBreak_114 : decode cX7_readBreak 114 = .ok (.bipush 6, 2) := by decide +kernel
theorem dX7_readBreak_116 : decode cX7_readBreak 116 = .ok (.iadd, 1) := by decide +kernel
theorem dX7_readBreak_117 : decode cX7_readBreak 117 = .ok (.dup2, 1) := by decide +kernel
theorem dX7_readBreak_118 : decode cX7_readBreak 118 = .ok (.iaload, 1) := by decide +kernel
theorem dX7_readBreak_119 : decode cX7_readBreak 119 = .ok (.iconst 1, 1) := by decide +kernel
theorem dX7_readBreak_120 : decode cX7_readBreak 120 = .ok (.iadd, 1) := by decide +kernel
theorem dX7_readBreak_121 : decode cX7_readBreak 121 = .ok (.iastore, 1) := by decide +kernel
theorem dX7_readBreak_122 : decode cX7_readBreak 122 = .ok (.aload_n 0, 1) := by decide +kernel
theorem dX7_readBreak_123 : decode cX7_readBreak 123 = .ok (.invokevirtual 126, 3) := by decide +kernel
theorem dX7_readBreak_126 : decode cX7_readBreak 126 = .ok (.ireturn, 1) := by decide +kernel
set_option maxRecDepth 20000 in
theorem ggX7_readZones_X7_isZonesWord : GoodIn wsX7_readZones wsX7_isZonesWord := goodIn_r _ [6, 7, 8, 5, 9, 10, 11, 12, 13, 14, 15, 16, 17, 18, 19, 20, 21, 22, 23, 24, 62, 63, 64, 65, 66, 67, 68, 69, 70, 71, 72, 73, 74, 75, 76, 77, 78, 79, 80, 81, 82, 83] (by decide +kernel) (by decide +kernel)
set_option maxRecDepth 20000 in
theorem gX7_readZones_X7_isZonesWord : GoodIn wsX7_readZones (wsV RX7 129 RX7 yX7_isZonesWord wsX7_isZonesWord) := goodIn_app (goodIn_of _ (by decide +kernel)) ggX7_readZones_X7_isZonesWord
set_option maxRecDepth 20000 in
theorem ggX7_readZones_X7_bad : GoodIn wsX7_readZones wsX7_bad := goodIn_r _ [28, 23, 29, 30, 31, 62, 63, 64, 65, 66, 67, 68, 69, 70, 71, 72, 73, 74, 75, 76, 77, 78, 79, 80, 81, 82, 83] (by decide +kernel) (by decide +kernel)
set_option maxRecDepth 20000 in
theorem gX7_readZones_X7_bad : GoodIn wsX7_readZones (wsV RX7 98 RX7 yX7_bad wsX7_bad) := goodIn_app (goodIn_of _ (by decide +kernel)) ggX7_readZones_X7_bad
set_option maxRecDepth 20000 in
theorem ggX7_readZones_X7_go : GoodIn wsX7_readZones wsX7_go := goodIn_r _ [35, 36, 37, 38, 30, 23, 24, 39, 10, 11, 40, 41, 5, 42, 43, 44, 45, 46, 47, 48, 49, 62, 63, 64, 65, 66, 67, 68, 69, 70, 71, 72, 73, 74, 75, 76, 77, 78, 79, 80, 81, 82, 83] (by decide +kernel) (by decide +kernel)
set_option maxRecDepth 20000 in
theorem gX7_readZones_X7_go : GoodIn wsX7_readZones (wsV RX7 105 RX7 yX7_go wsX7_go) := goodIn_app (goodIn_of _ (by decide +kernel)) ggX7_readZones_X7_go
set_option maxRecDepth 20000 in
theorem ggX7_readZones_X7_told : GoodIn wsX7_readZones wsX7_told := goodIn_r _ [53, 23, 39, 1, 25, 26, 27, 5, 28, 29, 30, 31, 54, 55, 56, 32, 33, 34, 35, 36, 37, 38, 24, 10, 11, 40, 41, 42, 43, 44, 45, 46, 47, 48, 49, 62, 63, 64, 65, 66, 67, 68, 69, 70, 71, 72, 73, 74, 75, 76, 77, 78, 79, 80, 81, 82, 83] (by decide +kernel) (by decide +kernel)
set_option maxRecDepth 20000 in
theorem gX7_readZones_X7_told : GoodIn wsX7_readZones (wsV RX7 123 RX7 yX7_told wsX7_told) := goodIn_app (goodIn_of _ (by decide +kernel)) ggX7_readZones_X7_told
set_option maxRecDepth 20000 in
theorem ggX7_readZones_X7_readEnd : GoodIn wsX7_readZones wsX7_readEnd := goodIn_r _ [60, 23, 61, 25, 26, 27, 5, 28, 29, 30, 31, 32, 33, 34, 35, 36, 37, 38, 24, 39, 10, 11, 40, 41, 42, 43, 44, 45, 46, 47, 48, 49, 62, 63, 64, 65, 66, 67, 68, 69, 70, 71, 72, 73, 74, 75, 76, 77, 78, 79, 80, 81, 82, 83] (by decide +kernel) (by decide +kernel)
set_option maxRecDepth 20000 in
theorem gX7_readZones_X7_readEnd : GoodIn wsX7_readZones (wsV RX7 126 RX7 yX7_readEnd wsX7_readEnd) := goodIn_app (goodIn_of _ (by decide +kernel)) ggX7_readZones_X7_readEnd
theorem dX7_readZones_0 : decode cX7_readZones 0 = .ok (.aload_n 0, 1) := by decide +kernel
theorem dX7_readZones_1 : decode cX7_readZones 1 = .ok (.invokevirtual 129, 3) := by decide +kernel
theorem dX7_readZones_4 : decode cX7_readZones 4 = .ok (.ifCond .ne 9, 3) := by decide +kernel
theorem dX7_readZones_7 : decode cX7_readZones 7 = .ok (.aload_n 0, 1) := by decide +kernel
theorem dX7_readZones_8 : decode cX7_readZones 8 = .ok (.iconst 1, 1) := by decide +kernel
theorem dX7_readZones_9 : decode cX7_readZones 9 = .ok (.invokevirtual 98, 3) := by decide +kernel
theorem dX7_readZones_12 : decode cX7_readZones 12 = .ok (.ireturn, 1) := by decide +kernel
theorem dX7_readZones_13 : decode cX7_readZones 13 = .ok (.aload_n 0, 1) := by decide +kernel
theorem dX7_readZones_14 : decode cX7_readZones 14 = .ok (.getfield 77, 3) := by decide +kernel
theorem dX7_readZones_17 : decode cX7_readZones 17 = .ok (.iload_n 1, 1) := by decide +kernel
theorem dX7_readZones_18 : decode cX7_readZones 18 = .ok (.bipush 27, 2) := by decide +kernel
theorem dX7_readZones_20 : decode cX7_readZones 20 = .ok (.iadd, 1) := by decide +kernel
theorem dX7_readZones_21 : decode cX7_readZones 21 = .ok (.iaload, 1) := by decide +kernel
theorem dX7_readZones_22 : decode cX7_readZones 22 = .ok (.istore_n 2, 1) := by decide +kernel
theorem dX7_readZones_23 : decode cX7_readZones 23 = .ok (.iload_n 2, 1) := by decide +kernel
theorem dX7_readZones_24 : decode cX7_readZones 24 = .ok (.iconst 3, 1) := by decide +kernel
theorem dX7_readZones_25 : decode cX7_readZones 25 = .ok (.if_icmp .ne 9, 3) := by decide +kernel
theorem dX7_readZones_28 : decode cX7_readZones 28 = .ok (.aload_n 0, 1) := by decide +kernel
theorem dX7_readZones_29 : decode cX7_readZones 29 = .ok (.iconst 3, 1) := by decide +kernel
theorem dX7_readZones_30 : decode cX7_readZones 30 = .ok (.invokevirtual 98, 3) := by decide +kernel
theorem dX7_readZones_33 : decode cX7_readZones 33 = .ok (.ireturn, 1) := by decide +kernel
theorem dX7_readZones_34 : decode cX7_readZones 34 = .ok (.aload_n 0, 1) := by decide +kernel
theorem dX7_readZones_35 : decode cX7_readZones 35 = .ok (.invokevirtual 105, 3) := by decide +kernel
theorem dX7_readZones_38 : decode cX7_readZones 38 = .ok (.iload_n 1, 1) := by decide +kernel
theorem dX7_readZones_39 : decode cX7_readZones 39 = .ok (.bipush 28, 2) := by decide +kernel
theorem dX7_readZones_41 : decode cX7_readZones 41 = .ok (.iadd, 1) := by decide +kernel
theorem dX7_readZones_42 : decode cX7_readZones 42 = .ok (.iconst 5, 1) := by decide +kernel
theorem dX7_readZones_43 : decode cX7_readZones 43 = .ok (.iload_n 2, 1) := by decide +kernel
theorem dX7_readZones_44 : decode cX7_readZones 44 = .ok (.imul, 1) := by decide +kernel
theorem dX7_readZones_45 : decode cX7_readZones 45 = .ok (.iadd, 1) := by decide +kernel
theorem dX7_readZones_46 : decode cX7_readZones 46 = .ok (.istore_n 3, 1) := by decide +kernel
theorem dX7_readZones_47 : decode cX7_readZones 47 = .ok (.aload_n 0, 1) := by decide +kernel
theorem dX7_readZones_48 : decode cX7_readZones 48 = .ok (.iload_n 3, 1) := by decide +kernel
theorem dX7_readZones_49 : decode cX7_readZones 49 = .ok (.iload_n 2, 1) := by decide +kernel
theorem dX7_readZones_50 : decode cX7_readZones 50 = .ok (.ifCond .ne 7, 3) := by decide +kernel
theorem dX7_readZones_53 : decode cX7_readZones 53 = .ok (.iconst 0, 1) := by decide +kernel
theorem dX7_readZones_54 : decode cX7_readZones 54 = .ok (.goto 13, 3) := by decide +kernel
theorem dX7_readZones_57 : decode cX7_readZones 57 = .ok (.aload_n 0, 1) := by decide +kernel
theorem dX7_readZones_58 : decode cX7_readZones 58 = .ok (.getfield 77, 3) := by decide +kernel
theorem dX7_readZones_61 : decode cX7_readZones 61 = .ok (.iload_n 3, 1) := by decide +kernel
theorem dX7_readZones_62 : decode cX7_readZones 62 = .ok (.iconst 5, 1) := by decide +kernel
theorem dX7_readZones_63 : decode cX7_readZones 63 = .ok (.isub, 1) := by decide +kernel
theorem dX7_readZones_64 : decode cX7_readZones 64 = .ok (.iaload, 1) := by decide +kernel
theorem dX7_readZones_65 : decode cX7_readZones 65 = .ok (.iconst 1, 1) := by decide +kernel
theorem dX7_readZones_66 : decode cX7_readZones 66 = .ok (.iadd, 1) := by decide +kernel
theorem dX7_readZones_67 : decode cX7_readZones 67 = .ok (.iload_n 2, 1) := by decide +kernel
theorem dX7_readZones_68 : decode cX7_readZones 68 = .ok (.ifCond .ne 7, 3) := by decide +kernel
theorem dX7_readZones_71 : decode cX7_readZones 71 = .ok (.iconst 0, 1) := by decide +kernel
theorem dX7_readZones_72 : decode cX7_readZones 72 = .ok (.goto 5, 3) := by decide +kernel
theorem dX7_readZones_75 : decode cX7_readZones 75 = .ok (.bipush 99, 2) := by decide +kernel
theorem dX7_readZones_77 : decode cX7_readZones 77 = .ok (.invokevirtual 123, 3) := by decide +kernel
theorem dX7_readZones_80 : decode cX7_readZones 80 = .ok (.ifCond .ne 5, 3) := by decide +kernel
theorem dX7_readZones_83 : decode cX7_readZones 83 = .ok (.iconst 0, 1) := by decide +kernel
theorem dX7_readZones_84 : decode cX7_readZones 84 = .ok (.ireturn, 1) := by decide +kernel
theorem dX7_readZones_85 : decode cX7_readZones 85 = .ok (.iconst 1, 1) := by decide +kernel
theorem dX7_readZones_86 : decode cX7_readZones 86 = .ok (.istore 4, 2) := by decide +kernel
theorem dX7_readZones_88 : decode cX7_readZones 88 = .ok (.iload 4, 2) := by decide +kernel
theorem dX7_readZones_90 : decode cX7_readZones 90 = .ok (.iconst 5, 1) := by decide +kernel
theorem dX7_readZones_91 : decode cX7_readZones 91 = .ok (.if_icmp .ge 24, 3) := by decide +kernel
theorem dX7_readZones_94 : decode cX7_readZones 94 = .ok (.aload_n 0, 1) := by decide +kernel
theorem dX7_readZones_95 : decode cX7_readZones 95 = .ok (.iload_n 3, 1) := by decide +kernel
theorem dX7_readZones_96 : decode cX7_readZones 96 = .ok (.iload 4, 2) := by decide +kernel
theorem dX7_readZones_98 : decode cX7_readZones 98 = .ok (.iadd, 1) := by decide +kernel
theorem dX7_readZones_99 : decode cX7_readZones 99 = .ok (.iconst 0, 1) := by decide +kernel
theorem dX7_readZones_100 : decode cX7_readZones 100 = .ok (.iconst 3, 1) := by decide +kernel
theorem dX7_readZones_101 : decode cX7_readZones 101 = .ok (.invokevirtual 123, 3) := by decide +kernel
theorem dX7_readZones_104 : decode cX7_readZones 104 = .ok (.ifCond .ne 5, 3) := by decide +kernel
theorem dX7_readZones_107 : decode cX7_readZones 107 = .ok (.iconst 0, 1) := by decide +kernel
theorem dX7_readZones_108 : decode cX7_readZones 108 = .ok (.ireturn, 1) := by decide +kernel
theorem dX7_readZones_109 : decode cX7_readZones 109 = .ok (.iinc 4 1, 3) := by decide +kernel
theorem dX7_readZones_112 : decode cX7_readZones 112 = .ok (.goto (-24), 3) := by decide +kernel
theorem dX7_readZones_115 : decode cX7_readZones 115 = .ok (.aload_n 0, 1) := by decide +kernel
theorem dX7_readZones_116 : decode cX7_readZones 116 = .ok (.getfield 77, 3) := by decide +kernel
theorem dX7_readZones_119 : decode cX7_readZones 119 = .ok (.iload_n 1, 1) := by decide +kernel
theorem dX7_readZones_120 : decode cX7_readZones 120 = .ok (.bipush 27, 2) := by decide +kernel
theorem dX7_readZones_122 : decode cX7_readZones 122 = .ok (.iadd, 1) := by decide +kernel
theorem dX7_readZones_123 : decode cX7_readZones 123 = .ok (.dup2, 1) := by decide +kernel
theorem dX7_readZones_124 : decode cX7_readZones 124 = .ok (.iaload, 1) := by decide +kernel
theorem dX7_readZones_125 : decode cX7_readZones 125 = .ok (.iconst 1, 1) := by decide +kernel
theorem dX7_readZones_126 : decode cX7_readZones 126 = .ok (.iadd, 1) := by decide +kernel
theorem dX7_readZones_127 : decode cX7_readZones 127 = .ok (.iastore, 1) := by decide +kernel
theorem dX7_readZones_128 : decode cX7_readZones 128 = .ok (.aload_n 0, 1) := by decide +kernel
theorem dX7_readZones_129 : decode cX7_readZones 129 = .ok (.invokevirtual 126, 3) := by decide +kernel
theorem dX7_readZones_132 : decode cX7_readZones 132 = .ok (.ireturn, 1) := by decide +kernel
set_option maxRecDepth 20000 in
theorem ggX7_readCarrier_X7_isCarrierWord : GoodIn wsX7_readCarrier wsX7_isCarrierWord := goodIn_r _ [6, 7, 8, 9, 5, 10, 11, 12, 13, 14, 15, 16, 17, 18, 19, 20, 21, 22, 23, 24, 78, 79, 80, 81, 82, 83, 84, 85, 86, 87, 88, 89, 90, 91, 92, 93, 94, 95, 96, 97, 98, 99] (by decide +kernel) (by decide +kernel)
set_option maxRecDepth 20000 in
theorem gX7_readCarrier_X7_isCarrierWord : GoodIn wsX7_readCarrier (wsV RX7 132 RX7 yX7_isCarrierWord wsX7_isCarrierWord) := goodIn_app (goodIn_of _ (by decide +kernel)) ggX7_readCarrier_X7_isCarrierWord
set_option maxRecDepth 20000 in
theorem ggX7_readCarrier_X7_bad : GoodIn wsX7_readCarrier wsX7_bad := goodIn_r _ [28, 23, 29, 30, 31, 78, 79, 80, 81, 82, 83, 84, 85, 86, 87, 88, 89, 90, 91, 92, 93, 94, 95, 96, 97, 98, 99] (by decide +kernel) (by decide +kernel)
set_option maxRecDepth 20000 in
theorem gX7_readCarrier_X7_bad : GoodIn wsX7_readCarrier (wsV RX7 98 RX7 yX7_bad wsX7_bad) := goodIn_app (goodIn_of _ (by decide +kernel)) ggX7_readCarrier_X7_bad
set_option maxRecDepth 20000 in
theorem ggX7_readCarrier_X7_go : GoodIn wsX7_readCarrier wsX7_go := goodIn_r _ [35, 36, 37, 38, 30, 23, 24, 39, 11, 12, 40, 41, 5, 42, 43, 44, 45, 46, 47, 48, 49, 78, 79, 80, 81, 82, 83, 84, 85, 86, 87, 88, 89, 90, 91, 92, 93, 94, 95, 96, 97, 98, 99] (by decide +kernel) (by decide +kernel)
set_option maxRecDepth 20000 in
theorem gX7_readCarrier_X7_go : GoodIn wsX7_readCarrier (wsV RX7 105 RX7 yX7_go wsX7_go) := goodIn_app (goodIn_of _ (by decide +kernel)) ggX7_readCarrier_X7_go
set_option maxRecDepth 20000 in
theorem ggX7_readCarrier_X7_told : GoodIn wsX7_readCarrier wsX7_told := goodIn_r _ [53, 23, 39, 1, 25, 26, 27, 5, 28, 29, 30, 31, 54, 55, 56, 32, 33, 34, 35, 36, 37, 38, 24, 11, 12, 40, 41, 42, 43, 44, 45, 46, 47, 48, 49, 78, 79, 80, 81, 82, 83, 84, 85, 86, 87, 88, 89, 90, 91, 92, 93, 94, 95, 96, 97, 98, 99] (by decide +kernel) (by decide +kernel)
set_option maxRecDepth 20000 in
theorem gX7_readCarrier_X7_told : GoodIn wsX7_readCarrier (wsV RX7 123 RX7 yX7_told wsX7_told) := goodIn_app (goodIn_of _ (by decide +kernel)) ggX7_readCarrier_X7_told
set_option maxRecDepth 20000 in
theorem ggX7_readCarrier_X7_readEnd : GoodIn wsX7_readCarrier wsX7_readEnd := goodIn_r _ [60, 23, 61, 25, 26, 27, 5, 28, 29, 30, 31, 32, 33, 34, 35, 36, 37, 38, 24, 39, 11, 12, 40, 41, 42, 43, 44, 45, 46, 47, 48, 49, 78, 79, 80, 81, 82, 83, 84, 85, 86, 87, 88, 89, 90, 91, 92, 93, 94, 95, 96, 97, 98, 99] (by decide +kernel) (by decide +kernel)
set_option maxRecDepth 20000 in
theorem gX7_readCarrier_X7_readEnd : GoodIn wsX7_readCarrier (wsV RX7 126 RX7 yX7_readEnd wsX7_readEnd) := goodIn_app (goodIn_of _ (by decide +kernel)) ggX7_readCarrier_X7_readEnd
set_option maxRecDepth 20000 in
theorem ggX7_readCarrier_X7_readBreak : GoodIn wsX7_readCarrier wsX7_readBreak := goodIn_r _ [65, 1, 66, 67, 68, 5, 69, 8, 9, 10, 11, 12, 13, 14, 15, 7, 16, 17, 18, 19, 20, 21, 22, 23, 24, 25, 26, 27, 28, 29, 30, 31, 32, 33, 34, 35, 36, 37, 38, 39, 40, 41, 42, 43, 44, 45, 46, 47, 48, 49, 50, 51, 52, 53, 54, 55, 56, 57, 58, 59, 60, 61, 78, 79, 80, 81, 82, 83, 84, 85, 86, 87, 88, 89, 90, 91, 92, 93, 94, 95, 96, 97, 98, 99] (by decide +kernel) (by decide +kernel)
set_option maxRecDepth 20000 in
theorem gX7_readCarrier_X7_readBreak : GoodIn wsX7_readCarrier (wsV RX7 135 RX7 yX7_readBreak wsX7_readBreak) := goodIn_app (goodIn_of _ (by decide +kernel)) ggX7_readCarrier_X7_readBreak
set_option maxRecDepth 20000 in
theorem ggX7_readCarrier_X7_isBreakWord : GoodIn wsX7_readCarrier wsX7_isBreakWord := goodIn_r _ [69, 8, 9, 5, 10, 11, 12, 13, 14, 15, 7, 16, 17, 18, 19, 20, 21, 22, 23, 24, 78, 79, 80, 81, 82, 83, 84, 85, 86, 87, 88, 89, 90, 91, 92, 93, 94, 95, 96, 97, 98, 99] (by decide +kernel) (by decide +kernel)
set_option maxRecDepth 20000 in
theorem gX7_readCarrier_X7_isBreakWord : GoodIn wsX7_readCarrier (wsV RX7 119 RX7 yX7_isBreakWord wsX7_isBreakWord) := goodIn_app (goodIn_of _ (by decide +kernel)) ggX7_readCarrier_X7_isBreakWord
set_option maxRecDepth 20000 in
theorem ggX7_readCarrier_X7_readZones : GoodIn wsX7_readCarrier wsX7_readZones := goodIn_r _ [73, 1, 74, 75, 76, 5, 77, 8, 9, 10, 11, 12, 13, 14, 15, 7, 16, 17, 18, 19, 20, 21, 22, 23, 24, 25, 26, 27, 28, 29, 30, 31, 32, 33, 34, 35, 36, 37, 38, 39, 40, 41, 42, 43, 44, 45, 46, 47, 48, 49, 50, 51, 52, 53, 54, 55, 56, 57, 58, 59, 60, 61, 78, 79, 80, 81, 82, 83, 84, 85, 86, 87, 88, 89, 90, 91, 92, 93, 94, 95, 96, 97, 98, 99] (by decide +kernel) (by decide +kernel)
set_option maxRecDepth 20000 in
theorem gX7_readCarrier_X7_readZones : GoodIn wsX7_readCarrier (wsV RX7 138 RX7 yX7_readZones wsX7_readZones) := goodIn_app (goodIn_of _ (by decide +kernel)) ggX7_readCarrier_X7_readZones
set_option maxRecDepth 20000 in
theorem ggX7_readCarrier_X7_isZonesWord : GoodIn wsX7_readCarrier wsX7_isZonesWord := goodIn_r _ [77, 8, 9, 5, 10, 11, 12, 13, 14, 15, 7, 16, 17, 18, 19, 20, 21, 22, 23, 24, 78, 79, 80, 81, 82, 83, 84, 85, 86, 87, 88, 89, 90, 91, 92, 93, 94, 95, 96, 97, 98, 99] (by decide +kernel) (by decide +kernel)
set_option maxRecDepth 20000 in
theorem gX7_readCarrier_X7_isZonesWord : GoodIn wsX7_readCarrier (wsV RX7 129 RX7 yX7_isZonesWord wsX7_isZonesWord) := goodIn_app (goodIn_of _ (by decide +kernel)) ggX7_readCarrier_X7_isZonesWord
theorem dX7_readCarrier_0 : decode cX7_readCarrier 0 = .ok (.aload_n 0, 1) := by decide +kernel
theorem dX7_readCarrier_1 : decode cX7_readCarrier 1 = .ok (.invokevirtual 132, 3) := by decide +kernel
theorem dX7_readCarrier_4 : decode cX7_readCarrier 4 = .ok (.ifCond .ne 9, 3) := by decide +kernel
theorem dX7_readCarrier_7 : decode cX7_readCarrier 7 = .ok (.aload_n 0, 1) := by decide +kernel
theorem dX7_readCarrier_8 : decode cX7_readCarrier 8 = .ok (.iconst 1, 1) := by decide +kernel
theorem dX7_readCarrier_9 : decode cX7_readCarrier 9 = .ok (.invokevirtual 98, 3) := by decide +kernel
theorem dX7_readCarrier_12 : decode cX7_readCarrier 12 = .ok (.ireturn, 1) := by decide +kernel
theorem dX7_readCarrier_13 : decode cX7_readCarrier 13 = .ok (.aload_n 0, 1) := by decide +kernel
theorem dX7_readCarrier_14 : decode cX7_readCarrier 14 = .ok (.getfield 77, 3) := by decide +kernel
theorem dX7_readCarrier_17 : decode cX7_readCarrier 17 = .ok (.iconst 0, 1) := by decide +kernel
theorem dX7_readCarrier_18 : decode cX7_readCarrier 18 = .ok (.iaload, 1) := by decide +kernel
theorem dX7_readCarrier_19 : decode cX7_readCarrier 19 = .ok (.iconst 3, 1) := by decide +kernel
theorem dX7_readCarrier_20 : decode cX7_readCarrier 20 = .ok (.if_icmp .ne 9, 3) := by decide +kernel
theorem dX7_readCarrier_23 : decode cX7_readCarrier 23 = .ok (.aload_n 0, 1) := by decide +kernel
theorem dX7_readCarrier_24 : decode cX7_readCarrier 24 = .ok (.iconst 3, 1) := by decide +kernel
theorem dX7_readCarrier_25 : decode cX7_readCarrier 25 = .ok (.invokevirtual 98, 3) := by decide +kernel
theorem dX7_readCarrier_28 : decode cX7_readCarrier 28 = .ok (.ireturn, 1) := by decide +kernel
theorem dX7_readCarrier_29 : decode cX7_readCarrier 29 = .ok (.aload_n 0, 1) := by decide +kernel
theorem dX7_readCarrier_30 : decode cX7_readCarrier 30 = .ok (.invokevirtual 105, 3) := by decide +kernel
theorem dX7_readCarrier_33 : decode cX7_readCarrier 33 = .ok (.iconst 4, 1) := by decide +kernel
theorem dX7_readCarrier_34 : decode cX7_readCarrier 34 = .ok (.bipush 43, 2) := by decide +kernel
theorem dX7_readCarrier_36 : decode cX7_readCarrier 36 = .ok (.aload_n 0, 1) := by decide +kernel
theorem dX7_readCarrier_37 : decode cX7_readCarrier 37 = .ok (.getfield 77, 3) := by decide +kernel
theorem dX7_readCarrier_40 : decode cX7_readCarrier 40 = .ok (.iconst 0, 1) := by decide +kernel
theorem dX7_readCarrier_41 : decode cX7_readCarrier 41 = .ok (.iaload, 1) := by decide +kernel
theorem dX7_readCarrier_42 : decode cX7_readCarrier 42 = .ok (.imul, 1) := by decide +kernel
theorem dX7_readCarrier_43 : decode cX7_readCarrier 43 = .ok (.iadd, 1) := by decide +kernel
theorem dX7_readCarrier_44 : decode cX7_readCarrier 44 = .ok (.istore_n 1, 1) := by decide +kernel
theorem dX7_readCarrier_45 : decode cX7_readCarrier 45 = .ok (.aload_n 0, 1) := by decide +kernel
theorem dX7_readCarrier_46 : decode cX7_readCarrier 46 = .ok (.iload_n 1, 1) := by decide +kernel
theorem dX7_readCarrier_47 : decode cX7_readCarrier 47 = .ok (.iconst 0, 1) := by decide +kernel
theorem dX7_readCarrier_48 : decode cX7_readCarrier 48 = .ok (.iadd, 1) := by decide +kernel
theorem dX7_readCarrier_49 : decode cX7_readCarrier 49 = .ok (.iconst 1, 1) := by decide +kernel
theorem dX7_readCarrier_50 : decode cX7_readCarrier 50 = .ok (.bipush 99, 2) := by decide +kernel
theorem dX7_readCarrier_52 : decode cX7_readCarrier 52 = .ok (.invokevirtual 123, 3) := by decide +kernel
theorem dX7_readCarrier_55 : decode cX7_readCarrier 55 = .ok (.ifCond .eq 78, 3) := by decide +kernel
theorem dX7_readCarrier_58 : decode cX7_readCarrier 58 = .ok (.aload_n 0, 1) := by decide +kernel
theorem dX7_readCarrier_59 : decode cX7_readCarrier 59 = .ok (.iload_n 1, 1) := by decide +kernel
theorem dX7_readCarrier_60 : decode cX7_readCarrier 60 = .ok (.iconst 1, 1) := by decide +kernel
theorem dX7_readCarrier_61 : decode cX7_readCarrier 61 = .ok (.iadd, 1) := by decide +kernel
theorem dX7_readCarrier_62 : decode cX7_readCarrier 62 = .ok (.iconst 1, 1) := by decide +kernel
theorem dX7_readCarrier_63 : decode cX7_readCarrier 63 = .ok (.sipush 999, 3) := by decide +kernel
theorem dX7_readCarrier_66 : decode cX7_readCarrier 66 = .ok (.invokevirtual 123, 3) := by decide +kernel
theorem dX7_readCarrier_69 : decode cX7_readCarrier 69 = .ok (.ifCond .eq 64, 3) := by decide +kernel
theorem dX7_readCarrier_72 : decode cX7_readCarrier 72 = .ok (.aload_n 0, 1) := by decide +kernel
theorem dX7_readCarrier_73 : decode cX7_readCarrier 73 = .ok (.iload_n 1, 1) := by decide +kernel
theorem dX7_readCarrier_74 : decode cX7_readCarrier 74 = .ok (.iconst 2, 1) := by decide +kernel
theorem dX7_readCarrier_75 : decode cX7_readCarrier 75 = .ok (.iadd, 1) := by decide +kernel
theorem dX7_readCarrier_76 : decode cX7_readCarrier 76 = .ok (.iconst 1, 1) := by decide +kernel
theorem dX7_readCarrier_77 : decode cX7_readCarrier 77 = .ok (.bipush 99, 2) := by decide +kernel
theorem dX7_readCarrier_79 : decode cX7_readCarrier 79 = .ok (.invokevirtual 123, 3) := by decide +kernel
theorem dX7_readCarrier_82 : decode cX7_readCarrier 82 = .ok (.ifCond .eq 51, 3) := by decide +kernel
theorem dX7_readCarrier_85 : decode cX7_readCarrier 85 = .ok (.aload_n 0, 1) := by decide +kernel
theorem dX7_readCarrier_86 : decode cX7_readCarrier 86 = .ok (.iload_n 1, 1) := by decide +kernel
theorem dX7_readCarrier_87 : decode cX7_readCarrier 87 = .ok (.iconst 3, 1) := by decide +kernel
theorem dX7_readCarrier_88 : decode cX7_readCarrier 88 = .ok (.iadd, 1) := by decide +kernel
theorem dX7_readCarrier_89 : decode cX7_readCarrier 89 = .ok (.iconst 0, 1) := by decide +kernel
theorem dX7_readCarrier_90 : decode cX7_readCarrier 90 = .ok (.bipush 99, 2) := by decide +kernel
theorem dX7_readCarrier_92 : decode cX7_readCarrier 92 = .ok (.invokevirtual 123, 3) := by decide +kernel
theorem dX7_readCarrier_95 : decode cX7_readCarrier 95 = .ok (.ifCond .eq 38, 3) := by decide +kernel
theorem dX7_readCarrier_98 : decode cX7_readCarrier 98 = .ok (.aload_n 0, 1) := by decide +kernel
theorem dX7_readCarrier_99 : decode cX7_readCarrier 99 = .ok (.iload_n 1, 1) := by decide +kernel
theorem dX7_readCarrier_100 : decode cX7_readCarrier 100 = .ok (.iconst 4, 1) := by decide +kernel
theorem dX7_readCarrier_101 : decode cX7_readCarrier 101 = .ok (.iadd, 1) := by decide +kernel
theorem dX7_readCarrier_102 : decode cX7_readCarrier 102 = .ok (.iconst 1, 1) := by decide +kernel
theorem dX7_readCarrier_103 : decode cX7_readCarrier 103 = .ok (.sipush 999, 3) := by decide +kernel
theorem dX7_readCarrier_106 : decode cX7_readCarrier 106 = .ok (.invokevirtual 123, 3) := by decide +kernel
theorem dX7_readCarrier_109 : decode cX7_readCarrier 109 = .ok (.ifCond .eq 24, 3) := by decide +kernel
theorem dX7_readCarrier_112 : decode cX7_readCarrier 112 = .ok (.aload_n 0, 1) := by decide +kernel
theorem dX7_readCarrier_113 : decode cX7_readCarrier 113 = .ok (.iload_n 1, 1) := by decide +kernel
theorem dX7_readCarrier_114 : decode cX7_readCarrier 114 = .ok (.iconst 5, 1) := by decide +kernel
theorem dX7_readCarrier_115 : decode cX7_readCarrier 115 = .ok (.iadd, 1) := by decide +kernel
theorem dX7_readCarrier_116 : decode cX7_readCarrier 116 = .ok (.iconst 0, 1) := by decide +kernel
theorem dX7_readCarrier_117 : decode cX7_readCarrier 117 = .ok (.sipush 999, 3) := by decide +kernel
theorem dX7_readCarrier_120 : decode cX7_readCarrier 120 = .ok (.invokevirtual 123, 3) := by decide +kernel
theorem dX7_readCarrier_123 : decode cX7_readCarrier 123 = .ok (.ifCond .eq 10, 3) := by decide +kernel
theorem dX7_readCarrier_126 : decode cX7_readCarrier 126 = .ok (.aload_n 0, 1) := by decide +kernel
theorem dX7_readCarrier_127 : decode cX7_readCarrier 127 = .ok (.invokevirtual 126, 3) := by decide +kernel
theorem dX7_readCarrier_130 : decode cX7_readCarrier 130 = .ok (.ifCond .ne 5, 3) := by decide +kernel
theorem dX7_readCarrier_133 : decode cX7_readCarrier 133 = .ok (.iconst 0, 1) := by decide +kernel
theorem dX7_readCarrier_134 : decode cX7_readCarrier 134 = .ok (.ireturn, 1) := by decide +kernel
theorem dX7_readCarrier_135 : decode cX7_readCarrier 135 = .ok (.aload_n 0, 1) := by decide +kernel
theorem dX7_readCarrier_136 : decode cX7_readCarrier 136 = .ok (.iload_n 1, 1) := by decide +kernel
theorem dX7_readCarrier_137 : decode cX7_readCarrier 137 = .ok (.invokevirtual 135, 3) := by decide +kernel
theorem dX7_readCarrier_140 : decode cX7_readCarrier 140 = .ok (.ifCond .ne 5, 3) := by decide +kernel
theorem dX7_readCarrier_143 : decode cX7_readCarrier 143 = .ok (.iconst 0, 1) := by decide +kernel
theorem dX7_readCarrier_144 : decode cX7_readCarrier 144 = .ok (.ireturn, 1) := by decide +kernel
theorem dX7_readCarrier_145 : decode cX7_readCarrier 145 = .ok (.aload_n 0, 1) := by decide +kernel
theorem dX7_readCarrier_146 : decode cX7_readCarrier 146 = .ok (.invokevirtual 119, 3) := by decide +kernel
theorem dX7_readCarrier_149 : decode cX7_readCarrier 149 = .ok (.ifCond .ne (-14), 3) := by decide +kernel
theorem dX7_readCarrier_152 : decode cX7_readCarrier 152 = .ok (.aload_n 0, 1) := by decide +kernel
theorem dX7_readCarrier_153 : decode cX7_readCarrier 153 = .ok (.iload_n 1, 1) := by decide +kernel
theorem dX7_readCarrier_154 : decode cX7_readCarrier 154 = .ok (.invokevirtual 138, 3) := by decide +kernel
theorem dX7_readCarrier_157 : decode cX7_readCarrier 157 = .ok (.ifCond .ne 5, 3) := by decide +kernel
theorem dX7_readCarrier_160 : decode cX7_readCarrier 160 = .ok (.iconst 0, 1) := by decide +kernel
theorem dX7_readCarrier_161 : decode cX7_readCarrier 161 = .ok (.ireturn, 1) := by decide +kernel
theorem dX7_readCarrier_162 : decode cX7_readCarrier 162 = .ok (.aload_n 0, 1) := by decide +kernel
theorem dX7_readCarrier_163 : decode cX7_readCarrier 163 = .ok (.invokevirtual 129, 3) := by decide +kernel
theorem dX7_readCarrier_166 : decode cX7_readCarrier 166 = .ok (.ifCond .ne (-14), 3) := by decide +kernel
theorem dX7_readCarrier_169 : decode cX7_readCarrier 169 = .ok (.aload_n 0, 1) := by decide +kernel
theorem dX7_readCarrier_170 : decode cX7_readCarrier 170 = .ok (.getfield 77, 3) := by decide +kernel
theorem dX7_readCarrier_173 : decode cX7_readCarrier 173 = .ok (.iconst 0, 1) := by decide +kernel
theorem dX7_readCarrier_174 : decode cX7_readCarrier 174 = .ok (.dup2, 1) := by decide +kernel
theorem dX7_readCarrier_175 : decode cX7_readCarrier 175 = .ok (.iaload, 1) := by decide +kernel
theorem dX7_readCarrier_176 : decode cX7_readCarrier 176 = .ok (.iconst 1, 1) := by decide +kernel
theorem dX7_readCarrier_177 : decode cX7_readCarrier 177 = .ok (.iadd, 1) := by decide +kernel
theorem dX7_readCarrier_178 : decode cX7_readCarrier 178 = .ok (.iastore, 1) := by decide +kernel
theorem dX7_readCarrier_179 : decode cX7_readCarrier 179 = .ok (.iconst 1, 1) := by decide +kernel
theorem dX7_readCarrier_180 : decode cX7_readCarrier 180 = .ok (.ireturn, 1) := by decide +kernel
set_option maxRecDepth 20000 in
theorem ggX7_readGood_X7_bad : GoodIn wsX7_readGood wsX7_bad := goodIn_r _ [6, 7, 8, 9, 10, 44, 45, 46, 47, 48, 49, 50, 51, 52, 53, 54, 55, 56, 57, 58, 59, 60, 61, 62, 63, 64, 65] (by decide +kernel) (by decide +kernel)
set_option maxRecDepth 20000 in
theorem gX7_readGood_X7_bad : GoodIn wsX7_readGood (wsV RX7 98 RX7 yX7_bad wsX7_bad) := goodIn_app (goodIn_of _ (by decide +kernel)) ggX7_readGood_X7_bad
set_option maxRecDepth 20000 in
theorem ggX7_readGood_X7_go : GoodIn wsX7_readGood wsX7_go := goodIn_r _ [14, 15, 16, 17, 9, 7, 18, 19, 20, 21, 22, 23, 5, 24, 25, 26, 27, 28, 29, 30, 31, 44, 45, 46, 47, 48, 49, 50, 51, 52, 53, 54, 55, 56, 57, 58, 59, 60, 61, 62, 63, 64, 65] (by decide +kernel) (by decide +kernel)
set_option maxRecDepth 20000 in
theorem gX7_readGood_X7_go : GoodIn wsX7_readGood (wsV RX7 105 RX7 yX7_go wsX7_go) := goodIn_app (goodIn_of _ (by decide +kernel)) ggX7_readGood_X7_go
set_option maxRecDepth 20000 in
theorem ggX7_readGood_X7_told : GoodIn wsX7_readGood wsX7_told := goodIn_r _ [35, 7, 19, 1, 2, 3, 4, 5, 6, 8, 9, 10, 36, 37, 38, 11, 12, 13, 14, 15, 16, 17, 18, 20, 21, 22, 23, 24, 25, 26, 27, 28, 29, 30, 31, 44, 45, 46, 47, 48, 49, 50, 51, 52, 53, 54, 55, 56, 57, 58, 59, 60, 61, 62, 63, 64, 65] (by decide +kernel) (by decide +kernel)
set_option maxRecDepth 20000 in
theorem gX7_readGood_X7_told : GoodIn wsX7_readGood (wsV RX7 123 RX7 yX7_told wsX7_told) := goodIn_app (goodIn_of _ (by decide +kernel)) ggX7_readGood_X7_told
set_option maxRecDepth 20000 in
theorem ggX7_readGood_X7_readEnd : GoodIn wsX7_readGood wsX7_readEnd := goodIn_r _ [42, 7, 43, 2, 3, 4, 5, 6, 8, 9, 10, 11, 12, 13, 14, 15, 16, 17, 18, 19, 20, 21, 22, 23, 24, 25, 26, 27, 28, 29, 30, 31, 44, 45, 46, 47, 48, 49, 50, 51, 52, 53, 54, 55, 56, 57, 58, 59, 60, 61, 62, 63, 64, 65] (by decide +kernel) (by decide +kernel)
set_option maxRecDepth 20000 in
theorem gX7_readGood_X7_readEnd : GoodIn wsX7_readGood (wsV RX7 126 RX7 yX7_readEnd wsX7_readEnd) := goodIn_app (goodIn_of _ (by decide +kernel)) ggX7_readGood_X7_readEnd
theorem dX7_readGood_0 : decode cX7_readGood 0 = .ok (.aload_n 0, 1) := by decide +kernel
theorem dX7_readGood_1 : decode cX7_readGood 1 = .ok (.getfield 77, 3) := by decide +kernel
theorem dX7_readGood_4 : decode cX7_readGood 4 = .ok (.iconst 1, 1) := by decide +kernel
theorem dX7_readGood_5 : decode cX7_readGood 5 = .ok (.iaload, 1) := by decide +kernel
theorem dX7_readGood_6 : decode cX7_readGood 6 = .ok (.bipush 8, 2) := by decide +kernel
theorem dX7_readGood_8 : decode cX7_readGood 8 = .ok (.if_icmp .ne 9, 3) := by decide +kernel
theorem dX7_readGood_11 : decode cX7_readGood 11 = .ok (.aload_n 0, 1) := by decide +kernel
theorem dX7_readGood_12 : decode cX7_readGood 12 = .ok (.iconst 3, 1) := by decide +kernel
theorem dX7_readGood_13 : decode cX7_readGood 13 = .ok (.invokevirtual 98, 3) := by decide +kernel
theorem dX7_readGood_16 : decode cX7_readGood 16 = .ok (.ireturn, 1) := by decide +kernel
theorem dX7_readGood_17 : decode cX7_readGood 17 = .ok (.aload_n 0, 1) := by decide +kernel
theorem dX7_readGood_18 : decode cX7_readGood 18 = .ok (.invokevirtual 105, 3) := by decide +kernel
theorem dX7_readGood_21 : decode cX7_readGood 21 = .ok (.sipush 133, 3) := by decide +kernel
theorem dX7_readGood_24 : decode cX7_readGood 24 = .ok (.iconst 4, 1) := by decide +kernel
theorem dX7_readGood_25 : decode cX7_readGood 25 = .ok (.aload_n 0, 1) := by decide +kernel
theorem dX7_readGood_26 : decode cX7_readGood 26 = .ok (.getfield 77, 3) := by decide +kernel
theorem dX7_readGood_29 : decode cX7_readGood 29 = .ok (.iconst 1, 1) := by decide +kernel
theorem dX7_readGood_30 : decode cX7_readGood 30 = .ok (.iaload, 1) := by decide +kernel
theorem dX7_readGood_31 : decode cX7_readGood 31 = .ok (.imul, 1) := by decide +kernel
theorem dX7_readGood_32 : decode cX7_readGood 32 = .ok (.iadd, 1) := by decide +kernel
theorem dX7_readGood_33 : decode cX7_readGood 33 = .ok (.istore_n 1, 1) := by decide +kernel
theorem dX7_readGood_34 : decode cX7_readGood 34 = .ok (.aload_n 0, 1) := by decide +kernel
theorem dX7_readGood_35 : decode cX7_readGood 35 = .ok (.iload_n 1, 1) := by decide +kernel
theorem dX7_readGood_36 : decode cX7_readGood 36 = .ok (.iconst 0, 1) := by decide +kernel
theorem dX7_readGood_37 : decode cX7_readGood 37 = .ok (.iadd, 1) := by decide +kernel
theorem dX7_readGood_38 : decode cX7_readGood 38 = .ok (.iconst 1, 1) := by decide +kernel
theorem dX7_readGood_39 : decode cX7_readGood 39 = .ok (.bipush 99, 2) := by decide +kernel
theorem dX7_readGood_41 : decode cX7_readGood 41 = .ok (.invokevirtual 123, 3) := by decide +kernel
theorem dX7_readGood_44 : decode cX7_readGood 44 = .ok (.ifCond .eq 31, 3) := by decide +kernel
theorem dX7_readGood_47 : decode cX7_readGood 47 = .ok (.aload_n 0, 1) := by decide +kernel
theorem dX7_readGood_48 : decode cX7_readGood 48 = .ok (.iload_n 1, 1) := by decide +kernel
theorem dX7_readGood_49 : decode cX7_readGood 49 = .ok (.iconst 1, 1) := by decide +kernel
theorem dX7_readGood_50 : decode cX7_readGood 50 = .ok (.iadd, 1) := by decide +kernel
theorem dX7_readGood_51 : decode cX7_readGood 51 = .ok (.iconst 1, 1) := by decide +kernel
theorem dX7_readGood_52 : decode cX7_readGood 52 = .ok (.sipush 999, 3) := by decide +kernel
theorem dX7_readGood_55 : decode cX7_readGood 55 = .ok (.invokevirtual 123, 3) := by decide +kernel
theorem dX7_readGood_58 : decode cX7_readGood 58 = .ok (.ifCond .eq 17, 3) := by decide +kernel
theorem dX7_readGood_61 : decode cX7_readGood 61 = .ok (.aload_n 0, 1) := by decide +kernel
theorem dX7_readGood_62 : decode cX7_readGood 62 = .ok (.iload_n 1, 1) := by decide +kernel
theorem dX7_readGood_63 : decode cX7_readGood 63 = .ok (.iconst 2, 1) := by decide +kernel
theorem dX7_readGood_64 : decode cX7_readGood 64 = .ok (.iadd, 1) := by decide +kernel
theorem dX7_readGood_65 : decode cX7_readGood 65 = .ok (.iconst 1, 1) := by decide +kernel
theorem dX7_readGood_66 : decode cX7_readGood 66 = .ok (.sipush 999, 3) := by decide +kernel
theorem dX7_readGood_69 : decode cX7_readGood 69 = .ok (.invokevirtual 123, 3) := by decide +kernel
theorem dX7_readGood_72 : decode cX7_readGood 72 = .ok (.ifCond .ne 5, 3) := by decide +kernel
theorem dX7_readGood_75 : decode cX7_readGood 75 = .ok (.iconst 0, 1) := by decide +kernel
theorem dX7_readGood_76 : decode cX7_readGood 76 = .ok (.ireturn, 1) := by decide +kernel
theorem dX7_readGood_77 : decode cX7_readGood 77 = .ok (.aload_n 0, 1) := by decide +kernel
theorem dX7_readGood_78 : decode cX7_readGood 78 = .ok (.getfield 77, 3) := by decide +kernel
theorem dX7_readGood_81 : decode cX7_readGood 81 = .ok (.iconst 1, 1) := by decide +kernel
theorem dX7_readGood_82 : decode cX7_readGood 82 = .ok (.dup2, 1) := by decide +kernel
theorem dX7_readGood_83 : decode cX7_readGood 83 = .ok (.iaload, 1) := by decide +kernel
theorem dX7_readGood_84 : decode cX7_readGood 84 = .ok (.iconst 1, 1) := by decide +kernel
theorem dX7_readGood_85 : decode cX7_readGood 85 = .ok (.iadd, 1) := by decide +kernel
theorem dX7_readGood_86 : decode cX7_readGood 86 = .ok (.iastore, 1) := by decide +kernel
theorem dX7_readGood_87 : decode cX7_readGood 87 = .ok (.aload_n 0, 1) := by decide +kernel
theorem dX7_readGood_88 : decode cX7_readGood 88 = .ok (.invokevirtual 126, 3) := by decide +kernel
theorem dX7_readGood_91 : decode cX7_readGood 91 = .ok (.ireturn, 1) := by decide +kernel
set_option maxRecDepth 20000 in
theorem ggX7_readWhole_X7_readCarrier : GoodIn wsX7_readWhole wsX7_readCarrier := goodIn_r _ [6, 7, 8, 9, 10, 5, 11, 12, 13, 14, 15, 16, 17, 18, 19, 20, 21, 22, 23, 24, 25, 26, 27, 1, 28, 29, 30, 31, 32, 33, 34, 35, 36, 37, 38, 39, 40, 41, 42, 43, 44, 45, 46, 47, 48, 49, 50, 51, 52, 53, 54, 55, 56, 57, 58, 59, 60, 61, 62, 63, 64, 65, 66, 67, 68, 69, 70, 71, 72, 73, 74, 75, 76, 77, 78, 79, 80, 81, 86, 87, 88, 89, 90, 91, 92, 93, 94, 95, 96, 97, 98, 99, 100, 101, 102, 103, 104, 105, 106, 107] (by decide +kernel) (by decide +kernel)
set_option maxRecDepth 20000 in
theorem gX7_readWhole_X7_readCarrier : GoodIn wsX7_readWhole (wsV RX7 141 RX7 yX7_readCarrier wsX7_readCarrier) := goodIn_app (goodIn_of _ (by decide +kernel)) ggX7_readWhole_X7_readCarrier
set_option maxRecDepth 20000 in
theorem ggX7_readWhole_X7_isCarrierWord : GoodIn wsX7_readWhole wsX7_isCarrierWord := goodIn_r _ [11, 12, 13, 14, 5, 15, 16, 17, 18, 19, 20, 21, 22, 23, 24, 25, 26, 27, 1, 28, 86, 87, 88, 89, 90, 91, 92, 93, 94, 95, 96, 97, 98, 99, 100, 101, 102, 103, 104, 105, 106, 107] (by decide +kernel) (by decide +kernel)
set_option maxRecDepth 20000 in
theorem gX7_readWhole_X7_isCarrierWord : GoodIn wsX7_readWhole (wsV RX7 132 RX7 yX7_isCarrierWord wsX7_isCarrierWord) := goodIn_app (goodIn_of _ (by decide +kernel)) ggX7_readWhole_X7_isCarrierWord
set_option maxRecDepth 20000 in
theorem ggX7_readWhole_X7_four : GoodIn wsX7_readWhole wsX7_four := goodIn_r _ [20, 12, 21, 22, 5, 23, 16, 17] (by decide +kernel) (by decide +kernel)
set_option maxRecDepth 20000 in
theorem gX7_readWhole_X7_four : GoodIn wsX7_readWhole (va_wsS RX7 58 yX7_four wsX7_four) := goodIn_app (goodIn_of _ (by decide +kernel)) ggX7_readWhole_X7_four
set_option maxRecDepth 20000 in
theorem ggX7_readWhole_X7_isWord : GoodIn wsX7_readWhole wsX7_isWord := goodIn_r _ [27, 1, 28, 86, 87, 88, 89, 90, 91, 92, 93, 94, 95, 96, 97, 98, 99, 100, 101, 102, 103, 104, 105, 106, 107] (by decide +kernel) (by decide +kernel)
set_option maxRecDepth 20000 in
theorem gX7_readWhole_X7_isWord : GoodIn wsX7_readWhole (wsV RX7 115 RX7 yX7_isWord wsX7_isWord) := goodIn_app (goodIn_of _ (by decide +kernel)) ggX7_readWhole_X7_isWord
set_option maxRecDepth 20000 in
theorem ggX7_readWhole_X7_readGood : GoodIn wsX7_readWhole wsX7_readGood := goodIn_r _ [85, 7, 29, 30, 31, 5, 32, 1, 33, 34, 35, 36, 37, 38, 39, 40, 41, 42, 28, 43, 16, 17, 44, 45, 46, 47, 48, 49, 50, 51, 52, 53, 54, 55, 56, 57, 58, 59, 60, 61, 62, 63, 64, 65, 86, 87, 88, 89, 90, 91, 92, 93, 94, 95, 96, 97, 98, 99, 100, 101, 102, 103, 104, 105, 106, 107] (by decide +kernel) (by decide +kernel)
set_option maxRecDepth 20000 in
theorem gX7_readWhole_X7_readGood : GoodIn wsX7_readWhole (wsV RX7 144 RX7 yX7_readGood wsX7_readGood) := goodIn_app (goodIn_of _ (by decide +kernel)) ggX7_readWhole_X7_readGood
set_option maxRecDepth 20000 in
theorem ggX7_readWhole_X7_five : GoodIn wsX7_readWhole wsX7_five := goodIn_r _ [15, 16, 17, 18, 19, 5, 20, 12, 21, 22, 23] (by decide +kernel) (by decide +kernel)
set_option maxRecDepth 20000 in
theorem gX7_readWhole_X7_five : GoodIn wsX7_readWhole (va_wsS RX7 111 yX7_five wsX7_five) := goodIn_app (goodIn_of _ (by decide +kernel)) ggX7_readWhole_X7_five
set_option maxRecDepth 20000 in
theorem ggX7_readWhole_X7_bad : GoodIn wsX7_readWhole wsX7_bad := goodIn_r _ [32, 1, 33, 34, 35, 86, 87, 88, 89, 90, 91, 92, 93, 94, 95, 96, 97, 98, 99, 100, 101, 102, 103, 104, 105, 106, 107] (by decide +kernel) (by decide +kernel)
set_option maxRecDepth 20000 in
theorem gX7_readWhole_X7_bad : GoodIn wsX7_readWhole (wsV RX7 98 RX7 yX7_bad wsX7_bad) := goodIn_app (goodIn_of _ (by decide +kernel)) ggX7_readWhole_X7_bad
set_option maxRecDepth 20000 in
theorem ggX7_readWhole_X7_go : GoodIn wsX7_readWhole wsX7_go := goodIn_r _ [39, 40, 41, 42, 34, 1, 28, 43, 16, 17, 44, 45, 5, 46, 47, 48, 49, 50, 51, 52, 53, 86, 87, 88, 89, 90, 91, 92, 93, 94, 95, 96, 97, 98, 99, 100, 101, 102, 103, 104, 105, 106, 107] (by decide +kernel) (by decide +kernel)
set_option maxRecDepth 20000 in
theorem gX7_readWhole_X7_go : GoodIn wsX7_readWhole (wsV RX7 105 RX7 yX7_go wsX7_go) := goodIn_app (goodIn_of _ (by decide +kernel)) ggX7_readWhole_X7_go
set_option maxRecDepth 20000 in
theorem ggX7_readWhole_X7_told : GoodIn wsX7_readWhole wsX7_told := goodIn_r _ [57, 1, 43, 7, 29, 30, 31, 5, 32, 33, 34, 35, 58, 59, 60, 36, 37, 38, 39, 40, 41, 42, 28, 16, 17, 44, 45, 46, 47, 48, 49, 50, 51, 52, 53, 86, 87, 88, 89, 90, 91, 92, 93, 94, 95, 96, 97, 98, 99, 100, 101, 102, 103, 104, 105, 106, 107] (by decide +kernel) (by decide +kernel)
set_option maxRecDepth 20000 in
theorem gX7_readWhole_X7_told : GoodIn wsX7_readWhole (wsV RX7 123 RX7 yX7_told wsX7_told) := goodIn_app (goodIn_of _ (by decide +kernel)) ggX7_readWhole_X7_told
set_option maxRecDepth 20000 in
theorem ggX7_readWhole_X7_readEnd : GoodIn wsX7_readWhole wsX7_readEnd := goodIn_r _ [64, 1, 65, 29, 30, 31, 5, 32, 33, 34, 35, 36, 37, 38, 39, 40, 41, 42, 28, 43, 16, 17, 44, 45, 46, 47, 48, 49, 50, 51, 52, 53, 86, 87, 88, 89, 90, 91, 92, 93, 94, 95, 96, 97, 98, 99, 100, 101, 102, 103, 104, 105, 106, 107] (by decide +kernel) (by decide +kernel)
set_option maxRecDepth 20000 in
theorem gX7_readWhole_X7_readEnd : GoodIn wsX7_readWhole (wsV RX7 126 RX7 yX7_readEnd wsX7_readEnd) := goodIn_app (goodIn_of _ (by decide +kernel)) ggX7_readWhole_X7_readEnd
theorem dX7_readWhole_0 : decode cX7_readWhole 0 = .ok (.aload_n 0, 1) := by decide +kernel
theorem dX7_readWhole_1 : decode cX7_readWhole 1 = .ok (.invokevirtual 141, 3) := by decide +kernel
theorem dX7_readWhole_4 : decode cX7_readWhole 4 = .ok (.ifCond .ne 5, 3) := by decide +kernel
theorem dX7_readWhole_7 : decode cX7_readWhole 7 = .ok (.iconst 0, 1) := by decide +kernel
theorem dX7_readWhole_8 : decode cX7_readWhole 8 = .ok (.ireturn, 1) := by decide +kernel
theorem dX7_readWhole_9 : decode cX7_readWhole 9 = .ok (.aload_n 0, 1) := by decide +kernel
theorem dX7_readWhole_10 : decode cX7_readWhole 10 = .ok (.invokevirtual 132, 3) := by decide +kernel
theorem dX7_readWhole_13 : decode cX7_readWhole 13 = .ok (.ifCond .ne (-13), 3) := by decide +kernel
theorem dX7_readWhole_16 : decode cX7_readWhole 16 = .ok (.aload_n 0, 1) := by decide +kernel
theorem dX7_readWhole_17 : decode cX7_readWhole 17 = .ok (.bipush 103, 2) := by decide +kernel
theorem dX7_readWhole_19 : decode cX7_readWhole 19 = .ok (.bipush 111, 2) := by decide +kernel
theorem dX7_readWhole_21 : decode cX7_readWhole 21 = .ok (.bipush 111, 2) := by decide +kernel
theorem dX7_readWhole_23 : decode cX7_readWhole 23 = .ok (.bipush 100, 2) := by decide +kernel
theorem dX7_readWhole_25 : decode cX7_readWhole 25 = .ok (.invokestatic 58, 3) := by decide +kernel
theorem dX7_readWhole_28 : decode cX7_readWhole 28 = .ok (.invokevirtual 115, 3) := by decide +kernel
theorem dX7_readWhole_31 : decode cX7_readWhole 31 = .ok (.ifCond .eq 12, 3) := by decide +kernel
theorem dX7_readWhole_34 : decode cX7_readWhole 34 = .ok (.aload_n 0, 1) := by decide +kernel
theorem dX7_readWhole_35 : decode cX7_readWhole 35 = .ok (.invokevirtual 144, 3) := by decide +kernel
theorem dX7_readWhole_38 : decode cX7_readWhole 38 = .ok (.ifCond .ne (-22), 3) := by decide +kernel
theorem dX7_readWhole_41 : decode cX7_readWhole 41 = .ok (.iconst 0, 1) := by decide +kernel
theorem dX7_readWhole_42 : decode cX7_readWhole 42 = .ok (.ireturn, 1) := by decide +kernel
theorem dX7_readWhole_43 : decode cX7_readWhole 43 = .ok (.aload_n 0, 1) := by decide +kernel
theorem dX7_readWhole_44 : decode cX7_readWhole 44 = .ok (.bipush 111, 2) := by decide +kernel
theorem dX7_readWhole_46 : decode cX7_readWhole 46 = .ok (.bipush 114, 2) := by decide +kernel
theorem dX7_readWhole_48 : decode cX7_readWhole 48 = .ok (.bipush 100, 2) := by decide +kernel
theorem dX7_readWhole_50 : decode cX7_readWhole 50 = .ok (.bipush 101, 2) := by decide +kernel
theorem dX7_readWhole_52 : decode cX7_readWhole 52 = .ok (.bipush 114, 2) := by decide +kernel
theorem dX7_readWhole_54 : decode cX7_readWhole 54 = .ok (.invokestatic 111, 3) := by decide +kernel
theorem dX7_readWhole_57 : decode cX7_readWhole 57 = .ok (.invokevirtual 115, 3) := by decide +kernel
theorem dX7_readWhole_60 : decode cX7_readWhole 60 = .ok (.ifCond .ne 9, 3) := by decide +kernel
theorem dX7_readWhole_63 : decode cX7_readWhole 63 = .ok (.aload_n 0, 1) := by decide +kernel
theorem dX7_readWhole_64 : decode cX7_readWhole 64 = .ok (.iconst 1, 1) := by decide +kernel
theorem dX7_readWhole_65 : decode cX7_readWhole 65 = .ok (.invokevirtual 98, 3) := by decide +kernel
theorem dX7_readWhole_68 : decode cX7_readWhole 68 = .ok (.ireturn, 1) := by decide +kernel
theorem dX7_readWhole_69 : decode cX7_readWhole 69 = .ok (.aload_n 0, 1) := by decide +kernel
theorem dX7_readWhole_70 : decode cX7_readWhole 70 = .ok (.invokevirtual 105, 3) := by decide +kernel
theorem dX7_readWhole_73 : decode cX7_readWhole 73 = .ok (.aload_n 0, 1) := by decide +kernel
theorem dX7_readWhole_74 : decode cX7_readWhole 74 = .ok (.iconst 2, 1) := by decide +kernel
theorem dX7_readWhole_75 : decode cX7_readWhole 75 = .ok (.iconst 0, 1) := by decide +kernel
theorem dX7_readWhole_76 : decode cX7_readWhole 76 = .ok (.iconst 3, 1) := by decide +kernel
theorem dX7_readWhole_77 : decode cX7_readWhole 77 = .ok (.invokevirtual 123, 3) := by decide +kernel
theorem dX7_readWhole_80 : decode cX7_readWhole 80 = .ok (.ifCond .eq 40, 3) := by decide +kernel
theorem dX7_readWhole_83 : decode cX7_readWhole 83 = .ok (.aload_n 0, 1) := by decide +kernel
theorem dX7_readWhole_84 : decode cX7_readWhole 84 = .ok (.iconst 3, 1) := by decide +kernel
theorem dX7_readWhole_85 : decode cX7_readWhole 85 = .ok (.iconst 0, 1) := by decide +kernel
theorem dX7_readWhole_86 : decode cX7_readWhole 86 = .ok (.bipush 99, 2) := by decide +kernel
theorem dX7_readWhole_88 : decode cX7_readWhole 88 = .ok (.invokevirtual 123, 3) := by decide +kernel
theorem dX7_readWhole_91 : decode cX7_readWhole 91 = .ok (.ifCond .eq 29, 3) := by decide +kernel
theorem dX7_readWhole_94 : decode cX7_readWhole 94 = .ok (.aload_n 0, 1) := by decide +kernel
theorem dX7_readWhole_95 : decode cX7_readWhole 95 = .ok (.invokevirtual 126, 3) := by decide +kernel
theorem dX7_readWhole_98 : decode cX7_readWhole 98 = .ok (.ifCond .eq 22, 3) := by decide +kernel
theorem dX7_readWhole_101 : decode cX7_readWhole 101 = .ok (.aload_n 0, 1) := by decide +kernel
theorem dX7_readWhole_102 : decode cX7_readWhole 102 = .ok (.getfield 27, 3) := by decide +kernel
theorem dX7_readWhole_105 : decode cX7_readWhole 105 = .ok (.ifCond .eq 11, 3) := by decide +kernel
theorem dX7_readWhole_108 : decode cX7_readWhole 108 = .ok (.aload_n 0, 1) := by decide +kernel
theorem dX7_readWhole_109 : decode cX7_readWhole 109 = .ok (.iconst 1, 1) := by decide +kernel
theorem dX7_readWhole_110 : decode cX7_readWhole 110 = .ok (.invokevirtual 98, 3) := by decide +kernel
theorem dX7_readWhole_113 : decode cX7_readWhole 113 = .ok (.ifCond .eq 7, 3) := by decide +kernel
theorem dX7_readWhole_116 : decode cX7_readWhole 116 = .ok (.iconst 1, 1) := by decide +kernel
theorem dX7_readWhole_117 : decode cX7_readWhole 117 = .ok (.goto 4, 3) := by decide +kernel
theorem dX7_readWhole_120 : decode cX7_readWhole 120 = .ok (.iconst 0, 1) := by decide +kernel
theorem dX7_readWhole_121 : decode cX7_readWhole 121 = .ok (.ireturn, 1) := by decide +kernel
set_option maxRecDepth 20000 in
theorem ggX7_text_X7_go : GoodIn wsX7_text wsX7_go := goodIn_r _ [15, 5, 3, 16, 17, 18, 19, 20, 21, 22, 23, 24, 14, 25, 26, 27, 28, 29, 30, 31, 32, 94, 95, 96, 97, 98, 99, 100, 101, 102, 103, 104, 105, 106, 107, 108, 109, 110, 111, 112, 113, 114, 115] (by decide +kernel) (by decide +kernel)
set_option maxRecDepth 20000 in
theorem gX7_text_X7_go : GoodIn wsX7_text (wsV RX7 105 RX7 yX7_go wsX7_go) := goodIn_app (goodIn_of _ (by decide +kernel)) ggX7_text_X7_go
set_option maxRecDepth 20000 in
theorem ggX7_text_X7_readWhole : GoodIn wsX7_text wsX7_readWhole := goodIn_r _ [36, 18, 37, 38, 39, 14, 40, 7, 41, 42, 43, 44, 45, 46, 47, 48, 21, 22, 49, 50, 51, 52, 53, 54, 55, 56, 57, 58, 19, 59, 60, 61, 62, 4, 17, 8, 11, 12, 13, 15, 5, 3, 16, 20, 23, 24, 25, 26, 27, 28, 29, 30, 31, 32, 63, 64, 65, 66, 67, 68, 69, 70, 71, 72, 73, 6, 74, 75, 76, 77, 78, 79, 80, 81, 82, 83, 84, 85, 86, 87, 88, 89, 90, 91, 92, 93, 94, 95, 96, 97, 98, 99, 100, 101, 102, 103, 104, 105, 106, 107, 108, 109, 110, 111, 112, 113, 114, 115] (by decide +kernel) (by decide +kernel)
set_option maxRecDepth 20000 in
theorem gX7_text_X7_readWhole : GoodIn wsX7_text (wsV RX7 147 RX7 yX7_readWhole wsX7_readWhole) := goodIn_app (goodIn_of _ (by decide +kernel)) ggX7_text_X7_readWhole
theorem dX7_text_0 : decode cX7_text 0 = .ok (.aload_n 0, 1) := by decide +kernel
theorem dX7_text_1 : decode cX7_text 1 = .ok (.iconst 0, 1) := by decide +kernel
theorem dX7_text_2 : decode cX7_text 2 = .ok (.putfield 1, 3) := by decide +kernel
theorem dX7_text_5 : decode cX7_text 5 = .ok (.aload_n 0, 1) := by decide +kernel
theorem dX7_text_6 : decode cX7_text 6 = .ok (.aload_n 0, 1) := by decide +kernel
theorem dX7_text_7 : decode cX7_text 7 = .ok (.getfield 11, 3) := by decide +kernel
theorem dX7_text_10 : decode cX7_text 10 = .ok (.putfield 18, 3) := by decide +kernel
theorem dX7_text_13 : decode cX7_text 13 = .ok (.aload_n 0, 1) := by decide +kernel
theorem dX7_text_14 : decode cX7_text 14 = .ok (.iconst 0, 1) := by decide +kernel
theorem dX7_text_15 : decode cX7_text 15 = .ok (.putfield 11, 3) := by decide +kernel
theorem dX7_text_18 : decode cX7_text 18 = .ok (.aload_n 0, 1) := by decide +kernel
theorem dX7_text_19 : decode cX7_text 19 = .ok (.iconst 0, 1) := by decide +kernel
theorem dX7_text_20 : decode cX7_text 20 = .ok (.putfield 62, 3) := by decide +kernel
theorem dX7_text_23 : decode cX7_text 23 = .ok (.aload_n 0, 1) := by decide +kernel
theorem dX7_text_24 : decode cX7_text 24 = .ok (.iconst 0, 1) := by decide +kernel
theorem dX7_text_25 : decode cX7_text 25 = .ok (.putfield 21, 3) := by decide +kernel
theorem dX7_text_28 : decode cX7_text 28 = .ok (.aload_n 0, 1) := by decide +kernel
theorem dX7_text_29 : decode cX7_text 29 = .ok (.iconst 0, 1) := by decide +kernel
theorem dX7_text_30 : decode cX7_text 30 = .ok (.putfield 108, 3) := by decide +kernel
theorem dX7_text_33 : decode cX7_text 33 = .ok (.iconst 0, 1) := by decide +kernel
theorem dX7_text_34 : decode cX7_text 34 = .ok (.istore_n 1, 1) := by decide +kernel
theorem dX7_text_35 : decode cX7_text 35 = .ok (.iload_n 1, 1) := by decide +kernel
theorem dX7_text_36 : decode cX7_text 36 = .ok (.sipush 181, 3) := by decide +kernel
theorem dX7_text_39 : decode cX7_text 39 = .ok (.if_icmp .ge 16, 3) := by decide +kernel
theorem dX7_text_42 : decode cX7_text 42 = .ok (.aload_n 0, 1) := by decide +kernel
theorem dX7_text_43 : decode cX7_text 43 = .ok (.getfield 77, 3) := by decide +kernel
theorem dX7_text_46 : decode cX7_text 46 = .ok (.iload_n 1, 1) := by decide +kernel
theorem dX7_text_47 : decode cX7_text 47 = .ok (.iconst 0, 1) := by decide +kernel
theorem dX7_text_48 : decode cX7_text 48 = .ok (.iastore, 1) := by decide +kernel
theorem dX7_text_49 : decode cX7_text 49 = .ok (.iinc 1 1, 3) := by decide +kernel
theorem dX7_text_52 : decode cX7_text 52 = .ok (.goto (-17), 3) := by decide +kernel
theorem dX7_text_55 : decode cX7_text 55 = .ok (.aload_n 0, 1) := by decide +kernel
theorem dX7_text_56 : decode cX7_text 56 = .ok (.invokevirtual 105, 3) := by decide +kernel
theorem dX7_text_59 : decode cX7_text 59 = .ok (.aload_n 0, 1) := by decide +kernel
theorem dX7_text_60 : decode cX7_text 60 = .ok (.invokevirtual 147, 3) := by decide +kernel
theorem dX7_text_63 : decode cX7_text 63 = .ok (.ifCond .ne 10, 3) := by decide +kernel
theorem dX7_text_66 : decode cX7_text 66 = .ok (.iconst (-1), 1) := by decide +kernel
theorem dX7_text_67 : decode cX7_text 67 = .ok (.aload_n 0, 1) := by decide +kernel
theorem dX7_text_68 : decode cX7_text 68 = .ok (.getfield 65, 3) := by decide +kernel
theorem dX7_text_71 : decode cX7_text 71 = .ok (.isub, 1) := by decide +kernel
theorem dX7_text_72 : decode cX7_text 72 = .ok (.ireturn, 1) := by decide +kernel
theorem dX7_text_73 : decode cX7_text 73 = .ok (.iconst 0, 1) := by decide +kernel
theorem dX7_text_74 : decode cX7_text 74 = .ok (.istore_n 1, 1) := by decide +kernel
theorem dX7_text_75 : decode cX7_text 75 = .ok (.iload_n 1, 1) := by decide +kernel
theorem dX7_text_76 : decode cX7_text 76 = .ok (.sipush 181, 3) := by decide +kernel
theorem dX7_text_79 : decode cX7_text 79 = .ok (.if_icmp .ge 21, 3) := by decide +kernel
theorem dX7_text_82 : decode cX7_text 82 = .ok (.aload_n 0, 1) := by decide +kernel
theorem dX7_text_83 : decode cX7_text 83 = .ok (.getfield 74, 3) := by decide +kernel
theorem dX7_text_86 : decode cX7_text 86 = .ok (.iload_n 1, 1) := by decide +kernel
theorem dX7_text_87 : decode cX7_text 87 = .ok (.aload_n 0, 1) := by decide +kernel
theorem dX7_text_88 : decode cX7_text 88 = .ok (.getfield 77, 3) := by decide +kernel
theorem dX7_text_91 : decode cX7_text 91 = .ok (.iload_n 1, 1) := by decide +kernel
theorem dX7_text_92 : decode cX7_text 92 = .ok (.iaload, 1) := by decide +kernel
theorem dX7_text_93 : decode cX7_text 93 = .ok (.iastore, 1) := by decide +kernel
theorem dX7_text_94 : decode cX7_text 94 = .ok (.iinc 1 1, 3) := by decide +kernel
theorem dX7_text_97 : decode cX7_text 97 = .ok (.goto (-22), 3) := by decide +kernel
theorem dX7_text_100 : decode cX7_text 100 = .ok (.aload_n 0, 1) := by decide +kernel
theorem dX7_text_101 : decode cX7_text 101 = .ok (.iconst 0, 1) := by decide +kernel
theorem dX7_text_102 : decode cX7_text 102 = .ok (.putfield 150, 3) := by decide +kernel
theorem dX7_text_105 : decode cX7_text 105 = .ok (.aload_n 0, 1) := by decide +kernel
theorem dX7_text_106 : decode cX7_text 106 = .ok (.getfield 108, 3) := by decide +kernel
theorem dX7_text_109 : decode cX7_text 109 = .ok (.ireturn, 1) := by decide +kernel
theorem dX7_fault_0 : decode cX7_fault 0 = .ok (.aload_n 0, 1) := by decide +kernel
theorem dX7_fault_1 : decode cX7_fault 1 = .ok (.iconst 0, 1) := by decide +kernel
theorem dX7_fault_2 : decode cX7_fault 2 = .ok (.putfield 1, 3) := by decide +kernel
theorem dX7_fault_5 : decode cX7_fault 5 = .ok (.aload_n 0, 1) := by decide +kernel
theorem dX7_fault_6 : decode cX7_fault 6 = .ok (.getfield 62, 3) := by decide +kernel
theorem dX7_fault_9 : decode cX7_fault 9 = .ok (.ireturn, 1) := by decide +kernel
set_option maxRecDepth 20000 in
theorem ggX7_isCarrier_X7_isIn : GoodIn wsX7_isCarrier wsX7_isIn := goodIn_r _ [5] (by decide +kernel) (by decide +kernel)
set_option maxRecDepth 20000 in
theorem gX7_isCarrier_X7_isIn : GoodIn wsX7_isCarrier (va_wsS RX7 101 yX7_isIn wsX7_isIn) := goodIn_app (goodIn_of _ (by decide +kernel)) ggX7_isCarrier_X7_isIn
theorem dX7_isCarrier_0 : decode cX7_isCarrier 0 = .ok (.iload_n 1, 1) := by decide +kernel
theorem dX7_isCarrier_1 : decode cX7_isCarrier 1 = .ok (.iconst 0, 1) := by decide +kernel
theorem dX7_isCarrier_2 : decode cX7_isCarrier 2 = .ok (.aload_n 0, 1) := by decide +kernel
theorem dX7_isCarrier_3 : decode cX7_isCarrier 3 = .ok (.getfield 74, 3) := by decide +kernel
theorem dX7_isCarrier_6 : decode cX7_isCarrier 6 = .ok (.iconst 0, 1) := by decide +kernel
theorem dX7_isCarrier_7 : decode cX7_isCarrier 7 = .ok (.iaload, 1) := by decide +kernel
theorem dX7_isCarrier_8 : decode cX7_isCarrier 8 = .ok (.iconst 1, 1) := by decide +kernel
theorem dX7_isCarrier_9 : decode cX7_isCarrier 9 = .ok (.isub, 1) := by decide +kernel
theorem dX7_isCarrier_10 : decode cX7_isCarrier 10 = .ok (.invokestatic 101, 3) := by decide +kernel
theorem dX7_isCarrier_13 : decode cX7_isCarrier 13 = .ok (.ireturn, 1) := by decide +kernel
set_option maxRecDepth 20000 in
theorem ggX7_isGood_X7_isIn : GoodIn wsX7_isGood wsX7_isIn := goodIn_r _ [5] (by decide +kernel) (by decide +kernel)
set_option maxRecDepth 20000 in
theorem gX7_isGood_X7_isIn : GoodIn wsX7_isGood (va_wsS RX7 101 yX7_isIn wsX7_isIn) := goodIn_app (goodIn_of _ (by decide +kernel)) ggX7_isGood_X7_isIn
theorem dX7_isGood_0 : decode cX7_isGood 0 = .ok (.iload_n 1, 1) := by decide +kernel
theorem dX7_isGood_1 : decode cX7_isGood 1 = .ok (.iconst 0, 1) := by decide +kernel
theorem dX7_isGood_2 : decode cX7_isGood 2 = .ok (.aload_n 0, 1) := by decide +kernel
theorem dX7_isGood_3 : decode cX7_isGood 3 = .ok (.getfield 74, 3) := by decide +kernel
theorem dX7_isGood_6 : decode cX7_isGood 6 = .ok (.iconst 1, 1) := by decide +kernel
theorem dX7_isGood_7 : decode cX7_isGood 7 = .ok (.iaload, 1) := by decide +kernel
theorem dX7_isGood_8 : decode cX7_isGood 8 = .ok (.iconst 1, 1) := by decide +kernel
theorem dX7_isGood_9 : decode cX7_isGood 9 = .ok (.isub, 1) := by decide +kernel
theorem dX7_isGood_10 : decode cX7_isGood 10 = .ok (.invokestatic 101, 3) := by decide +kernel
theorem dX7_isGood_13 : decode cX7_isGood 13 = .ok (.ireturn, 1) := by decide +kernel
set_option maxRecDepth 20000 in
theorem ggX7_isParcel_X7_isIn : GoodIn wsX7_isParcel wsX7_isIn := goodIn_r _ [4] (by decide +kernel) (by decide +kernel)
set_option maxRecDepth 20000 in
theorem gX7_isParcel_X7_isIn : GoodIn wsX7_isParcel (va_wsS RX7 101 yX7_isIn wsX7_isIn) := goodIn_app (goodIn_of _ (by decide +kernel)) ggX7_isParcel_X7_isIn
theorem dX7_isParcel_0 : decode cX7_isParcel 0 = .ok (.iload_n 0, 1) := by decide +kernel
theorem dX7_isParcel_1 : decode cX7_isParcel 1 = .ok (.iconst 0, 1) := by decide +kernel
theorem dX7_isParcel_2 : decode cX7_isParcel 2 = .ok (.bipush 7, 2) := by decide +kernel
theorem dX7_isParcel_4 : decode cX7_isParcel 4 = .ok (.invokestatic 101, 3) := by decide +kernel
theorem dX7_isParcel_7 : decode cX7_isParcel 7 = .ok (.ireturn, 1) := by decide +kernel
set_option maxRecDepth 20000 in
theorem ggX7_isSet_X7_isIn : GoodIn wsX7_isSet wsX7_isIn := goodIn_r _ [5] (by decide +kernel) (by decide +kernel)
set_option maxRecDepth 20000 in
theorem gX7_isSet_X7_isIn : GoodIn wsX7_isSet (va_wsS RX7 101 yX7_isIn wsX7_isIn) := goodIn_app (goodIn_of _ (by decide +kernel)) ggX7_isSet_X7_isIn
theorem dX7_isSet_0 : decode cX7_isSet 0 = .ok (.iload_n 1, 1) := by decide +kernel
theorem dX7_isSet_1 : decode cX7_isSet 1 = .ok (.iconst 1, 1) := by decide +kernel
theorem dX7_isSet_2 : decode cX7_isSet 2 = .ok (.iconst 1, 1) := by decide +kernel
theorem dX7_isSet_3 : decode cX7_isSet 3 = .ok (.aload_n 0, 1) := by decide +kernel
theorem dX7_isSet_4 : decode cX7_isSet 4 = .ok (.getfield 74, 3) := by decide +kernel
theorem dX7_isSet_7 : decode cX7_isSet 7 = .ok (.iconst 1, 1) := by decide +kernel
theorem dX7_isSet_8 : decode cX7_isSet 8 = .ok (.iaload, 1) := by decide +kernel
theorem dX7_isSet_9 : decode cX7_isSet 9 = .ok (.ishl, 1) := by decide +kernel
theorem dX7_isSet_10 : decode cX7_isSet 10 = .ok (.iconst 1, 1) := by decide +kernel
theorem dX7_isSet_11 : decode cX7_isSet 11 = .ok (.isub, 1) := by decide +kernel
theorem dX7_isSet_12 : decode cX7_isSet 12 = .ok (.invokestatic 101, 3) := by decide +kernel
theorem dX7_isSet_15 : decode cX7_isSet 15 = .ok (.ireturn, 1) := by decide +kernel
theorem dX7_its_0 : decode cX7_its 0 = .ok (.aload_n 0, 1) := by decide +kernel
theorem dX7_its_1 : decode cX7_its 1 = .ok (.getfield 74, 3) := by decide +kernel
theorem dX7_its_4 : decode cX7_its 4 = .ok (.iconst 4, 1) := by decide +kernel
theorem dX7_its_5 : decode cX7_its 5 = .ok (.bipush 43, 2) := by decide +kernel
theorem dX7_its_7 : decode cX7_its 7 = .ok (.iload_n 1, 1) := by decide +kernel
theorem dX7_its_8 : decode cX7_its 8 = .ok (.imul, 1) := by decide +kernel
theorem dX7_its_9 : decode cX7_its 9 = .ok (.iadd, 1) := by decide +kernel
theorem dX7_its_10 : decode cX7_its 10 = .ok (.iload_n 2, 1) := by decide +kernel
theorem dX7_its_11 : decode cX7_its 11 = .ok (.iadd, 1) := by decide +kernel
theorem dX7_its_12 : decode cX7_its 12 = .ok (.iaload, 1) := by decide +kernel
theorem dX7_its_13 : decode cX7_its 13 = .ok (.ireturn, 1) := by decide +kernel
theorem dX7_goodOf_0 : decode cX7_goodOf 0 = .ok (.aload_n 0, 1) := by decide +kernel
theorem dX7_goodOf_1 : decode cX7_goodOf 1 = .ok (.getfield 74, 3) := by decide +kernel
theorem dX7_goodOf_4 : decode cX7_goodOf 4 = .ok (.sipush 133, 3) := by decide +kernel
theorem dX7_goodOf_7 : decode cX7_goodOf 7 = .ok (.iconst 4, 1) := by decide +kernel
theorem dX7_goodOf_8 : decode cX7_goodOf 8 = .ok (.iload_n 1, 1) := by decide +kernel
theorem dX7_goodOf_9 : decode cX7_goodOf 9 = .ok (.imul, 1) := by decide +kernel
theorem dX7_goodOf_10 : decode cX7_goodOf 10 = .ok (.iadd, 1) := by decide +kernel
theorem dX7_goodOf_11 : decode cX7_goodOf 11 = .ok (.iload_n 2, 1) := by decide +kernel
theorem dX7_goodOf_12 : decode cX7_goodOf 12 = .ok (.iadd, 1) := by decide +kernel
theorem dX7_goodOf_13 : decode cX7_goodOf 13 = .ok (.iaload, 1) := by decide +kernel
theorem dX7_goodOf_14 : decode cX7_goodOf 14 = .ok (.ireturn, 1) := by decide +kernel
set_option maxRecDepth 20000 in
theorem ggX7_parcelOf_X7_goodOf : GoodIn wsX7_parcelOf wsX7_goodOf := goodIn_r _ [5, 6, 7, 8, 9, 10, 11, 12, 13, 14, 15, 16, 17, 18, 19, 20, 21, 22, 23, 24, 25, 26, 27, 28] (by decide +kernel) (by decide +kernel)
set_option maxRecDepth 20000 in
theorem gX7_parcelOf_X7_goodOf : GoodIn wsX7_parcelOf (wsV RX7 153 RX7 yX7_goodOf wsX7_goodOf) := goodIn_app (goodIn_of _ (by decide +kernel)) ggX7_parcelOf_X7_goodOf
theorem dX7_parcelOf_0 : decode cX7_parcelOf 0 = .ok (.aload_n 0, 1) := by decide +kernel
theorem dX7_parcelOf_1 : decode cX7_parcelOf 1 = .ok (.iload_n 1, 1) := by decide +kernel
theorem dX7_parcelOf_2 : decode cX7_parcelOf 2 = .ok (.iconst 3, 1) := by decide +kernel
theorem dX7_parcelOf_3 : decode cX7_parcelOf 3 = .ok (.invokevirtual 153, 3) := by decide +kernel
theorem dX7_parcelOf_6 : decode cX7_parcelOf 6 = .ok (.iconst 1, 1) := by decide +kernel
theorem dX7_parcelOf_7 : decode cX7_parcelOf 7 = .ok (.isub, 1) := by decide +kernel
theorem dX7_parcelOf_8 : decode cX7_parcelOf 8 = .ok (.ireturn, 1) := by decide +kernel
set_option maxRecDepth 20000 in
theorem ggX7_zoneOf_X7_its : GoodIn wsX7_zoneOf wsX7_its := goodIn_r _ [6, 1, 7, 8, 9, 10, 11, 12, 13, 14, 15, 16, 17, 18, 19, 20, 21, 22, 23, 24, 25, 26, 27, 28] (by decide +kernel) (by decide +kernel)
set_option maxRecDepth 20000 in
theorem gX7_zoneOf_X7_its : GoodIn wsX7_zoneOf (wsV RX7 157 RX7 yX7_its wsX7_its) := goodIn_app (goodIn_of _ (by decide +kernel)) ggX7_zoneOf_X7_its
theorem dX7_zoneOf_0 : decode cX7_zoneOf 0 = .ok (.iconst 3, 1) := by decide +kernel
theorem dX7_zoneOf_1 : decode cX7_zoneOf 1 = .ok (.istore_n 2, 1) := by decide +kernel
theorem dX7_zoneOf_2 : decode cX7_zoneOf 2 = .ok (.iconst 0, 1) := by decide +kernel
theorem dX7_zoneOf_3 : decode cX7_zoneOf 3 = .ok (.istore_n 3, 1) := by decide +kernel
theorem dX7_zoneOf_4 : decode cX7_zoneOf 4 = .ok (.iload_n 3, 1) := by decide +kernel
theorem dX7_zoneOf_5 : decode cX7_zoneOf 5 = .ok (.aload_n 0, 1) := by decide +kernel
theorem dX7_zoneOf_6 : decode cX7_zoneOf 6 = .ok (.iload_n 1, 1) := by decide +kernel
theorem dX7_zoneOf_7 : decode cX7_zoneOf 7 = .ok (.bipush 27, 2) := by decide +kernel
theorem dX7_zoneOf_9 : decode cX7_zoneOf 9 = .ok (.invokevirtual 157, 3) := by decide +kernel
theorem dX7_zoneOf_12 : decode cX7_zoneOf 12 = .ok (.if_icmp .ge 50, 3) := by decide +kernel
theorem dX7_zoneOf_15 : decode cX7_zoneOf 15 = .ok (.aload_n 0, 1) := by decide +kernel
theorem dX7_zoneOf_16 : decode cX7_zoneOf 16 = .ok (.iload_n 1, 1) := by decide +kernel
theorem dX7_zoneOf_17 : decode cX7_zoneOf 17 = .ok (.bipush 28, 2) := by decide +kernel
theorem dX7_zoneOf_19 : decode cX7_zoneOf 19 = .ok (.iconst 5, 1) := by decide +kernel
theorem dX7_zoneOf_20 : decode cX7_zoneOf 20 = .ok (.iload_n 3, 1) := by decide +kernel
theorem dX7_zoneOf_21 : decode cX7_zoneOf 21 = .ok (.imul, 1) := by decide +kernel
theorem dX7_zoneOf_22 : decode cX7_zoneOf 22 = .ok (.iadd, 1) := by decide +kernel
theorem dX7_zoneOf_23 : decode cX7_zoneOf 23 = .ok (.invokevirtual 157, 3) := by decide +kernel
theorem dX7_zoneOf_26 : decode cX7_zoneOf 26 = .ok (.aload_n 0, 1) := by decide +kernel
theorem dX7_zoneOf_27 : decode cX7_zoneOf 27 = .ok (.getfield 74, 3) := by decide +kernel
theorem dX7_zoneOf_30 : decode cX7_zoneOf 30 = .ok (.iconst 3, 1) := by decide +kernel
theorem dX7_zoneOf_31 : decode cX7_zoneOf 31 = .ok (.iaload, 1) := by decide +kernel
theorem dX7_zoneOf_32 : decode cX7_zoneOf 32 = .ok (.if_icmp .gt 24, 3) := by decide +kernel
theorem dX7_zoneOf_35 : decode cX7_zoneOf 35 = .ok (.aload_n 0, 1) := by decide +kernel
theorem dX7_zoneOf_36 : decode cX7_zoneOf 36 = .ok (.iload_n 1, 1) := by decide +kernel
theorem dX7_zoneOf_37 : decode cX7_zoneOf 37 = .ok (.bipush 28, 2) := by decide +kernel
theorem dX7_zoneOf_39 : decode cX7_zoneOf 39 = .ok (.iconst 5, 1) := by decide +kernel
theorem dX7_zoneOf_40 : decode cX7_zoneOf 40 = .ok (.iload_n 3, 1) := by decide +kernel
theorem dX7_zoneOf_41 : decode cX7_zoneOf 41 = .ok (.imul, 1) := by decide +kernel
theorem dX7_zoneOf_42 : decode cX7_zoneOf 42 = .ok (.iadd, 1) := by decide +kernel
theorem dX7_zoneOf_43 : decode cX7_zoneOf 43 = .ok (.iconst 1, 1) := by decide +kernel
theorem dX7_zoneOf_44 : decode cX7_zoneOf 44 = .ok (.iadd, 1) := by decide +kernel
theorem dX7_zoneOf_45 : decode cX7_zoneOf 45 = .ok (.aload_n 0, 1) := by decide +kernel
theorem dX7_zoneOf_46 : decode cX7_zoneOf 46 = .ok (.getfield 74, 3) := by decide +kernel
theorem dX7_zoneOf_49 : decode cX7_zoneOf 49 = .ok (.iconst 2, 1) := by decide +kernel
theorem dX7_zoneOf_50 : decode cX7_zoneOf 50 = .ok (.iaload, 1) := by decide +kernel
theorem dX7_zoneOf_51 : decode cX7_zoneOf 51 = .ok (.iadd, 1) := by decide +kernel
theorem dX7_zoneOf_52 : decode cX7_zoneOf 52 = .ok (.invokevirtual 157, 3) := by decide +kernel
theorem dX7_zoneOf_55 : decode cX7_zoneOf 55 = .ok (.istore_n 2, 1) := by decide +kernel
theorem dX7_zoneOf_56 : decode cX7_zoneOf 56 = .ok (.iinc 3 1, 3) := by decide +kernel
theorem dX7_zoneOf_59 : decode cX7_zoneOf 59 = .ok (.goto (-55), 3) := by decide +kernel
theorem dX7_zoneOf_62 : decode cX7_zoneOf 62 = .ok (.iload_n 2, 1) := by decide +kernel
theorem dX7_zoneOf_63 : decode cX7_zoneOf 63 = .ok (.ireturn, 1) := by decide +kernel
set_option maxRecDepth 20000 in
theorem ggX7_rateOf_X7_zoneOf : GoodIn wsX7_rateOf wsX7_zoneOf := goodIn_r _ [5, 6, 7, 8, 9, 4, 10, 11, 12, 13, 14, 15, 16, 17, 18, 19, 20, 21, 22, 23, 24, 25, 26, 27, 28, 29, 30, 31, 32] (by decide +kernel) (by decide +kernel)
set_option maxRecDepth 20000 in
theorem gX7_rateOf_X7_zoneOf : GoodIn wsX7_rateOf (wsV RX7 160 RX7 yX7_zoneOf wsX7_zoneOf) := goodIn_app (goodIn_of _ (by decide +kernel)) ggX7_rateOf_X7_zoneOf
set_option maxRecDepth 20000 in
theorem ggX7_rateOf_X7_its : GoodIn wsX7_rateOf wsX7_its := goodIn_r _ [10, 6, 11, 12, 13, 14, 15, 16, 17, 18, 19, 20, 21, 22, 23, 24, 25, 26, 27, 28, 29, 30, 31, 32] (by decide +kernel) (by decide +kernel)
set_option maxRecDepth 20000 in
theorem gX7_rateOf_X7_its : GoodIn wsX7_rateOf (wsV RX7 157 RX7 yX7_its wsX7_its) := goodIn_app (goodIn_of _ (by decide +kernel)) ggX7_rateOf_X7_its
theorem dX7_rateOf_0 : decode cX7_rateOf 0 = .ok (.aload_n 0, 1) := by decide +kernel
theorem dX7_rateOf_1 : decode cX7_rateOf 1 = .ok (.iload_n 1, 1) := by decide +kernel
theorem dX7_rateOf_2 : decode cX7_rateOf 2 = .ok (.invokevirtual 160, 3) := by decide +kernel
theorem dX7_rateOf_5 : decode cX7_rateOf 5 = .ok (.istore_n 3, 1) := by decide +kernel
theorem dX7_rateOf_6 : decode cX7_rateOf 6 = .ok (.bipush (-2), 2) := by decide +kernel
theorem dX7_rateOf_8 : decode cX7_rateOf 8 = .ok (.istore 4, 2) := by decide +kernel
theorem dX7_rateOf_10 : decode cX7_rateOf 10 = .ok (.iconst 0, 1) := by decide +kernel
theorem dX7_rateOf_11 : decode cX7_rateOf 11 = .ok (.istore 5, 2) := by decide +kernel
theorem dX7_rateOf_13 : decode cX7_rateOf 13 = .ok (.iload 5, 2) := by decide +kernel
theorem dX7_rateOf_15 : decode cX7_rateOf 15 = .ok (.aload_n 0, 1) := by decide +kernel
theorem dX7_rateOf_16 : decode cX7_rateOf 16 = .ok (.iload_n 1, 1) := by decide +kernel
theorem dX7_rateOf_17 : decode cX7_rateOf 17 = .ok (.bipush 6, 2) := by decide +kernel
theorem dX7_rateOf_19 : decode cX7_rateOf 19 = .ok (.invokevirtual 157, 3) := by decide +kernel
theorem dX7_rateOf_22 : decode cX7_rateOf 22 = .ok (.if_icmp .ge 66, 3) := by decide +kernel
theorem dX7_rateOf_25 : decode cX7_rateOf 25 = .ok (.iload_n 3, 1) := by decide +kernel
theorem dX7_rateOf_26 : decode cX7_rateOf 26 = .ok (.iconst 3, 1) := by decide +kernel
theorem dX7_rateOf_27 : decode cX7_rateOf 27 = .ok (.if_icmp .ge 61, 3) := by decide +kernel
theorem dX7_rateOf_30 : decode cX7_rateOf 30 = .ok (.aload_n 0, 1) := by decide +kernel
theorem dX7_rateOf_31 : decode cX7_rateOf 31 = .ok (.iload_n 1, 1) := by decide +kernel
theorem dX7_rateOf_32 : decode cX7_rateOf 32 = .ok (.bipush 7, 2) := by decide +kernel
theorem dX7_rateOf_34 : decode cX7_rateOf 34 = .ok (.iconst 4, 1) := by decide +kernel
theorem dX7_rateOf_35 : decode cX7_rateOf 35 = .ok (.iload 5, 2) := by decide +kernel
theorem dX7_rateOf_37 : decode cX7_rateOf 37 = .ok (.imul, 1) := by decide +kernel
theorem dX7_rateOf_38 : decode cX7_rateOf 38 = .ok (.iadd, 1) := by decide +kernel
theorem dX7_rateOf_39 : decode cX7_rateOf 39 = .ok (.iconst 1, 1) := by decide +kernel
theorem dX7_rateOf_40 : decode cX7_rateOf 40 = .ok (.iadd, 1) := by decide +kernel
theorem dX7_rateOf_41 : decode cX7_rateOf 41 = .ok (.iload_n 3, 1) := by decide +kernel
theorem dX7_rateOf_42 : decode cX7_rateOf 42 = .ok (.iadd, 1) := by decide +kernel
theorem dX7_rateOf_43 : decode cX7_rateOf 43 = .ok (.invokevirtual 157, 3) := by decide +kernel
theorem dX7_rateOf_46 : decode cX7_rateOf 46 = .ok (.istore 6, 2) := by decide +kernel
theorem dX7_rateOf_48 : decode cX7_rateOf 48 = .ok (.aload_n 0, 1) := by decide +kernel
theorem dX7_rateOf_49 : decode cX7_rateOf 49 = .ok (.iload_n 1, 1) := by decide +kernel
theorem dX7_rateOf_50 : decode cX7_rateOf 50 = .ok (.bipush 7, 2) := by decide +kernel
theorem dX7_rateOf_52 : decode cX7_rateOf 52 = .ok (.iconst 4, 1) := by decide +kernel
theorem dX7_rateOf_53 : decode cX7_rateOf 53 = .ok (.iload 5, 2) := by decide +kernel
theorem dX7_rateOf_55 : decode cX7_rateOf 55 = .ok (.imul, 1) := by decide +kernel
theorem dX7_rateOf_56 : decode cX7_rateOf 56 = .ok (.iadd, 1) := by decide +kernel
theorem dX7_rateOf_57 : decode cX7_rateOf 57 = .ok (.invokevirtual 157, 3) := by decide +kernel
theorem dX7_rateOf_60 : decode cX7_rateOf 60 = .ok (.iload_n 2, 1) := by decide +kernel
theorem dX7_rateOf_61 : decode cX7_rateOf 61 = .ok (.if_icmp .lt 21, 3) := by decide +kernel
theorem dX7_rateOf_64 : decode cX7_rateOf 64 = .ok (.iload 4, 2) := by decide +kernel
theorem dX7_rateOf_66 : decode cX7_rateOf 66 = .ok (.bipush (-2), 2) := by decide +kernel
theorem dX7_rateOf_68 : decode cX7_rateOf 68 = .ok (.if_icmp .eq 10, 3) := by decide +kernel
theorem dX7_rateOf_71 : decode cX7_rateOf 71 = .ok (.iload 6, 2) := by decide +kernel
theorem dX7_rateOf_73 : decode cX7_rateOf 73 = .ok (.iload 4, 2) := by decide +kernel
theorem dX7_rateOf_75 : decode cX7_rateOf 75 = .ok (.if_icmp .ge 7, 3) := by decide +kernel
theorem dX7_rateOf_78 : decode cX7_rateOf 78 = .ok (.iload 6, 2) := by decide +kernel
theorem dX7_rateOf_80 : decode cX7_rateOf 80 = .ok (.istore 4, 2) := by decide +kernel
theorem dX7_rateOf_82 : decode cX7_rateOf 82 = .ok (.iinc 5 1, 3) := by decide +kernel
theorem dX7_rateOf_85 : decode cX7_rateOf 85 = .ok (.goto (-72), 3) := by decide +kernel
theorem dX7_rateOf_88 : decode cX7_rateOf 88 = .ok (.iload 4, 2) := by decide +kernel
theorem dX7_rateOf_90 : decode cX7_rateOf 90 = .ok (.ireturn, 1) := by decide +kernel
set_option maxRecDepth 20000 in
theorem ggX7_sumOf_X7_has : GoodIn wsX7_sumOf wsX7_has := goodIn_r _ [5] (by decide +kernel) (by decide +kernel)
set_option maxRecDepth 20000 in
theorem gX7_sumOf_X7_has : GoodIn wsX7_sumOf (va_wsS RX7 163 yX7_has wsX7_has) := goodIn_app (goodIn_of _ (by decide +kernel)) ggX7_sumOf_X7_has
set_option maxRecDepth 20000 in
theorem ggX7_sumOf_X7_goodOf : GoodIn wsX7_sumOf wsX7_goodOf := goodIn_r _ [9, 1, 10, 11, 12, 13, 14, 15, 16, 17, 18, 19, 20, 21, 22, 23, 24, 25, 26, 27, 28, 29, 30, 31] (by decide +kernel) (by decide +kernel)
set_option maxRecDepth 20000 in
theorem gX7_sumOf_X7_goodOf : GoodIn wsX7_sumOf (wsV RX7 153 RX7 yX7_goodOf wsX7_goodOf) := goodIn_app (goodIn_of _ (by decide +kernel)) ggX7_sumOf_X7_goodOf
theorem dX7_sumOf_0 : decode cX7_sumOf 0 = .ok (.iconst 0, 1) := by decide +kernel
theorem dX7_sumOf_1 : decode cX7_sumOf 1 = .ok (.istore_n 3, 1) := by decide +kernel
theorem dX7_sumOf_2 : decode cX7_sumOf 2 = .ok (.iconst 0, 1) := by decide +kernel
theorem dX7_sumOf_3 : decode cX7_sumOf 3 = .ok (.istore 4, 2) := by decide +kernel
theorem dX7_sumOf_5 : decode cX7_sumOf 5 = .ok (.iload 4, 2) := by decide +kernel
theorem dX7_sumOf_7 : decode cX7_sumOf 7 = .ok (.aload_n 0, 1) := by decide +kernel
theorem dX7_sumOf_8 : decode cX7_sumOf 8 = .ok (.getfield 74, 3) := by decide +kernel
theorem dX7_sumOf_11 : decode cX7_sumOf 11 = .ok (.iconst 1, 1) := by decide +kernel
theorem dX7_sumOf_12 : decode cX7_sumOf 12 = .ok (.iaload, 1) := by decide +kernel
theorem dX7_sumOf_13 : decode cX7_sumOf 13 = .ok (.if_icmp .ge 28, 3) := by decide +kernel
theorem dX7_sumOf_16 : decode cX7_sumOf 16 = .ok (.iload_n 1, 1) := by decide +kernel
theorem dX7_sumOf_17 : decode cX7_sumOf 17 = .ok (.iload 4, 2) := by decide +kernel
theorem dX7_sumOf_19 : decode cX7_sumOf 19 = .ok (.invokestatic 163, 3) := by decide +kernel
theorem dX7_sumOf_22 : decode cX7_sumOf 22 = .ok (.ifCond .eq 13, 3) := by decide +kernel
theorem dX7_sumOf_25 : decode cX7_sumOf 25 = .ok (.iload_n 3, 1) := by decide +kernel
theorem dX7_sumOf_26 : decode cX7_sumOf 26 = .ok (.aload_n 0, 1) := by decide +kernel
theorem dX7_sumOf_27 : decode cX7_sumOf 27 = .ok (.iload 4, 2) := by decide +kernel
theorem dX7_sumOf_29 : decode cX7_sumOf 29 = .ok (.iload_n 2, 1) := by decide +kernel
theorem dX7_sumOf_30 : decode cX7_sumOf 30 = .ok (.invokevirtual 153, 3) := by decide +kernel
theorem dX7_sumOf_33 : decode cX7_sumOf 33 = .ok (.iadd, 1) := by decide +kernel
theorem dX7_sumOf_34 : decode cX7_sumOf 34 = .ok (.istore_n 3, 1) := by decide +kernel
theorem dX7_sumOf_35 : decode cX7_sumOf 35 = .ok (.iinc 4 1, 3) := by decide +kernel
theorem dX7_sumOf_38 : decode cX7_sumOf 38 = .ok (.goto (-33), 3) := by decide +kernel
theorem dX7_sumOf_41 : decode cX7_sumOf 41 = .ok (.iload_n 3, 1) := by decide +kernel
theorem dX7_sumOf_42 : decode cX7_sumOf 42 = .ok (.ireturn, 1) := by decide +kernel
set_option maxRecDepth 20000 in
theorem ggX7_billedOf_X7_its : GoodIn wsX7_billedOf wsX7_its := goodIn_r _ [5, 6, 7, 8, 9, 10, 11, 12, 13, 14, 15, 16, 17, 18, 19, 20, 21, 22, 23, 24, 25, 26, 27, 28] (by decide +kernel) (by decide +kernel)
set_option maxRecDepth 20000 in
theorem gX7_billedOf_X7_its : GoodIn wsX7_billedOf (wsV RX7 157 RX7 yX7_its wsX7_its) := goodIn_app (goodIn_of _ (by decide +kernel)) ggX7_billedOf_X7_its
theorem dX7_billedOf_0 : decode cX7_billedOf 0 = .ok (.iload_n 2, 1) := by decide +kernel
theorem dX7_billedOf_1 : decode cX7_billedOf 1 = .ok (.aload_n 0, 1) := by decide +kernel
theorem dX7_billedOf_2 : decode cX7_billedOf 2 = .ok (.iload_n 3, 1) := by decide +kernel
theorem dX7_billedOf_3 : decode cX7_billedOf 3 = .ok (.iconst 2, 1) := by decide +kernel
theorem dX7_billedOf_4 : decode cX7_billedOf 4 = .ok (.invokevirtual 157, 3) := by decide +kernel
theorem dX7_billedOf_7 : decode cX7_billedOf 7 = .ok (.iadd, 1) := by decide +kernel
theorem dX7_billedOf_8 : decode cX7_billedOf 8 = .ok (.iconst 1, 1) := by decide +kernel
theorem dX7_billedOf_9 : decode cX7_billedOf 9 = .ok (.isub, 1) := by decide +kernel
theorem dX7_billedOf_10 : decode cX7_billedOf 10 = .ok (.aload_n 0, 1) := by decide +kernel
theorem dX7_billedOf_11 : decode cX7_billedOf 11 = .ok (.iload_n 3, 1) := by decide +kernel
theorem dX7_billedOf_12 : decode cX7_billedOf 12 = .ok (.iconst 2, 1) := by decide +kernel
theorem dX7_billedOf_13 : decode cX7_billedOf 13 = .ok (.invokevirtual 157, 3) := by decide +kernel
theorem dX7_billedOf_16 : decode cX7_billedOf 16 = .ok (.idiv, 1) := by decide +kernel
theorem dX7_billedOf_17 : decode cX7_billedOf 17 = .ok (.istore 4, 2) := by decide +kernel
theorem dX7_billedOf_19 : decode cX7_billedOf 19 = .ok (.iload 4, 2) := by decide +kernel
theorem dX7_billedOf_21 : decode cX7_billedOf 21 = .ok (.iload_n 1, 1) := by decide +kernel
theorem dX7_billedOf_22 : decode cX7_billedOf 22 = .ok (.if_icmp .le 8, 3) := by decide +kernel
theorem dX7_billedOf_25 : decode cX7_billedOf 25 = .ok (.iload 4, 2) := by decide +kernel
theorem dX7_billedOf_27 : decode cX7_billedOf 27 = .ok (.goto 4, 3) := by decide +kernel
theorem dX7_billedOf_30 : decode cX7_billedOf 30 = .ok (.iload_n 1, 1) := by decide +kernel
theorem dX7_billedOf_31 : decode cX7_billedOf 31 = .ok (.ireturn, 1) := by decide +kernel
set_option maxRecDepth 20000 in
theorem ggX7_chargeOf_X7_sumOf : GoodIn wsX7_chargeOf wsX7_sumOf := goodIn_r _ [6, 1, 7, 8, 5, 9, 10, 11, 12, 13, 30, 31, 32, 33, 34, 35, 36, 37, 38, 39, 40, 41, 42, 43, 44, 45, 46, 47, 48, 49, 50, 51] (by decide +kernel) (by decide +kernel)
set_option maxRecDepth 20000 in
theorem gX7_chargeOf_X7_sumOf : GoodIn wsX7_chargeOf (wsV RX7 167 RX7 yX7_sumOf wsX7_sumOf) := goodIn_app (goodIn_of _ (by decide +kernel)) ggX7_chargeOf_X7_sumOf
set_option maxRecDepth 20000 in
theorem ggX7_chargeOf_X7_zoneOf : GoodIn wsX7_chargeOf wsX7_zoneOf := goodIn_r _ [17, 1, 18, 19, 20, 5, 21, 30, 31, 32, 33, 34, 35, 36, 37, 38, 39, 40, 41, 42, 43, 44, 45, 46, 47, 48, 49, 50, 51] (by decide +kernel) (by decide +kernel)
set_option maxRecDepth 20000 in
theorem gX7_chargeOf_X7_zoneOf : GoodIn wsX7_chargeOf (wsV RX7 160 RX7 yX7_zoneOf wsX7_zoneOf) := goodIn_app (goodIn_of _ (by decide +kernel)) ggX7_chargeOf_X7_zoneOf
set_option maxRecDepth 20000 in
theorem ggX7_chargeOf_X7_its : GoodIn wsX7_chargeOf wsX7_its := goodIn_r _ [21, 1, 30, 31, 32, 33, 34, 35, 36, 37, 38, 39, 40, 41, 42, 43, 44, 45, 46, 47, 48, 49, 50, 51] (by decide +kernel) (by decide +kernel)
set_option maxRecDepth 20000 in
theorem gX7_chargeOf_X7_its : GoodIn wsX7_chargeOf (wsV RX7 157 RX7 yX7_its wsX7_its) := goodIn_app (goodIn_of _ (by decide +kernel)) ggX7_chargeOf_X7_its
set_option maxRecDepth 20000 in
theorem ggX7_chargeOf_X7_billedOf : GoodIn wsX7_chargeOf wsX7_billedOf := goodIn_r _ [25, 18, 19, 20, 5, 21, 1, 30, 31, 32, 33, 34, 35, 36, 37, 38, 39, 40, 41, 42, 43, 44, 45, 46, 47, 48, 49, 50, 51] (by decide +kernel) (by decide +kernel)
set_option maxRecDepth 20000 in
theorem gX7_chargeOf_X7_billedOf : GoodIn wsX7_chargeOf (wsV RX7 170 RX7 yX7_billedOf wsX7_billedOf) := goodIn_app (goodIn_of _ (by decide +kernel)) ggX7_chargeOf_X7_billedOf
set_option maxRecDepth 20000 in
theorem ggX7_chargeOf_X7_rateOf : GoodIn wsX7_chargeOf wsX7_rateOf := goodIn_r _ [29, 14, 15, 16, 5, 17, 1, 18, 19, 20, 21, 30, 31, 32, 33, 34, 35, 36, 37, 38, 39, 40, 41, 42, 43, 44, 45, 46, 47, 48, 49, 50, 51] (by decide +kernel) (by decide +kernel)
set_option maxRecDepth 20000 in
theorem gX7_chargeOf_X7_rateOf : GoodIn wsX7_chargeOf (wsV RX7 174 RX7 yX7_rateOf wsX7_rateOf) := goodIn_app (goodIn_of _ (by decide +kernel)) ggX7_chargeOf_X7_rateOf
set_option maxRecDepth 20000 in
theorem ggX7_chargeOf_X7_has : GoodIn wsX7_chargeOf wsX7_has := goodIn_r _ [9] (by decide +kernel) (by decide +kernel)
set_option maxRecDepth 20000 in
theorem gX7_chargeOf_X7_has : GoodIn wsX7_chargeOf (va_wsS RX7 163 yX7_has wsX7_has) := goodIn_app (goodIn_of _ (by decide +kernel)) ggX7_chargeOf_X7_has
set_option maxRecDepth 20000 in
theorem ggX7_chargeOf_X7_goodOf : GoodIn wsX7_chargeOf wsX7_goodOf := goodIn_r _ [13, 1, 30, 31, 32, 33, 34, 35, 36, 37, 38, 39, 40, 41, 42, 43, 44, 45, 46, 47, 48, 49, 50, 51] (by decide +kernel) (by decide +kernel)
set_option maxRecDepth 20000 in
theorem gX7_chargeOf_X7_goodOf : GoodIn wsX7_chargeOf (wsV RX7 153 RX7 yX7_goodOf wsX7_goodOf) := goodIn_app (goodIn_of _ (by decide +kernel)) ggX7_chargeOf_X7_goodOf
theorem dX7_chargeOf_0 : decode cX7_chargeOf 0 = .ok (.aload_n 0, 1) := by decide +kernel
theorem dX7_chargeOf_1 : decode cX7_chargeOf 1 = .ok (.iload_n 1, 1) := by decide +kernel
theorem dX7_chargeOf_2 : decode cX7_chargeOf 2 = .ok (.iconst 1, 1) := by decide +kernel
theorem dX7_chargeOf_3 : decode cX7_chargeOf 3 = .ok (.invokevirtual 167, 3) := by decide +kernel
theorem dX7_chargeOf_6 : decode cX7_chargeOf 6 = .ok (.istore 4, 2) := by decide +kernel
theorem dX7_chargeOf_8 : decode cX7_chargeOf 8 = .ok (.aload_n 0, 1) := by decide +kernel
theorem dX7_chargeOf_9 : decode cX7_chargeOf 9 = .ok (.iload_n 2, 1) := by decide +kernel
theorem dX7_chargeOf_10 : decode cX7_chargeOf 10 = .ok (.invokevirtual 160, 3) := by decide +kernel
theorem dX7_chargeOf_13 : decode cX7_chargeOf 13 = .ok (.iconst 3, 1) := by decide +kernel
theorem dX7_chargeOf_14 : decode cX7_chargeOf 14 = .ok (.if_icmp .ne 6, 3) := by decide +kernel
theorem dX7_chargeOf_17 : decode cX7_chargeOf 17 = .ok (.bipush (-2), 2) := by decide +kernel
theorem dX7_chargeOf_19 : decode cX7_chargeOf 19 = .ok (.ireturn, 1) := by decide +kernel
theorem dX7_chargeOf_20 : decode cX7_chargeOf 20 = .ok (.iload_n 3, 1) := by decide +kernel
theorem dX7_chargeOf_21 : decode cX7_chargeOf 21 = .ok (.aload_n 0, 1) := by decide +kernel
theorem dX7_chargeOf_22 : decode cX7_chargeOf 22 = .ok (.iload_n 2, 1) := by decide +kernel
theorem dX7_chargeOf_23 : decode cX7_chargeOf 23 = .ok (.iconst 0, 1) := by decide +kernel
theorem dX7_chargeOf_24 : decode cX7_chargeOf 24 = .ok (.invokevirtual 157, 3) := by decide +kernel
theorem dX7_chargeOf_27 : decode cX7_chargeOf 27 = .ok (.if_icmp .le 6, 3) := by decide +kernel
theorem dX7_chargeOf_30 : decode cX7_chargeOf 30 = .ok (.bipush (-3), 2) := by decide +kernel
theorem dX7_chargeOf_32 : decode cX7_chargeOf 32 = .ok (.ireturn, 1) := by decide +kernel
theorem dX7_chargeOf_33 : decode cX7_chargeOf 33 = .ok (.iload 4, 2) := by decide +kernel
theorem dX7_chargeOf_35 : decode cX7_chargeOf 35 = .ok (.aload_n 0, 1) := by decide +kernel
theorem dX7_chargeOf_36 : decode cX7_chargeOf 36 = .ok (.iload_n 2, 1) := by decide +kernel
theorem dX7_chargeOf_37 : decode cX7_chargeOf 37 = .ok (.iconst 1, 1) := by decide +kernel
theorem dX7_chargeOf_38 : decode cX7_chargeOf 38 = .ok (.invokevirtual 157, 3) := by decide +kernel
theorem dX7_chargeOf_41 : decode cX7_chargeOf 41 = .ok (.if_icmp .le 6, 3) := by decide +kernel
theorem dX7_chargeOf_44 : decode cX7_chargeOf 44 = .ok (.bipush (-4), 2) := by decide +kernel
theorem dX7_chargeOf_46 : decode cX7_chargeOf 46 = .ok (.ireturn, 1) := by decide +kernel
theorem dX7_chargeOf_47 : decode cX7_chargeOf 47 = .ok (.aload_n 0, 1) := by decide +kernel
theorem dX7_chargeOf_48 : decode cX7_chargeOf 48 = .ok (.iload_n 2, 1) := by decide +kernel
theorem dX7_chargeOf_49 : decode cX7_chargeOf 49 = .ok (.aload_n 0, 1) := by decide +kernel
theorem dX7_chargeOf_50 : decode cX7_chargeOf 50 = .ok (.iload_n 3, 1) := by decide +kernel
theorem dX7_chargeOf_51 : decode cX7_chargeOf 51 = .ok (.iload 4, 2) := by decide +kernel
theorem dX7_chargeOf_53 : decode cX7_chargeOf 53 = .ok (.iload_n 2, 1) := by decide +kernel
theorem dX7_chargeOf_54 : decode cX7_chargeOf 54 = .ok (.invokevirtual 170, 3) := by decide +kernel
theorem dX7_chargeOf_57 : decode cX7_chargeOf 57 = .ok (.invokevirtual 174, 3) := by decide +kernel
theorem dX7_chargeOf_60 : decode cX7_chargeOf 60 = .ok (.istore 5, 2) := by decide +kernel
theorem dX7_chargeOf_62 : decode cX7_chargeOf 62 = .ok (.iload 5, 2) := by decide +kernel
theorem dX7_chargeOf_64 : decode cX7_chargeOf 64 = .ok (.bipush (-2), 2) := by decide +kernel
theorem dX7_chargeOf_66 : decode cX7_chargeOf 66 = .ok (.if_icmp .ne 6, 3) := by decide +kernel
theorem dX7_chargeOf_69 : decode cX7_chargeOf 69 = .ok (.bipush (-5), 2) := by decide +kernel
theorem dX7_chargeOf_71 : decode cX7_chargeOf 71 = .ok (.ireturn, 1) := by decide +kernel
theorem dX7_chargeOf_72 : decode cX7_chargeOf 72 = .ok (.iconst 0, 1) := by decide +kernel
theorem dX7_chargeOf_73 : decode cX7_chargeOf 73 = .ok (.istore 6, 2) := by decide +kernel
theorem dX7_chargeOf_75 : decode cX7_chargeOf 75 = .ok (.iload 6, 2) := by decide +kernel
theorem dX7_chargeOf_77 : decode cX7_chargeOf 77 = .ok (.aload_n 0, 1) := by decide +kernel
theorem dX7_chargeOf_78 : decode cX7_chargeOf 78 = .ok (.getfield 74, 3) := by decide +kernel
theorem dX7_chargeOf_81 : decode cX7_chargeOf 81 = .ok (.iconst 1, 1) := by decide +kernel
theorem dX7_chargeOf_82 : decode cX7_chargeOf 82 = .ok (.iaload, 1) := by decide +kernel
theorem dX7_chargeOf_83 : decode cX7_chargeOf 83 = .ok (.if_icmp .ge 45, 3) := by decide +kernel
theorem dX7_chargeOf_86 : decode cX7_chargeOf 86 = .ok (.iload_n 1, 1) := by decide +kernel
theorem dX7_chargeOf_87 : decode cX7_chargeOf 87 = .ok (.iload 6, 2) := by decide +kernel
theorem dX7_chargeOf_89 : decode cX7_chargeOf 89 = .ok (.invokestatic 163, 3) := by decide +kernel
theorem dX7_chargeOf_92 : decode cX7_chargeOf 92 = .ok (.ifCond .eq 30, 3) := by decide +kernel
theorem dX7_chargeOf_95 : decode cX7_chargeOf 95 = .ok (.aload_n 0, 1) := by decide +kernel
theorem dX7_chargeOf_96 : decode cX7_chargeOf 96 = .ok (.iload 6, 2) := by decide +kernel
theorem dX7_chargeOf_98 : decode cX7_chargeOf 98 = .ok (.iconst 2, 1) := by decide +kernel
theorem dX7_chargeOf_99 : decode cX7_chargeOf 99 = .ok (.invokevirtual 153, 3) := by decide +kernel
theorem dX7_chargeOf_102 : decode cX7_chargeOf 102 = .ok (.aload_n 0, 1) := by decide +kernel
theorem dX7_chargeOf_103 : decode cX7_chargeOf 103 = .ok (.iload_n 2, 1) := by decide +kernel
theorem dX7_chargeOf_104 : decode cX7_chargeOf 104 = .ok (.iconst 4, 1) := by decide +kernel
theorem dX7_chargeOf_105 : decode cX7_chargeOf 105 = .ok (.invokevirtual 157, 3) := by decide +kernel
theorem dX7_chargeOf_108 : decode cX7_chargeOf 108 = .ok (.if_icmp .le 14, 3) := by decide +kernel
theorem dX7_chargeOf_111 : decode cX7_chargeOf 111 = .ok (.iload 5, 2) := by decide +kernel
theorem dX7_chargeOf_113 : decode cX7_chargeOf 113 = .ok (.aload_n 0, 1) := by decide +kernel
theorem dX7_chargeOf_114 : decode cX7_chargeOf 114 = .ok (.iload_n 2, 1) := by decide +kernel
theorem dX7_chargeOf_115 : decode cX7_chargeOf 115 = .ok (.iconst 5, 1) := by decide +kernel
theorem dX7_chargeOf_116 : decode cX7_chargeOf 116 = .ok (.invokevirtual 157, 3) := by decide +kernel
theorem dX7_chargeOf_119 : decode cX7_chargeOf 119 = .ok (.iadd, 1) := by decide +kernel
theorem dX7_chargeOf_120 : decode cX7_chargeOf 120 = .ok (.istore 5, 2) := by decide +kernel
theorem dX7_chargeOf_122 : decode cX7_chargeOf 122 = .ok (.iinc 6 1, 3) := by decide +kernel
theorem dX7_chargeOf_125 : decode cX7_chargeOf 125 = .ok (.goto (-50), 3) := by decide +kernel
theorem dX7_chargeOf_128 : decode cX7_chargeOf 128 = .ok (.iload 5, 2) := by decide +kernel
theorem dX7_chargeOf_130 : decode cX7_chargeOf 130 = .ok (.iload 5, 2) := by decide +kernel
theorem dX7_chargeOf_132 : decode cX7_chargeOf 132 = .ok (.aload_n 0, 1) := by decide +kernel
theorem dX7_chargeOf_133 : decode cX7_chargeOf 133 = .ok (.iload_n 2, 1) := by decide +kernel
theorem dX7_chargeOf_134 : decode cX7_chargeOf 134 = .ok (.iconst 3, 1) := by decide +kernel
theorem dX7_chargeOf_135 : decode cX7_chargeOf 135 = .ok (.invokevirtual 157, 3) := by decide +kernel
theorem dX7_chargeOf_138 : decode cX7_chargeOf 138 = .ok (.imul, 1) := by decide +kernel
theorem dX7_chargeOf_139 : decode cX7_chargeOf 139 = .ok (.bipush 100, 2) := by decide +kernel
theorem dX7_chargeOf_141 : decode cX7_chargeOf 141 = .ok (.idiv, 1) := by decide +kernel
theorem dX7_chargeOf_142 : decode cX7_chargeOf 142 = .ok (.iadd, 1) := by decide +kernel
theorem dX7_chargeOf_143 : decode cX7_chargeOf 143 = .ok (.ireturn, 1) := by decide +kernel
set_option maxRecDepth 20000 in
theorem ggX7_cheapestOf_X7_sumOf : GoodIn wsX7_cheapestOf wsX7_sumOf := goodIn_r _ [6, 1, 7, 8, 5, 9, 10, 11, 12, 13, 34, 35, 36, 37, 38, 39, 40, 41, 42, 43, 44, 45, 46, 47, 48, 49, 50, 51, 52, 53, 54, 55] (by decide +kernel) (by decide +kernel)
set_option maxRecDepth 20000 in
theorem gX7_cheapestOf_X7_sumOf : GoodIn wsX7_cheapestOf (wsV RX7 167 RX7 yX7_sumOf wsX7_sumOf) := goodIn_app (goodIn_of _ (by decide +kernel)) ggX7_cheapestOf_X7_sumOf
set_option maxRecDepth 20000 in
theorem ggX7_cheapestOf_X7_chargeOf : GoodIn wsX7_cheapestOf wsX7_chargeOf := goodIn_r _ [17, 1, 2, 3, 4, 5, 6, 7, 8, 9, 10, 11, 12, 13, 18, 19, 20, 21, 22, 23, 24, 25, 26, 27, 28, 29, 30, 31, 32, 33, 34, 35, 36, 37, 38, 39, 40, 41, 42, 43, 44, 45, 46, 47, 48, 49, 50, 51, 52, 53, 54, 55] (by decide +kernel) (by decide +kernel)
set_option maxRecDepth 20000 in
theorem gX7_cheapestOf_X7_chargeOf : GoodIn wsX7_cheapestOf (wsV RX7 177 RX7 yX7_chargeOf wsX7_chargeOf) := goodIn_app (goodIn_of _ (by decide +kernel)) ggX7_cheapestOf_X7_chargeOf
theorem dX7_cheapestOf_0 : decode cX7_cheapestOf 0 = .ok (.bipush (-2), 2) := by decide +kernel
theorem dX7_cheapestOf_2 : decode cX7_cheapestOf 2 = .ok (.istore_n 2, 1) := by decide +kernel
theorem dX7_cheapestOf_3 : decode cX7_cheapestOf 3 = .ok (.iconst 0, 1) := by decide +kernel
theorem dX7_cheapestOf_4 : decode cX7_cheapestOf 4 = .ok (.istore_n 3, 1) := by decide +kernel
theorem dX7_cheapestOf_5 : decode cX7_cheapestOf 5 = .ok (.iconst 0, 1) := by decide +kernel
theorem dX7_cheapestOf_6 : decode cX7_cheapestOf 6 = .ok (.istore 4, 2) := by decide +kernel
theorem dX7_cheapestOf_8 : decode cX7_cheapestOf 8 = .ok (.iload 4, 2) := by decide +kernel
theorem dX7_cheapestOf_10 : decode cX7_cheapestOf 10 = .ok (.aload_n 0, 1) := by decide +kernel
theorem dX7_cheapestOf_11 : decode cX7_cheapestOf 11 = .ok (.getfield 74, 3) := by decide +kernel
theorem dX7_cheapestOf_14 : decode cX7_cheapestOf 14 = .ok (.iconst 0, 1) := by decide +kernel
theorem dX7_cheapestOf_15 : decode cX7_cheapestOf 15 = .ok (.iaload, 1) := by decide +kernel
theorem dX7_cheapestOf_16 : decode cX7_cheapestOf 16 = .ok (.if_icmp .ge 50, 3) := by decide +kernel
theorem dX7_cheapestOf_19 : decode cX7_cheapestOf 19 = .ok (.aload_n 0, 1) := by decide +kernel
theorem dX7_cheapestOf_20 : decode cX7_cheapestOf 20 = .ok (.iload_n 1, 1) := by decide +kernel
theorem dX7_cheapestOf_21 : decode cX7_cheapestOf 21 = .ok (.iload 4, 2) := by decide +kernel
theorem dX7_cheapestOf_23 : decode cX7_cheapestOf 23 = .ok (.aload_n 0, 1) := by decide +kernel
theorem dX7_cheapestOf_24 : decode cX7_cheapestOf 24 = .ok (.iload_n 1, 1) := by decide +kernel
theorem dX7_cheapestOf_25 : decode cX7_cheapestOf 25 = .ok (.iconst 0, 1) := by decide +kernel
theorem dX7_cheapestOf_26 : decode cX7_cheapestOf 26 = .ok (.invokevirtual 167, 3) := by decide +kernel
theorem dX7_cheapestOf_29 : decode cX7_cheapestOf 29 = .ok (.invokevirtual 177, 3) := by decide +kernel
theorem dX7_cheapestOf_32 : decode cX7_cheapestOf 32 = .ok (.istore 5, 2) := by decide +kernel
theorem dX7_cheapestOf_34 : decode cX7_cheapestOf 34 = .ok (.iload 5, 2) := by decide +kernel
theorem dX7_cheapestOf_36 : decode cX7_cheapestOf 36 = .ok (.ifCond .lt 24, 3) := by decide +kernel
theorem dX7_cheapestOf_39 : decode cX7_cheapestOf 39 = .ok (.iload_n 2, 1) := by decide +kernel
theorem dX7_cheapestOf_40 : decode cX7_cheapestOf 40 = .ok (.bipush (-2), 2) := by decide +kernel
theorem dX7_cheapestOf_42 : decode cX7_cheapestOf 42 = .ok (.if_icmp .eq 12, 3) := by decide +kernel
theorem dX7_cheapestOf_45 : decode cX7_cheapestOf 45 = .ok (.iload 5, 2) := by decide +kernel
theorem dX7_cheapestOf_47 : decode cX7_cheapestOf 47 = .ok (.iload_n 3, 1) := by decide +kernel
theorem dX7_cheapestOf_48 : decode cX7_cheapestOf 48 = .ok (.if_icmp .lt 6, 3) := by decide +kernel
theorem dX7_cheapestOf_51 : decode cX7_cheapestOf 51 = .ok (.goto 9, 3) := by decide +kernel
theorem dX7_cheapestOf_54 : decode cX7_cheapestOf 54 = .ok (.iload 5, 2) := by decide +kernel
theorem dX7_cheapestOf_56 : decode cX7_cheapestOf 56 = .ok (.istore_n 3, 1) := by decide +kernel
theorem dX7_cheapestOf_57 : decode cX7_cheapestOf 57 = .ok (.iload 4, 2) := by decide +kernel
theorem dX7_cheapestOf_59 : decode cX7_cheapestOf 59 = .ok (.istore_n 2, 1) := by decide +kernel
theorem dX7_cheapestOf_60 : decode cX7_cheapestOf 60 = .ok (.iinc 4 1, 3) := by decide +kernel
theorem dX7_cheapestOf_63 : decode cX7_cheapestOf 63 = .ok (.goto (-55), 3) := by decide +kernel
theorem dX7_cheapestOf_66 : decode cX7_cheapestOf 66 = .ok (.iload_n 2, 1) := by decide +kernel
theorem dX7_cheapestOf_67 : decode cX7_cheapestOf 67 = .ok (.ireturn, 1) := by decide +kernel
set_option maxRecDepth 20000 in
theorem ggX7_laysCharges_X7_cheapestOf : GoodIn wsX7_laysCharges wsX7_cheapestOf := goodIn_r _ [9, 1, 10, 11, 12, 8, 13, 14, 15, 16, 17, 18, 19, 20, 21, 22, 23, 24, 25, 26, 27, 28, 29, 30, 31, 32, 33, 34, 35, 36, 37, 38, 39, 40, 41, 42, 43, 44, 45, 46, 47, 48, 49, 50, 51, 52, 53, 54, 55, 56, 57, 58, 59, 60, 61, 62] (by decide +kernel) (by decide +kernel)
set_option maxRecDepth 20000 in
theorem gX7_laysCharges_X7_cheapestOf : GoodIn wsX7_laysCharges (wsV RX7 180 RX7 yX7_cheapestOf wsX7_cheapestOf) := goodIn_app (goodIn_of _ (by decide +kernel)) ggX7_laysCharges_X7_cheapestOf
set_option maxRecDepth 20000 in
theorem ggX7_laysCharges_X7_sumOf : GoodIn wsX7_laysCharges wsX7_sumOf := goodIn_r _ [13, 1, 14, 15, 8, 16, 17, 18, 19, 20, 41, 42, 43, 44, 45, 46, 47, 48, 49, 50, 51, 52, 53, 54, 55, 56, 57, 58, 59, 60, 61, 62] (by decide +kernel) (by decide +kernel)
set_option maxRecDepth 20000 in
theorem gX7_laysCharges_X7_sumOf : GoodIn wsX7_laysCharges (wsV RX7 167 RX7 yX7_sumOf wsX7_sumOf) := goodIn_app (goodIn_of _ (by decide +kernel)) ggX7_laysCharges_X7_sumOf
set_option maxRecDepth 20000 in
theorem ggX7_laysCharges_X7_chargeOf : GoodIn wsX7_laysCharges wsX7_chargeOf := goodIn_r _ [24, 1, 10, 11, 12, 8, 13, 14, 15, 16, 17, 18, 19, 20, 25, 26, 27, 28, 29, 30, 31, 32, 33, 34, 35, 36, 37, 38, 39, 40, 41, 42, 43, 44, 45, 46, 47, 48, 49, 50, 51, 52, 53, 54, 55, 56, 57, 58, 59, 60, 61, 62] (by decide +kernel) (by decide +kernel)
set_option maxRecDepth 20000 in
theorem gX7_laysCharges_X7_chargeOf : GoodIn wsX7_laysCharges (wsV RX7 177 RX7 yX7_chargeOf wsX7_chargeOf) := goodIn_app (goodIn_of _ (by decide +kernel)) ggX7_laysCharges_X7_chargeOf
theorem dX7_laysCharges_0 : decode cX7_laysCharges 0 = .ok (.iconst 1, 1) := by decide +kernel
theorem dX7_laysCharges_1 : decode cX7_laysCharges 1 = .ok (.istore_n 1, 1) := by decide +kernel
theorem dX7_laysCharges_2 : decode cX7_laysCharges 2 = .ok (.iload_n 1, 1) := by decide +kernel
theorem dX7_laysCharges_3 : decode cX7_laysCharges 3 = .ok (.iconst 1, 1) := by decide +kernel
theorem dX7_laysCharges_4 : decode cX7_laysCharges 4 = .ok (.aload_n 0, 1) := by decide +kernel
theorem dX7_laysCharges_5 : decode cX7_laysCharges 5 = .ok (.getfield 74, 3) := by decide +kernel
theorem dX7_laysCharges_8 : decode cX7_laysCharges 8 = .ok (.iconst 1, 1) := by decide +kernel
theorem dX7_laysCharges_9 : decode cX7_laysCharges 9 = .ok (.iaload, 1) := by decide +kernel
theorem dX7_laysCharges_10 : decode cX7_laysCharges 10 = .ok (.ishl, 1) := by decide +kernel
theorem dX7_laysCharges_11 : decode cX7_laysCharges 11 = .ok (.if_icmp .ge 59, 3) := by decide +kernel
theorem dX7_laysCharges_14 : decode cX7_laysCharges 14 = .ok (.aload_n 0, 1) := by decide +kernel
theorem dX7_laysCharges_15 : decode cX7_laysCharges 15 = .ok (.getfield 83, 3) := by decide +kernel
theorem dX7_laysCharges_18 : decode cX7_laysCharges 18 = .ok (.iload_n 1, 1) := by decide +kernel
theorem dX7_laysCharges_19 : decode cX7_laysCharges 19 = .ok (.aload_n 0, 1) := by decide +kernel
theorem dX7_laysCharges_20 : decode cX7_laysCharges 20 = .ok (.iload_n 1, 1) := by decide +kernel
theorem dX7_laysCharges_21 : decode cX7_laysCharges 21 = .ok (.invokevirtual 180, 3) := by decide +kernel
theorem dX7_laysCharges_24 : decode cX7_laysCharges 24 = .ok (.iastore, 1) := by decide +kernel
theorem dX7_laysCharges_25 : decode cX7_laysCharges 25 = .ok (.aload_n 0, 1) := by decide +kernel
theorem dX7_laysCharges_26 : decode cX7_laysCharges 26 = .ok (.getfield 86, 3) := by decide +kernel
theorem dX7_laysCharges_29 : decode cX7_laysCharges 29 = .ok (.iload_n 1, 1) := by decide +kernel
theorem dX7_laysCharges_30 : decode cX7_laysCharges 30 = .ok (.aload_n 0, 1) := by decide +kernel
theorem dX7_laysCharges_31 : decode cX7_laysCharges 31 = .ok (.getfield 83, 3) := by decide +kernel
theorem dX7_laysCharges_34 : decode cX7_laysCharges 34 = .ok (.iload_n 1, 1) := by decide +kernel
theorem dX7_laysCharges_35 : decode cX7_laysCharges 35 = .ok (.iaload, 1) := by decide +kernel
theorem dX7_laysCharges_36 : decode cX7_laysCharges 36 = .ok (.bipush (-2), 2) := by decide +kernel
theorem dX7_laysCharges_38 : decode cX7_laysCharges 38 = .ok (.if_icmp .ne 8, 3) := by decide +kernel
theorem dX7_laysCharges_41 : decode cX7_laysCharges 41 = .ok (.ldc 183, 2) := by decide +kernel
theorem dX7_laysCharges_43 : decode cX7_laysCharges 43 = .ok (.goto 20, 3) := by decide +kernel
theorem dX7_laysCharges_46 : decode cX7_laysCharges 46 = .ok (.aload_n 0, 1) := by decide +kernel
theorem dX7_laysCharges_47 : decode cX7_laysCharges 47 = .ok (.iload_n 1, 1) := by decide +kernel
theorem dX7_laysCharges_48 : decode cX7_laysCharges 48 = .ok (.aload_n 0, 1) := by decide +kernel
theorem dX7_laysCharges_49 : decode cX7_laysCharges 49 = .ok (.getfield 83, 3) := by decide +kernel
theorem dX7_laysCharges_52 : decode cX7_laysCharges 52 = .ok (.iload_n 1, 1) := by decide +kernel
theorem dX7_laysCharges_53 : decode cX7_laysCharges 53 = .ok (.iaload, 1) := by decide +kernel
theorem dX7_laysCharges_54 : decode cX7_laysCharges 54 = .ok (.aload_n 0, 1) := by decide +kernel
theorem dX7_laysCharges_55 : decode cX7_laysCharges 55 = .ok (.iload_n 1, 1) := by decide +kernel
theorem dX7_laysCharges_56 : decode cX7_laysCharges 56 = .ok (.iconst 0, 1) := by decide +kernel
theorem dX7_laysCharges_57 : decode cX7_laysCharges 57 = .ok (.invokevirtual 167, 3) := by decide +kernel
theorem dX7_laysCharges_60 : decode cX7_laysCharges 60 = .ok (.invokevirtual 177, 3) := by decide +kernel
theorem dX7_laysCharges_63 : decode cX7_laysCharges 63 = .ok (.iastore, 1) := by decide +kernel
theorem dX7_laysCharges_64 : decode cX7_laysCharges 64 = .ok (.iinc 1 1, 3) := by decide +kernel
theorem dX7_laysCharges_67 : decode cX7_laysCharges 67 = .ok (.goto (-65), 3) := by decide +kernel
theorem dX7_laysCharges_70 : decode cX7_laysCharges 70 = .ok (.return_, 1) := by decide +kernel
set_option maxRecDepth 20000 in
theorem ggX7_tries_X7_tries : GoodIn wsX7_tries wsX7_tries := goodIn_r _ [0, 1, 2, 3, 4, 5, 6, 7, 8, 9, 10, 11, 12, 13, 14, 15, 16, 17, 18, 19, 20, 21, 22, 23, 24, 25, 26, 27, 28, 29, 30, 31, 32, 33, 34, 35, 36, 37, 38] (by decide +kernel) (by decide +kernel)
set_option maxRecDepth 20000 in
theorem gX7_tries_X7_tries : GoodIn wsX7_tries (wsV RX7 184 RX7 yX7_tries wsX7_tries) := goodIn_app (goodIn_of _ (by decide +kernel)) ggX7_tries_X7_tries
set_option maxRecDepth 20000 in
theorem ggX7_tries_X7_isLess : GoodIn wsX7_tries wsX7_isLess := goodIn_r _ [16, 1, 3, 8, 2, 7, 17, 18, 19, 20, 21, 22, 23, 24, 25, 26, 27, 28, 29, 30, 31, 32, 33, 34, 35, 36, 37, 38] (by decide +kernel) (by decide +kernel)
set_option maxRecDepth 20000 in
theorem gX7_tries_X7_isLess : GoodIn wsX7_tries (wsV RX7 191 RX7 yX7_isLess wsX7_isLess) := goodIn_app (goodIn_of _ (by decide +kernel)) ggX7_tries_X7_isLess
theorem dX7_tries_0 : decode cX7_tries 0 = .ok (.iload_n 1, 1) := by decide +kernel
theorem dX7_tries_1 : decode cX7_tries 1 = .ok (.aload_n 0, 1) := by decide +kernel
theorem dX7_tries_2 : decode cX7_tries 2 = .ok (.getfield 74, 3) := by decide +kernel
theorem dX7_tries_5 : decode cX7_tries 5 = .ok (.iconst 1, 1) := by decide +kernel
theorem dX7_tries_6 : decode cX7_tries 6 = .ok (.iaload, 1) := by decide +kernel
theorem dX7_tries_7 : decode cX7_tries 7 = .ok (.if_icmp .ge 73, 3) := by decide +kernel
theorem dX7_tries_10 : decode cX7_tries 10 = .ok (.iconst 0, 1) := by decide +kernel
theorem dX7_tries_11 : decode cX7_tries 11 = .ok (.istore_n 3, 1) := by decide +kernel
theorem dX7_tries_12 : decode cX7_tries 12 = .ok (.iload_n 3, 1) := by decide +kernel
theorem dX7_tries_13 : decode cX7_tries 13 = .ok (.iload_n 2, 1) := by decide +kernel
theorem dX7_tries_14 : decode cX7_tries 14 = .ok (.if_icmp .gt 65, 3) := by decide +kernel
theorem dX7_tries_17 : decode cX7_tries 17 = .ok (.iload_n 3, 1) := by decide +kernel
theorem dX7_tries_18 : decode cX7_tries 18 = .ok (.bipush 8, 2) := by decide +kernel
theorem dX7_tries_20 : decode cX7_tries 20 = .ok (.if_icmp .ge 59, 3) := by decide +kernel
theorem dX7_tries_23 : decode cX7_tries 23 = .ok (.aload_n 0, 1) := by decide +kernel
theorem dX7_tries_24 : decode cX7_tries 24 = .ok (.getfield 95, 3) := by decide +kernel
theorem dX7_tries_27 : decode cX7_tries 27 = .ok (.iload_n 3, 1) := by decide +kernel
theorem dX7_tries_28 : decode cX7_tries 28 = .ok (.dup2, 1) := by decide +kernel
theorem dX7_tries_29 : decode cX7_tries 29 = .ok (.iaload, 1) := by decide +kernel
theorem dX7_tries_30 : decode cX7_tries 30 = .ok (.iconst 1, 1) := by decide +kernel
theorem dX7_tries_31 : decode cX7_tries 31 = .ok (.iload_n 1, 1) := by decide +kernel
theorem dX7_tries_32 : decode cX7_tries 32 = .ok (.ishl, 1) := by decide +kernel
theorem dX7_tries_33 : decode cX7_tries 33 = .ok (.ior, 1) := by decide +kernel
theorem dX7_tries_34 : decode cX7_tries 34 = .ok (.iastore, 1) := by decide +kernel
theorem dX7_tries_35 : decode cX7_tries 35 = .ok (.aload_n 0, 1) := by decide +kernel
theorem dX7_tries_36 : decode cX7_tries 36 = .ok (.getfield 89, 3) := by decide +kernel
theorem dX7_tries_39 : decode cX7_tries 39 = .ok (.iload_n 1, 1) := by decide +kernel
theorem dX7_tries_40 : decode cX7_tries 40 = .ok (.iload_n 3, 1) := by decide +kernel
theorem dX7_tries_41 : decode cX7_tries 41 = .ok (.iastore, 1) := by decide +kernel
theorem dX7_tries_42 : decode cX7_tries 42 = .ok (.aload_n 0, 1) := by decide +kernel
theorem dX7_tries_43 : decode cX7_tries 43 = .ok (.iload_n 1, 1) := by decide +kernel
theorem dX7_tries_44 : decode cX7_tries 44 = .ok (.iconst 1, 1) := by decide +kernel
theorem dX7_tries_45 : decode cX7_tries 45 = .ok (.iadd, 1) := by decide +kernel
theorem dX7_tries_46 : decode cX7_tries 46 = .ok (.iload_n 3, 1) := by decide +kernel
theorem dX7_tries_47 : decode cX7_tries 47 = .ok (.iload_n 2, 1) := by decide +kernel
theorem dX7_tries_48 : decode cX7_tries 48 = .ok (.if_icmp .ne 9, 3) := by decide +kernel
theorem dX7_tries_51 : decode cX7_tries 51 = .ok (.iload_n 2, 1) := by decide +kernel
theorem dX7_tries_52 : decode cX7_tries 52 = .ok (.iconst 1, 1) := by decide +kernel
theorem dX7_tries_53 : decode cX7_tries 53 = .ok (.iadd, 1) := by decide +kernel
theorem dX7_tries_54 : decode cX7_tries 54 = .ok (.goto 4, 3) := by decide +kernel
theorem dX7_tries_57 : decode cX7_tries 57 = .ok (.iload_n 2, 1) := by decide +kernel
theorem dX7_tries_58 : decode cX7_tries 58 = .ok (.invokevirtual 184, 3) := by decide +kernel
theorem dX7_tries_61 : decode cX7_tries 61 = .ok (.aload_n 0, 1) := by decide +kernel
theorem dX7_tries_62 : decode cX7_tries 62 = .ok (.getfield 95, 3) := by decide +kernel
theorem dX7_tries_65 : decode cX7_tries 65 = .ok (.iload_n 3, 1) := by decide +kernel
theorem dX7_tries_66 : decode cX7_tries 66 = .ok (.dup2, 1) := by decide +kernel
theorem dX7_tries_67 : decode cX7_tries 67 = .ok (.iaload, 1) := by decide +kernel
theorem dX7_tries_68 : decode cX7_tries 68 = .ok (.iconst 1, 1) := by decide +kernel
theorem dX7_tries_69 : decode cX7_tries 69 = .ok (.iload_n 1, 1) := by decide +kernel
theorem dX7_tries_70 : decode cX7_tries 70 = .ok (.ishl, 1) := by decide +kernel
theorem dX7_tries_71 : decode cX7_tries 71 = .ok (.ixor, 1) := by decide +kernel
theorem dX7_tries_72 : decode cX7_tries 72 = .ok (.iastore, 1) := by decide +kernel
theorem dX7_tries_73 : decode cX7_tries 73 = .ok (.iinc 3 1, 3) := by decide +kernel
theorem dX7_tries_76 : decode cX7_tries 76 = .ok (.goto (-64), 3) := by decide +kernel
theorem dX7_tries_79 : decode cX7_tries 79 = .ok (.return_, 1) := by decide +kernel
theorem dX7_tries_80 : decode cX7_tries 80 = .ok (.iconst 0, 1) := by decide +kernel
theorem dX7_tries_81 : decode cX7_tries 81 = .ok (.istore_n 3, 1) := by decide +kernel
theorem dX7_tries_82 : decode cX7_tries 82 = .ok (.iconst 0, 1) := by decide +kernel
theorem dX7_tries_83 : decode cX7_tries 83 = .ok (.istore 4, 2) := by decide +kernel
theorem dX7_tries_85 : decode cX7_tries 85 = .ok (.iload 4, 2) := by decide +kernel
theorem dX7_tries_87 : decode cX7_tries 87 = .ok (.iload_n 2, 1) := by decide +kernel
theorem dX7_tries_88 : decode cX7_tries 88 = .ok (.if_icmp .ge 24, 3) := by decide +kernel
theorem dX7_tries_91 : decode cX7_tries 91 = .ok (.iload_n 3, 1) := by decide +kernel
theorem dX7_tries_92 : decode cX7_tries 92 = .ok (.aload_n 0, 1) := by decide +kernel
theorem dX7_tries_93 : decode cX7_tries 93 = .ok (.getfield 86, 3) := by decide +kernel
theorem dX7_tries_96 : decode cX7_tries 96 = .ok (.aload_n 0, 1) := by decide +kernel
theorem dX7_tries_97 : decode cX7_tries 97 = .ok (.getfield 95, 3) := by decide +kernel
theorem dX7_tries_100 : decode cX7_tries 100 = .ok (.iload 4, 2) := by decide +kernel
theorem dX7_tries_102 : decode cX7_tries 102 = .ok (.iaload, 1) := by decide +kernel
theorem dX7_tries_103 : decode cX7_tries 103 = .ok (.iaload, 1) := by decide +kernel
theorem dX7_tries_104 : decode cX7_tries 104 = .ok (.iadd, 1) := by decide +kernel
theorem dX7_tries_105 : decode cX7_tries 105 = .ok (.istore_n 3, 1) := by decide +kernel
theorem dX7_tries_106 : decode cX7_tries 106 = .ok (.iinc 4 1, 3) := by decide +kernel
theorem dX7_tries_109 : decode cX7_tries 109 = .ok (.goto (-24), 3) := by decide +kernel
theorem dX7_tries_112 : decode cX7_tries 112 = .ok (.iload_n 3, 1) := by decide +kernel
theorem dX7_tries_113 : decode cX7_tries 113 = .ok (.ldc 183, 2) := by decide +kernel
theorem dX7_tries_115 : decode cX7_tries 115 = .ok (.if_icmp .ge 26, 3) := by decide +kernel
theorem dX7_tries_118 : decode cX7_tries 118 = .ok (.iload_n 3, 1) := by decide +kernel
theorem dX7_tries_119 : decode cX7_tries 119 = .ok (.aload_n 0, 1) := by decide +kernel
theorem dX7_tries_120 : decode cX7_tries 120 = .ok (.getfield 188, 3) := by decide +kernel
theorem dX7_tries_123 : decode cX7_tries 123 = .ok (.if_icmp .gt 18, 3) := by decide +kernel
theorem dX7_tries_126 : decode cX7_tries 126 = .ok (.iload_n 3, 1) := by decide +kernel
theorem dX7_tries_127 : decode cX7_tries 127 = .ok (.aload_n 0, 1) := by decide +kernel
theorem dX7_tries_128 : decode cX7_tries 128 = .ok (.getfield 188, 3) := by decide +kernel
theorem dX7_tries_131 : decode cX7_tries 131 = .ok (.if_icmp .ne 11, 3) := by decide +kernel
theorem dX7_tries_134 : decode cX7_tries 134 = .ok (.aload_n 0, 1) := by decide +kernel
theorem dX7_tries_135 : decode cX7_tries 135 = .ok (.invokevirtual 191, 3) := by decide +kernel
theorem dX7_tries_138 : decode cX7_tries 138 = .ok (.ifCond .ne 4, 3) := by decide +kernel
theorem dX7_tries_141 : decode cX7_tries 141 = .ok (.return_, 1) := by decide +kernel
theorem dX7_tries_142 : decode cX7_tries 142 = .ok (.aload_n 0, 1) := by decide +kernel
theorem dX7_tries_143 : decode cX7_tries 143 = .ok (.iload_n 3, 1) := by decide +kernel
theorem dX7_tries_144 : decode cX7_tries 144 = .ok (.putfield 188, 3) := by decide +kernel
theorem dX7_tries_147 : decode cX7_tries 147 = .ok (.iconst 0, 1) := by decide +kernel
theorem dX7_tries_148 : decode cX7_tries 148 = .ok (.istore 4, 2) := by decide +kernel
theorem dX7_tries_150 : decode cX7_tries 150 = .ok (.iload 4, 2) := by decide +kernel
theorem dX7_tries_152 : decode cX7_tries 152 = .ok (.aload_n 0, 1) := by decide +kernel
theorem dX7_tries_153 : decode cX7_tries 153 = .ok (.getfield 74, 3) := by decide +kernel
theorem dX7_tries_156 : decode cX7_tries 156 = .ok (.iconst 1, 1) := by decide +kernel
theorem dX7_tries_157 : decode cX7_tries 157 = .ok (.iaload, 1) := by decide +kernel
theorem dX7_tries_158 : decode cX7_tries 158 = .ok (.if_icmp .ge 43, 3) := by decide +kernel
theorem dX7_tries_161 : decode cX7_tries 161 = .ok (.aload_n 0, 1) := by decide +kernel
theorem dX7_tries_162 : decode cX7_tries 162 = .ok (.getfield 92, 3) := by decide +kernel
theorem dX7_tries_165 : decode cX7_tries 165 = .ok (.iload 4, 2) := by decide +kernel
theorem dX7_tries_167 : decode cX7_tries 167 = .ok (.iconst 3, 1) := by decide +kernel
theorem dX7_tries_168 : decode cX7_tries 168 = .ok (.aload_n 0, 1) := by decide +kernel
theorem dX7_tries_169 : decode cX7_tries 169 = .ok (.getfield 89, 3) := by decide +kernel
theorem dX7_tries_172 : decode cX7_tries 172 = .ok (.iload 4, 2) := by decide +kernel
theorem dX7_tries_174 : decode cX7_tries 174 = .ok (.iaload, 1) := by decide +kernel
theorem dX7_tries_175 : decode cX7_tries 175 = .ok (.imul, 1) := by decide +kernel
theorem dX7_tries_176 : decode cX7_tries 176 = .ok (.aload_n 0, 1) := by decide +kernel
theorem dX7_tries_177 : decode cX7_tries 177 = .ok (.getfield 83, 3) := by decide +kernel
theorem dX7_tries_180 : decode cX7_tries 180 = .ok (.aload_n 0, 1) := by decide +kernel
theorem dX7_tries_181 : decode cX7_tries 181 = .ok (.getfield 95, 3) := by decide +kernel
theorem dX7_tries_184 : decode cX7_tries 184 = .ok (.aload_n 0, 1) := by decide +kernel
theorem dX7_tries_185 : decode cX7_tries 185 = .ok (.getfield 89, 3) := by decide +kernel
theorem dX7_tries_188 : decode cX7_tries 188 = .ok (.iload 4, 2) := by decide +kernel
theorem dX7_tries_190 : decode cX7_tries 190 = .ok (.iaload, 1) := by decide +kernel
theorem dX7_tries_191 : decode cX7_tries 191 = .ok (.iaload, 1) := by decide +kernel
theorem dX7_tries_192 : decode cX7_tries 192 = .ok (.iaload, 1) := by decide +kernel
theorem dX7_tries_193 : decode cX7_tries 193 = .ok (.iadd, 1) := by decide +kernel
theorem dX7_tries_194 : decode cX7_tries 194 = .ok (.iastore, 1) := by decide +kernel
theorem dX7_tries_195 : decode cX7_tries 195 = .ok (.iinc 4 1, 3) := by decide +kernel
theorem dX7_tries_198 : decode cX7_tries 198 = .ok (.goto (-48), 3) := by decide +kernel
theorem dX7_tries_201 : decode cX7_tries 201 = .ok (.return_, 1) := by decide +kernel
theorem dX7_isLess_0 : decode cX7_isLess 0 = .ok (.iconst 0, 1) := by decide +kernel
theorem dX7_isLess_1 : decode cX7_isLess 1 = .ok (.istore_n 1, 1) := by decide +kernel
theorem dX7_isLess_2 : decode cX7_isLess 2 = .ok (.iload_n 1, 1) := by decide +kernel
theorem dX7_isLess_3 : decode cX7_isLess 3 = .ok (.aload_n 0, 1) := by decide +kernel
theorem dX7_isLess_4 : decode cX7_isLess 4 = .ok (.getfield 74, 3) := by decide +kernel
theorem dX7_isLess_7 : decode cX7_isLess 7 = .ok (.iconst 1, 1) := by decide +kernel
theorem dX7_isLess_8 : decode cX7_isLess 8 = .ok (.iaload, 1) := by decide +kernel
theorem dX7_isLess_9 : decode cX7_isLess 9 = .ok (.if_icmp .ge 61, 3) := by decide +kernel
theorem dX7_isLess_12 : decode cX7_isLess 12 = .ok (.iconst 3, 1) := by decide +kernel
theorem dX7_isLess_13 : decode cX7_isLess 13 = .ok (.aload_n 0, 1) := by decide +kernel
theorem dX7_isLess_14 : decode cX7_isLess 14 = .ok (.getfield 89, 3) := by decide +kernel
theorem dX7_isLess_17 : decode cX7_isLess 17 = .ok (.iload_n 1, 1) := by decide +kernel
theorem dX7_isLess_18 : decode cX7_isLess 18 = .ok (.iaload, 1) := by decide +kernel
theorem dX7_isLess_19 : decode cX7_isLess 19 = .ok (.imul, 1) := by decide +kernel
theorem dX7_isLess_20 : decode cX7_isLess 20 = .ok (.aload_n 0, 1) := by decide +kernel
theorem dX7_isLess_21 : decode cX7_isLess 21 = .ok (.getfield 83, 3) := by decide +kernel
theorem dX7_isLess_24 : decode cX7_isLess 24 = .ok (.aload_n 0, 1) := by decide +kernel
theorem dX7_isLess_25 : decode cX7_isLess 25 = .ok (.getfield 95, 3) := by decide +kernel
theorem dX7_isLess_28 : decode cX7_isLess 28 = .ok (.aload_n 0, 1) := by decide +kernel
theorem dX7_isLess_29 : decode cX7_isLess 29 = .ok (.getfield 89, 3) := by decide +kernel
theorem dX7_isLess_32 : decode cX7_isLess 32 = .ok (.iload_n 1, 1) := by decide +kernel
theorem dX7_isLess_33 : decode cX7_isLess 33 = .ok (.iaload, 1) := by decide +kernel
theorem dX7_isLess_34 : decode cX7_isLess 34 = .ok (.iaload, 1) := by decide +kernel
theorem dX7_isLess_35 : decode cX7_isLess 35 = .ok (.iaload, 1) := by decide +kernel
theorem dX7_isLess_36 : decode cX7_isLess 36 = .ok (.iadd, 1) := by decide +kernel
theorem dX7_isLess_37 : decode cX7_isLess 37 = .ok (.istore_n 2, 1) := by decide +kernel
theorem dX7_isLess_38 : decode cX7_isLess 38 = .ok (.iload_n 2, 1) := by decide +kernel
theorem dX7_isLess_39 : decode cX7_isLess 39 = .ok (.aload_n 0, 1) := by decide +kernel
theorem dX7_isLess_40 : decode cX7_isLess 40 = .ok (.getfield 92, 3) := by decide +kernel
theorem dX7_isLess_43 : decode cX7_isLess 43 = .ok (.iload_n 1, 1) := by decide +kernel
theorem dX7_isLess_44 : decode cX7_isLess 44 = .ok (.iaload, 1) := by decide +kernel
theorem dX7_isLess_45 : decode cX7_isLess 45 = .ok (.if_icmp .eq 19, 3) := by decide +kernel
theorem dX7_isLess_48 : decode cX7_isLess 48 = .ok (.iload_n 2, 1) := by decide +kernel
theorem dX7_isLess_49 : decode cX7_isLess 49 = .ok (.aload_n 0, 1) := by decide +kernel
theorem dX7_isLess_50 : decode cX7_isLess 50 = .ok (.getfield 92, 3) := by decide +kernel
theorem dX7_isLess_53 : decode cX7_isLess 53 = .ok (.iload_n 1, 1) := by decide +kernel
theorem dX7_isLess_54 : decode cX7_isLess 54 = .ok (.iaload, 1) := by decide +kernel
theorem dX7_isLess_55 : decode cX7_isLess 55 = .ok (.if_icmp .ge 7, 3) := by decide +kernel
theorem dX7_isLess_58 : decode cX7_isLess 58 = .ok (.iconst 1, 1) := by decide +kernel
theorem dX7_isLess_59 : decode cX7_isLess 59 = .ok (.goto 4, 3) := by decide +kernel
theorem dX7_isLess_62 : decode cX7_isLess 62 = .ok (.iconst 0, 1) := by decide +kernel
theorem dX7_isLess_63 : decode cX7_isLess 63 = .ok (.ireturn, 1) := by decide +kernel
theorem dX7_isLess_64 : decode cX7_isLess 64 = .ok (.iinc 1 1, 3) := by decide +kernel
theorem dX7_isLess_67 : decode cX7_isLess 67 = .ok (.goto (-65), 3) := by decide +kernel
theorem dX7_isLess_70 : decode cX7_isLess 70 = .ok (.iconst 0, 1) := by decide +kernel
theorem dX7_isLess_71 : decode cX7_isLess 71 = .ok (.ireturn, 1) := by decide +kernel
set_option maxRecDepth 20000 in
theorem ggX7_splits_X7_laysCharges : GoodIn wsX7_splits wsX7_laysCharges := goodIn_r _ [9, 10, 11, 12, 3, 13, 14, 15, 8, 16, 17, 18, 19, 20, 21, 22, 23, 24, 25, 26, 27, 28, 29, 30, 31, 32, 33, 34, 35, 36, 37, 38, 39, 40, 41, 42, 43, 44, 45, 46, 47, 57, 58, 59, 60, 61, 62, 63, 64, 65, 66, 67, 68, 69, 70, 71, 72, 73, 74, 75, 76, 77, 78] (by decide +kernel) (by decide +kernel)
set_option maxRecDepth 20000 in
theorem gX7_splits_X7_laysCharges : GoodIn wsX7_splits (wsV RX7 194 RX7 yX7_laysCharges wsX7_laysCharges) := goodIn_app (goodIn_of _ (by decide +kernel)) ggX7_splits_X7_laysCharges
set_option maxRecDepth 20000 in
theorem ggX7_splits_X7_tries : GoodIn wsX7_splits wsX7_tries := goodIn_r _ [51, 10, 1, 52, 12, 3, 4, 2, 11, 48, 49, 50, 8, 53, 54, 55, 56, 57, 58, 59, 60, 61, 62, 63, 64, 65, 66, 67, 68, 69, 70, 71, 72, 73, 74, 75, 76, 77, 78] (by decide +kernel) (by decide +kernel)
set_option maxRecDepth 20000 in
theorem gX7_splits_X7_tries : GoodIn wsX7_splits (wsV RX7 184 RX7 yX7_tries wsX7_tries) := goodIn_app (goodIn_of _ (by decide +kernel)) ggX7_splits_X7_tries
theorem dX7_splits_0 : decode cX7_splits 0 = .ok (.aload_n 0, 1) := by decide +kernel
theorem dX7_splits_1 : decode cX7_splits 1 = .ok (.invokevirtual 194, 3) := by decide +kernel
theorem dX7_splits_4 : decode cX7_splits 4 = .ok (.iconst 0, 1) := by decide +kernel
theorem dX7_splits_5 : decode cX7_splits 5 = .ok (.istore_n 1, 1) := by decide +kernel
theorem dX7_splits_6 : decode cX7_splits 6 = .ok (.iload_n 1, 1) := by decide +kernel
theorem dX7_splits_7 : decode cX7_splits 7 = .ok (.bipush 8, 2) := by decide +kernel
theorem dX7_splits_9 : decode cX7_splits 9 = .ok (.if_icmp .ge 24, 3) := by decide +kernel
theorem dX7_splits_12 : decode cX7_splits 12 = .ok (.aload_n 0, 1) := by decide +kernel
theorem dX7_splits_13 : decode cX7_splits 13 = .ok (.getfield 95, 3) := by decide +kernel
theorem dX7_splits_16 : decode cX7_splits 16 = .ok (.iload_n 1, 1) := by decide +kernel
theorem dX7_splits_17 : decode cX7_splits 17 = .ok (.iconst 0, 1) := by decide +kernel
theorem dX7_splits_18 : decode cX7_splits 18 = .ok (.iastore, 1) := by decide +kernel
theorem dX7_splits_19 : decode cX7_splits 19 = .ok (.aload_n 0, 1) := by decide +kernel
theorem dX7_splits_20 : decode cX7_splits 20 = .ok (.getfield 92, 3) := by decide +kernel
theorem dX7_splits_23 : decode cX7_splits 23 = .ok (.iload_n 1, 1) := by decide +kernel
theorem dX7_splits_24 : decode cX7_splits 24 = .ok (.ldc 183, 2) := by decide +kernel
theorem dX7_splits_26 : decode cX7_splits 26 = .ok (.iastore, 1) := by decide +kernel
theorem dX7_splits_27 : decode cX7_splits 27 = .ok (.iinc 1 1, 3) := by decide +kernel
theorem dX7_splits_30 : decode cX7_splits 30 = .ok (.goto (-24), 3) := by decide +kernel
theorem dX7_splits_33 : decode cX7_splits 33 = .ok (.aload_n 0, 1) := by decide +kernel
theorem dX7_splits_34 : decode cX7_splits 34 = .ok (.ldc 183, 2) := by decide +kernel
theorem dX7_splits_36 : decode cX7_splits 36 = .ok (.putfield 188, 3) := by decide +kernel
theorem dX7_splits_39 : decode cX7_splits 39 = .ok (.aload_n 0, 1) := by decide +kernel
theorem dX7_splits_40 : decode cX7_splits 40 = .ok (.iconst 0, 1) := by decide +kernel
theorem dX7_splits_41 : decode cX7_splits 41 = .ok (.iconst 0, 1) := by decide +kernel
theorem dX7_splits_42 : decode cX7_splits 42 = .ok (.invokevirtual 184, 3) := by decide +kernel
theorem dX7_splits_45 : decode cX7_splits 45 = .ok (.aload_n 0, 1) := by decide +kernel
theorem dX7_splits_46 : decode cX7_splits 46 = .ok (.getfield 188, 3) := by decide +kernel
theorem dX7_splits_49 : decode cX7_splits 49 = .ok (.ldc 183, 2) := by decide +kernel
theorem dX7_splits_51 : decode cX7_splits 51 = .ok (.if_icmp .ne 8, 3) := by decide +kernel
theorem dX7_splits_54 : decode cX7_splits 54 = .ok (.bipush (-2), 2) := by decide +kernel
theorem dX7_splits_56 : decode cX7_splits 56 = .ok (.goto 7, 3) := by decide +kernel
theorem dX7_splits_59 : decode cX7_splits 59 = .ok (.aload_n 0, 1) := by decide +kernel
theorem dX7_splits_60 : decode cX7_splits 60 = .ok (.getfield 188, 3) := by decide +kernel
theorem dX7_splits_63 : decode cX7_splits 63 = .ok (.ireturn, 1) := by decide +kernel
set_option maxRecDepth 20000 in
theorem ggX7_boundOf_X7_zoneOf : GoodIn wsX7_boundOf wsX7_zoneOf := goodIn_r _ [6, 1, 7, 8, 9, 5, 10, 22, 23, 24, 25, 26, 27, 28, 29, 30, 31, 32, 33, 34, 35, 36, 37, 38, 39, 40, 41, 42, 43] (by decide +kernel) (by decide +kernel)
set_option maxRecDepth 20000 in
theorem gX7_boundOf_X7_zoneOf : GoodIn wsX7_boundOf (wsV RX7 160 RX7 yX7_zoneOf wsX7_zoneOf) := goodIn_app (goodIn_of _ (by decide +kernel)) ggX7_boundOf_X7_zoneOf
set_option maxRecDepth 20000 in
theorem ggX7_boundOf_X7_its : GoodIn wsX7_boundOf wsX7_its := goodIn_r _ [10, 1, 22, 23, 24, 25, 26, 27, 28, 29, 30, 31, 32, 33, 34, 35, 36, 37, 38, 39, 40, 41, 42, 43] (by decide +kernel) (by decide +kernel)
set_option maxRecDepth 20000 in
theorem gX7_boundOf_X7_its : GoodIn wsX7_boundOf (wsV RX7 157 RX7 yX7_its wsX7_its) := goodIn_app (goodIn_of _ (by decide +kernel)) ggX7_boundOf_X7_its
set_option maxRecDepth 20000 in
theorem ggX7_boundOf_X7_sumOf : GoodIn wsX7_boundOf wsX7_sumOf := goodIn_r _ [14, 1, 15, 16, 5, 17, 18, 19, 20, 21, 22, 23, 24, 25, 26, 27, 28, 29, 30, 31, 32, 33, 34, 35, 36, 37, 38, 39, 40, 41, 42, 43] (by decide +kernel) (by decide +kernel)
set_option maxRecDepth 20000 in
theorem gX7_boundOf_X7_sumOf : GoodIn wsX7_boundOf (wsV RX7 167 RX7 yX7_sumOf wsX7_sumOf) := goodIn_app (goodIn_of _ (by decide +kernel)) ggX7_boundOf_X7_sumOf
theorem dX7_boundOf_0 : decode cX7_boundOf 0 = .ok (.bipush (-2), 2) := by decide +kernel
theorem dX7_boundOf_2 : decode cX7_boundOf 2 = .ok (.istore_n 1, 1) := by decide +kernel
theorem dX7_boundOf_3 : decode cX7_boundOf 3 = .ok (.iconst 1, 1) := by decide +kernel
theorem dX7_boundOf_4 : decode cX7_boundOf 4 = .ok (.istore_n 2, 1) := by decide +kernel
theorem dX7_boundOf_5 : decode cX7_boundOf 5 = .ok (.iconst 0, 1) := by decide +kernel
theorem dX7_boundOf_6 : decode cX7_boundOf 6 = .ok (.istore_n 3, 1) := by decide +kernel
theorem dX7_boundOf_7 : decode cX7_boundOf 7 = .ok (.iload_n 3, 1) := by decide +kernel
theorem dX7_boundOf_8 : decode cX7_boundOf 8 = .ok (.aload_n 0, 1) := by decide +kernel
theorem dX7_boundOf_9 : decode cX7_boundOf 9 = .ok (.getfield 74, 3) := by decide +kernel
theorem dX7_boundOf_12 : decode cX7_boundOf 12 = .ok (.iconst 0, 1) := by decide +kernel
theorem dX7_boundOf_13 : decode cX7_boundOf 13 = .ok (.iaload, 1) := by decide +kernel
theorem dX7_boundOf_14 : decode cX7_boundOf 14 = .ok (.if_icmp .ge 102, 3) := by decide +kernel
theorem dX7_boundOf_17 : decode cX7_boundOf 17 = .ok (.aload_n 0, 1) := by decide +kernel
theorem dX7_boundOf_18 : decode cX7_boundOf 18 = .ok (.iload_n 3, 1) := by decide +kernel
theorem dX7_boundOf_19 : decode cX7_boundOf 19 = .ok (.invokevirtual 160, 3) := by decide +kernel
theorem dX7_boundOf_22 : decode cX7_boundOf 22 = .ok (.istore 4, 2) := by decide +kernel
theorem dX7_boundOf_24 : decode cX7_boundOf 24 = .ok (.iconst 0, 1) := by decide +kernel
theorem dX7_boundOf_25 : decode cX7_boundOf 25 = .ok (.istore 5, 2) := by decide +kernel
theorem dX7_boundOf_27 : decode cX7_boundOf 27 = .ok (.iload 5, 2) := by decide +kernel
theorem dX7_boundOf_29 : decode cX7_boundOf 29 = .ok (.aload_n 0, 1) := by decide +kernel
theorem dX7_boundOf_30 : decode cX7_boundOf 30 = .ok (.iload_n 3, 1) := by decide +kernel
theorem dX7_boundOf_31 : decode cX7_boundOf 31 = .ok (.bipush 6, 2) := by decide +kernel
theorem dX7_boundOf_33 : decode cX7_boundOf 33 = .ok (.invokevirtual 157, 3) := by decide +kernel
theorem dX7_boundOf_36 : decode cX7_boundOf 36 = .ok (.if_icmp .ge 74, 3) := by decide +kernel
theorem dX7_boundOf_39 : decode cX7_boundOf 39 = .ok (.iload 4, 2) := by decide +kernel
theorem dX7_boundOf_41 : decode cX7_boundOf 41 = .ok (.iconst 3, 1) := by decide +kernel
theorem dX7_boundOf_42 : decode cX7_boundOf 42 = .ok (.if_icmp .ge 68, 3) := by decide +kernel
theorem dX7_boundOf_45 : decode cX7_boundOf 45 = .ok (.aload_n 0, 1) := by decide +kernel
theorem dX7_boundOf_46 : decode cX7_boundOf 46 = .ok (.iload_n 3, 1) := by decide +kernel
theorem dX7_boundOf_47 : decode cX7_boundOf 47 = .ok (.bipush 7, 2) := by decide +kernel
theorem dX7_boundOf_49 : decode cX7_boundOf 49 = .ok (.iconst 4, 1) := by decide +kernel
theorem dX7_boundOf_50 : decode cX7_boundOf 50 = .ok (.iload 5, 2) := by decide +kernel
theorem dX7_boundOf_52 : decode cX7_boundOf 52 = .ok (.imul, 1) := by decide +kernel
theorem dX7_boundOf_53 : decode cX7_boundOf 53 = .ok (.iadd, 1) := by decide +kernel
theorem dX7_boundOf_54 : decode cX7_boundOf 54 = .ok (.iconst 1, 1) := by decide +kernel
theorem dX7_boundOf_55 : decode cX7_boundOf 55 = .ok (.iadd, 1) := by decide +kernel
theorem dX7_boundOf_56 : decode cX7_boundOf 56 = .ok (.iload 4, 2) := by decide +kernel
theorem dX7_boundOf_58 : decode cX7_boundOf 58 = .ok (.iadd, 1) := by decide +kernel
theorem dX7_boundOf_59 : decode cX7_boundOf 59 = .ok (.invokevirtual 157, 3) := by decide +kernel
theorem dX7_boundOf_62 : decode cX7_boundOf 62 = .ok (.istore 6, 2) := by decide +kernel
theorem dX7_boundOf_64 : decode cX7_boundOf 64 = .ok (.aload_n 0, 1) := by decide +kernel
theorem dX7_boundOf_65 : decode cX7_boundOf 65 = .ok (.iload_n 3, 1) := by decide +kernel
theorem dX7_boundOf_66 : decode cX7_boundOf 66 = .ok (.bipush 7, 2) := by decide +kernel
theorem dX7_boundOf_68 : decode cX7_boundOf 68 = .ok (.iconst 4, 1) := by decide +kernel
theorem dX7_boundOf_69 : decode cX7_boundOf 69 = .ok (.iload 5, 2) := by decide +kernel
theorem dX7_boundOf_71 : decode cX7_boundOf 71 = .ok (.imul, 1) := by decide +kernel
theorem dX7_boundOf_72 : decode cX7_boundOf 72 = .ok (.iadd, 1) := by decide +kernel
theorem dX7_boundOf_73 : decode cX7_boundOf 73 = .ok (.invokevirtual 157, 3) := by decide +kernel
theorem dX7_boundOf_76 : decode cX7_boundOf 76 = .ok (.istore 7, 2) := by decide +kernel
theorem dX7_boundOf_78 : decode cX7_boundOf 78 = .ok (.iload_n 1, 1) := by decide +kernel
theorem dX7_boundOf_79 : decode cX7_boundOf 79 = .ok (.bipush (-2), 2) := by decide +kernel
theorem dX7_boundOf_81 : decode cX7_boundOf 81 = .ok (.if_icmp .eq 17, 3) := by decide +kernel
theorem dX7_boundOf_84 : decode cX7_boundOf 84 = .ok (.iload 6, 2) := by decide +kernel
theorem dX7_boundOf_86 : decode cX7_boundOf 86 = .ok (.iload_n 2, 1) := by decide +kernel
theorem dX7_boundOf_87 : decode cX7_boundOf 87 = .ok (.imul, 1) := by decide +kernel
theorem dX7_boundOf_88 : decode cX7_boundOf 88 = .ok (.iload_n 1, 1) := by decide +kernel
theorem dX7_boundOf_89 : decode cX7_boundOf 89 = .ok (.iload 7, 2) := by decide +kernel
theorem dX7_boundOf_91 : decode cX7_boundOf 91 = .ok (.imul, 1) := by decide +kernel
theorem dX7_boundOf_92 : decode cX7_boundOf 92 = .ok (.if_icmp .lt 6, 3) := by decide +kernel
theorem dX7_boundOf_95 : decode cX7_boundOf 95 = .ok (.goto 9, 3) := by decide +kernel
theorem dX7_boundOf_98 : decode cX7_boundOf 98 = .ok (.iload 6, 2) := by decide +kernel
theorem dX7_boundOf_100 : decode cX7_boundOf 100 = .ok (.istore_n 1, 1) := by decide +kernel
theorem dX7_boundOf_101 : decode cX7_boundOf 101 = .ok (.iload 7, 2) := by decide +kernel
theorem dX7_boundOf_103 : decode cX7_boundOf 103 = .ok (.istore_n 2, 1) := by decide +kernel
theorem dX7_boundOf_104 : decode cX7_boundOf 104 = .ok (.iinc 5 1, 3) := by decide +kernel
theorem dX7_boundOf_107 : decode cX7_boundOf 107 = .ok (.goto (-80), 3) := by decide +kernel
theorem dX7_boundOf_110 : decode cX7_boundOf 110 = .ok (.iinc 3 1, 3) := by decide +kernel
theorem dX7_boundOf_113 : decode cX7_boundOf 113 = .ok (.goto (-106), 3) := by decide +kernel
theorem dX7_boundOf_116 : decode cX7_boundOf 116 = .ok (.iload_n 1, 1) := by decide +kernel
theorem dX7_boundOf_117 : decode cX7_boundOf 117 = .ok (.bipush (-2), 2) := by decide +kernel
theorem dX7_boundOf_119 : decode cX7_boundOf 119 = .ok (.if_icmp .ne 8, 3) := by decide +kernel
theorem dX7_boundOf_122 : decode cX7_boundOf 122 = .ok (.bipush (-2), 2) := by decide +kernel
theorem dX7_boundOf_124 : decode cX7_boundOf 124 = .ok (.goto 26, 3) := by decide +kernel
theorem dX7_boundOf_127 : decode cX7_boundOf 127 = .ok (.aload_n 0, 1) := by decide +kernel
theorem dX7_boundOf_128 : decode cX7_boundOf 128 = .ok (.iconst 1, 1) := by decide +kernel
theorem dX7_boundOf_129 : decode cX7_boundOf 129 = .ok (.aload_n 0, 1) := by decide +kernel
theorem dX7_boundOf_130 : decode cX7_boundOf 130 = .ok (.getfield 74, 3) := by decide +kernel
theorem dX7_boundOf_133 : decode cX7_boundOf 133 = .ok (.iconst 1, 1) := by decide +kernel
theorem dX7_boundOf_134 : decode cX7_boundOf 134 = .ok (.iaload, 1) := by decide +kernel
theorem dX7_boundOf_135 : decode cX7_boundOf 135 = .ok (.ishl, 1) := by decide +kernel
theorem dX7_boundOf_136 : decode cX7_boundOf 136 = .ok (.iconst 1, 1) := by decide +kernel
theorem dX7_boundOf_137 : decode cX7_boundOf 137 = .ok (.isub, 1) := by decide +kernel
theorem dX7_boundOf_138 : decode cX7_boundOf 138 = .ok (.iconst 0, 1) := by decide +kernel
theorem dX7_boundOf_139 : decode cX7_boundOf 139 = .ok (.invokevirtual 167, 3) := by decide +kernel
theorem dX7_boundOf_142 : decode cX7_boundOf 142 = .ok (.iload_n 1, 1) := by decide +kernel
theorem dX7_boundOf_143 : decode cX7_boundOf 143 = .ok (.imul, 1) := by decide +kernel
theorem dX7_boundOf_144 : decode cX7_boundOf 144 = .ok (.iload_n 2, 1) := by decide +kernel
theorem dX7_boundOf_145 : decode cX7_boundOf 145 = .ok (.iadd, 1) := by decide +kernel
theorem dX7_boundOf_146 : decode cX7_boundOf 146 = .ok (.iconst 1, 1) := by decide +kernel
theorem dX7_boundOf_147 : decode cX7_boundOf 147 = .ok (.isub, 1) := by decide +kernel
theorem dX7_boundOf_148 : decode cX7_boundOf 148 = .ok (.iload_n 2, 1) := by decide +kernel
theorem dX7_boundOf_149 : decode cX7_boundOf 149 = .ok (.idiv, 1) := by decide +kernel
theorem dX7_boundOf_150 : decode cX7_boundOf 150 = .ok (.ireturn, 1) := by decide +kernel
set_option maxRecDepth 20000 in
theorem ggX7_inParcel_X7_parcelOf : GoodIn wsX7_inParcel wsX7_parcelOf := goodIn_r _ [6, 7, 8, 9, 5, 10, 1, 11, 12, 13, 14, 15, 16, 17, 18, 19, 20, 21, 22, 23, 24, 25, 26, 27, 28, 29, 30, 31, 32] (by decide +kernel) (by decide +kernel)
set_option maxRecDepth 20000 in
theorem gX7_inParcel_X7_parcelOf : GoodIn wsX7_inParcel (wsV RX7 197 RX7 yX7_parcelOf wsX7_parcelOf) := goodIn_app (goodIn_of _ (by decide +kernel)) ggX7_inParcel_X7_parcelOf
theorem dX7_inParcel_0 : decode cX7_inParcel 0 = .ok (.iconst 0, 1) := by decide +kernel
theorem dX7_inParcel_1 : decode cX7_inParcel 1 = .ok (.istore_n 2, 1) := by decide +kernel
theorem dX7_inParcel_2 : decode cX7_inParcel 2 = .ok (.iconst 0, 1) := by decide +kernel
theorem dX7_inParcel_3 : decode cX7_inParcel 3 = .ok (.istore_n 3, 1) := by decide +kernel
theorem dX7_inParcel_4 : decode cX7_inParcel 4 = .ok (.iload_n 3, 1) := by decide +kernel
theorem dX7_inParcel_5 : decode cX7_inParcel 5 = .ok (.aload_n 0, 1) := by decide +kernel
theorem dX7_inParcel_6 : decode cX7_inParcel 6 = .ok (.getfield 74, 3) := by decide +kernel
theorem dX7_inParcel_9 : decode cX7_inParcel 9 = .ok (.iconst 1, 1) := by decide +kernel
theorem dX7_inParcel_10 : decode cX7_inParcel 10 = .ok (.iaload, 1) := by decide +kernel
theorem dX7_inParcel_11 : decode cX7_inParcel 11 = .ok (.if_icmp .ge 24, 3) := by decide +kernel
theorem dX7_inParcel_14 : decode cX7_inParcel 14 = .ok (.aload_n 0, 1) := by decide +kernel
theorem dX7_inParcel_15 : decode cX7_inParcel 15 = .ok (.iload_n 3, 1) := by decide +kernel
theorem dX7_inParcel_16 : decode cX7_inParcel 16 = .ok (.invokevirtual 197, 3) := by decide +kernel
theorem dX7_inParcel_19 : decode cX7_inParcel 19 = .ok (.iload_n 1, 1) := by decide +kernel
theorem dX7_inParcel_20 : decode cX7_inParcel 20 = .ok (.if_icmp .ne 9, 3) := by decide +kernel
theorem dX7_inParcel_23 : decode cX7_inParcel 23 = .ok (.iload_n 2, 1) := by decide +kernel
theorem dX7_inParcel_24 : decode cX7_inParcel 24 = .ok (.iconst 1, 1) := by decide +kernel
theorem dX7_inParcel_25 : decode cX7_inParcel 25 = .ok (.iload_n 3, 1) := by decide +kernel
theorem dX7_inParcel_26 : decode cX7_inParcel 26 = .ok (.ishl, 1) := by decide +kernel
theorem dX7_inParcel_27 : decode cX7_inParcel 27 = .ok (.ior, 1) := by decide +kernel
theorem dX7_inParcel_28 : decode cX7_inParcel 28 = .ok (.istore_n 2, 1) := by decide +kernel
theorem dX7_inParcel_29 : decode cX7_inParcel 29 = .ok (.iinc 3 1, 3) := by decide +kernel
theorem dX7_inParcel_32 : decode cX7_inParcel 32 = .ok (.goto (-28), 3) := by decide +kernel
theorem dX7_inParcel_35 : decode cX7_inParcel 35 = .ok (.iload_n 2, 1) := by decide +kernel
theorem dX7_inParcel_36 : decode cX7_inParcel 36 = .ok (.ireturn, 1) := by decide +kernel
set_option maxRecDepth 20000 in
theorem ggX7_parcelsNow_X7_inParcel : GoodIn wsX7_parcelsNow wsX7_inParcel := goodIn_r _ [5, 6, 7, 8, 9, 4, 10, 11, 12, 13, 14, 15, 16, 17, 18, 19, 20, 21, 22, 23, 24, 25, 26, 27, 28, 29, 30, 31, 32, 33, 34, 35, 36] (by decide +kernel) (by decide +kernel)
set_option maxRecDepth 20000 in
theorem gX7_parcelsNow_X7_inParcel : GoodIn wsX7_parcelsNow (wsV RX7 200 RX7 yX7_inParcel wsX7_inParcel) := goodIn_app (goodIn_of _ (by decide +kernel)) ggX7_parcelsNow_X7_inParcel
theorem dX7_parcelsNow_0 : decode cX7_parcelsNow 0 = .ok (.iconst 0, 1) := by decide +kernel
theorem dX7_parcelsNow_1 : decode cX7_parcelsNow 1 = .ok (.istore_n 1, 1) := by decide +kernel
theorem dX7_parcelsNow_2 : decode cX7_parcelsNow 2 = .ok (.iconst 0, 1) := by decide +kernel
theorem dX7_parcelsNow_3 : decode cX7_parcelsNow 3 = .ok (.istore_n 2, 1) := by decide +kernel
theorem dX7_parcelsNow_4 : decode cX7_parcelsNow 4 = .ok (.iload_n 2, 1) := by decide +kernel
theorem dX7_parcelsNow_5 : decode cX7_parcelsNow 5 = .ok (.bipush 8, 2) := by decide +kernel
theorem dX7_parcelsNow_7 : decode cX7_parcelsNow 7 = .ok (.if_icmp .ge 23, 3) := by decide +kernel
theorem dX7_parcelsNow_10 : decode cX7_parcelsNow 10 = .ok (.aload_n 0, 1) := by decide +kernel
theorem dX7_parcelsNow_11 : decode cX7_parcelsNow 11 = .ok (.iload_n 2, 1) := by decide +kernel
theorem dX7_parcelsNow_12 : decode cX7_parcelsNow 12 = .ok (.invokevirtual 200, 3) := by decide +kernel
theorem dX7_parcelsNow_15 : decode cX7_parcelsNow 15 = .ok (.ifCond .eq 9, 3) := by decide +kernel
theorem dX7_parcelsNow_18 : decode cX7_parcelsNow 18 = .ok (.iload_n 1, 1) := by decide +kernel
theorem dX7_parcelsNow_19 : decode cX7_parcelsNow 19 = .ok (.iconst 1, 1) := by decide +kernel
theorem dX7_parcelsNow_20 : decode cX7_parcelsNow 20 = .ok (.iload_n 2, 1) := by decide +kernel
theorem dX7_parcelsNow_21 : decode cX7_parcelsNow 21 = .ok (.ishl, 1) := by decide +kernel
theorem dX7_parcelsNow_22 : decode cX7_parcelsNow 22 = .ok (.ior, 1) := by decide +kernel
theorem dX7_parcelsNow_23 : decode cX7_parcelsNow 23 = .ok (.istore_n 1, 1) := by decide +kernel
theorem dX7_parcelsNow_24 : decode cX7_parcelsNow 24 = .ok (.iinc 2 1, 3) := by decide +kernel
theorem dX7_parcelsNow_27 : decode cX7_parcelsNow 27 = .ok (.goto (-23), 3) := by decide +kernel
theorem dX7_parcelsNow_30 : decode cX7_parcelsNow 30 = .ok (.iload_n 1, 1) := by decide +kernel
theorem dX7_parcelsNow_31 : decode cX7_parcelsNow 31 = .ok (.ireturn, 1) := by decide +kernel
set_option maxRecDepth 20000 in
theorem ggX7_now_X7_isIn : GoodIn wsX7_now wsX7_isIn := goodIn_r _ [8] (by decide +kernel) (by decide +kernel)
set_option maxRecDepth 20000 in
theorem gX7_now_X7_isIn : GoodIn wsX7_now (va_wsS RX7 101 yX7_isIn wsX7_isIn) := goodIn_app (goodIn_of _ (by decide +kernel)) ggX7_now_X7_isIn
set_option maxRecDepth 20000 in
theorem ggX7_now_X7_inParcel : GoodIn wsX7_now wsX7_inParcel := goodIn_r _ [12, 2, 13, 14, 15, 7, 16, 17, 18, 19, 20, 25, 26, 27, 28, 29, 30, 31, 32, 33, 34, 35, 36, 37, 38, 39, 40, 41, 42, 43, 44, 45, 46] (by decide +kernel) (by decide +kernel)
set_option maxRecDepth 20000 in
theorem gX7_now_X7_inParcel : GoodIn wsX7_now (wsV RX7 200 RX7 yX7_inParcel wsX7_inParcel) := goodIn_app (goodIn_of _ (by decide +kernel)) ggX7_now_X7_inParcel
set_option maxRecDepth 20000 in
theorem ggX7_now_X7_parcelsNow : GoodIn wsX7_now wsX7_parcelsNow := goodIn_r _ [24, 9, 10, 11, 7, 12, 2, 13, 14, 15, 16, 17, 18, 19, 20, 25, 26, 27, 28, 29, 30, 31, 32, 33, 34, 35, 36, 37, 38, 39, 40, 41, 42, 43, 44, 45, 46] (by decide +kernel) (by decide +kernel)
set_option maxRecDepth 20000 in
theorem gX7_now_X7_parcelsNow : GoodIn wsX7_now (wsV RX7 203 RX7 yX7_parcelsNow wsX7_parcelsNow) := goodIn_app (goodIn_of _ (by decide +kernel)) ggX7_now_X7_parcelsNow
theorem dX7_now_0 : decode cX7_now 0 = .ok (.aload_n 0, 1) := by decide +kernel
theorem dX7_now_1 : decode cX7_now 1 = .ok (.iconst 0, 1) := by decide +kernel
theorem dX7_now_2 : decode cX7_now 2 = .ok (.putfield 1, 3) := by decide +kernel
