theorem dX3_scanRun_59 : decode cX3_scanRun 59 = .ok (.aload_n 0, 1) := by decide +kernel
theorem dX3_scanRun_60 : decode cX3_scanRun 60 = .ok (.getfield 32, 3) := by decide +kernel
theorem dX3_scanRun_63 : decode cX3_scanRun 63 = .ok (.invokevirtual 141, 3) := by decide +kernel
theorem dX3_scanRun_66 : decode cX3_scanRun 66 = .ok (.invokestatic 162, 3) := by decide +kernel
theorem dX3_scanRun_69 : decode cX3_scanRun 69 = .ok (.ifCond .eq 44, 3) := by decide +kernel
theorem dX3_scanRun_72 : decode cX3_scanRun 72 = .ok (.iinc 1 1, 3) := by decide +kernel
theorem dX3_scanRun_75 : decode cX3_scanRun 75 = .ok (.aload_n 0, 1) := by decide +kernel
theorem dX3_scanRun_76 : decode cX3_scanRun 76 = .ok (.iload_n 1, 1) := by decide +kernel
theorem dX3_scanRun_77 : decode cX3_scanRun 77 = .ok (.iconst 3, 1) := by decide +kernel
theorem dX3_scanRun_78 : decode cX3_scanRun 78 = .ok (.if_icmp .gt 28, 3) := by decide +kernel
theorem dX3_scanRun_81 : decode cX3_scanRun 81 = .ok (.aload_n 0, 1) := by decide +kernel
theorem dX3_scanRun_82 : decode cX3_scanRun 82 = .ok (.getfield 89, 3) := by decide +kernel
theorem dX3_scanRun_85 : decode cX3_scanRun 85 = .ok (.bipush 10, 2) := by decide +kernel
theorem dX3_scanRun_87 : decode cX3_scanRun 87 = .ok (.imul, 1) := by decide +kernel
theorem dX3_scanRun_88 : decode cX3_scanRun 88 = .ok (.aload_n 0, 1) := by decide +kernel
theorem dX3_scanRun_89 : decode cX3_scanRun 89 = .ok (.getfield 15, 3) := by decide +kernel
theorem dX3_scanRun_92 : decode cX3_scanRun 92 = .ok (.aload_n 0, 1) := by decide +kernel
theorem dX3_scanRun_93 : decode cX3_scanRun 93 = .ok (.getfield 32, 3) := by decide +kernel
theorem dX3_scanRun_96 : decode cX3_scanRun 96 = .ok (.invokevirtual 141, 3) := by decide +kernel
theorem dX3_scanRun_99 : decode cX3_scanRun 99 = .ok (.iadd, 1) := by decide +kernel
theorem dX3_scanRun_100 : decode cX3_scanRun 100 = .ok (.bipush 48, 2) := by decide +kernel
theorem dX3_scanRun_102 : decode cX3_scanRun 102 = .ok (.isub, 1) := by decide +kernel
theorem dX3_scanRun_103 : decode cX3_scanRun 103 = .ok (.goto 7, 3) := by decide +kernel
theorem dX3_scanRun_106 : decode cX3_scanRun 106 = .ok (.aload_n 0, 1) := by decide +kernel
theorem dX3_scanRun_107 : decode cX3_scanRun 107 = .ok (.getfield 89, 3) := by decide +kernel
theorem dX3_scanRun_110 : decode cX3_scanRun 110 = .ok (.putfield 89, 3) := by decide +kernel
theorem dX3_scanRun_113 : decode cX3_scanRun 113 = .ok (.aload_n 0, 1) := by decide +kernel
theorem dX3_scanRun_114 : decode cX3_scanRun 114 = .ok (.dup, 1) := by decide +kernel
theorem dX3_scanRun_115 : decode cX3_scanRun 115 = .ok (.getfield 32, 3) := by decide +kernel
theorem dX3_scanRun_118 : decode cX3_scanRun 118 = .ok (.iconst 1, 1) := by decide +kernel
theorem dX3_scanRun_119 : decode cX3_scanRun 119 = .ok (.iadd, 1) := by decide +kernel
theorem dX3_scanRun_120 : decode cX3_scanRun 120 = .ok (.putfield 32, 3) := by decide +kernel
theorem dX3_scanRun_123 : decode cX3_scanRun 123 = .ok (.goto (-116), 3) := by decide +kernel
theorem dX3_scanRun_126 : decode cX3_scanRun 126 = .ok (.iload_n 1, 1) := by decide +kernel
theorem dX3_scanRun_127 : decode cX3_scanRun 127 = .ok (.ifCond .ne 11, 3) := by decide +kernel
theorem dX3_scanRun_130 : decode cX3_scanRun 130 = .ok (.aload_n 0, 1) := by decide +kernel
theorem dX3_scanRun_131 : decode cX3_scanRun 131 = .ok (.iconst 2, 1) := by decide +kernel
theorem dX3_scanRun_132 : decode cX3_scanRun 132 = .ok (.putfield 49, 3) := by decide +kernel
theorem dX3_scanRun_135 : decode cX3_scanRun 135 = .ok (.goto 30, 3) := by decide +kernel
theorem dX3_scanRun_138 : decode cX3_scanRun 138 = .ok (.aload_n 0, 1) := by decide +kernel
theorem dX3_scanRun_139 : decode cX3_scanRun 139 = .ok (.iload_n 1, 1) := by decide +kernel
theorem dX3_scanRun_140 : decode cX3_scanRun 140 = .ok (.aload_n 0, 1) := by decide +kernel
theorem dX3_scanRun_141 : decode cX3_scanRun 141 = .ok (.getfield 32, 3) := by decide +kernel
theorem dX3_scanRun_144 : decode cX3_scanRun 144 = .ok (.aload_n 0, 1) := by decide +kernel
theorem dX3_scanRun_145 : decode cX3_scanRun 145 = .ok (.getfield 39, 3) := by decide +kernel
theorem dX3_scanRun_148 : decode cX3_scanRun 148 = .ok (.isub, 1) := by decide +kernel
theorem dX3_scanRun_149 : decode cX3_scanRun 149 = .ok (.if_icmp .ne 12, 3) := by decide +kernel
theorem dX3_scanRun_152 : decode cX3_scanRun 152 = .ok (.iload_n 1, 1) := by decide +kernel
theorem dX3_scanRun_153 : decode cX3_scanRun 153 = .ok (.iconst 3, 1) := by decide +kernel
theorem dX3_scanRun_154 : decode cX3_scanRun 154 = .ok (.if_icmp .gt 7, 3) := by decide +kernel
theorem dX3_scanRun_157 : decode cX3_scanRun 157 = .ok (.iconst 3, 1) := by decide +kernel
theorem dX3_scanRun_158 : decode cX3_scanRun 158 = .ok (.goto 4, 3) := by decide +kernel
theorem dX3_scanRun_161 : decode cX3_scanRun 161 = .ok (.iconst 0, 1) := by decide +kernel
theorem dX3_scanRun_162 : decode cX3_scanRun 162 = .ok (.putfield 49, 3) := by decide +kernel
theorem dX3_scanRun_165 : decode cX3_scanRun 165 = .ok (.return_, 1) := by decide +kernel
theorem dX3_isBlank_0 : decode cX3_isBlank 0 = .ok (.iload_n 0, 1) := by decide +kernel
theorem dX3_isBlank_1 : decode cX3_isBlank 1 = .ok (.bipush 32, 2) := by decide +kernel
theorem dX3_isBlank_3 : decode cX3_isBlank 3 = .ok (.if_icmp .eq 9, 3) := by decide +kernel
theorem dX3_isBlank_6 : decode cX3_isBlank 6 = .ok (.iload_n 0, 1) := by decide +kernel
theorem dX3_isBlank_7 : decode cX3_isBlank 7 = .ok (.bipush 10, 2) := by decide +kernel
theorem dX3_isBlank_9 : decode cX3_isBlank 9 = .ok (.if_icmp .ne 7, 3) := by decide +kernel
theorem dX3_isBlank_12 : decode cX3_isBlank 12 = .ok (.iconst 1, 1) := by decide +kernel
theorem dX3_isBlank_13 : decode cX3_isBlank 13 = .ok (.goto 4, 3) := by decide +kernel
theorem dX3_isBlank_16 : decode cX3_isBlank 16 = .ok (.iconst 0, 1) := by decide +kernel
theorem dX3_isBlank_17 : decode cX3_isBlank 17 = .ok (.ireturn, 1) := by decide +kernel
theorem dX3_isLetter_0 : decode cX3_isLetter 0 = .ok (.iload_n 0, 1) := by decide +kernel
theorem dX3_isLetter_1 : decode cX3_isLetter 1 = .ok (.bipush 97, 2) := by decide +kernel
theorem dX3_isLetter_3 : decode cX3_isLetter 3 = .ok (.if_icmp .lt 13, 3) := by decide +kernel
theorem dX3_isLetter_6 : decode cX3_isLetter 6 = .ok (.iload_n 0, 1) := by decide +kernel
theorem dX3_isLetter_7 : decode cX3_isLetter 7 = .ok (.bipush 122, 2) := by decide +kernel
theorem dX3_isLetter_9 : decode cX3_isLetter 9 = .ok (.if_icmp .gt 7, 3) := by decide +kernel
theorem dX3_isLetter_12 : decode cX3_isLetter 12 = .ok (.iconst 1, 1) := by decide +kernel
theorem dX3_isLetter_13 : decode cX3_isLetter 13 = .ok (.goto 4, 3) := by decide +kernel
theorem dX3_isLetter_16 : decode cX3_isLetter 16 = .ok (.iconst 0, 1) := by decide +kernel
theorem dX3_isLetter_17 : decode cX3_isLetter 17 = .ok (.ireturn, 1) := by decide +kernel
theorem dX3_isDigit_0 : decode cX3_isDigit 0 = .ok (.iload_n 0, 1) := by decide +kernel
theorem dX3_isDigit_1 : decode cX3_isDigit 1 = .ok (.bipush 48, 2) := by decide +kernel
theorem dX3_isDigit_3 : decode cX3_isDigit 3 = .ok (.if_icmp .lt 13, 3) := by decide +kernel
theorem dX3_isDigit_6 : decode cX3_isDigit 6 = .ok (.iload_n 0, 1) := by decide +kernel
theorem dX3_isDigit_7 : decode cX3_isDigit 7 = .ok (.bipush 57, 2) := by decide +kernel
theorem dX3_isDigit_9 : decode cX3_isDigit 9 = .ok (.if_icmp .gt 7, 3) := by decide +kernel
theorem dX3_isDigit_12 : decode cX3_isDigit 12 = .ok (.iconst 1, 1) := by decide +kernel
theorem dX3_isDigit_13 : decode cX3_isDigit 13 = .ok (.goto 4, 3) := by decide +kernel
theorem dX3_isDigit_16 : decode cX3_isDigit 16 = .ok (.iconst 0, 1) := by decide +kernel
theorem dX3_isDigit_17 : decode cX3_isDigit 17 = .ok (.ireturn, 1) := by decide +kernel
set_option maxRecDepth 20000 in
theorem ggX4_init_J6_numberOfTrailingZeros_0f7a4 : GoodIn wsX4_init wsJ6_numberOfTrailingZeros_0f7a4 := goodIn_r _ [17, 18] (by decide +kernel) (by decide +kernel)
set_option maxRecDepth 20000 in
theorem gX4_init_J6_numberOfTrailingZeros_0f7a4 : GoodIn wsX4_init (va_wsS RX4 39 yJ6_numberOfTrailingZeros_0f7a4 wsJ6_numberOfTrailingZeros_0f7a4) := goodIn_app (goodIn_of _ (by decide +kernel)) ggX4_init_J6_numberOfTrailingZeros_0f7a4
set_option maxRecDepth 20000 in
theorem ggX4_init_X4_shiftOf : GoodIn wsX4_init wsX4_shiftOf := goodIn_r _ [22] (by decide +kernel) (by decide +kernel)
set_option maxRecDepth 20000 in
theorem gX4_init_X4_shiftOf : GoodIn wsX4_init (va_wsS RX4 45 yX4_shiftOf wsX4_shiftOf) := goodIn_app (goodIn_of _ (by decide +kernel)) ggX4_init_X4_shiftOf
theorem dX4_init_0 : decode cX4_init 0 = .ok (.aload_n 0, 1) := by decide +kernel
theorem dX4_init_1 : decode cX4_init 1 = .ok (.invokespecial 3, 3) := by decide +kernel
theorem dX4_init_4 : decode cX4_init 4 = .ok (.aload_n 0, 1) := by decide +kernel
theorem dX4_init_5 : decode cX4_init 5 = .ok (.bipush 64, 2) := by decide +kernel
theorem dX4_init_7 : decode cX4_init 7 = .ok (.newarray .int, 2) := by decide +kernel
theorem dX4_init_9 : decode cX4_init 9 = .ok (.putfield 11, 3) := by decide +kernel
theorem dX4_init_12 : decode cX4_init 12 = .ok (.aload_n 0, 1) := by decide +kernel
theorem dX4_init_13 : decode cX4_init 13 = .ok (.bipush 64, 2) := by decide +kernel
theorem dX4_init_15 : decode cX4_init 15 = .ok (.newarray .long, 2) := by decide +kernel
theorem dX4_init_17 : decode cX4_init 17 = .ok (.putfield 15, 3) := by decide +kernel
theorem dX4_init_20 : decode cX4_init 20 = .ok (.aload_n 0, 1) := by decide +kernel
theorem dX4_init_21 : decode cX4_init 21 = .ok (.sipush 256, 3) := by decide +kernel
theorem dX4_init_24 : decode cX4_init 24 = .ok (.newarray .int, 2) := by decide +kernel
theorem dX4_init_26 : decode cX4_init 26 = .ok (.putfield 19, 3) := by decide +kernel
theorem dX4_init_29 : decode cX4_init 29 = .ok (.aload_n 0, 1) := by decide +kernel
theorem dX4_init_30 : decode cX4_init 30 = .ok (.sipush 256, 3) := by decide +kernel
theorem dX4_init_33 : decode cX4_init 33 = .ok (.newarray .int, 2) := by decide +kernel
theorem dX4_init_35 : decode cX4_init 35 = .ok (.putfield 22, 3) := by decide +kernel
theorem dX4_init_38 : decode cX4_init 38 = .ok (.aload_n 0, 1) := by decide +kernel
theorem dX4_init_39 : decode cX4_init 39 = .ok (.sipush 256, 3) := by decide +kernel
theorem dX4_init_42 : decode cX4_init 42 = .ok (.newarray .long, 2) := by decide +kernel
theorem dX4_init_44 : decode cX4_init 44 = .ok (.putfield 25, 3) := by decide +kernel
theorem dX4_init_47 : decode cX4_init 47 = .ok (.aload_n 0, 1) := by decide +kernel
theorem dX4_init_48 : decode cX4_init 48 = .ok (.sipush 256, 3) := by decide +kernel
theorem dX4_init_51 : decode cX4_init 51 = .ok (.newarray .long, 2) := by decide +kernel
theorem dX4_init_53 : decode cX4_init 53 = .ok (.putfield 28, 3) := by decide +kernel
theorem dX4_init_56 : decode cX4_init 56 = .ok (.aload_n 0, 1) := by decide +kernel
theorem dX4_init_57 : decode cX4_init 57 = .ok (.aload_n 1, 1) := by decide +kernel
theorem dX4_init_58 : decode cX4_init 58 = .ok (.putfield 31, 3) := by decide +kernel
theorem dX4_init_61 : decode cX4_init 61 = .ok (.aload_n 0, 1) := by decide +kernel
theorem dX4_init_62 : decode cX4_init 62 = .ok (.aload_n 2, 1) := by decide +kernel
theorem dX4_init_63 : decode cX4_init 63 = .ok (.putfield 35, 3) := by decide +kernel
theorem dX4_init_66 : decode cX4_init 66 = .ok (.iconst 1, 1) := by decide +kernel
theorem dX4_init_67 : decode cX4_init 67 = .ok (.istore_n 3, 1) := by decide +kernel
theorem dX4_init_68 : decode cX4_init 68 = .ok (.iload_n 3, 1) := by decide +kernel
theorem dX4_init_69 : decode cX4_init 69 = .ok (.sipush 256, 3) := by decide +kernel
theorem dX4_init_72 : decode cX4_init 72 = .ok (.if_icmp .ge 39, 3) := by decide +kernel
theorem dX4_init_75 : decode cX4_init 75 = .ok (.iload_n 3, 1) := by decide +kernel
theorem dX4_init_76 : decode cX4_init 76 = .ok (.invokestatic 39, 3) := by decide +kernel
theorem dX4_init_79 : decode cX4_init 79 = .ok (.istore 4, 2) := by decide +kernel
theorem dX4_init_81 : decode cX4_init 81 = .ok (.aload_n 0, 1) := by decide +kernel
theorem dX4_init_82 : decode cX4_init 82 = .ok (.getfield 28, 3) := by decide +kernel
theorem dX4_init_85 : decode cX4_init 85 = .ok (.iload_n 3, 1) := by decide +kernel
theorem dX4_init_86 : decode cX4_init 86 = .ok (.aload_n 0, 1) := by decide +kernel
theorem dX4_init_87 : decode cX4_init 87 = .ok (.getfield 28, 3) := by decide +kernel
theorem dX4_init_90 : decode cX4_init 90 = .ok (.iload_n 3, 1) := by decide +kernel
theorem dX4_init_91 : decode cX4_init 91 = .ok (.iload_n 3, 1) := by decide +kernel
theorem dX4_init_92 : decode cX4_init 92 = .ok (.iconst 1, 1) := by decide +kernel
theorem dX4_init_93 : decode cX4_init 93 = .ok (.isub, 1) := by decide +kernel
theorem dX4_init_94 : decode cX4_init 94 = .ok (.iand, 1) := by decide +kernel
theorem dX4_init_95 : decode cX4_init 95 = .ok (.laload, 1) := by decide +kernel
theorem dX4_init_96 : decode cX4_init 96 = .ok (.lconst 1, 1) := by decide +kernel
theorem dX4_init_97 : decode cX4_init 97 = .ok (.iload 4, 2) := by decide +kernel
theorem dX4_init_99 : decode cX4_init 99 = .ok (.invokestatic 45, 3) := by decide +kernel
theorem dX4_init_102 : decode cX4_init 102 = .ok (.lshl, 1) := by decide +kernel
theorem dX4_init_103 : decode cX4_init 103 = .ok (.ladd, 1) := by decide +kernel
theorem dX4_init_104 : decode cX4_init 104 = .ok (.lastore, 1) := by decide +kernel
theorem dX4_init_105 : decode cX4_init 105 = .ok (.iinc 3 1, 3) := by decide +kernel
theorem dX4_init_108 : decode cX4_init 108 = .ok (.goto (-40), 3) := by decide +kernel
theorem dX4_init_111 : decode cX4_init 111 = .ok (.return_, 1) := by decide +kernel
set_option maxRecDepth 20000 in
theorem ggX4_forget_J7_fill_53178 : GoodIn wsX4_forget wsJ7_fill_53178 := goodIn_r _ [5] (by decide +kernel) (by decide +kernel)
set_option maxRecDepth 20000 in
theorem gX4_forget_J7_fill_53178 : GoodIn wsX4_forget (va_wsS RX4 48 yJ7_fill_53178 wsJ7_fill_53178) := goodIn_app (goodIn_of _ (by decide +kernel)) ggX4_forget_J7_fill_53178
theorem dX4_forget_0 : decode cX4_forget 0 = .ok (.aload_n 0, 1) := by decide +kernel
theorem dX4_forget_1 : decode cX4_forget 1 = .ok (.getfield 11, 3) := by decide +kernel
theorem dX4_forget_4 : decode cX4_forget 4 = .ok (.iconst (-1), 1) := by decide +kernel
theorem dX4_forget_5 : decode cX4_forget 5 = .ok (.invokestatic 48, 3) := by decide +kernel
theorem dX4_forget_8 : decode cX4_forget 8 = .ok (.return_, 1) := by decide +kernel
set_option maxRecDepth 20000 in
theorem ggX4_parcelIn_X4_digitIn : GoodIn wsX4_parcelIn wsX4_digitIn := goodIn_r _ [4, 5, 6, 3, 7] (by decide +kernel) (by decide +kernel)
set_option maxRecDepth 20000 in
theorem gX4_parcelIn_X4_digitIn : GoodIn wsX4_parcelIn (va_wsS RX4 54 yX4_digitIn wsX4_digitIn) := goodIn_app (goodIn_of _ (by decide +kernel)) ggX4_parcelIn_X4_digitIn
theorem dX4_parcelIn_0 : decode cX4_parcelIn 0 = .ok (.lload_n 0, 1) := by decide +kernel
theorem dX4_parcelIn_1 : decode cX4_parcelIn 1 = .ok (.iload_n 2, 1) := by decide +kernel
theorem dX4_parcelIn_2 : decode cX4_parcelIn 2 = .ok (.invokestatic 54, 3) := by decide +kernel
theorem dX4_parcelIn_5 : decode cX4_parcelIn 5 = .ok (.iconst 3, 1) := by decide +kernel
theorem dX4_parcelIn_6 : decode cX4_parcelIn 6 = .ok (.idiv, 1) := by decide +kernel
theorem dX4_parcelIn_7 : decode cX4_parcelIn 7 = .ok (.ireturn, 1) := by decide +kernel
set_option maxRecDepth 20000 in
theorem ggX4_carrierIn_X4_digitIn : GoodIn wsX4_carrierIn wsX4_digitIn := goodIn_r _ [4, 5, 6, 3, 7] (by decide +kernel) (by decide +kernel)
set_option maxRecDepth 20000 in
theorem gX4_carrierIn_X4_digitIn : GoodIn wsX4_carrierIn (va_wsS RX4 54 yX4_digitIn wsX4_digitIn) := goodIn_app (goodIn_of _ (by decide +kernel)) ggX4_carrierIn_X4_digitIn
theorem dX4_carrierIn_0 : decode cX4_carrierIn 0 = .ok (.lload_n 0, 1) := by decide +kernel
theorem dX4_carrierIn_1 : decode cX4_carrierIn 1 = .ok (.iload_n 2, 1) := by decide +kernel
theorem dX4_carrierIn_2 : decode cX4_carrierIn 2 = .ok (.invokestatic 54, 3) := by decide +kernel
theorem dX4_carrierIn_5 : decode cX4_carrierIn 5 = .ok (.iconst 3, 1) := by decide +kernel
theorem dX4_carrierIn_6 : decode cX4_carrierIn 6 = .ok (.irem, 1) := by decide +kernel
theorem dX4_carrierIn_7 : decode cX4_carrierIn 7 = .ok (.ireturn, 1) := by decide +kernel
set_option maxRecDepth 20000 in
theorem ggX4_digitIn_X4_shiftOf : GoodIn wsX4_digitIn wsX4_shiftOf := goodIn_r _ [4] (by decide +kernel) (by decide +kernel)
set_option maxRecDepth 20000 in
theorem gX4_digitIn_X4_shiftOf : GoodIn wsX4_digitIn (va_wsS RX4 45 yX4_shiftOf wsX4_shiftOf) := goodIn_app (goodIn_of _ (by decide +kernel)) ggX4_digitIn_X4_shiftOf
theorem dX4_digitIn_0 : decode cX4_digitIn 0 = .ok (.lload_n 0, 1) := by decide +kernel
theorem dX4_digitIn_1 : decode cX4_digitIn 1 = .ok (.iload_n 2, 1) := by decide +kernel
theorem dX4_digitIn_2 : decode cX4_digitIn 2 = .ok (.invokestatic 45, 3) := by decide +kernel
theorem dX4_digitIn_5 : decode cX4_digitIn 5 = .ok (.lshr, 1) := by decide +kernel
theorem dX4_digitIn_6 : decode cX4_digitIn 6 = .ok (.l2i, 1) := by decide +kernel
theorem dX4_digitIn_7 : decode cX4_digitIn 7 = .ok (.bipush 31, 2) := by decide +kernel
theorem dX4_digitIn_9 : decode cX4_digitIn 9 = .ok (.iand, 1) := by decide +kernel
theorem dX4_digitIn_10 : decode cX4_digitIn 10 = .ok (.ireturn, 1) := by decide +kernel
theorem dX4_shiftOf_0 : decode cX4_shiftOf 0 = .ok (.iconst 5, 1) := by decide +kernel
theorem dX4_shiftOf_1 : decode cX4_shiftOf 1 = .ok (.bipush 7, 2) := by decide +kernel
theorem dX4_shiftOf_3 : decode cX4_shiftOf 3 = .ok (.iload_n 0, 1) := by decide +kernel
theorem dX4_shiftOf_4 : decode cX4_shiftOf 4 = .ok (.isub, 1) := by decide +kernel
theorem dX4_shiftOf_5 : decode cX4_shiftOf 5 = .ok (.imul, 1) := by decide +kernel
theorem dX4_shiftOf_6 : decode cX4_shiftOf 6 = .ok (.ireturn, 1) := by decide +kernel
set_option maxRecDepth 20000 in
theorem ggX4_leastCharge_X2_zonesAt : GoodIn wsX4_leastCharge wsX2_zonesAt := goodIn_r _ [7, 8, 9, 10, 11, 12, 13, 14, 15, 16, 17, 6, 18, 19, 20, 21, 22, 23, 24, 25, 26, 27, 28, 29, 30, 31, 32, 33, 34, 142, 143, 144, 145, 146, 147, 148, 149, 150, 151, 152, 153, 154, 155] (by decide +kernel) (by decide +kernel)
set_option maxRecDepth 20000 in
theorem gX4_leastCharge_X2_zonesAt : GoodIn wsX4_leastCharge (wsV RX4 58 RX2 yX2_zonesAt wsX2_zonesAt) := goodIn_app (goodIn_of _ (by decide +kernel)) ggX4_leastCharge_X2_zonesAt
set_option maxRecDepth 20000 in
theorem ggX4_leastCharge_X6_at : GoodIn wsX4_leastCharge wsX6_at := goodIn_r _ [26] (by decide +kernel) (by decide +kernel)
set_option maxRecDepth 20000 in
theorem gX4_leastCharge_X6_at_n64 : GoodIn wsX4_leastCharge (wsX6_at) := ggX4_leastCharge_X6_at
set_option maxRecDepth 20000 in
theorem ggX4_leastCharge_X4_solve : GoodIn wsX4_leastCharge wsX4_solve := goodIn_r _ [39, 40, 41, 42, 43, 1, 2, 44, 45, 46, 47, 12, 48, 49, 50, 51, 52, 6, 53, 8, 9, 10, 11, 13, 14, 54, 55, 56, 57, 58, 59, 60, 61, 24, 25, 26, 62, 63, 64, 65, 66, 67, 68, 69, 70, 71, 72, 73, 74, 75, 76, 77, 78, 79, 80, 81, 82, 83, 84, 85, 86, 87, 88, 89, 90, 91, 92, 93, 94, 95, 96, 97, 98, 99, 100, 101, 102, 103, 104, 105, 106, 107, 108, 109, 110, 111, 112, 38, 113, 114, 115, 116, 117, 118, 119, 120, 121, 122, 123, 124, 125, 126, 127, 128, 129, 130, 131, 132, 133, 134, 135, 136, 137, 138, 139, 140, 141, 146, 147, 148, 149, 150, 151, 152, 153, 154, 155, 142, 143, 144, 145] (by decide +kernel) (by decide +kernel)
set_option maxRecDepth 20000 in
theorem gX4_leastCharge_X4_solve : GoodIn wsX4_leastCharge (wsV RX4 68 RX4 yX4_solve wsX4_solve) := goodIn_app (goodIn_of _ (by decide +kernel)) ggX4_leastCharge_X4_solve
theorem dX4_leastCharge_0 : decode cX4_leastCharge 0 = .ok (.aload_n 0, 1) := by decide +kernel
theorem dX4_leastCharge_1 : decode cX4_leastCharge 1 = .ok (.getfield 35, 3) := by decide +kernel
theorem dX4_leastCharge_4 : decode cX4_leastCharge 4 = .ok (.iload_n 1, 1) := by decide +kernel
theorem dX4_leastCharge_5 : decode cX4_leastCharge 5 = .ok (.iload_n 2, 1) := by decide +kernel
theorem dX4_leastCharge_6 : decode cX4_leastCharge 6 = .ok (.invokevirtual 58, 3) := by decide +kernel
theorem dX4_leastCharge_9 : decode cX4_leastCharge 9 = .ok (.istore_n 3, 1) := by decide +kernel
theorem dX4_leastCharge_10 : decode cX4_leastCharge 10 = .ok (.aload_n 0, 1) := by decide +kernel
theorem dX4_leastCharge_11 : decode cX4_leastCharge 11 = .ok (.getfield 11, 3) := by decide +kernel
theorem dX4_leastCharge_14 : decode cX4_leastCharge 14 = .ok (.iload_n 3, 1) := by decide +kernel
theorem dX4_leastCharge_15 : decode cX4_leastCharge 15 = .ok (.invokestatic 64, 3) := by decide +kernel
theorem dX4_leastCharge_18 : decode cX4_leastCharge 18 = .ok (.iconst (-1), 1) := by decide +kernel
theorem dX4_leastCharge_19 : decode cX4_leastCharge 19 = .ok (.if_icmp .ne 8, 3) := by decide +kernel
theorem dX4_leastCharge_22 : decode cX4_leastCharge 22 = .ok (.aload_n 0, 1) := by decide +kernel
theorem dX4_leastCharge_23 : decode cX4_leastCharge 23 = .ok (.iload_n 3, 1) := by decide +kernel
theorem dX4_leastCharge_24 : decode cX4_leastCharge 24 = .ok (.invokevirtual 68, 3) := by decide +kernel
theorem dX4_leastCharge_27 : decode cX4_leastCharge 27 = .ok (.aload_n 0, 1) := by decide +kernel
theorem dX4_leastCharge_28 : decode cX4_leastCharge 28 = .ok (.getfield 11, 3) := by decide +kernel
theorem dX4_leastCharge_31 : decode cX4_leastCharge 31 = .ok (.iload_n 3, 1) := by decide +kernel
theorem dX4_leastCharge_32 : decode cX4_leastCharge 32 = .ok (.invokestatic 64, 3) := by decide +kernel
theorem dX4_leastCharge_35 : decode cX4_leastCharge 35 = .ok (.ireturn, 1) := by decide +kernel
set_option maxRecDepth 20000 in
theorem ggX4_leastRow_X2_zonesAt : GoodIn wsX4_leastRow wsX2_zonesAt := goodIn_r _ [7, 8, 9, 10, 11, 12, 13, 14, 15, 16, 17, 6, 18, 19, 20, 21, 22, 23, 24, 25, 26, 27, 28, 29, 30, 31, 32, 33, 34, 43, 44, 45, 46, 47, 48, 49, 50, 51, 52, 53, 54, 55, 56] (by decide +kernel) (by decide +kernel)
set_option maxRecDepth 20000 in
theorem gX4_leastRow_X2_zonesAt : GoodIn wsX4_leastRow (wsV RX4 58 RX2 yX2_zonesAt wsX2_zonesAt) := goodIn_app (goodIn_of _ (by decide +kernel)) ggX4_leastRow_X2_zonesAt
theorem dX4_leastRow_0 : decode cX4_leastRow 0 = .ok (.aload_n 0, 1) := by decide +kernel
theorem dX4_leastRow_1 : decode cX4_leastRow 1 = .ok (.getfield 35, 3) := by decide +kernel
theorem dX4_leastRow_4 : decode cX4_leastRow 4 = .ok (.iload_n 1, 1) := by decide +kernel
theorem dX4_leastRow_5 : decode cX4_leastRow 5 = .ok (.iload_n 2, 1) := by decide +kernel
theorem dX4_leastRow_6 : decode cX4_leastRow 6 = .ok (.invokevirtual 58, 3) := by decide +kernel
theorem dX4_leastRow_9 : decode cX4_leastRow 9 = .ok (.istore_n 3, 1) := by decide +kernel
theorem dX4_leastRow_10 : decode cX4_leastRow 10 = .ok (.iload_n 3, 1) := by decide +kernel
theorem dX4_leastRow_11 : decode cX4_leastRow 11 = .ok (.ifCond .lt 21, 3) := by decide +kernel
theorem dX4_leastRow_14 : decode cX4_leastRow 14 = .ok (.iload_n 3, 1) := by decide +kernel
theorem dX4_leastRow_15 : decode cX4_leastRow 15 = .ok (.aload_n 0, 1) := by decide +kernel
theorem dX4_leastRow_16 : decode cX4_leastRow 16 = .ok (.getfield 15, 3) := by decide +kernel
theorem dX4_leastRow_19 : decode cX4_leastRow 19 = .ok (.arraylength, 1) := by decide +kernel
theorem dX4_leastRow_20 : decode cX4_leastRow 20 = .ok (.if_icmp .ge 12, 3) := by decide +kernel
theorem dX4_leastRow_23 : decode cX4_leastRow 23 = .ok (.aload_n 0, 1) := by decide +kernel
theorem dX4_leastRow_24 : decode cX4_leastRow 24 = .ok (.getfield 15, 3) := by decide +kernel
theorem dX4_leastRow_27 : decode cX4_leastRow 27 = .ok (.iload_n 3, 1) := by decide +kernel
theorem dX4_leastRow_28 : decode cX4_leastRow 28 = .ok (.laload, 1) := by decide +kernel
theorem dX4_leastRow_29 : decode cX4_leastRow 29 = .ok (.goto 4, 3) := by decide +kernel
theorem dX4_leastRow_32 : decode cX4_leastRow 32 = .ok (.lconst 0, 1) := by decide +kernel
theorem dX4_leastRow_33 : decode cX4_leastRow 33 = .ok (.lreturn, 1) := by decide +kernel
set_option maxRecDepth 20000 in
theorem ggX4_solve_X0_fullSet : GoodIn wsX4_solve wsX0_fullSet := goodIn_r _ [12, 13, 117, 118, 119, 120, 121, 122, 123, 124, 125, 126] (by decide +kernel) (by decide +kernel)
set_option maxRecDepth 20000 in
theorem gX4_solve_X0_fullSet : GoodIn wsX4_solve (wsV RX4 72 RX0 yX0_fullSet wsX0_fullSet) := goodIn_app (goodIn_of _ (by decide +kernel)) ggX4_solve_X0_fullSet
set_option maxRecDepth 20000 in
theorem ggX4_solve_X2_leastOffer : GoodIn wsX4_solve wsX2_leastOffer := goodIn_r _ [18, 19, 20, 21, 22, 11, 23, 24, 25, 26, 17, 27, 28, 29, 30, 31, 32, 33, 34, 35, 36, 37, 38, 39, 40, 41, 42, 43, 44, 45, 46, 47, 48, 49, 50, 51, 52, 53, 54, 55, 56, 57, 58, 59, 60, 61, 62, 63, 64, 65, 66, 67, 68, 69, 70, 71, 72, 73, 74, 75, 76, 77, 78, 79, 80, 81, 127, 128, 129, 130, 117, 118, 119, 120, 121, 122, 123, 124, 125, 126] (by decide +kernel) (by decide +kernel)
set_option maxRecDepth 20000 in
theorem gX4_solve_X2_leastOffer : GoodIn wsX4_solve (wsV RX4 78 RX2 yX2_leastOffer wsX2_leastOffer) := goodIn_app (goodIn_of _ (by decide +kernel)) ggX4_solve_X2_leastOffer
set_option maxRecDepth 20000 in
theorem ggX4_solve_X6_store : GoodIn wsX4_solve wsX6_store := goodIn_r _ [83] (by decide +kernel) (by decide +kernel)
set_option maxRecDepth 20000 in
theorem gX4_solve_X6_store_n81 : GoodIn wsX4_solve (wsX6_store) := ggX4_solve_X6_store
set_option maxRecDepth 20000 in
theorem ggX4_solve_X4_splitSet : GoodIn wsX4_solve wsX4_splitSet := goodIn_r _ [88, 2, 3, 89, 90, 91, 87, 92, 4, 93, 33, 34, 35, 94, 95, 17, 96, 97, 98, 99, 100, 101, 102, 103, 104, 105, 106, 107, 108, 109, 110, 111, 112, 113, 114, 115, 116] (by decide +kernel) (by decide +kernel)
set_option maxRecDepth 20000 in
theorem gX4_solve_X4_splitSet : GoodIn wsX4_solve (wsV RX4 85 RX4 yX4_splitSet wsX4_splitSet) := goodIn_app (goodIn_of _ (by decide +kernel)) ggX4_solve_X4_splitSet
set_option maxRecDepth 20000 in
theorem ggX4_solve_X6_at : GoodIn wsX4_solve wsX6_at := goodIn_r _ [35] (by decide +kernel) (by decide +kernel)
set_option maxRecDepth 20000 in
theorem gX4_solve_X6_at_n64 : GoodIn wsX4_solve (wsX6_at) := ggX4_solve_X6_at
set_option maxRecDepth 20000 in
theorem ggX4_solve_X4_rowOf : GoodIn wsX4_solve wsX4_rowOf := goodIn_r _ [108, 3, 109, 110, 111, 112, 113, 114, 115, 116] (by decide +kernel) (by decide +kernel)
set_option maxRecDepth 20000 in
theorem gX4_solve_X4_rowOf : GoodIn wsX4_solve (wsV RX4 88 RX4 yX4_rowOf wsX4_rowOf) := goodIn_app (goodIn_of _ (by decide +kernel)) ggX4_solve_X4_rowOf
theorem dX4_solve_0 : decode cX4_solve 0 = .ok (.aload_n 0, 1) := by decide +kernel
theorem dX4_solve_1 : decode cX4_solve 1 = .ok (.getfield 31, 3) := by decide +kernel
theorem dX4_solve_4 : decode cX4_solve 4 = .ok (.invokevirtual 72, 3) := by decide +kernel
theorem dX4_solve_7 : decode cX4_solve 7 = .ok (.istore_n 2, 1) := by decide +kernel
theorem dX4_solve_8 : decode cX4_solve 8 = .ok (.aload_n 0, 1) := by decide +kernel
theorem dX4_solve_9 : decode cX4_solve 9 = .ok (.getfield 22, 3) := by decide +kernel
theorem dX4_solve_12 : decode cX4_solve 12 = .ok (.iconst 0, 1) := by decide +kernel
theorem dX4_solve_13 : decode cX4_solve 13 = .ok (.iconst 0, 1) := by decide +kernel
theorem dX4_solve_14 : decode cX4_solve 14 = .ok (.iastore, 1) := by decide +kernel
theorem dX4_solve_15 : decode cX4_solve 15 = .ok (.aload_n 0, 1) := by decide +kernel
theorem dX4_solve_16 : decode cX4_solve 16 = .ok (.getfield 25, 3) := by decide +kernel
theorem dX4_solve_19 : decode cX4_solve 19 = .ok (.iconst 0, 1) := by decide +kernel
theorem dX4_solve_20 : decode cX4_solve 20 = .ok (.lconst 0, 1) := by decide +kernel
theorem dX4_solve_21 : decode cX4_solve 21 = .ok (.lastore, 1) := by decide +kernel
theorem dX4_solve_22 : decode cX4_solve 22 = .ok (.iconst 1, 1) := by decide +kernel
theorem dX4_solve_23 : decode cX4_solve 23 = .ok (.istore_n 3, 1) := by decide +kernel
theorem dX4_solve_24 : decode cX4_solve 24 = .ok (.iload_n 3, 1) := by decide +kernel
theorem dX4_solve_25 : decode cX4_solve 25 = .ok (.iload_n 2, 1) := by decide +kernel
theorem dX4_solve_26 : decode cX4_solve 26 = .ok (.if_icmp .gt 26, 3) := by decide +kernel
theorem dX4_solve_29 : decode cX4_solve 29 = .ok (.aload_n 0, 1) := by decide +kernel
theorem dX4_solve_30 : decode cX4_solve 30 = .ok (.getfield 19, 3) := by decide +kernel
theorem dX4_solve_33 : decode cX4_solve 33 = .ok (.iload_n 3, 1) := by decide +kernel
theorem dX4_solve_34 : decode cX4_solve 34 = .ok (.aload_n 0, 1) := by decide +kernel
theorem dX4_solve_35 : decode cX4_solve 35 = .ok (.getfield 35, 3) := by decide +kernel
theorem dX4_solve_38 : decode cX4_solve 38 = .ok (.iload_n 3, 1) := by decide +kernel
theorem dX4_solve_39 : decode cX4_solve 39 = .ok (.iload_n 1, 1) := by decide +kernel
theorem dX4_solve_40 : decode cX4_solve 40 = .ok (.invokevirtual 78, 3) := by decide +kernel
theorem dX4_solve_43 : decode cX4_solve 43 = .ok (.invokestatic 81, 3) := by decide +kernel
theorem dX4_solve_46 : decode cX4_solve 46 = .ok (.iinc 3 1, 3) := by decide +kernel
theorem dX4_solve_49 : decode cX4_solve 49 = .ok (.goto (-25), 3) := by decide +kernel
theorem dX4_solve_52 : decode cX4_solve 52 = .ok (.iconst 2, 1) := by decide +kernel
theorem dX4_solve_53 : decode cX4_solve 53 = .ok (.istore_n 3, 1) := by decide +kernel
theorem dX4_solve_54 : decode cX4_solve 54 = .ok (.iload_n 3, 1) := by decide +kernel
theorem dX4_solve_55 : decode cX4_solve 55 = .ok (.iload_n 2, 1) := by decide +kernel
theorem dX4_solve_56 : decode cX4_solve 56 = .ok (.if_icmp .ge 14, 3) := by decide +kernel
theorem dX4_solve_59 : decode cX4_solve 59 = .ok (.aload_n 0, 1) := by decide +kernel
theorem dX4_solve_60 : decode cX4_solve 60 = .ok (.iload_n 3, 1) := by decide +kernel
theorem dX4_solve_61 : decode cX4_solve 61 = .ok (.invokevirtual 85, 3) := by decide +kernel
theorem dX4_solve_64 : decode cX4_solve 64 = .ok (.iinc 3 2, 3) := by decide +kernel
theorem dX4_solve_67 : decode cX4_solve 67 = .ok (.goto (-13), 3) := by decide +kernel
theorem dX4_solve_70 : decode cX4_solve 70 = .ok (.aload_n 0, 1) := by decide +kernel
theorem dX4_solve_71 : decode cX4_solve 71 = .ok (.iload_n 2, 1) := by decide +kernel
theorem dX4_solve_72 : decode cX4_solve 72 = .ok (.invokevirtual 85, 3) := by decide +kernel
theorem dX4_solve_75 : decode cX4_solve 75 = .ok (.iload_n 1, 1) := by decide +kernel
theorem dX4_solve_76 : decode cX4_solve 76 = .ok (.ifCond .lt 34, 3) := by decide +kernel
theorem dX4_solve_79 : decode cX4_solve 79 = .ok (.iload_n 1, 1) := by decide +kernel
theorem dX4_solve_80 : decode cX4_solve 80 = .ok (.bipush 64, 2) := by decide +kernel
theorem dX4_solve_82 : decode cX4_solve 82 = .ok (.if_icmp .ge 28, 3) := by decide +kernel
theorem dX4_solve_85 : decode cX4_solve 85 = .ok (.aload_n 0, 1) := by decide +kernel
theorem dX4_solve_86 : decode cX4_solve 86 = .ok (.getfield 11, 3) := by decide +kernel
theorem dX4_solve_89 : decode cX4_solve 89 = .ok (.iload_n 1, 1) := by decide +kernel
theorem dX4_solve_90 : decode cX4_solve 90 = .ok (.aload_n 0, 1) := by decide +kernel
theorem dX4_solve_91 : decode cX4_solve 91 = .ok (.getfield 22, 3) := by decide +kernel
theorem dX4_solve_94 : decode cX4_solve 94 = .ok (.iload_n 2, 1) := by decide +kernel
theorem dX4_solve_95 : decode cX4_solve 95 = .ok (.invokestatic 64, 3) := by decide +kernel
theorem dX4_solve_98 : decode cX4_solve 98 = .ok (.iastore, 1) := by decide +kernel
theorem dX4_solve_99 : decode cX4_solve 99 = .ok (.aload_n 0, 1) := by decide +kernel
theorem dX4_solve_100 : decode cX4_solve 100 = .ok (.getfield 15, 3) := by decide +kernel
theorem dX4_solve_103 : decode cX4_solve 103 = .ok (.iload_n 1, 1) := by decide +kernel
theorem dX4_solve_104 : decode cX4_solve 104 = .ok (.aload_n 0, 1) := by decide +kernel
theorem dX4_solve_105 : decode cX4_solve 105 = .ok (.iload_n 2, 1) := by decide +kernel
theorem dX4_solve_106 : decode cX4_solve 106 = .ok (.invokevirtual 88, 3) := by decide +kernel
theorem dX4_solve_109 : decode cX4_solve 109 = .ok (.lastore, 1) := by decide +kernel
theorem dX4_solve_110 : decode cX4_solve 110 = .ok (.return_, 1) := by decide +kernel
set_option maxRecDepth 20000 in
theorem ggX4_splitSet_X4_tryParcel : GoodIn wsX4_splitSet wsX4_tryParcel := goodIn_r _ [7, 8, 1, 9, 2, 10, 11, 12, 13, 14, 15, 16, 17, 18, 19, 20, 21, 22, 6, 23, 24, 25, 26, 27, 28, 29, 30, 31, 32, 33, 34, 35, 36] (by decide +kernel) (by decide +kernel)
set_option maxRecDepth 20000 in
theorem gX4_splitSet_X4_tryParcel : GoodIn wsX4_splitSet (wsV RX4 92 RX4 yX4_tryParcel wsX4_tryParcel) := goodIn_app (goodIn_of _ (by decide +kernel)) ggX4_splitSet_X4_tryParcel
theorem dX4_splitSet_0 : decode cX4_splitSet 0 = .ok (.iload_n 1, 1) := by decide +kernel
theorem dX4_splitSet_1 : decode cX4_splitSet 1 = .ok (.iconst 1, 1) := by decide +kernel
theorem dX4_splitSet_2 : decode cX4_splitSet 2 = .ok (.if_icmp .lt 10, 3) := by decide +kernel
theorem dX4_splitSet_5 : decode cX4_splitSet 5 = .ok (.iload_n 1, 1) := by decide +kernel
theorem dX4_splitSet_6 : decode cX4_splitSet 6 = .ok (.sipush 256, 3) := by decide +kernel
theorem dX4_splitSet_9 : decode cX4_splitSet 9 = .ok (.if_icmp .lt 4, 3) := by decide +kernel
theorem dX4_splitSet_12 : decode cX4_splitSet 12 = .ok (.return_, 1) := by decide +kernel
theorem dX4_splitSet_13 : decode cX4_splitSet 13 = .ok (.iload_n 1, 1) := by decide +kernel
theorem dX4_splitSet_14 : decode cX4_splitSet 14 = .ok (.iload_n 1, 1) := by decide +kernel
theorem dX4_splitSet_15 : decode cX4_splitSet 15 = .ok (.ineg, 1) := by decide +kernel
theorem dX4_splitSet_16 : decode cX4_splitSet 16 = .ok (.iand, 1) := by decide +kernel
theorem dX4_splitSet_17 : decode cX4_splitSet 17 = .ok (.istore_n 2, 1) := by decide +kernel
theorem dX4_splitSet_18 : decode cX4_splitSet 18 = .ok (.iload_n 1, 1) := by decide +kernel
theorem dX4_splitSet_19 : decode cX4_splitSet 19 = .ok (.iload_n 2, 1) := by decide +kernel
theorem dX4_splitSet_20 : decode cX4_splitSet 20 = .ok (.ixor, 1) := by decide +kernel
theorem dX4_splitSet_21 : decode cX4_splitSet 21 = .ok (.istore_n 3, 1) := by decide +kernel
theorem dX4_splitSet_22 : decode cX4_splitSet 22 = .ok (.aload_n 0, 1) := by decide +kernel
theorem dX4_splitSet_23 : decode cX4_splitSet 23 = .ok (.getfield 22, 3) := by decide +kernel
theorem dX4_splitSet_26 : decode cX4_splitSet 26 = .ok (.iload_n 1, 1) := by decide +kernel
theorem dX4_splitSet_27 : decode cX4_splitSet 27 = .ok (.bipush (-2), 2) := by decide +kernel
theorem dX4_splitSet_29 : decode cX4_splitSet 29 = .ok (.iastore, 1) := by decide +kernel
theorem dX4_splitSet_30 : decode cX4_splitSet 30 = .ok (.aload_n 0, 1) := by decide +kernel
theorem dX4_splitSet_31 : decode cX4_splitSet 31 = .ok (.getfield 25, 3) := by decide +kernel
theorem dX4_splitSet_34 : decode cX4_splitSet 34 = .ok (.iload_n 1, 1) := by decide +kernel
theorem dX4_splitSet_35 : decode cX4_splitSet 35 = .ok (.lconst 0, 1) := by decide +kernel
theorem dX4_splitSet_36 : decode cX4_splitSet 36 = .ok (.lastore, 1) := by decide +kernel
theorem dX4_splitSet_37 : decode cX4_splitSet 37 = .ok (.aload_n 0, 1) := by decide +kernel
theorem dX4_splitSet_38 : decode cX4_splitSet 38 = .ok (.iload_n 1, 1) := by decide +kernel
theorem dX4_splitSet_39 : decode cX4_splitSet 39 = .ok (.iload_n 2, 1) := by decide +kernel
theorem dX4_splitSet_40 : decode cX4_splitSet 40 = .ok (.invokevirtual 92, 3) := by decide +kernel
theorem dX4_splitSet_43 : decode cX4_splitSet 43 = .ok (.iload_n 3, 1) := by decide +kernel
theorem dX4_splitSet_44 : decode cX4_splitSet 44 = .ok (.istore 4, 2) := by decide +kernel
theorem dX4_splitSet_46 : decode cX4_splitSet 46 = .ok (.iload 4, 2) := by decide +kernel
theorem dX4_splitSet_48 : decode cX4_splitSet 48 = .ok (.ifCond .le 23, 3) := by decide +kernel
theorem dX4_splitSet_51 : decode cX4_splitSet 51 = .ok (.aload_n 0, 1) := by decide +kernel
theorem dX4_splitSet_52 : decode cX4_splitSet 52 = .ok (.iload_n 1, 1) := by decide +kernel
theorem dX4_splitSet_53 : decode cX4_splitSet 53 = .ok (.iload_n 2, 1) := by decide +kernel
theorem dX4_splitSet_54 : decode cX4_splitSet 54 = .ok (.iload 4, 2) := by decide +kernel
theorem dX4_splitSet_56 : decode cX4_splitSet 56 = .ok (.ior, 1) := by decide +kernel
theorem dX4_splitSet_57 : decode cX4_splitSet 57 = .ok (.invokevirtual 92, 3) := by decide +kernel
theorem dX4_splitSet_60 : decode cX4_splitSet 60 = .ok (.iload 4, 2) := by decide +kernel
theorem dX4_splitSet_62 : decode cX4_splitSet 62 = .ok (.iconst 1, 1) := by decide +kernel
theorem dX4_splitSet_63 : decode cX4_splitSet 63 = .ok (.isub, 1) := by decide +kernel
theorem dX4_splitSet_64 : decode cX4_splitSet 64 = .ok (.iload_n 3, 1) := by decide +kernel
theorem dX4_splitSet_65 : decode cX4_splitSet 65 = .ok (.iand, 1) := by decide +kernel
theorem dX4_splitSet_66 : decode cX4_splitSet 66 = .ok (.istore 4, 2) := by decide +kernel
theorem dX4_splitSet_68 : decode cX4_splitSet 68 = .ok (.goto (-22), 3) := by decide +kernel
theorem dX4_splitSet_71 : decode cX4_splitSet 71 = .ok (.return_, 1) := by decide +kernel
set_option maxRecDepth 20000 in
theorem ggX4_tryParcel_X6_at : GoodIn wsX4_tryParcel wsX6_at := goodIn_r _ [7] (by decide +kernel) (by decide +kernel)
set_option maxRecDepth 20000 in
theorem gX4_tryParcel_X6_at_n64 : GoodIn wsX4_tryParcel (wsX6_at) := ggX4_tryParcel_X6_at
set_option maxRecDepth 20000 in
theorem ggX4_tryParcel_X2_chargeOfOffer : GoodIn wsX4_tryParcel wsX2_chargeOfOffer := goodIn_r _ [11] (by decide +kernel) (by decide +kernel)
set_option maxRecDepth 20000 in
theorem gX4_tryParcel_X2_chargeOfOffer : GoodIn wsX4_tryParcel (va_wsS RX4 96 yX2_chargeOfOffer wsX2_chargeOfOffer) := goodIn_app (goodIn_of _ (by decide +kernel)) ggX4_tryParcel_X2_chargeOfOffer
set_option maxRecDepth 20000 in
theorem ggX4_tryParcel_X2_carrierOfOffer : GoodIn wsX4_tryParcel wsX2_carrierOfOffer := goodIn_r _ [14] (by decide +kernel) (by decide +kernel)
set_option maxRecDepth 20000 in
theorem gX4_tryParcel_X2_carrierOfOffer : GoodIn wsX4_tryParcel (va_wsS RX4 99 yX2_carrierOfOffer wsX2_carrierOfOffer) := goodIn_app (goodIn_of _ (by decide +kernel)) ggX4_tryParcel_X2_carrierOfOffer
set_option maxRecDepth 20000 in
theorem ggX4_tryParcel_X4_onesOf : GoodIn wsX4_tryParcel wsX4_onesOf := goodIn_r _ [19, 20, 25, 26, 27, 28, 29, 30, 31, 32] (by decide +kernel) (by decide +kernel)
set_option maxRecDepth 20000 in
theorem gX4_tryParcel_X4_onesOf : GoodIn wsX4_tryParcel (wsV RX4 102 RX4 yX4_onesOf wsX4_onesOf) := goodIn_app (goodIn_of _ (by decide +kernel)) ggX4_tryParcel_X4_onesOf
set_option maxRecDepth 20000 in
theorem ggX4_tryParcel_X4_rowOf : GoodIn wsX4_tryParcel wsX4_rowOf := goodIn_r _ [24, 4, 25, 26, 27, 28, 29, 30, 31, 32] (by decide +kernel) (by decide +kernel)
set_option maxRecDepth 20000 in
theorem gX4_tryParcel_X4_rowOf : GoodIn wsX4_tryParcel (wsV RX4 88 RX4 yX4_rowOf wsX4_rowOf) := goodIn_app (goodIn_of _ (by decide +kernel)) ggX4_tryParcel_X4_rowOf
theorem dX4_tryParcel_0 : decode cX4_tryParcel 0 = .ok (.iload_n 1, 1) := by decide +kernel
theorem dX4_tryParcel_1 : decode cX4_tryParcel 1 = .ok (.iload_n 2, 1) := by decide +kernel
theorem dX4_tryParcel_2 : decode cX4_tryParcel 2 = .ok (.ixor, 1) := by decide +kernel
theorem dX4_tryParcel_3 : decode cX4_tryParcel 3 = .ok (.istore_n 3, 1) := by decide +kernel
theorem dX4_tryParcel_4 : decode cX4_tryParcel 4 = .ok (.aload_n 0, 1) := by decide +kernel
theorem dX4_tryParcel_5 : decode cX4_tryParcel 5 = .ok (.getfield 19, 3) := by decide +kernel
theorem dX4_tryParcel_8 : decode cX4_tryParcel 8 = .ok (.iload_n 2, 1) := by decide +kernel
theorem dX4_tryParcel_9 : decode cX4_tryParcel 9 = .ok (.invokestatic 64, 3) := by decide +kernel
theorem dX4_tryParcel_12 : decode cX4_tryParcel 12 = .ok (.istore 4, 2) := by decide +kernel
theorem dX4_tryParcel_14 : decode cX4_tryParcel 14 = .ok (.aload_n 0, 1) := by decide +kernel
theorem dX4_tryParcel_15 : decode cX4_tryParcel 15 = .ok (.getfield 22, 3) := by decide +kernel
theorem dX4_tryParcel_18 : decode cX4_tryParcel 18 = .ok (.iload_n 3, 1) := by decide +kernel
theorem dX4_tryParcel_19 : decode cX4_tryParcel 19 = .ok (.invokestatic 64, 3) := by decide +kernel
theorem dX4_tryParcel_22 : decode cX4_tryParcel 22 = .ok (.istore 5, 2) := by decide +kernel
theorem dX4_tryParcel_24 : decode cX4_tryParcel 24 = .ok (.iload 4, 2) := by decide +kernel
theorem dX4_tryParcel_26 : decode cX4_tryParcel 26 = .ok (.ifCond .lt 20, 3) := by decide +kernel
theorem dX4_tryParcel_29 : decode cX4_tryParcel 29 = .ok (.iload 5, 2) := by decide +kernel
theorem dX4_tryParcel_31 : decode cX4_tryParcel 31 = .ok (.ifCond .lt 15, 3) := by decide +kernel
theorem dX4_tryParcel_34 : decode cX4_tryParcel 34 = .ok (.iload_n 1, 1) := by decide +kernel
theorem dX4_tryParcel_35 : decode cX4_tryParcel 35 = .ok (.iconst 1, 1) := by decide +kernel
theorem dX4_tryParcel_36 : decode cX4_tryParcel 36 = .ok (.if_icmp .lt 10, 3) := by decide +kernel
theorem dX4_tryParcel_39 : decode cX4_tryParcel 39 = .ok (.iload_n 1, 1) := by decide +kernel
theorem dX4_tryParcel_40 : decode cX4_tryParcel 40 = .ok (.sipush 256, 3) := by decide +kernel
theorem dX4_tryParcel_43 : decode cX4_tryParcel 43 = .ok (.if_icmp .lt 4, 3) := by decide +kernel
theorem dX4_tryParcel_46 : decode cX4_tryParcel 46 = .ok (.return_, 1) := by decide +kernel
theorem dX4_tryParcel_47 : decode cX4_tryParcel 47 = .ok (.iload 4, 2) := by decide +kernel
theorem dX4_tryParcel_49 : decode cX4_tryParcel 49 = .ok (.invokestatic 96, 3) := by decide +kernel
theorem dX4_tryParcel_52 : decode cX4_tryParcel 52 = .ok (.iload 5, 2) := by decide +kernel
theorem dX4_tryParcel_54 : decode cX4_tryParcel 54 = .ok (.iadd, 1) := by decide +kernel
theorem dX4_tryParcel_55 : decode cX4_tryParcel 55 = .ok (.istore 6, 2) := by decide +kernel
theorem dX4_tryParcel_57 : decode cX4_tryParcel 57 = .ok (.aload_n 0, 1) := by decide +kernel
theorem dX4_tryParcel_58 : decode cX4_tryParcel 58 = .ok (.getfield 22, 3) := by decide +kernel
theorem dX4_tryParcel_61 : decode cX4_tryParcel 61 = .ok (.iload_n 1, 1) := by decide +kernel
theorem dX4_tryParcel_62 : decode cX4_tryParcel 62 = .ok (.iaload, 1) := by decide +kernel
theorem dX4_tryParcel_63 : decode cX4_tryParcel 63 = .ok (.ifCond .lt 15, 3) := by decide +kernel
theorem dX4_tryParcel_66 : decode cX4_tryParcel 66 = .ok (.iload 6, 2) := by decide +kernel
theorem dX4_tryParcel_68 : decode cX4_tryParcel 68 = .ok (.aload_n 0, 1) := by decide +kernel
theorem dX4_tryParcel_69 : decode cX4_tryParcel 69 = .ok (.getfield 22, 3) := by decide +kernel
theorem dX4_tryParcel_72 : decode cX4_tryParcel 72 = .ok (.iload_n 1, 1) := by decide +kernel
theorem dX4_tryParcel_73 : decode cX4_tryParcel 73 = .ok (.iaload, 1) := by decide +kernel
theorem dX4_tryParcel_74 : decode cX4_tryParcel 74 = .ok (.if_icmp .le 4, 3) := by decide +kernel
theorem dX4_tryParcel_77 : decode cX4_tryParcel 77 = .ok (.return_, 1) := by decide +kernel
theorem dX4_tryParcel_78 : decode cX4_tryParcel 78 = .ok (.iload 4, 2) := by decide +kernel
theorem dX4_tryParcel_80 : decode cX4_tryParcel 80 = .ok (.invokestatic 99, 3) := by decide +kernel
theorem dX4_tryParcel_83 : decode cX4_tryParcel 83 = .ok (.i2l, 1) := by decide +kernel
theorem dX4_tryParcel_84 : decode cX4_tryParcel 84 = .ok (.aload_n 0, 1) := by decide +kernel
theorem dX4_tryParcel_85 : decode cX4_tryParcel 85 = .ok (.iload_n 2, 1) := by decide +kernel
theorem dX4_tryParcel_86 : decode cX4_tryParcel 86 = .ok (.invokevirtual 102, 3) := by decide +kernel
theorem dX4_tryParcel_89 : decode cX4_tryParcel 89 = .ok (.lmul, 1) := by decide +kernel
theorem dX4_tryParcel_90 : decode cX4_tryParcel 90 = .ok (.aload_n 0, 1) := by decide +kernel
theorem dX4_tryParcel_91 : decode cX4_tryParcel 91 = .ok (.iload_n 3, 1) := by decide +kernel
theorem dX4_tryParcel_92 : decode cX4_tryParcel 92 = .ok (.invokevirtual 88, 3) := by decide +kernel
theorem dX4_tryParcel_95 : decode cX4_tryParcel 95 = .ok (.ladd, 1) := by decide +kernel
theorem dX4_tryParcel_96 : decode cX4_tryParcel 96 = .ok (.ldc2_w 105, 3) := by decide +kernel
theorem dX4_tryParcel_99 : decode cX4_tryParcel 99 = .ok (.aload_n 0, 1) := by decide +kernel
theorem dX4_tryParcel_100 : decode cX4_tryParcel 100 = .ok (.iload_n 3, 1) := by decide +kernel
theorem dX4_tryParcel_101 : decode cX4_tryParcel 101 = .ok (.invokevirtual 102, 3) := by decide +kernel
theorem dX4_tryParcel_104 : decode cX4_tryParcel 104 = .ok (.lmul, 1) := by decide +kernel
theorem dX4_tryParcel_105 : decode cX4_tryParcel 105 = .ok (.ladd, 1) := by decide +kernel
theorem dX4_tryParcel_106 : decode cX4_tryParcel 106 = .ok (.lstore 7, 2) := by decide +kernel
theorem dX4_tryParcel_108 : decode cX4_tryParcel 108 = .ok (.aload_n 0, 1) := by decide +kernel
theorem dX4_tryParcel_109 : decode cX4_tryParcel 109 = .ok (.getfield 22, 3) := by decide +kernel
theorem dX4_tryParcel_112 : decode cX4_tryParcel 112 = .ok (.iload_n 1, 1) := by decide +kernel
theorem dX4_tryParcel_113 : decode cX4_tryParcel 113 = .ok (.iaload, 1) := by decide +kernel
theorem dX4_tryParcel_114 : decode cX4_tryParcel 114 = .ok (.ifCond .lt 26, 3) := by decide +kernel
theorem dX4_tryParcel_117 : decode cX4_tryParcel 117 = .ok (.iload 6, 2) := by decide +kernel
theorem dX4_tryParcel_119 : decode cX4_tryParcel 119 = .ok (.aload_n 0, 1) := by decide +kernel
theorem dX4_tryParcel_120 : decode cX4_tryParcel 120 = .ok (.getfield 22, 3) := by decide +kernel
theorem dX4_tryParcel_123 : decode cX4_tryParcel 123 = .ok (.iload_n 1, 1) := by decide +kernel
theorem dX4_tryParcel_124 : decode cX4_tryParcel 124 = .ok (.iaload, 1) := by decide +kernel
theorem dX4_tryParcel_125 : decode cX4_tryParcel 125 = .ok (.if_icmp .lt 15, 3) := by decide +kernel
theorem dX4_tryParcel_128 : decode cX4_tryParcel 128 = .ok (.lload 7, 2) := by decide +kernel
theorem dX4_tryParcel_130 : decode cX4_tryParcel 130 = .ok (.aload_n 0, 1) := by decide +kernel
theorem dX4_tryParcel_131 : decode cX4_tryParcel 131 = .ok (.getfield 25, 3) := by decide +kernel
theorem dX4_tryParcel_134 : decode cX4_tryParcel 134 = .ok (.iload_n 1, 1) := by decide +kernel
theorem dX4_tryParcel_135 : decode cX4_tryParcel 135 = .ok (.laload, 1) := by decide +kernel
theorem dX4_tryParcel_136 : decode cX4_tryParcel 136 = .ok (.lcmp, 1) := by decide +kernel
theorem dX4_tryParcel_137 : decode cX4_tryParcel 137 = .ok (.ifCond .ge 19, 3) := by decide +kernel
theorem dX4_tryParcel_140 : decode cX4_tryParcel 140 = .ok (.aload_n 0, 1) := by decide +kernel
theorem dX4_tryParcel_141 : decode cX4_tryParcel 141 = .ok (.getfield 22, 3) := by decide +kernel
theorem dX4_tryParcel_144 : decode cX4_tryParcel 144 = .ok (.iload_n 1, 1) := by decide +kernel
theorem dX4_tryParcel_145 : decode cX4_tryParcel 145 = .ok (.iload 6, 2) := by decide +kernel
theorem dX4_tryParcel_147 : decode cX4_tryParcel 147 = .ok (.iastore, 1) := by decide +kernel
theorem dX4_tryParcel_148 : decode cX4_tryParcel 148 = .ok (.aload_n 0, 1) := by decide +kernel
theorem dX4_tryParcel_149 : decode cX4_tryParcel 149 = .ok (.getfield 25, 3) := by decide +kernel
theorem dX4_tryParcel_152 : decode cX4_tryParcel 152 = .ok (.iload_n 1, 1) := by decide +kernel
theorem dX4_tryParcel_153 : decode cX4_tryParcel 153 = .ok (.lload 7, 2) := by decide +kernel
theorem dX4_tryParcel_155 : decode cX4_tryParcel 155 = .ok (.lastore, 1) := by decide +kernel
theorem dX4_tryParcel_156 : decode cX4_tryParcel 156 = .ok (.return_, 1) := by decide +kernel
theorem dX4_rowOf_0 : decode cX4_rowOf 0 = .ok (.iload_n 1, 1) := by decide +kernel
theorem dX4_rowOf_1 : decode cX4_rowOf 1 = .ok (.ifCond .lt 21, 3) := by decide +kernel
theorem dX4_rowOf_4 : decode cX4_rowOf 4 = .ok (.iload_n 1, 1) := by decide +kernel
theorem dX4_rowOf_5 : decode cX4_rowOf 5 = .ok (.aload_n 0, 1) := by decide +kernel
theorem dX4_rowOf_6 : decode cX4_rowOf 6 = .ok (.getfield 25, 3) := by decide +kernel
theorem dX4_rowOf_9 : decode cX4_rowOf 9 = .ok (.arraylength, 1) := by decide +kernel
theorem dX4_rowOf_10 : decode cX4_rowOf 10 = .ok (.if_icmp .ge 12, 3) := by decide +kernel
theorem dX4_rowOf_13 : decode cX4_rowOf 13 = .ok (.aload_n 0, 1) := by decide +kernel
theorem dX4_rowOf_14 : decode cX4_rowOf 14 = .ok (.getfield 25, 3) := by decide +kernel
theorem dX4_rowOf_17 : decode cX4_rowOf 17 = .ok (.iload_n 1, 1) := by decide +kernel
theorem dX4_rowOf_18 : decode cX4_rowOf 18 = .ok (.laload, 1) := by decide +kernel
theorem dX4_rowOf_19 : decode cX4_rowOf 19 = .ok (.goto 4, 3) := by decide +kernel
theorem dX4_rowOf_22 : decode cX4_rowOf 22 = .ok (.lconst 0, 1) := by decide +kernel
theorem dX4_rowOf_23 : decode cX4_rowOf 23 = .ok (.lreturn, 1) := by decide +kernel
theorem dX4_onesOf_0 : decode cX4_onesOf 0 = .ok (.iload_n 1, 1) := by decide +kernel
theorem dX4_onesOf_1 : decode cX4_onesOf 1 = .ok (.ifCond .lt 21, 3) := by decide +kernel
theorem dX4_onesOf_4 : decode cX4_onesOf 4 = .ok (.iload_n 1, 1) := by decide +kernel
theorem dX4_onesOf_5 : decode cX4_onesOf 5 = .ok (.aload_n 0, 1) := by decide +kernel
theorem dX4_onesOf_6 : decode cX4_onesOf 6 = .ok (.getfield 28, 3) := by decide +kernel
theorem dX4_onesOf_9 : decode cX4_onesOf 9 = .ok (.arraylength, 1) := by decide +kernel
theorem dX4_onesOf_10 : decode cX4_onesOf 10 = .ok (.if_icmp .ge 12, 3) := by decide +kernel
theorem dX4_onesOf_13 : decode cX4_onesOf 13 = .ok (.aload_n 0, 1) := by decide +kernel
theorem dX4_onesOf_14 : decode cX4_onesOf 14 = .ok (.getfield 28, 3) := by decide +kernel
theorem dX4_onesOf_17 : decode cX4_onesOf 17 = .ok (.iload_n 1, 1) := by decide +kernel
theorem dX4_onesOf_18 : decode cX4_onesOf 18 = .ok (.laload, 1) := by decide +kernel
theorem dX4_onesOf_19 : decode cX4_onesOf 19 = .ok (.goto 4, 3) := by decide +kernel
theorem dX4_onesOf_22 : decode cX4_onesOf 22 = .ok (.lconst 0, 1) := by decide +kernel
theorem dX4_onesOf_23 : decode cX4_onesOf 23 = .ok (.lreturn, 1) := by decide +kernel
theorem dX5_init_0 : decode cX5_init 0 = .ok (.aload_n 0, 1) := by decide +kernel
theorem dX5_init_1 : decode cX5_init 1 = .ok (.invokespecial 1, 3) := by decide +kernel
theorem dX5_init_4 : decode cX5_init 4 = .ok (.aload_n 0, 1) := by decide +kernel
theorem dX5_init_5 : decode cX5_init 5 = .ok (.sipush 740, 3) := by decide +kernel
theorem dX5_init_8 : decode cX5_init 8 = .ok (.newarray .byte, 2) := by decide +kernel
theorem dX5_init_10 : decode cX5_init 10 = .ok (.putfield 9, 3) := by decide +kernel
theorem dX5_init_13 : decode cX5_init 13 = .ok (.return_, 1) := by decide +kernel
theorem dX5_size_0 : decode cX5_size 0 = .ok (.aload_n 0, 1) := by decide +kernel
theorem dX5_size_1 : decode cX5_size 1 = .ok (.getfield 13, 3) := by decide +kernel
theorem dX5_size_4 : decode cX5_size 4 = .ok (.ireturn, 1) := by decide +kernel
theorem dX5_hasRoomForFive_0 : decode cX5_hasRoomForFive 0 = .ok (.aload_n 0, 1) := by decide +kernel
theorem dX5_hasRoomForFive_1 : decode cX5_hasRoomForFive 1 = .ok (.getfield 13, 3) := by decide +kernel
theorem dX5_hasRoomForFive_4 : decode cX5_hasRoomForFive 4 = .ok (.bipush 20, 2) := by decide +kernel
theorem dX5_hasRoomForFive_6 : decode cX5_hasRoomForFive 6 = .ok (.iadd, 1) := by decide +kernel
theorem dX5_hasRoomForFive_7 : decode cX5_hasRoomForFive 7 = .ok (.sipush 740, 3) := by decide +kernel
theorem dX5_hasRoomForFive_10 : decode cX5_hasRoomForFive 10 = .ok (.if_icmp .gt 7, 3) := by decide +kernel
theorem dX5_hasRoomForFive_13 : decode cX5_hasRoomForFive 13 = .ok (.iconst 1, 1) := by decide +kernel
theorem dX5_hasRoomForFive_14 : decode cX5_hasRoomForFive 14 = .ok (.goto 4, 3) := by decide +kernel
theorem dX5_hasRoomForFive_17 : decode cX5_hasRoomForFive 17 = .ok (.iconst 0, 1) := by decide +kernel
theorem dX5_hasRoomForFive_18 : decode cX5_hasRoomForFive 18 = .ok (.ireturn, 1) := by decide +kernel
theorem dX5_append_0 : decode cX5_append 0 = .ok (.bipush 24, 2) := by decide +kernel
theorem dX5_append_2 : decode cX5_append 2 = .ok (.istore_n 2, 1) := by decide +kernel
theorem dX5_append_3 : decode cX5_append 3 = .ok (.iload_n 2, 1) := by decide +kernel
theorem dX5_append_4 : decode cX5_append 4 = .ok (.ifCond .lt 51, 3) := by decide +kernel
theorem dX5_append_7 : decode cX5_append 7 = .ok (.aload_n 0, 1) := by decide +kernel
theorem dX5_append_8 : decode cX5_append 8 = .ok (.getfield 13, 3) := by decide +kernel
theorem dX5_append_11 : decode cX5_append 11 = .ok (.ifCond .lt 38, 3) := by decide +kernel
theorem dX5_append_14 : decode cX5_append 14 = .ok (.aload_n 0, 1) := by decide +kernel
theorem dX5_append_15 : decode cX5_append 15 = .ok (.getfield 13, 3) := by decide +kernel
theorem dX5_append_18 : decode cX5_append 18 = .ok (.aload_n 0, 1) := by decide +kernel
theorem dX5_append_19 : decode cX5_append 19 = .ok (.getfield 9, 3) := by decide +kernel
theorem dX5_append_22 : decode cX5_append 22 = .ok (.arraylength, 1) := by decide +kernel
theorem dX5_append_23 : decode cX5_append 23 = .ok (.if_icmp .ge 26, 3) := by decide +kernel
theorem dX5_append_26 : decode cX5_append 26 = .ok (.aload_n 0, 1) := by decide +kernel
theorem dX5_append_27 : decode cX5_append 27 = .ok (.getfield 9, 3) := by decide +kernel
theorem dX5_append_30 : decode cX5_append 30 = .ok (.aload_n 0, 1) := by decide +kernel
theorem dX5_append_31 : decode cX5_append 31 = .ok (.getfield 13, 3) := by decide +kernel
theorem dX5_append_34 : decode cX5_append 34 = .ok (.iload_n 1, 1) := by decide +kernel
theorem dX5_append_35 : decode cX5_append 35 = .ok (.iload_n 2, 1) := by decide +kernel
theorem dX5_append_36 : decode cX5_append 36 = .ok (.ishr, 1) := by decide +kernel
theorem dX5_append_37 : decode cX5_append 37 = .ok (.i2b, 1) := by decide +kernel
theorem dX5_append_38 : decode cX5_append 38 = .ok (.bastore, 1) := by decide +kernel
theorem dX5_append_39 : decode cX5_append 39 = .ok (.aload_n 0, 1) := by decide +kernel
theorem dX5_append_40 : decode cX5_append 40 = .ok (.dup, 1) := by decide +kernel
theorem dX5_append_41 : decode cX5_append 41 = .ok (.getfield 13, 3) := by decide +kernel
theorem dX5_append_44 : decode cX5_append 44 = .ok (.iconst 1, 1) := by decide +kernel
theorem dX5_append_45 : decode cX5_append 45 = .ok (.iadd, 1) := by decide +kernel
theorem dX5_append_46 : decode cX5_append 46 = .ok (.putfield 13, 3) := by decide +kernel
theorem dX5_append_49 : decode cX5_append 49 = .ok (.iinc 2 (-8), 3) := by decide +kernel
theorem dX5_append_52 : decode cX5_append 52 = .ok (.goto (-49), 3) := by decide +kernel
theorem dX5_append_55 : decode cX5_append 55 = .ok (.return_, 1) := by decide +kernel
theorem dX5_cutTo_0 : decode cX5_cutTo 0 = .ok (.iload_n 1, 1) := by decide +kernel
theorem dX5_cutTo_1 : decode cX5_cutTo 1 = .ok (.ifCond .lt 11, 3) := by decide +kernel
theorem dX5_cutTo_4 : decode cX5_cutTo 4 = .ok (.iload_n 1, 1) := by decide +kernel
theorem dX5_cutTo_5 : decode cX5_cutTo 5 = .ok (.aload_n 0, 1) := by decide +kernel
theorem dX5_cutTo_6 : decode cX5_cutTo 6 = .ok (.getfield 13, 3) := by decide +kernel
theorem dX5_cutTo_9 : decode cX5_cutTo 9 = .ok (.if_icmp .le 5, 3) := by decide +kernel
theorem dX5_cutTo_12 : decode cX5_cutTo 12 = .ok (.iconst 0, 1) := by decide +kernel
theorem dX5_cutTo_13 : decode cX5_cutTo 13 = .ok (.ireturn, 1) := by decide +kernel
theorem dX5_cutTo_14 : decode cX5_cutTo 14 = .ok (.aload_n 0, 1) := by decide +kernel
theorem dX5_cutTo_15 : decode cX5_cutTo 15 = .ok (.iload_n 1, 1) := by decide +kernel
theorem dX5_cutTo_16 : decode cX5_cutTo 16 = .ok (.putfield 13, 3) := by decide +kernel
theorem dX5_cutTo_19 : decode cX5_cutTo 19 = .ok (.iconst 1, 1) := by decide +kernel
theorem dX5_cutTo_20 : decode cX5_cutTo 20 = .ok (.ireturn, 1) := by decide +kernel
theorem dX5_byteAt_0 : decode cX5_byteAt 0 = .ok (.iload_n 1, 1) := by decide +kernel
theorem dX5_byteAt_1 : decode cX5_byteAt 1 = .ok (.ifCond .lt 29, 3) := by decide +kernel
theorem dX5_byteAt_4 : decode cX5_byteAt 4 = .ok (.iload_n 1, 1) := by decide +kernel
theorem dX5_byteAt_5 : decode cX5_byteAt 5 = .ok (.aload_n 0, 1) := by decide +kernel
theorem dX5_byteAt_6 : decode cX5_byteAt 6 = .ok (.getfield 13, 3) := by decide +kernel
theorem dX5_byteAt_9 : decode cX5_byteAt 9 = .ok (.if_icmp .ge 21, 3) := by decide +kernel
theorem dX5_byteAt_12 : decode cX5_byteAt 12 = .ok (.iload_n 1, 1) := by decide +kernel
theorem dX5_byteAt_13 : decode cX5_byteAt 13 = .ok (.aload_n 0, 1) := by decide +kernel
theorem dX5_byteAt_14 : decode cX5_byteAt 14 = .ok (.getfield 9, 3) := by decide +kernel
theorem dX5_byteAt_17 : decode cX5_byteAt 17 = .ok (.arraylength, 1) := by decide +kernel
theorem dX5_byteAt_18 : decode cX5_byteAt 18 = .ok (.if_icmp .ge 12, 3) := by decide +kernel
theorem dX5_byteAt_21 : decode cX5_byteAt 21 = .ok (.aload_n 0, 1) := by decide +kernel
theorem dX5_byteAt_22 : decode cX5_byteAt 22 = .ok (.getfield 9, 3) := by decide +kernel
theorem dX5_byteAt_25 : decode cX5_byteAt 25 = .ok (.iload_n 1, 1) := by decide +kernel
theorem dX5_byteAt_26 : decode cX5_byteAt 26 = .ok (.baload, 1) := by decide +kernel
theorem dX5_byteAt_27 : decode cX5_byteAt 27 = .ok (.goto 4, 3) := by decide +kernel
theorem dX5_byteAt_30 : decode cX5_byteAt 30 = .ok (.iconst 0, 1) := by decide +kernel
theorem dX5_byteAt_31 : decode cX5_byteAt 31 = .ok (.ireturn, 1) := by decide +kernel
set_option maxRecDepth 20000 in
theorem ggX6_init_X5_init : GoodIn wsX6_init wsX5_init := goodIn_r _ [30, 31, 2, 3, 32, 33, 199, 200] (by decide +kernel) (by decide +kernel)
set_option maxRecDepth 20000 in
theorem gX6_init_X5_init_n11 : GoodIn wsX6_init (wsX5_init) := ggX6_init_X5_init
set_option maxRecDepth 20000 in
theorem ggX6_init_X0_init : GoodIn wsX6_init wsX0_init := goodIn_r _ [35, 36, 2, 3, 37, 38, 39, 40, 41, 42, 43, 209, 210, 211, 212, 213, 214, 215, 216, 217, 218] (by decide +kernel) (by decide +kernel)
set_option maxRecDepth 20000 in
theorem gX6_init_X0_init_n18 : GoodIn wsX6_init (wsX0_init) := ggX6_init_X0_init
set_option maxRecDepth 20000 in
theorem ggX6_init_X3_init : GoodIn wsX6_init wsX3_init := goodIn_r _ [46, 47, 2, 3, 37, 48, 49, 50, 219, 220, 221, 222, 223, 224, 225, 226] (by decide +kernel) (by decide +kernel)
set_option maxRecDepth 20000 in
theorem gX6_init_X3_init : GoodIn wsX6_init (wsX3_init) := ggX6_init_X3_init
set_option maxRecDepth 20000 in
theorem ggX6_init_X2_init : GoodIn wsX6_init wsX2_init := goodIn_r _ [53, 54, 2, 3, 37, 55, 56, 57, 58, 227, 228, 229, 230] (by decide +kernel) (by decide +kernel)
set_option maxRecDepth 20000 in
theorem gX6_init_X2_init : GoodIn wsX6_init (wsX2_init) := ggX6_init_X2_init
set_option maxRecDepth 20000 in
theorem ggX6_init_X4_init : GoodIn wsX6_init wsX4_init := goodIn_r _ [61, 62, 2, 3, 37, 63, 64, 65, 66, 67, 68, 69, 70, 71, 72, 73, 74, 75, 76, 77, 78, 23, 79, 231, 232, 233, 234, 235, 236, 237, 238] (by decide +kernel) (by decide +kernel)
set_option maxRecDepth 20000 in
theorem gX6_init_X4_init : GoodIn wsX6_init (wsX4_init) := ggX6_init_X4_init
set_option maxRecDepth 20000 in
theorem ggX6_init_X1_init : GoodIn wsX6_init wsX1_init := goodIn_r _ [81, 82, 2, 3, 37, 83, 84, 239, 240, 241, 242] (by decide +kernel) (by decide +kernel)
set_option maxRecDepth 20000 in
theorem gX6_init_X1_init_n55 : GoodIn wsX6_init (wsX1_init) := ggX6_init_X1_init
set_option maxRecDepth 20000 in
theorem ggX6_init_X0_fillAtFirst : GoodIn wsX6_init wsX0_fillAtFirst := goodIn_r _ [88, 89, 90, 91, 92, 93, 94, 10, 95, 42, 43, 96, 97, 98, 99, 100, 101, 102, 103, 104, 105, 106, 107, 38, 39, 40, 41, 108, 109, 110, 111, 112, 113, 114, 115, 116, 117, 118, 119, 120, 121, 122, 123, 124, 125, 126, 127, 128, 129, 130, 209, 210, 211, 212, 213, 214, 215, 216, 217, 218] (by decide +kernel) (by decide +kernel)
set_option maxRecDepth 20000 in
theorem gX6_init_X0_fillAtFirst : GoodIn wsX6_init (wsV RX6 60 RX0 yX0_fillAtFirst wsX0_fillAtFirst) := goodIn_app (goodIn_of _ (by decide +kernel)) ggX6_init_X0_fillAtFirst
set_option maxRecDepth 20000 in
theorem ggX6_init_X6_beginAnew : GoodIn wsX6_init wsX6_beginAnew := goodIn_r _ [134, 20, 24, 28, 11, 135, 136, 137, 19, 138, 58, 55, 56, 57, 139, 140, 141, 10, 142, 97, 143, 73, 74, 75, 76, 112, 109, 113, 144, 145, 146, 147, 41, 115, 116, 148, 149, 150, 151, 96, 152, 153, 154, 155, 38, 156, 157, 158, 159, 160, 161, 162, 163, 164, 165, 166, 23, 167, 63, 168, 101, 102, 103, 169, 170, 171, 172, 98, 173, 174, 175, 176, 99, 177, 178, 179, 27, 180, 181, 182, 183, 184, 185, 186, 83, 187, 188, 189, 190, 191, 192, 193, 194, 195, 196, 197, 198, 201, 202, 203, 204, 205, 206, 207, 208, 227, 228, 229, 230, 209, 210, 211, 212, 213, 214, 215, 216, 217, 218, 231, 232, 233, 234, 235, 236, 237, 238, 239, 240, 241, 242] (by decide +kernel) (by decide +kernel)
set_option maxRecDepth 20000 in
theorem gX6_init_X6_beginAnew : GoodIn wsX6_init (wsV RX6 63 RX6 yX6_beginAnew wsX6_beginAnew) := goodIn_app (goodIn_of _ (by decide +kernel)) ggX6_init_X6_beginAnew
theorem dX6_init_0 : decode cX6_init 0 = .ok (.aload_n 0, 1) := by decide +kernel
theorem dX6_init_1 : decode cX6_init 1 = .ok (.invokespecial 3, 3) := by decide +kernel
theorem dX6_init_4 : decode cX6_init 4 = .ok (.aload_n 0, 1) := by decide +kernel
theorem dX6_init_5 : decode cX6_init 5 = .ok (.new 9, 3) := by decide +kernel
theorem dX6_init_8 : decode cX6_init 8 = .ok (.dup, 1) := by decide +kernel
theorem dX6_init_9 : decode cX6_init 9 = .ok (.invokespecial 11, 3) := by decide +kernel
theorem dX6_init_12 : decode cX6_init 12 = .ok (.putfield 12, 3) := by decide +kernel
theorem dX6_init_15 : decode cX6_init 15 = .ok (.aload_n 0, 1) := by decide +kernel
theorem dX6_init_16 : decode cX6_init 16 = .ok (.new 16, 3) := by decide +kernel
theorem dX6_init_19 : decode cX6_init 19 = .ok (.dup, 1) := by decide +kernel
theorem dX6_init_20 : decode cX6_init 20 = .ok (.invokespecial 18, 3) := by decide +kernel
theorem dX6_init_23 : decode cX6_init 23 = .ok (.putfield 19, 3) := by decide +kernel
theorem dX6_init_26 : decode cX6_init 26 = .ok (.aload_n 0, 1) := by decide +kernel
theorem dX6_init_27 : decode cX6_init 27 = .ok (.new 16, 3) := by decide +kernel
theorem dX6_init_30 : decode cX6_init 30 = .ok (.dup, 1) := by decide +kernel
theorem dX6_init_31 : decode cX6_init 31 = .ok (.invokespecial 18, 3) := by decide +kernel
theorem dX6_init_34 : decode cX6_init 34 = .ok (.putfield 23, 3) := by decide +kernel
theorem dX6_init_37 : decode cX6_init 37 = .ok (.aload_n 0, 1) := by decide +kernel
theorem dX6_init_38 : decode cX6_init 38 = .ok (.new 26, 3) := by decide +kernel
theorem dX6_init_41 : decode cX6_init 41 = .ok (.dup, 1) := by decide +kernel
theorem dX6_init_42 : decode cX6_init 42 = .ok (.aload_n 0, 1) := by decide +kernel
theorem dX6_init_43 : decode cX6_init 43 = .ok (.getfield 12, 3) := by decide +kernel
theorem dX6_init_46 : decode cX6_init 46 = .ok (.aload_n 0, 1) := by decide +kernel
theorem dX6_init_47 : decode cX6_init 47 = .ok (.getfield 23, 3) := by decide +kernel
theorem dX6_init_50 : decode cX6_init 50 = .ok (.invokespecial 28, 3) := by decide +kernel
theorem dX6_init_53 : decode cX6_init 53 = .ok (.putfield 31, 3) := by decide +kernel
theorem dX6_init_56 : decode cX6_init 56 = .ok (.aload_n 0, 1) := by decide +kernel
theorem dX6_init_57 : decode cX6_init 57 = .ok (.new 35, 3) := by decide +kernel
theorem dX6_init_60 : decode cX6_init 60 = .ok (.dup, 1) := by decide +kernel
theorem dX6_init_61 : decode cX6_init 61 = .ok (.aload_n 0, 1) := by decide +kernel
theorem dX6_init_62 : decode cX6_init 62 = .ok (.getfield 19, 3) := by decide +kernel
theorem dX6_init_65 : decode cX6_init 65 = .ok (.invokespecial 37, 3) := by decide +kernel
theorem dX6_init_68 : decode cX6_init 68 = .ok (.putfield 40, 3) := by decide +kernel
theorem dX6_init_71 : decode cX6_init 71 = .ok (.aload_n 0, 1) := by decide +kernel
theorem dX6_init_72 : decode cX6_init 72 = .ok (.new 44, 3) := by decide +kernel
theorem dX6_init_75 : decode cX6_init 75 = .ok (.dup, 1) := by decide +kernel
theorem dX6_init_76 : decode cX6_init 76 = .ok (.aload_n 0, 1) := by decide +kernel
theorem dX6_init_77 : decode cX6_init 77 = .ok (.getfield 19, 3) := by decide +kernel
theorem dX6_init_80 : decode cX6_init 80 = .ok (.aload_n 0, 1) := by decide +kernel
theorem dX6_init_81 : decode cX6_init 81 = .ok (.getfield 40, 3) := by decide +kernel
theorem dX6_init_84 : decode cX6_init 84 = .ok (.invokespecial 46, 3) := by decide +kernel
theorem dX6_init_87 : decode cX6_init 87 = .ok (.putfield 49, 3) := by decide +kernel
theorem dX6_init_90 : decode cX6_init 90 = .ok (.aload_n 0, 1) := by decide +kernel
theorem dX6_init_91 : decode cX6_init 91 = .ok (.new 53, 3) := by decide +kernel
theorem dX6_init_94 : decode cX6_init 94 = .ok (.dup, 1) := by decide +kernel
theorem dX6_init_95 : decode cX6_init 95 = .ok (.invokespecial 55, 3) := by decide +kernel
theorem dX6_init_98 : decode cX6_init 98 = .ok (.putfield 56, 3) := by decide +kernel
theorem dX6_init_101 : decode cX6_init 101 = .ok (.aload_n 0, 1) := by decide +kernel
theorem dX6_init_102 : decode cX6_init 102 = .ok (.getfield 19, 3) := by decide +kernel
theorem dX6_init_105 : decode cX6_init 105 = .ok (.invokevirtual 60, 3) := by decide +kernel
theorem dX6_init_108 : decode cX6_init 108 = .ok (.aload_n 0, 1) := by decide +kernel
theorem dX6_init_109 : decode cX6_init 109 = .ok (.invokevirtual 63, 3) := by decide +kernel
theorem dX6_init_112 : decode cX6_init 112 = .ok (.return_, 1) := by decide +kernel
set_option maxRecDepth 20000 in
theorem ggX6_feed_X5_hasRoomForFive : GoodIn wsX6_feed wsX5_hasRoomForFive := goodIn_r _ [6, 7, 25, 26] (by decide +kernel) (by decide +kernel)
set_option maxRecDepth 20000 in
theorem gX6_feed_X5_hasRoomForFive : GoodIn wsX6_feed (wsV RX6 66 RX5 yX5_hasRoomForFive wsX5_hasRoomForFive) := goodIn_app (goodIn_of _ (by decide +kernel)) ggX6_feed_X5_hasRoomForFive
set_option maxRecDepth 20000 in
theorem ggX6_feed_X5_append : GoodIn wsX6_feed wsX5_append := goodIn_r _ [11, 7, 12, 25, 26] (by decide +kernel) (by decide +kernel)
set_option maxRecDepth 20000 in
theorem gX6_feed_X5_append : GoodIn wsX6_feed (wsV RX6 70 RX5 yX5_append wsX5_append) := goodIn_app (goodIn_of _ (by decide +kernel)) ggX6_feed_X5_append
set_option maxRecDepth 20000 in
theorem ggX6_feed_X5_size : GoodIn wsX6_feed wsX5_size := goodIn_r _ [16, 7, 25, 26] (by decide +kernel) (by decide +kernel)
set_option maxRecDepth 20000 in
theorem gX6_feed_X5_size : GoodIn wsX6_feed (wsV RX6 74 RX5 yX5_size wsX5_size) := goodIn_app (goodIn_of _ (by decide +kernel)) ggX6_feed_X5_size
theorem dX6_feed_0 : decode cX6_feed 0 = .ok (.aload_n 0, 1) := by decide +kernel
theorem dX6_feed_1 : decode cX6_feed 1 = .ok (.getfield 12, 3) := by decide +kernel
theorem dX6_feed_4 : decode cX6_feed 4 = .ok (.invokevirtual 66, 3) := by decide +kernel
theorem dX6_feed_7 : decode cX6_feed 7 = .ok (.ifCond .ne 5, 3) := by decide +kernel
theorem dX6_feed_10 : decode cX6_feed 10 = .ok (.iconst (-1), 1) := by decide +kernel
theorem dX6_feed_11 : decode cX6_feed 11 = .ok (.ireturn, 1) := by decide +kernel
theorem dX6_feed_12 : decode cX6_feed 12 = .ok (.aload_n 0, 1) := by decide +kernel
theorem dX6_feed_13 : decode cX6_feed 13 = .ok (.getfield 12, 3) := by decide +kernel
theorem dX6_feed_16 : decode cX6_feed 16 = .ok (.iload_n 1, 1) := by decide +kernel
theorem dX6_feed_17 : decode cX6_feed 17 = .ok (.invokevirtual 70, 3) := by decide +kernel
theorem dX6_feed_20 : decode cX6_feed 20 = .ok (.aload_n 0, 1) := by decide +kernel
theorem dX6_feed_21 : decode cX6_feed 21 = .ok (.getfield 12, 3) := by decide +kernel
theorem dX6_feed_24 : decode cX6_feed 24 = .ok (.iload_n 2, 1) := by decide +kernel
theorem dX6_feed_25 : decode cX6_feed 25 = .ok (.invokevirtual 70, 3) := by decide +kernel
theorem dX6_feed_28 : decode cX6_feed 28 = .ok (.aload_n 0, 1) := by decide +kernel
theorem dX6_feed_29 : decode cX6_feed 29 = .ok (.getfield 12, 3) := by decide +kernel
theorem dX6_feed_32 : decode cX6_feed 32 = .ok (.iload_n 3, 1) := by decide +kernel
theorem dX6_feed_33 : decode cX6_feed 33 = .ok (.invokevirtual 70, 3) := by decide +kernel
theorem dX6_feed_36 : decode cX6_feed 36 = .ok (.aload_n 0, 1) := by decide +kernel
theorem dX6_feed_37 : decode cX6_feed 37 = .ok (.getfield 12, 3) := by decide +kernel
theorem dX6_feed_40 : decode cX6_feed 40 = .ok (.iload 4, 2) := by decide +kernel
theorem dX6_feed_42 : decode cX6_feed 42 = .ok (.invokevirtual 70, 3) := by decide +kernel
theorem dX6_feed_45 : decode cX6_feed 45 = .ok (.aload_n 0, 1) := by decide +kernel
theorem dX6_feed_46 : decode cX6_feed 46 = .ok (.getfield 12, 3) := by decide +kernel
theorem dX6_feed_49 : decode cX6_feed 49 = .ok (.iload 5, 2) := by decide +kernel
theorem dX6_feed_51 : decode cX6_feed 51 = .ok (.invokevirtual 70, 3) := by decide +kernel
theorem dX6_feed_54 : decode cX6_feed 54 = .ok (.aload_n 0, 1) := by decide +kernel
theorem dX6_feed_55 : decode cX6_feed 55 = .ok (.getfield 12, 3) := by decide +kernel
theorem dX6_feed_58 : decode cX6_feed 58 = .ok (.invokevirtual 74, 3) := by decide +kernel
theorem dX6_feed_61 : decode cX6_feed 61 = .ok (.ireturn, 1) := by decide +kernel
set_option maxRecDepth 20000 in
theorem ggX6_end_X5_cutTo : GoodIn wsX6_end wsX5_cutTo := goodIn_r _ [6, 7, 16, 17] (by decide +kernel) (by decide +kernel)
set_option maxRecDepth 20000 in
theorem gX6_end_X5_cutTo : GoodIn wsX6_end (wsV RX6 78 RX5 yX5_cutTo wsX5_cutTo) := goodIn_app (goodIn_of _ (by decide +kernel)) ggX6_end_X5_cutTo
theorem dX6_end_0 : decode cX6_end 0 = .ok (.aload_n 0, 1) := by decide +kernel
theorem dX6_end_1 : decode cX6_end 1 = .ok (.getfield 12, 3) := by decide +kernel
theorem dX6_end_4 : decode cX6_end 4 = .ok (.iload_n 1, 1) := by decide +kernel
theorem dX6_end_5 : decode cX6_end 5 = .ok (.invokevirtual 78, 3) := by decide +kernel
theorem dX6_end_8 : decode cX6_end 8 = .ok (.ireturn, 1) := by decide +kernel
set_option maxRecDepth 20000 in
theorem ggX6_text_X3_read : GoodIn wsX6_text wsX3_read := goodIn_r _ [10, 11, 12, 13, 14, 15, 16, 17, 18, 19, 20, 21, 22, 23, 24, 25, 26, 27, 28, 29, 30, 31, 32, 9, 33, 34, 35, 36, 37, 38, 39, 40, 41, 42, 43, 44, 45, 46, 47, 48, 49, 50, 51, 52, 53, 54, 55, 56, 57, 58, 59, 60, 61, 62, 63, 64, 65, 66, 67, 68, 69, 70, 71, 72, 73, 74, 75, 76, 77, 78, 79, 80, 81, 82, 83, 84, 85, 86, 87, 88, 89, 90, 91, 92, 93, 94, 95, 96, 97, 98, 99, 100, 101, 102, 103, 104, 105, 106, 107, 108, 109, 110, 111, 112, 113, 114, 115, 116, 117, 118, 119, 120, 121, 122, 123, 124, 125, 126, 127, 128, 129, 130, 131, 132, 133, 134, 135, 136, 137, 138, 139, 140, 141, 142, 143, 144, 145, 146, 147, 148, 149, 150, 151, 152, 153, 154, 155, 156, 157, 158, 159, 160, 161, 162, 163, 164, 165, 166, 167, 168, 169, 170, 171, 172, 173, 174, 175, 176, 177, 178, 179, 180, 181, 182, 183, 184, 185, 186, 187, 188, 189, 190, 191, 192, 193, 194, 195, 196, 197, 198, 199, 200, 201, 303, 304, 305, 306, 307, 308, 309, 310, 311, 312, 313, 314, 315, 316, 317, 318, 319, 320, 321, 322] (by decide +kernel) (by decide +kernel)
set_option maxRecDepth 20000 in
theorem gX6_text_X3_read : GoodIn wsX6_text (wsV RX6 82 RX3 yX3_read wsX3_read) := goodIn_app (goodIn_of _ (by decide +kernel)) ggX6_text_X3_read
set_option maxRecDepth 20000 in
theorem ggX6_text_X3_faultKind : GoodIn wsX6_text wsX3_faultKind := goodIn_r _ [205, 12, 303, 304, 305, 306, 307, 308, 309, 310] (by decide +kernel) (by decide +kernel)
set_option maxRecDepth 20000 in
theorem gX6_text_X3_faultKind : GoodIn wsX6_text (wsV RX6 85 RX3 yX3_faultKind wsX3_faultKind) := goodIn_app (goodIn_of _ (by decide +kernel)) ggX6_text_X3_faultKind
set_option maxRecDepth 20000 in
theorem ggX6_text_X5_cutTo : GoodIn wsX6_text wsX5_cutTo := goodIn_r _ [209, 52, 321, 322] (by decide +kernel) (by decide +kernel)
set_option maxRecDepth 20000 in
theorem gX6_text_X5_cutTo : GoodIn wsX6_text (wsV RX6 78 RX5 yX5_cutTo wsX5_cutTo) := goodIn_app (goodIn_of _ (by decide +kernel)) ggX6_text_X5_cutTo
set_option maxRecDepth 20000 in
theorem ggX6_text_X0_copyFrom : GoodIn wsX6_text wsX0_copyFrom := goodIn_r _ [213, 192, 160, 169, 193, 20, 21, 22, 23, 24, 25, 194, 140, 195, 196, 139, 141, 197, 186, 187, 311, 312, 313, 314, 315, 316, 317, 318, 319, 320] (by decide +kernel) (by decide +kernel)
set_option maxRecDepth 20000 in
theorem gX6_text_X0_copyFrom : GoodIn wsX6_text (wsV RX6 91 RX0 yX0_copyFrom wsX0_copyFrom) := goodIn_app (goodIn_of _ (by decide +kernel)) ggX6_text_X0_copyFrom
set_option maxRecDepth 20000 in
theorem ggX6_text_X6_beginAnew : GoodIn wsX6_text wsX6_beginAnew := goodIn_r _ [217, 218, 219, 220, 4, 221, 222, 223, 224, 225, 226, 227, 228, 229, 230, 231, 232, 18, 233, 23, 234, 235, 236, 237, 238, 139, 140, 141, 239, 240, 241, 242, 193, 186, 187, 243, 152, 153, 154, 22, 244, 245, 246, 247, 192, 248, 249, 250, 251, 252, 253, 254, 255, 256, 257, 258, 259, 260, 261, 262, 27, 28, 29, 263, 264, 265, 266, 24, 267, 268, 269, 270, 25, 271, 272, 273, 274, 275, 276, 277, 278, 279, 280, 281, 282, 283, 284, 285, 286, 287, 288, 289, 290, 291, 292, 293, 294, 295, 296, 297, 298, 299, 300, 301, 302, 323, 324, 325, 326, 311, 312, 313, 314, 315, 316, 317, 318, 319, 320, 327, 328, 329, 330, 331, 332, 333, 334, 335, 336, 337, 338] (by decide +kernel) (by decide +kernel)
set_option maxRecDepth 20000 in
theorem gX6_text_X6_beginAnew : GoodIn wsX6_text (wsV RX6 63 RX6 yX6_beginAnew wsX6_beginAnew) := goodIn_app (goodIn_of _ (by decide +kernel)) ggX6_text_X6_beginAnew
theorem dX6_text_0 : decode cX6_text 0 = .ok (.aload_n 0, 1) := by decide +kernel
theorem dX6_text_1 : decode cX6_text 1 = .ok (.getfield 31, 3) := by decide +kernel
theorem dX6_text_4 : decode cX6_text 4 = .ok (.invokevirtual 82, 3) := by decide +kernel
theorem dX6_text_7 : decode cX6_text 7 = .ok (.istore_n 1, 1) := by decide +kernel
theorem dX6_text_8 : decode cX6_text 8 = .ok (.aload_n 0, 1) := by decide +kernel
theorem dX6_text_9 : decode cX6_text 9 = .ok (.aload_n 0, 1) := by decide +kernel
theorem dX6_text_10 : decode cX6_text 10 = .ok (.getfield 31, 3) := by decide +kernel
theorem dX6_text_13 : decode cX6_text 13 = .ok (.invokevirtual 85, 3) := by decide +kernel
theorem dX6_text_16 : decode cX6_text 16 = .ok (.putfield 88, 3) := by decide +kernel
theorem dX6_text_19 : decode cX6_text 19 = .ok (.aload_n 0, 1) := by decide +kernel
theorem dX6_text_20 : decode cX6_text 20 = .ok (.getfield 12, 3) := by decide +kernel
theorem dX6_text_23 : decode cX6_text 23 = .ok (.iconst 0, 1) := by decide +kernel
theorem dX6_text_24 : decode cX6_text 24 = .ok (.invokevirtual 78, 3) := by decide +kernel
theorem dX6_text_27 : decode cX6_text 27 = .ok (.pop, 1) := by decide +kernel
theorem dX6_text_28 : decode cX6_text 28 = .ok (.aload_n 0, 1) := by decide +kernel
theorem dX6_text_29 : decode cX6_text 29 = .ok (.getfield 88, 3) := by decide +kernel
theorem dX6_text_32 : decode cX6_text 32 = .ok (.ifCond .ne 18, 3) := by decide +kernel
theorem dX6_text_35 : decode cX6_text 35 = .ok (.aload_n 0, 1) := by decide +kernel
theorem dX6_text_36 : decode cX6_text 36 = .ok (.getfield 19, 3) := by decide +kernel
theorem dX6_text_39 : decode cX6_text 39 = .ok (.aload_n 0, 1) := by decide +kernel
theorem dX6_text_40 : decode cX6_text 40 = .ok (.getfield 23, 3) := by decide +kernel
theorem dX6_text_43 : decode cX6_text 43 = .ok (.invokevirtual 91, 3) := by decide +kernel
theorem dX6_text_46 : decode cX6_text 46 = .ok (.aload_n 0, 1) := by decide +kernel
theorem dX6_text_47 : decode cX6_text 47 = .ok (.invokevirtual 63, 3) := by decide +kernel
theorem dX6_text_50 : decode cX6_text 50 = .ok (.iload_n 1, 1) := by decide +kernel
theorem dX6_text_51 : decode cX6_text 51 = .ok (.ireturn, 1) := by decide +kernel
theorem dX6_fault_0 : decode cX6_fault 0 = .ok (.aload_n 0, 1) := by decide +kernel
theorem dX6_fault_1 : decode cX6_fault 1 = .ok (.getfield 88, 3) := by decide +kernel
theorem dX6_fault_4 : decode cX6_fault 4 = .ok (.ireturn, 1) := by decide +kernel
set_option maxRecDepth 20000 in
theorem ggX6_now_X0_carrierCount : GoodIn wsX6_now wsX0_carrierCount := goodIn_r _ [8, 9, 63, 64, 65, 66, 67, 68, 69, 70, 71, 72] (by decide +kernel) (by decide +kernel)
set_option maxRecDepth 20000 in
theorem gX6_now_X0_carrierCount : GoodIn wsX6_now (wsV RX6 94 RX0 yX0_carrierCount wsX0_carrierCount) := goodIn_app (goodIn_of _ (by decide +kernel)) ggX6_now_X0_carrierCount
set_option maxRecDepth 20000 in
theorem ggX6_now_X0_goodCount : GoodIn wsX6_now wsX0_goodCount := goodIn_r _ [13, 14, 63, 64, 65, 66, 67, 68, 69, 70, 71, 72] (by decide +kernel) (by decide +kernel)
set_option maxRecDepth 20000 in
theorem gX6_now_X0_goodCount : GoodIn wsX6_now (wsV RX6 97 RX0 yX0_goodCount wsX0_goodCount) := goodIn_app (goodIn_of _ (by decide +kernel)) ggX6_now_X0_goodCount
set_option maxRecDepth 20000 in
theorem ggX6_now_X1_place : GoodIn wsX6_now wsX1_place := goodIn_r _ [19, 20, 73, 74, 75, 76] (by decide +kernel) (by decide +kernel)
set_option maxRecDepth 20000 in
theorem gX6_now_X1_place : GoodIn wsX6_now (wsV RX6 100 RX1 yX1_place wsX1_place) := goodIn_app (goodIn_of _ (by decide +kernel)) ggX6_now_X1_place
set_option maxRecDepth 20000 in
theorem ggX6_now_X1_day : GoodIn wsX6_now wsX1_day := goodIn_r _ [24, 20, 73, 74, 75, 76] (by decide +kernel) (by decide +kernel)
set_option maxRecDepth 20000 in
theorem gX6_now_X1_day : GoodIn wsX6_now (wsV RX6 103 RX1 yX1_day wsX1_day) := goodIn_app (goodIn_of _ (by decide +kernel)) ggX6_now_X1_day
set_option maxRecDepth 20000 in
theorem ggX6_now_X1_packedGoods : GoodIn wsX6_now wsX1_packedGoods := goodIn_r _ [28, 29, 30, 31, 18, 32, 33, 34, 35, 36, 20, 37, 38, 39, 73, 74, 75, 76] (by decide +kernel) (by decide +kernel)
set_option maxRecDepth 20000 in
theorem gX6_now_X1_packedGoods : GoodIn wsX6_now (wsV RX6 106 RX1 yX1_packedGoods wsX1_packedGoods) := goodIn_app (goodIn_of _ (by decide +kernel)) ggX6_now_X1_packedGoods
set_option maxRecDepth 20000 in
theorem ggX6_now_X1_filledParcels : GoodIn wsX6_now wsX1_filledParcels := goodIn_r _ [43, 33, 34, 35, 18, 36, 20, 37, 38, 39, 73, 74, 75, 76] (by decide +kernel) (by decide +kernel)
set_option maxRecDepth 20000 in
theorem gX6_now_X1_filledParcels : GoodIn wsX6_now (wsV RX6 109 RX1 yX1_filledParcels wsX1_filledParcels) := goodIn_app (goodIn_of _ (by decide +kernel)) ggX6_now_X1_filledParcels
set_option maxRecDepth 20000 in
theorem ggX6_now_X1_keptCount : GoodIn wsX6_now wsX1_keptCount := goodIn_r _ [47, 48, 73, 74, 75, 76] (by decide +kernel) (by decide +kernel)
set_option maxRecDepth 20000 in
theorem gX6_now_X1_keptCount : GoodIn wsX6_now (wsV RX6 112 RX1 yX1_keptCount wsX1_keptCount) := goodIn_app (goodIn_of _ (by decide +kernel)) ggX6_now_X1_keptCount
set_option maxRecDepth 20000 in
theorem ggX6_now_X5_size : GoodIn wsX6_now wsX5_size := goodIn_r _ [53, 54, 77, 78] (by decide +kernel) (by decide +kernel)
set_option maxRecDepth 20000 in
theorem gX6_now_X5_size : GoodIn wsX6_now (wsV RX6 74 RX5 yX5_size wsX5_size) := goodIn_app (goodIn_of _ (by decide +kernel)) ggX6_now_X5_size
theorem dX6_now_0 : decode cX6_now 0 = .ok (.iload_n 1, 1) := by decide +kernel
theorem dX6_now_1 : decode cX6_now 1 = .ok (.tableswitch 111 0 7 #[47, 55, 63, 71, 79, 87, 95, 103], 47) := by decide +kernel
theorem dX6_now_48 : decode cX6_now 48 = .ok (.aload_n 0, 1) := by decide +kernel
theorem dX6_now_49 : decode cX6_now 49 = .ok (.getfield 19, 3) := by decide +kernel
theorem dX6_now_52 : decode cX6_now 52 = .ok (.invokevirtual 94, 3) := by decide +kernel
theorem dX6_now_55 : decode cX6_now 55 = .ok (.ireturn, 1) := by decide +kernel
theorem dX6_now_56 : decode cX6_now 56 = .ok (.aload_n 0, 1) := by decide +kernel
theorem dX6_now_57 : decode cX6_now 57 = .ok (.getfield 19, 3) := by decide +kernel
theorem dX6_now_60 : decode cX6_now 60 = .ok (.invokevirtual 97, 3) := by decide +kernel
theorem dX6_now_63 : decode cX6_now 63 = .ok (.ireturn, 1) := by decide +kernel
theorem dX6_now_64 : decode cX6_now 64 = .ok (.aload_n 0, 1) := by decide +kernel
theorem dX6_now_65 : decode cX6_now 65 = .ok (.getfield 56, 3) := by decide +kernel
theorem dX6_now_68 : decode cX6_now 68 = .ok (.invokevirtual 100, 3) := by decide +kernel
theorem dX6_now_71 : decode cX6_now 71 = .ok (.ireturn, 1) := by decide +kernel
theorem dX6_now_72 : decode cX6_now 72 = .ok (.aload_n 0, 1) := by decide +kernel
theorem dX6_now_73 : decode cX6_now 73 = .ok (.getfield 56, 3) := by decide +kernel
theorem dX6_now_76 : decode cX6_now 76 = .ok (.invokevirtual 103, 3) := by decide +kernel
theorem dX6_now_79 : decode cX6_now 79 = .ok (.ireturn, 1) := by decide +kernel
theorem dX6_now_80 : decode cX6_now 80 = .ok (.aload_n 0, 1) := by decide +kernel
theorem dX6_now_81 : decode cX6_now 81 = .ok (.getfield 56, 3) := by decide +kernel
theorem dX6_now_84 : decode cX6_now 84 = .ok (.invokevirtual 106, 3) := by decide +kernel
theorem dX6_now_87 : decode cX6_now 87 = .ok (.ireturn, 1) := by decide +kernel
theorem dX6_now_88 : decode cX6_now 88 = .ok (.aload_n 0, 1) := by decide +kernel
theorem dX6_now_89 : decode cX6_now 89 = .ok (.getfield 56, 3) := by decide +kernel
theorem dX6_now_92 : decode cX6_now 92 = .ok (.invokevirtual 109, 3) := by decide +kernel
theorem dX6_now_95 : decode cX6_now 95 = .ok (.ireturn, 1) := by decide +kernel
theorem dX6_now_96 : decode cX6_now 96 = .ok (.aload_n 0, 1) := by decide +kernel
theorem dX6_now_97 : decode cX6_now 97 = .ok (.getfield 56, 3) := by decide +kernel
theorem dX6_now_100 : decode cX6_now 100 = .ok (.invokevirtual 112, 3) := by decide +kernel
theorem dX6_now_103 : decode cX6_now 103 = .ok (.ireturn, 1) := by decide +kernel
theorem dX6_now_104 : decode cX6_now 104 = .ok (.aload_n 0, 1) := by decide +kernel
theorem dX6_now_105 : decode cX6_now 105 = .ok (.getfield 12, 3) := by decide +kernel
theorem dX6_now_108 : decode cX6_now 108 = .ok (.invokevirtual 74, 3) := by decide +kernel
theorem dX6_now_111 : decode cX6_now 111 = .ok (.ireturn, 1) := by decide +kernel
theorem dX6_now_112 : decode cX6_now 112 = .ok (.iconst (-1), 1) := by decide +kernel
theorem dX6_now_113 : decode cX6_now 113 = .ok (.ireturn, 1) := by decide +kernel
set_option maxRecDepth 20000 in
theorem ggX6_good_X0_hasGood : GoodIn wsX6_good wsX0_hasGood := goodIn_r _ [9, 10, 33, 34, 35, 36, 37, 38, 39, 40, 41, 42] (by decide +kernel) (by decide +kernel)
set_option maxRecDepth 20000 in
theorem gX6_good_X0_hasGood : GoodIn wsX6_good (wsV RX6 115 RX0 yX0_hasGood wsX0_hasGood) := goodIn_app (goodIn_of _ (by decide +kernel)) ggX6_good_X0_hasGood
set_option maxRecDepth 20000 in
theorem ggX6_good_X0_goodNumber : GoodIn wsX6_good wsX0_goodNumber := goodIn_r _ [14, 15, 16, 17, 18, 33, 34, 35, 36, 37, 38, 39, 40, 41, 42] (by decide +kernel) (by decide +kernel)
set_option maxRecDepth 20000 in
theorem gX6_good_X0_goodNumber : GoodIn wsX6_good (wsV RX6 125 RX0 yX0_goodNumber wsX0_goodNumber) := goodIn_app (goodIn_of _ (by decide +kernel)) ggX6_good_X0_goodNumber
set_option maxRecDepth 20000 in
theorem ggX6_good_X1_parcelOf : GoodIn wsX6_good wsX1_parcelOf := goodIn_r _ [23, 24, 16, 17, 18, 43, 44, 45, 46] (by decide +kernel) (by decide +kernel)
set_option maxRecDepth 20000 in
theorem gX6_good_X1_parcelOf : GoodIn wsX6_good (wsV RX6 129 RX1 yX1_parcelOf wsX1_parcelOf) := goodIn_app (goodIn_of _ (by decide +kernel)) ggX6_good_X1_parcelOf
theorem dX6_good_0 : decode cX6_good 0 = .ok (.aload_n 0, 1) := by decide +kernel
theorem dX6_good_1 : decode cX6_good 1 = .ok (.getfield 19, 3) := by decide +kernel
theorem dX6_good_4 : decode cX6_good 4 = .ok (.iload_n 1, 1) := by decide +kernel
theorem dX6_good_5 : decode cX6_good 5 = .ok (.invokevirtual 115, 3) := by decide +kernel
theorem dX6_good_8 : decode cX6_good 8 = .ok (.ifCond .ne 13, 3) := by decide +kernel
theorem dX6_good_11 : decode cX6_good 11 = .ok (.new 118, 3) := by decide +kernel
theorem dX6_good_14 : decode cX6_good 14 = .ok (.dup, 1) := by decide +kernel
theorem dX6_good_15 : decode cX6_good 15 = .ok (.ldc 120, 2) := by decide +kernel
theorem dX6_good_17 : decode cX6_good 17 = .ok (.invokespecial 122, 3) := by decide +kernel
theorem dX6_good_20 : decode cX6_good 20 = .ok (.athrow, 1) := by decide +kernel
theorem dX6_good_21 : decode cX6_good 21 = .ok (.iload_n 2, 1) := by decide +kernel
theorem dX6_good_22 : decode cX6_good 22 = .ok (.tableswitch 69 0 3 #[30, 40, 50, 60], 30) := by decide +kernel
theorem dX6_good_52 : decode cX6_good 52 = .ok (.aload_n 0, 1) := by decide +kernel
theorem dX6_good_53 : decode cX6_good 53 = .ok (.getfield 19, 3) := by decide +kernel
theorem dX6_good_56 : decode cX6_good 56 = .ok (.iload_n 1, 1) := by decide +kernel
theorem dX6_good_57 : decode cX6_good 57 = .ok (.iconst 0, 1) := by decide +kernel
theorem dX6_good_58 : decode cX6_good 58 = .ok (.invokevirtual 125, 3) := by decide +kernel
theorem dX6_good_61 : decode cX6_good 61 = .ok (.ireturn, 1) := by decide +kernel
theorem dX6_good_62 : decode cX6_good 62 = .ok (.aload_n 0, 1) := by decide +kernel
theorem dX6_good_63 : decode cX6_good 63 = .ok (.getfield 19, 3) := by decide +kernel
theorem dX6_good_66 : decode cX6_good 66 = .ok (.iload_n 1, 1) := by decide +kernel
theorem dX6_good_67 : decode cX6_good 67 = .ok (.iconst 1, 1) := by decide +kernel
theorem dX6_good_68 : decode cX6_good 68 = .ok (.invokevirtual 125, 3) := by decide +kernel
theorem dX6_good_71 : decode cX6_good 71 = .ok (.ireturn, 1) := by decide +kernel
theorem dX6_good_72 : decode cX6_good 72 = .ok (.aload_n 0, 1) := by decide +kernel
theorem dX6_good_73 : decode cX6_good 73 = .ok (.getfield 19, 3) := by decide +kernel
theorem dX6_good_76 : decode cX6_good 76 = .ok (.iload_n 1, 1) := by decide +kernel
theorem dX6_good_77 : decode cX6_good 77 = .ok (.iconst 2, 1) := by decide +kernel
theorem dX6_good_78 : decode cX6_good 78 = .ok (.invokevirtual 125, 3) := by decide +kernel
theorem dX6_good_81 : decode cX6_good 81 = .ok (.ireturn, 1) := by decide +kernel
theorem dX6_good_82 : decode cX6_good 82 = .ok (.aload_n 0, 1) := by decide +kernel
theorem dX6_good_83 : decode cX6_good 83 = .ok (.getfield 56, 3) := by decide +kernel
theorem dX6_good_86 : decode cX6_good 86 = .ok (.iload_n 1, 1) := by decide +kernel
theorem dX6_good_87 : decode cX6_good 87 = .ok (.invokevirtual 129, 3) := by decide +kernel
theorem dX6_good_90 : decode cX6_good 90 = .ok (.ireturn, 1) := by decide +kernel
theorem dX6_good_91 : decode cX6_good 91 = .ok (.new 118, 3) := by decide +kernel
theorem dX6_good_94 : decode cX6_good 94 = .ok (.dup, 1) := by decide +kernel
theorem dX6_good_95 : decode cX6_good 95 = .ok (.ldc 133, 2) := by decide +kernel
theorem dX6_good_97 : decode cX6_good 97 = .ok (.invokespecial 122, 3) := by decide +kernel
theorem dX6_good_100 : decode cX6_good 100 = .ok (.athrow, 1) := by decide +kernel
set_option maxRecDepth 20000 in
theorem ggX6_zone_X0_hasCarrier : GoodIn wsX6_zone wsX0_hasCarrier := goodIn_r _ [6, 7, 54, 55, 56, 57, 58, 59, 60, 61, 62, 63] (by decide +kernel) (by decide +kernel)
set_option maxRecDepth 20000 in
theorem gX6_zone_X0_hasCarrier : GoodIn wsX6_zone (wsV RX6 135 RX0 yX0_hasCarrier wsX0_hasCarrier) := goodIn_app (goodIn_of _ (by decide +kernel)) ggX6_zone_X0_hasCarrier
set_option maxRecDepth 20000 in
theorem ggX6_zone_X6_zoneNow : GoodIn wsX6_zone wsX6_zoneNow := goodIn_r _ [12, 13, 14, 15, 16, 17, 18, 19, 20, 21, 22, 23, 24, 25, 26, 27, 28, 29, 30, 31, 32, 33, 5, 34, 35, 36, 11, 37, 38, 39, 40, 41, 42, 43, 44, 45, 46, 47, 48, 49, 50, 51, 52, 53, 64, 65, 66, 67, 68, 69, 70, 71, 54, 55, 56, 57, 58, 59, 60, 61, 62, 63] (by decide +kernel) (by decide +kernel)
set_option maxRecDepth 20000 in
theorem gX6_zone_X6_zoneNow : GoodIn wsX6_zone (wsV RX6 138 RX6 yX6_zoneNow wsX6_zoneNow) := goodIn_app (goodIn_of _ (by decide +kernel)) ggX6_zone_X6_zoneNow
theorem dX6_zone_0 : decode cX6_zone 0 = .ok (.aload_n 0, 1) := by decide +kernel
theorem dX6_zone_1 : decode cX6_zone 1 = .ok (.getfield 19, 3) := by decide +kernel
theorem dX6_zone_4 : decode cX6_zone 4 = .ok (.iload_n 1, 1) := by decide +kernel
theorem dX6_zone_5 : decode cX6_zone 5 = .ok (.invokevirtual 135, 3) := by decide +kernel
theorem dX6_zone_8 : decode cX6_zone 8 = .ok (.ifCond .eq 11, 3) := by decide +kernel
theorem dX6_zone_11 : decode cX6_zone 11 = .ok (.aload_n 0, 1) := by decide +kernel
theorem dX6_zone_12 : decode cX6_zone 12 = .ok (.iload_n 1, 1) := by decide +kernel
theorem dX6_zone_13 : decode cX6_zone 13 = .ok (.invokevirtual 138, 3) := by decide +kernel
theorem dX6_zone_16 : decode cX6_zone 16 = .ok (.goto 4, 3) := by decide +kernel
theorem dX6_zone_19 : decode cX6_zone 19 = .ok (.iconst (-1), 1) := by decide +kernel
theorem dX6_zone_20 : decode cX6_zone 20 = .ok (.ireturn, 1) := by decide +kernel
set_option maxRecDepth 20000 in
theorem ggX6_rate_X0_hasCarrier : GoodIn wsX6_rate wsX0_hasCarrier := goodIn_r _ [7, 8, 71, 72, 73, 74, 75, 76, 77, 78, 79, 80] (by decide +kernel) (by decide +kernel)
set_option maxRecDepth 20000 in
theorem gX6_rate_X0_hasCarrier : GoodIn wsX6_rate (wsV RX6 135 RX0 yX0_hasCarrier wsX0_hasCarrier) := goodIn_app (goodIn_of _ (by decide +kernel)) ggX6_rate_X0_hasCarrier
set_option maxRecDepth 20000 in
theorem ggX6_rate_X6_zoneNow : GoodIn wsX6_rate wsX6_zoneNow := goodIn_r _ [13, 2, 14, 15, 16, 17, 18, 19, 20, 21, 22, 23, 24, 25, 26, 27, 28, 29, 30, 31, 32, 33, 6, 34, 35, 36, 12, 37, 38, 39, 40, 41, 42, 43, 44, 45, 63, 64, 65, 66, 67, 68, 69, 70, 81, 82, 83, 84, 85, 86, 87, 88, 71, 72, 73, 74, 75, 76, 77, 78, 79, 80] (by decide +kernel) (by decide +kernel)
set_option maxRecDepth 20000 in
theorem gX6_rate_X6_zoneNow : GoodIn wsX6_rate (wsV RX6 138 RX6 yX6_zoneNow wsX6_zoneNow) := goodIn_app (goodIn_of _ (by decide +kernel)) ggX6_rate_X6_zoneNow
set_option maxRecDepth 20000 in
theorem ggX6_rate_X2_priceOf : GoodIn wsX6_rate wsX2_priceOf := goodIn_r _ [49, 30, 50, 51, 52, 6, 53, 54, 36, 12, 37, 55, 56, 57, 58, 59, 60, 61, 62, 85, 86, 87, 88, 71, 72, 73, 74, 75, 76, 77, 78, 79, 80] (by decide +kernel) (by decide +kernel)
set_option maxRecDepth 20000 in
theorem gX6_rate_X2_priceOf : GoodIn wsX6_rate (wsV RX6 141 RX2 yX2_priceOf wsX2_priceOf) := goodIn_app (goodIn_of _ (by decide +kernel)) ggX6_rate_X2_priceOf
theorem dX6_rate_0 : decode cX6_rate 0 = .ok (.aload_n 0, 1) := by decide +kernel
theorem dX6_rate_1 : decode cX6_rate 1 = .ok (.getfield 19, 3) := by decide +kernel
theorem dX6_rate_4 : decode cX6_rate 4 = .ok (.iload_n 1, 1) := by decide +kernel
theorem dX6_rate_5 : decode cX6_rate 5 = .ok (.invokevirtual 135, 3) := by decide +kernel
theorem dX6_rate_8 : decode cX6_rate 8 = .ok (.ifCond .eq 15, 3) := by decide +kernel
theorem dX6_rate_11 : decode cX6_rate 11 = .ok (.iload_n 2, 1) := by decide +kernel
theorem dX6_rate_12 : decode cX6_rate 12 = .ok (.iconst 1, 1) := by decide +kernel
theorem dX6_rate_13 : decode cX6_rate 13 = .ok (.if_icmp .lt 10, 3) := by decide +kernel
theorem dX6_rate_16 : decode cX6_rate 16 = .ok (.iload_n 2, 1) := by decide +kernel
theorem dX6_rate_17 : decode cX6_rate 17 = .ok (.sipush 999, 3) := by decide +kernel
theorem dX6_rate_20 : decode cX6_rate 20 = .ok (.if_icmp .le 5, 3) := by decide +kernel
theorem dX6_rate_23 : decode cX6_rate 23 = .ok (.iconst (-1), 1) := by decide +kernel
theorem dX6_rate_24 : decode cX6_rate 24 = .ok (.ireturn, 1) := by decide +kernel
theorem dX6_rate_25 : decode cX6_rate 25 = .ok (.aload_n 0, 1) := by decide +kernel
theorem dX6_rate_26 : decode cX6_rate 26 = .ok (.getfield 40, 3) := by decide +kernel
theorem dX6_rate_29 : decode cX6_rate 29 = .ok (.iload_n 1, 1) := by decide +kernel
theorem dX6_rate_30 : decode cX6_rate 30 = .ok (.aload_n 0, 1) := by decide +kernel
theorem dX6_rate_31 : decode cX6_rate 31 = .ok (.iload_n 1, 1) := by decide +kernel
theorem dX6_rate_32 : decode cX6_rate 32 = .ok (.invokevirtual 138, 3) := by decide +kernel
theorem dX6_rate_35 : decode cX6_rate 35 = .ok (.iload_n 2, 1) := by decide +kernel
theorem dX6_rate_36 : decode cX6_rate 36 = .ok (.invokevirtual 141, 3) := by decide +kernel
theorem dX6_rate_39 : decode cX6_rate 39 = .ok (.istore_n 3, 1) := by decide +kernel
theorem dX6_rate_40 : decode cX6_rate 40 = .ok (.iload_n 3, 1) := by decide +kernel
theorem dX6_rate_41 : decode cX6_rate 41 = .ok (.ifCond .ge 8, 3) := by decide +kernel
theorem dX6_rate_44 : decode cX6_rate 44 = .ok (.bipush (-2), 2) := by decide +kernel
theorem dX6_rate_46 : decode cX6_rate 46 = .ok (.goto 4, 3) := by decide +kernel
theorem dX6_rate_49 : decode cX6_rate 49 = .ok (.iload_n 3, 1) := by decide +kernel
theorem dX6_rate_50 : decode cX6_rate 50 = .ok (.ireturn, 1) := by decide +kernel
set_option maxRecDepth 20000 in
theorem ggX6_billed_X0_hasSet : GoodIn wsX6_billed wsX0_hasSet := goodIn_r _ [7, 8, 9, 10, 6, 11, 12, 53, 54, 55, 56, 57, 58, 59, 60, 61, 62] (by decide +kernel) (by decide +kernel)
set_option maxRecDepth 20000 in
theorem gX6_billed_X0_hasSet : GoodIn wsX6_billed (wsV RX6 145 RX0 yX0_hasSet wsX0_hasSet) := goodIn_app (goodIn_of _ (by decide +kernel)) ggX6_billed_X0_hasSet
set_option maxRecDepth 20000 in
theorem ggX6_billed_X0_hasCarrier : GoodIn wsX6_billed wsX0_hasCarrier := goodIn_r _ [16, 17, 53, 54, 55, 56, 57, 58, 59, 60, 61, 62] (by decide +kernel) (by decide +kernel)
set_option maxRecDepth 20000 in
theorem gX6_billed_X0_hasCarrier : GoodIn wsX6_billed (wsV RX6 135 RX0 yX0_hasCarrier wsX0_hasCarrier) := goodIn_app (goodIn_of _ (by decide +kernel)) ggX6_billed_X0_hasCarrier
set_option maxRecDepth 20000 in
theorem ggX6_billed_X2_kilosOf : GoodIn wsX6_billed wsX2_kilosOf := goodIn_r _ [22, 23, 24, 25, 26, 63, 64, 65, 66] (by decide +kernel) (by decide +kernel)
set_option maxRecDepth 20000 in
theorem gX6_billed_X2_kilosOf : GoodIn wsX6_billed (wsV RX6 148 RX2 yX2_kilosOf wsX2_kilosOf) := goodIn_app (goodIn_of _ (by decide +kernel)) ggX6_billed_X2_kilosOf
set_option maxRecDepth 20000 in
theorem ggX6_billed_X2_billedKilos : GoodIn wsX6_billed wsX2_billedKilos := goodIn_r _ [30, 31, 32, 33, 34, 35, 36, 24, 25, 26, 37, 38, 39, 6, 40, 41, 42, 43, 21, 44, 63, 64, 65, 66, 53, 54, 55, 56, 57, 58, 59, 60, 61, 62] (by decide +kernel) (by decide +kernel)
set_option maxRecDepth 20000 in
theorem gX6_billed_X2_billedKilos : GoodIn wsX6_billed (wsV RX6 151 RX2 yX2_billedKilos wsX2_billedKilos) := goodIn_app (goodIn_of _ (by decide +kernel)) ggX6_billed_X2_billedKilos
theorem dX6_billed_0 : decode cX6_billed 0 = .ok (.aload_n 0, 1) := by decide +kernel
theorem dX6_billed_1 : decode cX6_billed 1 = .ok (.getfield 19, 3) := by decide +kernel
theorem dX6_billed_4 : decode cX6_billed 4 = .ok (.iload_n 1, 1) := by decide +kernel
theorem dX6_billed_5 : decode cX6_billed 5 = .ok (.invokevirtual 145, 3) := by decide +kernel
theorem dX6_billed_8 : decode cX6_billed 8 = .ok (.ifCond .eq 14, 3) := by decide +kernel
theorem dX6_billed_11 : decode cX6_billed 11 = .ok (.aload_n 0, 1) := by decide +kernel
theorem dX6_billed_12 : decode cX6_billed 12 = .ok (.getfield 19, 3) := by decide +kernel
theorem dX6_billed_15 : decode cX6_billed 15 = .ok (.iload_n 2, 1) := by decide +kernel
theorem dX6_billed_16 : decode cX6_billed 16 = .ok (.invokevirtual 135, 3) := by decide +kernel
theorem dX6_billed_19 : decode cX6_billed 19 = .ok (.ifCond .ne 5, 3) := by decide +kernel
theorem dX6_billed_22 : decode cX6_billed 22 = .ok (.iconst (-1), 1) := by decide +kernel
theorem dX6_billed_23 : decode cX6_billed 23 = .ok (.ireturn, 1) := by decide +kernel
theorem dX6_billed_24 : decode cX6_billed 24 = .ok (.aload_n 0, 1) := by decide +kernel
theorem dX6_billed_25 : decode cX6_billed 25 = .ok (.getfield 40, 3) := by decide +kernel
theorem dX6_billed_28 : decode cX6_billed 28 = .ok (.iload_n 1, 1) := by decide +kernel
theorem dX6_billed_29 : decode cX6_billed 29 = .ok (.iload_n 2, 1) := by decide +kernel
theorem dX6_billed_30 : decode cX6_billed 30 = .ok (.aload_n 0, 1) := by decide +kernel
theorem dX6_billed_31 : decode cX6_billed 31 = .ok (.getfield 40, 3) := by decide +kernel
theorem dX6_billed_34 : decode cX6_billed 34 = .ok (.iload_n 1, 1) := by decide +kernel
theorem dX6_billed_35 : decode cX6_billed 35 = .ok (.invokevirtual 148, 3) := by decide +kernel
theorem dX6_billed_38 : decode cX6_billed 38 = .ok (.invokevirtual 151, 3) := by decide +kernel
theorem dX6_billed_41 : decode cX6_billed 41 = .ok (.ireturn, 1) := by decide +kernel
set_option maxRecDepth 20000 in
theorem ggX6_charge_X0_hasSet : GoodIn wsX6_charge wsX0_hasSet := goodIn_r _ [7, 8, 9, 10, 6, 11, 12, 114, 115, 116, 117, 118, 119, 120, 121, 122, 123] (by decide +kernel) (by decide +kernel)
set_option maxRecDepth 20000 in
theorem gX6_charge_X0_hasSet : GoodIn wsX6_charge (wsV RX6 145 RX0 yX0_hasSet wsX0_hasSet) := goodIn_app (goodIn_of _ (by decide +kernel)) ggX6_charge_X0_hasSet
set_option maxRecDepth 20000 in
theorem ggX6_charge_X0_hasCarrier : GoodIn wsX6_charge wsX0_hasCarrier := goodIn_r _ [16, 17, 114, 115, 116, 117, 118, 119, 120, 121, 122, 123] (by decide +kernel) (by decide +kernel)
set_option maxRecDepth 20000 in
theorem gX6_charge_X0_hasCarrier : GoodIn wsX6_charge (wsV RX6 135 RX0 yX0_hasCarrier wsX0_hasCarrier) := goodIn_app (goodIn_of _ (by decide +kernel)) ggX6_charge_X0_hasCarrier
set_option maxRecDepth 20000 in
theorem ggX6_charge_X6_zoneNow : GoodIn wsX6_charge wsX6_zoneNow := goodIn_r _ [22, 2, 23, 24, 25, 26, 27, 28, 29, 30, 31, 32, 33, 34, 35, 36, 37, 38, 39, 40, 41, 42, 6, 43, 44, 45, 21, 46, 47, 48, 49, 50, 51, 52, 53, 54, 106, 107, 108, 109, 110, 111, 112, 113, 124, 125, 126, 127, 128, 129, 130, 131, 114, 115, 116, 117, 118, 119, 120, 121, 122, 123] (by decide +kernel) (by decide +kernel)
set_option maxRecDepth 20000 in
theorem gX6_charge_X6_zoneNow : GoodIn wsX6_charge (wsV RX6 138 RX6 yX6_zoneNow wsX6_zoneNow) := goodIn_app (goodIn_of _ (by decide +kernel)) ggX6_charge_X6_zoneNow
set_option maxRecDepth 20000 in
theorem ggX6_charge_X2_kilosOf : GoodIn wsX6_charge wsX2_kilosOf := goodIn_r _ [58, 59, 45, 21, 46, 128, 129, 130, 131] (by decide +kernel) (by decide +kernel)
set_option maxRecDepth 20000 in
theorem gX6_charge_X2_kilosOf : GoodIn wsX6_charge (wsV RX6 148 RX2 yX2_kilosOf wsX2_kilosOf) := goodIn_app (goodIn_of _ (by decide +kernel)) ggX6_charge_X2_kilosOf
set_option maxRecDepth 20000 in
theorem ggX6_charge_X2_chargeOf : GoodIn wsX6_charge wsX2_chargeOf := goodIn_r _ [63, 39, 64, 65, 66, 67, 68, 6, 69, 70, 45, 21, 46, 71, 72, 73, 37, 74, 75, 76, 77, 78, 79, 80, 81, 82, 83, 84, 85, 86, 87, 88, 89, 90, 91, 92, 93, 94, 95, 96, 97, 98, 99, 100, 101, 102, 103, 104, 105, 128, 129, 130, 131, 114, 115, 116, 117, 118, 119, 120, 121, 122, 123] (by decide +kernel) (by decide +kernel)
set_option maxRecDepth 20000 in
theorem gX6_charge_X2_chargeOf : GoodIn wsX6_charge (wsV RX6 154 RX2 yX2_chargeOf wsX2_chargeOf) := goodIn_app (goodIn_of _ (by decide +kernel)) ggX6_charge_X2_chargeOf
theorem dX6_charge_0 : decode cX6_charge 0 = .ok (.aload_n 0, 1) := by decide +kernel
theorem dX6_charge_1 : decode cX6_charge 1 = .ok (.getfield 19, 3) := by decide +kernel
theorem dX6_charge_4 : decode cX6_charge 4 = .ok (.iload_n 1, 1) := by decide +kernel
theorem dX6_charge_5 : decode cX6_charge 5 = .ok (.invokevirtual 145, 3) := by decide +kernel
theorem dX6_charge_8 : decode cX6_charge 8 = .ok (.ifCond .eq 14, 3) := by decide +kernel
theorem dX6_charge_11 : decode cX6_charge 11 = .ok (.aload_n 0, 1) := by decide +kernel
theorem dX6_charge_12 : decode cX6_charge 12 = .ok (.getfield 19, 3) := by decide +kernel
theorem dX6_charge_15 : decode cX6_charge 15 = .ok (.iload_n 2, 1) := by decide +kernel
theorem dX6_charge_16 : decode cX6_charge 16 = .ok (.invokevirtual 135, 3) := by decide +kernel
theorem dX6_charge_19 : decode cX6_charge 19 = .ok (.ifCond .ne 5, 3) := by decide +kernel
theorem dX6_charge_22 : decode cX6_charge 22 = .ok (.iconst (-1), 1) := by decide +kernel
theorem dX6_charge_23 : decode cX6_charge 23 = .ok (.ireturn, 1) := by decide +kernel
theorem dX6_charge_24 : decode cX6_charge 24 = .ok (.aload_n 0, 1) := by decide +kernel
theorem dX6_charge_25 : decode cX6_charge 25 = .ok (.getfield 40, 3) := by decide +kernel
theorem dX6_charge_28 : decode cX6_charge 28 = .ok (.iload_n 1, 1) := by decide +kernel
theorem dX6_charge_29 : decode cX6_charge 29 = .ok (.iload_n 2, 1) := by decide +kernel
theorem dX6_charge_30 : decode cX6_charge 30 = .ok (.aload_n 0, 1) := by decide +kernel
theorem dX6_charge_31 : decode cX6_charge 31 = .ok (.iload_n 2, 1) := by decide +kernel
theorem dX6_charge_32 : decode cX6_charge 32 = .ok (.invokevirtual 138, 3) := by decide +kernel
theorem dX6_charge_35 : decode cX6_charge 35 = .ok (.aload_n 0, 1) := by decide +kernel
theorem dX6_charge_36 : decode cX6_charge 36 = .ok (.getfield 40, 3) := by decide +kernel
theorem dX6_charge_39 : decode cX6_charge 39 = .ok (.iload_n 1, 1) := by decide +kernel
theorem dX6_charge_40 : decode cX6_charge 40 = .ok (.invokevirtual 148, 3) := by decide +kernel
theorem dX6_charge_43 : decode cX6_charge 43 = .ok (.invokevirtual 154, 3) := by decide +kernel
theorem dX6_charge_46 : decode cX6_charge 46 = .ok (.ireturn, 1) := by decide +kernel
set_option maxRecDepth 20000 in
theorem ggX6_cheapest_X0_hasSet : GoodIn wsX6_cheapest wsX0_hasSet := goodIn_r _ [8, 9, 10, 11, 7, 12, 13, 124, 125, 126, 127, 128, 129, 130, 131, 132, 133] (by decide +kernel) (by decide +kernel)
set_option maxRecDepth 20000 in
theorem gX6_cheapest_X0_hasSet : GoodIn wsX6_cheapest (wsV RX6 145 RX0 yX0_hasSet wsX0_hasSet) := goodIn_app (goodIn_of _ (by decide +kernel)) ggX6_cheapest_X0_hasSet
set_option maxRecDepth 20000 in
theorem ggX6_cheapest_X1_place : GoodIn wsX6_cheapest wsX1_place := goodIn_r _ [18, 19, 134, 135, 136, 137] (by decide +kernel) (by decide +kernel)
set_option maxRecDepth 20000 in
theorem gX6_cheapest_X1_place : GoodIn wsX6_cheapest (wsV RX6 100 RX1 yX1_place wsX1_place) := goodIn_app (goodIn_of _ (by decide +kernel)) ggX6_cheapest_X1_place
set_option maxRecDepth 20000 in
theorem ggX6_cheapest_X1_day : GoodIn wsX6_cheapest wsX1_day := goodIn_r _ [23, 19, 134, 135, 136, 137] (by decide +kernel) (by decide +kernel)
set_option maxRecDepth 20000 in
theorem gX6_cheapest_X1_day : GoodIn wsX6_cheapest (wsV RX6 103 RX1 yX1_day wsX1_day) := goodIn_app (goodIn_of _ (by decide +kernel)) ggX6_cheapest_X1_day
set_option maxRecDepth 20000 in
theorem ggX6_cheapest_X2_zonesAt : GoodIn wsX6_cheapest wsX2_zonesAt := goodIn_r _ [28, 29, 30, 31, 32, 7, 33, 34, 35, 36, 37, 27, 38, 39, 40, 41, 42, 43, 44, 45, 46, 47, 48, 49, 50, 51, 52, 53, 54, 138, 139, 140, 141, 124, 125, 126, 127, 128, 129, 130, 131, 132, 133] (by decide +kernel) (by decide +kernel)
set_option maxRecDepth 20000 in
theorem gX6_cheapest_X2_zonesAt : GoodIn wsX6_cheapest (wsV RX6 158 RX2 yX2_zonesAt wsX2_zonesAt) := goodIn_app (goodIn_of _ (by decide +kernel)) ggX6_cheapest_X2_zonesAt
set_option maxRecDepth 20000 in
theorem ggX6_cheapest_X2_leastOffer : GoodIn wsX6_cheapest wsX2_leastOffer := goodIn_r _ [58, 29, 30, 31, 32, 7, 33, 34, 59, 60, 27, 61, 62, 63, 64, 65, 66, 44, 45, 46, 67, 68, 69, 70, 71, 72, 73, 74, 75, 76, 77, 78, 79, 80, 81, 82, 83, 84, 85, 86, 87, 88, 89, 90, 91, 92, 93, 94, 95, 96, 97, 98, 99, 100, 101, 102, 103, 104, 105, 106, 107, 108, 109, 110, 111, 112, 138, 139, 140, 141, 124, 125, 126, 127, 128, 129, 130, 131, 132, 133] (by decide +kernel) (by decide +kernel)
set_option maxRecDepth 20000 in
theorem gX6_cheapest_X2_leastOffer : GoodIn wsX6_cheapest (wsV RX6 161 RX2 yX2_leastOffer wsX2_leastOffer) := goodIn_app (goodIn_of _ (by decide +kernel)) ggX6_cheapest_X2_leastOffer
set_option maxRecDepth 20000 in
theorem ggX6_cheapest_X2_carrierOfOffer : GoodIn wsX6_cheapest wsX2_carrierOfOffer := goodIn_r _ [115] (by decide +kernel) (by decide +kernel)
set_option maxRecDepth 20000 in
theorem gX6_cheapest_X2_carrierOfOffer : GoodIn wsX6_cheapest (va_wsS RX6 164 yX2_carrierOfOffer wsX2_carrierOfOffer) := goodIn_app (goodIn_of _ (by decide +kernel)) ggX6_cheapest_X2_carrierOfOffer
theorem dX6_cheapest_0 : decode cX6_cheapest 0 = .ok (.aload_n 0, 1) := by decide +kernel
theorem dX6_cheapest_1 : decode cX6_cheapest 1 = .ok (.getfield 19, 3) := by decide +kernel
theorem dX6_cheapest_4 : decode cX6_cheapest 4 = .ok (.iload_n 1, 1) := by decide +kernel
theorem dX6_cheapest_5 : decode cX6_cheapest 5 = .ok (.invokevirtual 145, 3) := by decide +kernel
theorem dX6_cheapest_8 : decode cX6_cheapest 8 = .ok (.ifCond .ne 5, 3) := by decide +kernel
theorem dX6_cheapest_11 : decode cX6_cheapest 11 = .ok (.iconst (-1), 1) := by decide +kernel
theorem dX6_cheapest_12 : decode cX6_cheapest 12 = .ok (.ireturn, 1) := by decide +kernel
theorem dX6_cheapest_13 : decode cX6_cheapest 13 = .ok (.aload_n 0, 1) := by decide +kernel
theorem dX6_cheapest_14 : decode cX6_cheapest 14 = .ok (.getfield 40, 3) := by decide +kernel
theorem dX6_cheapest_17 : decode cX6_cheapest 17 = .ok (.iload_n 1, 1) := by decide +kernel
theorem dX6_cheapest_18 : decode cX6_cheapest 18 = .ok (.aload_n 0, 1) := by decide +kernel
theorem dX6_cheapest_19 : decode cX6_cheapest 19 = .ok (.getfield 40, 3) := by decide +kernel
theorem dX6_cheapest_22 : decode cX6_cheapest 22 = .ok (.aload_n 0, 1) := by decide +kernel
theorem dX6_cheapest_23 : decode cX6_cheapest 23 = .ok (.getfield 56, 3) := by decide +kernel
theorem dX6_cheapest_26 : decode cX6_cheapest 26 = .ok (.invokevirtual 100, 3) := by decide +kernel
theorem dX6_cheapest_29 : decode cX6_cheapest 29 = .ok (.aload_n 0, 1) := by decide +kernel
theorem dX6_cheapest_30 : decode cX6_cheapest 30 = .ok (.getfield 56, 3) := by decide +kernel
theorem dX6_cheapest_33 : decode cX6_cheapest 33 = .ok (.invokevirtual 103, 3) := by decide +kernel
theorem dX6_cheapest_36 : decode cX6_cheapest 36 = .ok (.invokevirtual 158, 3) := by decide +kernel
theorem dX6_cheapest_39 : decode cX6_cheapest 39 = .ok (.invokevirtual 161, 3) := by decide +kernel
theorem dX6_cheapest_42 : decode cX6_cheapest 42 = .ok (.istore_n 2, 1) := by decide +kernel
theorem dX6_cheapest_43 : decode cX6_cheapest 43 = .ok (.iload_n 2, 1) := by decide +kernel
theorem dX6_cheapest_44 : decode cX6_cheapest 44 = .ok (.ifCond .ge 8, 3) := by decide +kernel
theorem dX6_cheapest_47 : decode cX6_cheapest 47 = .ok (.bipush (-2), 2) := by decide +kernel
theorem dX6_cheapest_49 : decode cX6_cheapest 49 = .ok (.goto 7, 3) := by decide +kernel
theorem dX6_cheapest_52 : decode cX6_cheapest 52 = .ok (.iload_n 2, 1) := by decide +kernel
theorem dX6_cheapest_53 : decode cX6_cheapest 53 = .ok (.invokestatic 164, 3) := by decide +kernel
theorem dX6_cheapest_56 : decode cX6_cheapest 56 = .ok (.ireturn, 1) := by decide +kernel
set_option maxRecDepth 20000 in
theorem ggX6_least_X1_place : GoodIn wsX6_least wsX1_place := goodIn_r _ [7, 8, 158, 159, 160, 161] (by decide +kernel) (by decide +kernel)
set_option maxRecDepth 20000 in
theorem gX6_least_X1_place : GoodIn wsX6_least (wsV RX6 100 RX1 yX1_place wsX1_place) := goodIn_app (goodIn_of _ (by decide +kernel)) ggX6_least_X1_place
set_option maxRecDepth 20000 in
theorem ggX6_least_X1_day : GoodIn wsX6_least wsX1_day := goodIn_r _ [12, 8, 158, 159, 160, 161] (by decide +kernel) (by decide +kernel)
set_option maxRecDepth 20000 in
theorem gX6_least_X1_day : GoodIn wsX6_least (wsV RX6 103 RX1 yX1_day wsX1_day) := goodIn_app (goodIn_of _ (by decide +kernel)) ggX6_least_X1_day
set_option maxRecDepth 20000 in
theorem ggX6_least_X4_leastCharge : GoodIn wsX6_least wsX4_leastCharge := goodIn_r _ [17, 18, 19, 20, 21, 22, 23, 24, 25, 26, 27, 28, 29, 30, 31, 32, 33, 34, 35, 36, 37, 38, 39, 40, 41, 42, 43, 44, 45, 46, 47, 48, 49, 50, 51, 52, 53, 54, 16, 55, 56, 57, 58, 59, 60, 61, 62, 63, 64, 65, 66, 67, 68, 69, 70, 71, 72, 73, 74, 75, 76, 77, 78, 79, 80, 81, 82, 83, 84, 85, 86, 87, 88, 89, 90, 91, 92, 93, 94, 95, 96, 97, 98, 99, 100, 101, 102, 103, 104, 105, 106, 107, 108, 109, 110, 111, 112, 113, 114, 115, 116, 117, 118, 119, 120, 121, 122, 123, 124, 125, 126, 127, 128, 129, 130, 131, 132, 133, 134, 135, 136, 137, 138, 139, 140, 141, 142, 143, 144, 145, 146, 147, 148, 149, 162, 163, 164, 165, 166, 167, 168, 169, 170, 171, 172, 173, 174, 175, 176, 177, 178, 179, 180, 181, 182, 183] (by decide +kernel) (by decide +kernel)
set_option maxRecDepth 20000 in
theorem gX6_least_X4_leastCharge : GoodIn wsX6_least (wsV RX6 167 RX4 yX4_leastCharge wsX4_leastCharge) := goodIn_app (goodIn_of _ (by decide +kernel)) ggX6_least_X4_leastCharge
theorem dX6_least_0 : decode cX6_least 0 = .ok (.aload_n 0, 1) := by decide +kernel
theorem dX6_least_1 : decode cX6_least 1 = .ok (.getfield 49, 3) := by decide +kernel
theorem dX6_least_4 : decode cX6_least 4 = .ok (.aload_n 0, 1) := by decide +kernel
theorem dX6_least_5 : decode cX6_least 5 = .ok (.getfield 56, 3) := by decide +kernel
theorem dX6_least_8 : decode cX6_least 8 = .ok (.invokevirtual 100, 3) := by decide +kernel
theorem dX6_least_11 : decode cX6_least 11 = .ok (.aload_n 0, 1) := by decide +kernel
theorem dX6_least_12 : decode cX6_least 12 = .ok (.getfield 56, 3) := by decide +kernel
theorem dX6_least_15 : decode cX6_least 15 = .ok (.invokevirtual 103, 3) := by decide +kernel
theorem dX6_least_18 : decode cX6_least 18 = .ok (.invokevirtual 167, 3) := by decide +kernel
theorem dX6_least_21 : decode cX6_least 21 = .ok (.ireturn, 1) := by decide +kernel
set_option maxRecDepth 20000 in
theorem ggX6_split_X0_hasGood : GoodIn wsX6_split wsX0_hasGood := goodIn_r _ [8, 9, 179, 180, 181, 182, 183, 184, 185, 186, 187, 188] (by decide +kernel) (by decide +kernel)
set_option maxRecDepth 20000 in
theorem gX6_split_X0_hasGood : GoodIn wsX6_split (wsV RX6 115 RX0 yX0_hasGood wsX0_hasGood) := goodIn_app (goodIn_of _ (by decide +kernel)) ggX6_split_X0_hasGood
set_option maxRecDepth 20000 in
theorem ggX6_split_X1_place : GoodIn wsX6_split wsX1_place := goodIn_r _ [14, 15, 189, 190, 191, 192] (by decide +kernel) (by decide +kernel)
set_option maxRecDepth 20000 in
theorem gX6_split_X1_place : GoodIn wsX6_split (wsV RX6 100 RX1 yX1_place wsX1_place) := goodIn_app (goodIn_of _ (by decide +kernel)) ggX6_split_X1_place
set_option maxRecDepth 20000 in
theorem ggX6_split_X1_day : GoodIn wsX6_split wsX1_day := goodIn_r _ [19, 15, 189, 190, 191, 192] (by decide +kernel) (by decide +kernel)
set_option maxRecDepth 20000 in
theorem gX6_split_X1_day : GoodIn wsX6_split (wsV RX6 103 RX1 yX1_day wsX1_day) := goodIn_app (goodIn_of _ (by decide +kernel)) ggX6_split_X1_day
set_option maxRecDepth 20000 in
theorem ggX6_split_X4_leastCharge : GoodIn wsX6_split wsX4_leastCharge := goodIn_r _ [24, 25, 26, 27, 28, 29, 30, 31, 32, 33, 34, 35, 7, 36, 37, 38, 39, 40, 41, 42, 43, 44, 45, 46, 47, 48, 49, 50, 51, 52, 53, 54, 55, 56, 57, 58, 59, 60, 23, 61, 62, 63, 64, 65, 66, 67, 68, 69, 70, 9, 71, 72, 73, 74, 75, 76, 77, 78, 79, 80, 81, 82, 83, 84, 85, 86, 87, 88, 89, 90, 91, 92, 93, 94, 95, 96, 97, 98, 99, 100, 101, 102, 103, 104, 105, 106, 107, 108, 109, 110, 111, 112, 113, 114, 115, 116, 117, 118, 119, 120, 121, 122, 123, 124, 125, 126, 127, 128, 129, 130, 131, 132, 133, 134, 135, 136, 137, 138, 139, 140, 141, 142, 143, 144, 145, 146, 147, 148, 149, 150, 151, 152, 153, 154, 193, 194, 195, 196, 197, 198, 199, 200, 201, 202, 203, 204, 179, 180, 181, 182, 183, 184, 185, 186, 187, 188] (by decide +kernel) (by decide +kernel)
set_option maxRecDepth 20000 in
theorem gX6_split_X4_leastCharge : GoodIn wsX6_split (wsV RX6 167 RX4 yX4_leastCharge wsX4_leastCharge) := goodIn_app (goodIn_of _ (by decide +kernel)) ggX6_split_X4_leastCharge
set_option maxRecDepth 20000 in
theorem ggX6_split_X4_leastRow : GoodIn wsX6_split wsX4_leastRow := goodIn_r _ [158, 25, 66, 27, 28, 29, 30, 31, 32, 33, 34, 35, 7, 36, 37, 38, 39, 40, 41, 42, 43, 44, 45, 46, 47, 48, 49, 50, 51, 52, 53, 54, 55, 56, 57, 193, 194, 195, 196, 197, 198, 199, 200, 201, 202, 203, 204, 179, 180, 181, 182, 183, 184, 185, 186, 187, 188] (by decide +kernel) (by decide +kernel)
set_option maxRecDepth 20000 in
theorem gX6_split_X4_leastRow : GoodIn wsX6_split (wsV RX6 170 RX4 yX4_leastRow wsX4_leastRow) := goodIn_app (goodIn_of _ (by decide +kernel)) ggX6_split_X4_leastRow
set_option maxRecDepth 20000 in
theorem ggX6_split_X4_parcelIn : GoodIn wsX6_split wsX4_parcelIn := goodIn_r _ [161, 162, 163, 23, 164, 165, 166, 167] (by decide +kernel) (by decide +kernel)
set_option maxRecDepth 20000 in
theorem gX6_split_X4_parcelIn : GoodIn wsX6_split (va_wsS RX6 174 yX4_parcelIn wsX4_parcelIn) := goodIn_app (goodIn_of _ (by decide +kernel)) ggX6_split_X4_parcelIn
set_option maxRecDepth 20000 in
theorem ggX6_split_X4_carrierIn : GoodIn wsX6_split wsX4_carrierIn := goodIn_r _ [170, 162, 163, 23, 164, 165, 166, 167] (by decide +kernel) (by decide +kernel)
set_option maxRecDepth 20000 in
theorem gX6_split_X4_carrierIn : GoodIn wsX6_split (va_wsS RX6 178 yX4_carrierIn wsX4_carrierIn) := goodIn_app (goodIn_of _ (by decide +kernel)) ggX6_split_X4_carrierIn
theorem dX6_split_0 : decode cX6_split 0 = .ok (.aload_n 0, 1) := by decide +kernel
theorem dX6_split_1 : decode cX6_split 1 = .ok (.getfield 19, 3) := by decide +kernel
theorem dX6_split_4 : decode cX6_split 4 = .ok (.iload_n 1, 1) := by decide +kernel
theorem dX6_split_5 : decode cX6_split 5 = .ok (.invokevirtual 115, 3) := by decide +kernel
theorem dX6_split_8 : decode cX6_split 8 = .ok (.ifCond .eq 12, 3) := by decide +kernel
theorem dX6_split_11 : decode cX6_split 11 = .ok (.iload_n 2, 1) := by decide +kernel
theorem dX6_split_12 : decode cX6_split 12 = .ok (.ifCond .lt 8, 3) := by decide +kernel
theorem dX6_split_15 : decode cX6_split 15 = .ok (.iload_n 2, 1) := by decide +kernel
theorem dX6_split_16 : decode cX6_split 16 = .ok (.iconst 1, 1) := by decide +kernel
theorem dX6_split_17 : decode cX6_split 17 = .ok (.if_icmp .le 5, 3) := by decide +kernel
theorem dX6_split_20 : decode cX6_split 20 = .ok (.iconst (-1), 1) := by decide +kernel
theorem dX6_split_21 : decode cX6_split 21 = .ok (.ireturn, 1) := by decide +kernel
theorem dX6_split_22 : decode cX6_split 22 = .ok (.aload_n 0, 1) := by decide +kernel
theorem dX6_split_23 : decode cX6_split 23 = .ok (.getfield 49, 3) := by decide +kernel
theorem dX6_split_26 : decode cX6_split 26 = .ok (.aload_n 0, 1) := by decide +kernel
theorem dX6_split_27 : decode cX6_split 27 = .ok (.getfield 56, 3) := by decide +kernel
theorem dX6_split_30 : decode cX6_split 30 = .ok (.invokevirtual 100, 3) := by decide +kernel
theorem dX6_split_33 : decode cX6_split 33 = .ok (.aload_n 0, 1) := by decide +kernel
theorem dX6_split_34 : decode cX6_split 34 = .ok (.getfield 56, 3) := by decide +kernel
theorem dX6_split_37 : decode cX6_split 37 = .ok (.invokevirtual 103, 3) := by decide +kernel
theorem dX6_split_40 : decode cX6_split 40 = .ok (.invokevirtual 167, 3) := by decide +kernel
theorem dX6_split_43 : decode cX6_split 43 = .ok (.ifCond .ge 6, 3) := by decide +kernel
theorem dX6_split_46 : decode cX6_split 46 = .ok (.bipush (-2), 2) := by decide +kernel
theorem dX6_split_48 : decode cX6_split 48 = .ok (.ireturn, 1) := by decide +kernel
theorem dX6_split_49 : decode cX6_split 49 = .ok (.aload_n 0, 1) := by decide +kernel
theorem dX6_split_50 : decode cX6_split 50 = .ok (.getfield 49, 3) := by decide +kernel
theorem dX6_split_53 : decode cX6_split 53 = .ok (.aload_n 0, 1) := by decide +kernel
theorem dX6_split_54 : decode cX6_split 54 = .ok (.getfield 56, 3) := by decide +kernel
theorem dX6_split_57 : decode cX6_split 57 = .ok (.invokevirtual 100, 3) := by decide +kernel
theorem dX6_split_60 : decode cX6_split 60 = .ok (.aload_n 0, 1) := by decide +kernel
theorem dX6_split_61 : decode cX6_split 61 = .ok (.getfield 56, 3) := by decide +kernel
theorem dX6_split_64 : decode cX6_split 64 = .ok (.invokevirtual 103, 3) := by decide +kernel
theorem dX6_split_67 : decode cX6_split 67 = .ok (.invokevirtual 170, 3) := by decide +kernel
theorem dX6_split_70 : decode cX6_split 70 = .ok (.lstore_n 3, 1) := by decide +kernel
theorem dX6_split_71 : decode cX6_split 71 = .ok (.iload_n 2, 1) := by decide +kernel
theorem dX6_split_72 : decode cX6_split 72 = .ok (.ifCond .ne 11, 3) := by decide +kernel
theorem dX6_split_75 : decode cX6_split 75 = .ok (.lload_n 3, 1) := by decide +kernel
theorem dX6_split_76 : decode cX6_split 76 = .ok (.iload_n 1, 1) := by decide +kernel
theorem dX6_split_77 : decode cX6_split 77 = .ok (.invokestatic 174, 3) := by decide +kernel
theorem dX6_split_80 : decode cX6_split 80 = .ok (.goto 8, 3) := by decide +kernel
theorem dX6_split_83 : decode cX6_split 83 = .ok (.lload_n 3, 1) := by decide +kernel
theorem dX6_split_84 : decode cX6_split 84 = .ok (.iload_n 1, 1) := by decide +kernel
theorem dX6_split_85 : decode cX6_split 85 = .ok (.invokestatic 178, 3) := by decide +kernel
theorem dX6_split_88 : decode cX6_split 88 = .ok (.ireturn, 1) := by decide +kernel
set_option maxRecDepth 20000 in
theorem ggX6_bound_X6_lowerBound : GoodIn wsX6_bound wsX6_lowerBound := goodIn_r _ [5, 6, 7, 8, 9, 10, 11, 12, 13, 14, 15, 16, 17, 18, 19, 20, 4, 21, 22, 23, 24, 25, 26, 27, 28, 29, 30, 31, 32, 33, 34, 35, 36, 37, 38, 39, 40, 41, 42, 43, 44, 45, 46, 47, 48, 49, 50, 51, 52, 53, 54, 55, 56, 57, 58, 59, 60, 61, 62, 63, 64, 65, 66, 67, 68, 69, 70, 71, 72, 73, 74, 75, 76, 77, 78, 79, 80, 81, 82, 83, 84, 85, 86, 87, 88, 89, 90, 91, 92, 93, 94, 95, 96, 97, 98, 99, 100, 101, 102, 103, 104, 105] (by decide +kernel) (by decide +kernel)
set_option maxRecDepth 20000 in
theorem gX6_bound_X6_lowerBound : GoodIn wsX6_bound (wsV RX6 181 RX6 yX6_lowerBound wsX6_lowerBound) := goodIn_app (goodIn_of _ (by decide +kernel)) ggX6_bound_X6_lowerBound
theorem dX6_bound_0 : decode cX6_bound 0 = .ok (.aload_n 0, 1) := by decide +kernel
theorem dX6_bound_1 : decode cX6_bound 1 = .ok (.invokevirtual 181, 3) := by decide +kernel
theorem dX6_bound_4 : decode cX6_bound 4 = .ok (.ireturn, 1) := by decide +kernel
set_option maxRecDepth 20000 in
theorem ggX6_gap_X1_place : GoodIn wsX6_gap wsX1_place := goodIn_r _ [7, 8, 176, 177, 178, 179] (by decide +kernel) (by decide +kernel)
set_option maxRecDepth 20000 in
theorem gX6_gap_X1_place : GoodIn wsX6_gap (wsV RX6 100 RX1 yX1_place wsX1_place) := goodIn_app (goodIn_of _ (by decide +kernel)) ggX6_gap_X1_place
set_option maxRecDepth 20000 in
theorem ggX6_gap_X1_day : GoodIn wsX6_gap wsX1_day := goodIn_r _ [12, 8, 176, 177, 178, 179] (by decide +kernel) (by decide +kernel)
set_option maxRecDepth 20000 in
theorem gX6_gap_X1_day : GoodIn wsX6_gap (wsV RX6 103 RX1 yX1_day wsX1_day) := goodIn_app (goodIn_of _ (by decide +kernel)) ggX6_gap_X1_day
set_option maxRecDepth 20000 in
theorem ggX6_gap_X4_leastCharge : GoodIn wsX6_gap wsX4_leastCharge := goodIn_r _ [17, 18, 19, 20, 21, 22, 23, 24, 25, 26, 27, 28, 29, 30, 31, 32, 33, 34, 35, 36, 37, 38, 39, 40, 41, 42, 43, 44, 45, 46, 47, 48, 49, 50, 51, 52, 53, 54, 16, 55, 56, 57, 58, 59, 60, 61, 62, 63, 64, 65, 66, 67, 68, 69, 70, 71, 72, 73, 74, 75, 76, 77, 78, 79, 80, 81, 82, 83, 84, 85, 86, 87, 88, 89, 90, 91, 92, 93, 94, 95, 96, 97, 98, 99, 100, 101, 102, 103, 104, 105, 106, 107, 108, 109, 110, 111, 112, 113, 114, 115, 116, 117, 118, 119, 120, 121, 122, 123, 124, 125, 126, 127, 128, 129, 130, 131, 132, 133, 134, 135, 136, 137, 138, 139, 140, 141, 142, 143, 144, 145, 146, 147, 148, 149, 180, 181, 182, 183, 184, 185, 186, 187, 188, 189, 190, 191, 192, 193, 194, 195, 196, 197, 198, 199, 200, 201] (by decide +kernel) (by decide +kernel)
set_option maxRecDepth 20000 in
theorem gX6_gap_X4_leastCharge : GoodIn wsX6_gap (wsV RX6 167 RX4 yX4_leastCharge wsX4_leastCharge) := goodIn_app (goodIn_of _ (by decide +kernel)) ggX6_gap_X4_leastCharge
set_option maxRecDepth 20000 in
theorem ggX6_gap_X6_lowerBound : GoodIn wsX6_gap wsX6_lowerBound := goodIn_r _ [153, 154, 155, 156, 62, 63, 29, 64, 65, 157, 74, 75, 23, 76, 77, 41, 42, 43, 158, 27, 28, 30, 31, 159, 160, 161, 162, 2, 3, 4, 5, 6, 7, 8, 9, 10, 11, 12, 163, 33, 34, 35, 25, 36, 37, 38, 39, 40, 44, 45, 46, 47, 48, 49, 50, 51, 164, 165, 166, 167, 104, 105, 106, 107, 108, 109, 110, 111, 112, 113, 114, 115, 116, 97, 98, 99, 168, 169, 170, 171, 172, 173, 174, 175, 192, 193, 194, 195, 196, 197, 198, 199, 200, 201, 188, 189, 190, 191, 176, 177, 178, 179] (by decide +kernel) (by decide +kernel)
set_option maxRecDepth 20000 in
theorem gX6_gap_X6_lowerBound : GoodIn wsX6_gap (wsV RX6 181 RX6 yX6_lowerBound wsX6_lowerBound) := goodIn_app (goodIn_of _ (by decide +kernel)) ggX6_gap_X6_lowerBound
theorem dX6_gap_0 : decode cX6_gap 0 = .ok (.aload_n 0, 1) := by decide +kernel
theorem dX6_gap_1 : decode cX6_gap 1 = .ok (.getfield 49, 3) := by decide +kernel
theorem dX6_gap_4 : decode cX6_gap 4 = .ok (.aload_n 0, 1) := by decide +kernel
theorem dX6_gap_5 : decode cX6_gap 5 = .ok (.getfield 56, 3) := by decide +kernel
theorem dX6_gap_8 : decode cX6_gap 8 = .ok (.invokevirtual 100, 3) := by decide +kernel
theorem dX6_gap_11 : decode cX6_gap 11 = .ok (.aload_n 0, 1) := by decide +kernel
theorem dX6_gap_12 : decode cX6_gap 12 = .ok (.getfield 56, 3) := by decide +kernel
theorem dX6_gap_15 : decode cX6_gap 15 = .ok (.invokevirtual 103, 3) := by decide +kernel
theorem dX6_gap_18 : decode cX6_gap 18 = .ok (.invokevirtual 167, 3) := by decide +kernel
theorem dX6_gap_21 : decode cX6_gap 21 = .ok (.istore_n 1, 1) := by decide +kernel
theorem dX6_gap_22 : decode cX6_gap 22 = .ok (.aload_n 0, 1) := by decide +kernel
theorem dX6_gap_23 : decode cX6_gap 23 = .ok (.invokevirtual 181, 3) := by decide +kernel
theorem dX6_gap_26 : decode cX6_gap 26 = .ok (.istore_n 2, 1) := by decide +kernel
theorem dX6_gap_27 : decode cX6_gap 27 = .ok (.iload_n 1, 1) := by decide +kernel
theorem dX6_gap_28 : decode cX6_gap 28 = .ok (.ifCond .lt 7, 3) := by decide +kernel
theorem dX6_gap_31 : decode cX6_gap 31 = .ok (.iload_n 2, 1) := by decide +kernel
theorem dX6_gap_32 : decode cX6_gap 32 = .ok (.ifCond .ge 7, 3) := by decide +kernel
theorem dX6_gap_35 : decode cX6_gap 35 = .ok (.iconst (-1), 1) := by decide +kernel
theorem dX6_gap_36 : decode cX6_gap 36 = .ok (.goto 6, 3) := by decide +kernel
theorem dX6_gap_39 : decode cX6_gap 39 = .ok (.iload_n 1, 1) := by decide +kernel
theorem dX6_gap_40 : decode cX6_gap 40 = .ok (.iload_n 2, 1) := by decide +kernel
theorem dX6_gap_41 : decode cX6_gap 41 = .ok (.isub, 1) := by decide +kernel
theorem dX6_gap_42 : decode cX6_gap 42 = .ok (.ireturn, 1) := by decide +kernel
set_option maxRecDepth 20000 in
theorem ggX6_parcel_X6_isParcel : GoodIn wsX6_parcel wsX6_isParcel := goodIn_r _ [5] (by decide +kernel) (by decide +kernel)
set_option maxRecDepth 20000 in
theorem gX6_parcel_X6_isParcel : GoodIn wsX6_parcel (va_wsS RX6 184 yX6_isParcel wsX6_isParcel) := goodIn_app (goodIn_of _ (by decide +kernel)) ggX6_parcel_X6_isParcel
set_option maxRecDepth 20000 in
theorem ggX6_parcel_X1_goodsIn : GoodIn wsX6_parcel wsX1_goodsIn := goodIn_r _ [10, 11, 12, 13, 9, 14, 15, 16, 4, 17, 122, 123, 124, 125] (by decide +kernel) (by decide +kernel)
set_option maxRecDepth 20000 in
theorem gX6_parcel_X1_goodsIn : GoodIn wsX6_parcel (wsV RX6 187 RX1 yX1_goodsIn wsX1_goodsIn) := goodIn_app (goodIn_of _ (by decide +kernel)) ggX6_parcel_X1_goodsIn
set_option maxRecDepth 20000 in
theorem ggX6_parcel_X1_carrierOf : GoodIn wsX6_parcel wsX1_carrierOf := goodIn_r _ [21, 15, 16, 4, 17, 122, 123, 124, 125] (by decide +kernel) (by decide +kernel)
set_option maxRecDepth 20000 in
theorem gX6_parcel_X1_carrierOf : GoodIn wsX6_parcel (wsV RX6 190 RX1 yX1_carrierOf wsX1_carrierOf) := goodIn_app (goodIn_of _ (by decide +kernel)) ggX6_parcel_X1_carrierOf
set_option maxRecDepth 20000 in
theorem ggX6_parcel_X1_claimedOf : GoodIn wsX6_parcel wsX1_claimedOf := goodIn_r _ [25, 15, 16, 4, 17, 122, 123, 124, 125] (by decide +kernel) (by decide +kernel)
set_option maxRecDepth 20000 in
theorem gX6_parcel_X1_claimedOf : GoodIn wsX6_parcel (wsV RX6 193 RX1 yX1_claimedOf wsX1_claimedOf) := goodIn_app (goodIn_of _ (by decide +kernel)) ggX6_parcel_X1_claimedOf
set_option maxRecDepth 20000 in
theorem ggX6_parcel_X6_parcelCharge : GoodIn wsX6_parcel wsX6_parcelCharge := goodIn_r _ [29, 1, 30, 6, 7, 8, 9, 10, 11, 12, 13, 14, 15, 16, 4, 17, 22, 23, 24, 25, 31, 32, 33, 34, 35, 36, 18, 19, 20, 21, 37, 38, 39, 40, 41, 42, 43, 44, 45, 46, 47, 48, 49, 50, 51, 52, 53, 54, 55, 56, 57, 58, 59, 60, 61, 62, 63, 64, 65, 66, 67, 68, 69, 70, 71, 72, 73, 74, 75, 76, 77, 78, 79, 80, 81, 82, 83, 84, 85, 86, 87, 88, 89, 90, 91, 92, 93, 94, 95, 96, 97, 98, 99, 100, 101, 102, 103, 104, 105, 106, 107, 108, 109, 110, 111, 112, 113, 114, 115, 116, 117, 118, 119, 120, 121, 122, 123, 124, 125, 126, 127, 128, 129, 130, 131, 132, 133, 134, 135, 136, 137, 138, 139] (by decide +kernel) (by decide +kernel)
set_option maxRecDepth 20000 in
theorem gX6_parcel_X6_parcelCharge : GoodIn wsX6_parcel (wsV RX6 196 RX6 yX6_parcelCharge wsX6_parcelCharge) := goodIn_app (goodIn_of _ (by decide +kernel)) ggX6_parcel_X6_parcelCharge
theorem dX6_parcel_0 : decode cX6_parcel 0 = .ok (.iload_n 1, 1) := by decide +kernel
theorem dX6_parcel_1 : decode cX6_parcel 1 = .ok (.invokestatic 184, 3) := by decide +kernel
theorem dX6_parcel_4 : decode cX6_parcel 4 = .ok (.ifCond .ne 6, 3) := by decide +kernel
theorem dX6_parcel_7 : decode cX6_parcel 7 = .ok (.bipush (-100), 2) := by decide +kernel
theorem dX6_parcel_9 : decode cX6_parcel 9 = .ok (.ireturn, 1) := by decide +kernel
theorem dX6_parcel_10 : decode cX6_parcel 10 = .ok (.iload_n 2, 1) := by decide +kernel
theorem dX6_parcel_11 : decode cX6_parcel 11 = .ok (.tableswitch 89 0 4 #[33, 42, 51, 75, 82], 33) := by decide +kernel
theorem dX6_parcel_44 : decode cX6_parcel 44 = .ok (.aload_n 0, 1) := by decide +kernel
theorem dX6_parcel_45 : decode cX6_parcel 45 = .ok (.getfield 56, 3) := by decide +kernel
theorem dX6_parcel_48 : decode cX6_parcel 48 = .ok (.iload_n 1, 1) := by decide +kernel
theorem dX6_parcel_49 : decode cX6_parcel 49 = .ok (.invokevirtual 187, 3) := by decide +kernel
theorem dX6_parcel_52 : decode cX6_parcel 52 = .ok (.ireturn, 1) := by decide +kernel
theorem dX6_parcel_53 : decode cX6_parcel 53 = .ok (.aload_n 0, 1) := by decide +kernel
theorem dX6_parcel_54 : decode cX6_parcel 54 = .ok (.getfield 56, 3) := by decide +kernel
theorem dX6_parcel_57 : decode cX6_parcel 57 = .ok (.iload_n 1, 1) := by decide +kernel
theorem dX6_parcel_58 : decode cX6_parcel 58 = .ok (.invokevirtual 190, 3) := by decide +kernel
theorem dX6_parcel_61 : decode cX6_parcel 61 = .ok (.ireturn, 1) := by decide +kernel
theorem dX6_parcel_62 : decode cX6_parcel 62 = .ok (.aload_n 0, 1) := by decide +kernel
theorem dX6_parcel_63 : decode cX6_parcel 63 = .ok (.getfield 56, 3) := by decide +kernel
theorem dX6_parcel_66 : decode cX6_parcel 66 = .ok (.iload_n 1, 1) := by decide +kernel
theorem dX6_parcel_67 : decode cX6_parcel 67 = .ok (.invokevirtual 193, 3) := by decide +kernel
theorem dX6_parcel_70 : decode cX6_parcel 70 = .ok (.ifCond .ne 7, 3) := by decide +kernel
theorem dX6_parcel_73 : decode cX6_parcel 73 = .ok (.iconst (-1), 1) := by decide +kernel
theorem dX6_parcel_74 : decode cX6_parcel 74 = .ok (.goto 11, 3) := by decide +kernel
theorem dX6_parcel_77 : decode cX6_parcel 77 = .ok (.aload_n 0, 1) := by decide +kernel
theorem dX6_parcel_78 : decode cX6_parcel 78 = .ok (.getfield 56, 3) := by decide +kernel
theorem dX6_parcel_81 : decode cX6_parcel 81 = .ok (.iload_n 1, 1) := by decide +kernel
theorem dX6_parcel_82 : decode cX6_parcel 82 = .ok (.invokevirtual 193, 3) := by decide +kernel
theorem dX6_parcel_85 : decode cX6_parcel 85 = .ok (.ireturn, 1) := by decide +kernel
theorem dX6_parcel_86 : decode cX6_parcel 86 = .ok (.aload_n 0, 1) := by decide +kernel
theorem dX6_parcel_87 : decode cX6_parcel 87 = .ok (.iload_n 1, 1) := by decide +kernel
theorem dX6_parcel_88 : decode cX6_parcel 88 = .ok (.iconst 0, 1) := by decide +kernel
theorem dX6_parcel_89 : decode cX6_parcel 89 = .ok (.invokevirtual 196, 3) := by decide +kernel
theorem dX6_parcel_92 : decode cX6_parcel 92 = .ok (.ireturn, 1) := by decide +kernel
theorem dX6_parcel_93 : decode cX6_parcel 93 = .ok (.aload_n 0, 1) := by decide +kernel
theorem dX6_parcel_94 : decode cX6_parcel 94 = .ok (.iload_n 1, 1) := by decide +kernel
theorem dX6_parcel_95 : decode cX6_parcel 95 = .ok (.iconst 1, 1) := by decide +kernel
theorem dX6_parcel_96 : decode cX6_parcel 96 = .ok (.invokevirtual 196, 3) := by decide +kernel
theorem dX6_parcel_99 : decode cX6_parcel 99 = .ok (.ireturn, 1) := by decide +kernel
theorem dX6_parcel_100 : decode cX6_parcel 100 = .ok (.bipush (-100), 2) := by decide +kernel
theorem dX6_parcel_102 : decode cX6_parcel 102 = .ok (.ireturn, 1) := by decide +kernel
set_option maxRecDepth 20000 in
theorem ggX6_total_X6_parcelCharge : GoodIn wsX6_total wsX6_parcelCharge := goodIn_r _ [5, 6, 7, 8, 9, 10, 11, 12, 13, 14, 15, 16, 17, 18, 4, 19, 20, 21, 22, 23, 24, 25, 26, 27, 28, 29, 30, 31, 32, 33, 34, 35, 36, 37, 38, 39, 40, 41, 42, 43, 44, 45, 46, 47, 48, 49, 50, 51, 52, 53, 54, 55, 56, 57, 58, 59, 60, 61, 62, 63, 64, 65, 66, 67, 68, 69, 70, 71, 72, 73, 74, 75, 76, 77, 78, 79, 80, 81, 82, 83, 84, 85, 86, 87, 88, 89, 90, 91, 92, 93, 94, 95, 96, 97, 98, 99, 100, 101, 102, 103, 104, 105, 106, 107, 108, 109, 110, 111, 112, 113, 114, 115, 116, 117, 118, 119, 120, 121, 122, 123, 124, 125, 126, 127, 128, 129, 130, 131, 132, 133, 134, 135, 136] (by decide +kernel) (by decide +kernel)
set_option maxRecDepth 20000 in
theorem gX6_total_X6_parcelCharge : GoodIn wsX6_total (wsV RX6 196 RX6 yX6_parcelCharge wsX6_parcelCharge) := goodIn_app (goodIn_of _ (by decide +kernel)) ggX6_total_X6_parcelCharge
theorem dX6_total_0 : decode cX6_total 0 = .ok (.iload_n 1, 1) := by decide +kernel
theorem dX6_total_1 : decode cX6_total 1 = .ok (.ifCond .lt 8, 3) := by decide +kernel
theorem dX6_total_4 : decode cX6_total 4 = .ok (.iload_n 1, 1) := by decide +kernel
theorem dX6_total_5 : decode cX6_total 5 = .ok (.iconst 1, 1) := by decide +kernel
theorem dX6_total_6 : decode cX6_total 6 = .ok (.if_icmp .le 5, 3) := by decide +kernel
theorem dX6_total_9 : decode cX6_total 9 = .ok (.iconst (-1), 1) := by decide +kernel
theorem dX6_total_10 : decode cX6_total 10 = .ok (.ireturn, 1) := by decide +kernel
theorem dX6_total_11 : decode cX6_total 11 = .ok (.iconst 0, 1) := by decide +kernel
theorem dX6_total_12 : decode cX6_total 12 = .ok (.istore_n 2, 1) := by decide +kernel
theorem dX6_total_13 : decode cX6_total 13 = .ok (.iconst 0, 1) := by decide +kernel
theorem dX6_total_14 : decode cX6_total 14 = .ok (.istore_n 3, 1) := by decide +kernel
theorem dX6_total_15 : decode cX6_total 15 = .ok (.iload_n 3, 1) := by decide +kernel
theorem dX6_total_16 : decode cX6_total 16 = .ok (.bipush 8, 2) := by decide +kernel
theorem dX6_total_18 : decode cX6_total 18 = .ok (.if_icmp .ge 39, 3) := by decide +kernel
theorem dX6_total_21 : decode cX6_total 21 = .ok (.aload_n 0, 1) := by decide +kernel
theorem dX6_total_22 : decode cX6_total 22 = .ok (.iload_n 3, 1) := by decide +kernel
theorem dX6_total_23 : decode cX6_total 23 = .ok (.iload_n 1, 1) := by decide +kernel
theorem dX6_total_24 : decode cX6_total 24 = .ok (.iconst 1, 1) := by decide +kernel
theorem dX6_total_25 : decode cX6_total 25 = .ok (.if_icmp .ne 7, 3) := by decide +kernel
theorem dX6_total_28 : decode cX6_total 28 = .ok (.iconst 1, 1) := by decide +kernel
theorem dX6_total_29 : decode cX6_total 29 = .ok (.goto 4, 3) := by decide +kernel
theorem dX6_total_32 : decode cX6_total 32 = .ok (.iconst 0, 1) := by decide +kernel
theorem dX6_total_33 : decode cX6_total 33 = .ok (.invokevirtual 196, 3) := by decide +kernel
theorem dX6_total_36 : decode cX6_total 36 = .ok (.istore 4, 2) := by decide +kernel
theorem dX6_total_38 : decode cX6_total 38 = .ok (.iload 4, 2) := by decide +kernel
theorem dX6_total_40 : decode cX6_total 40 = .ok (.ifCond .ge 6, 3) := by decide +kernel
theorem dX6_total_43 : decode cX6_total 43 = .ok (.bipush (-2), 2) := by decide +kernel
theorem dX6_total_45 : decode cX6_total 45 = .ok (.ireturn, 1) := by decide +kernel
theorem dX6_total_46 : decode cX6_total 46 = .ok (.iload_n 2, 1) := by decide +kernel
theorem dX6_total_47 : decode cX6_total 47 = .ok (.iload 4, 2) := by decide +kernel
theorem dX6_total_49 : decode cX6_total 49 = .ok (.iadd, 1) := by decide +kernel
theorem dX6_total_50 : decode cX6_total 50 = .ok (.istore_n 2, 1) := by decide +kernel
theorem dX6_total_51 : decode cX6_total 51 = .ok (.iinc 3 1, 3) := by decide +kernel
theorem dX6_total_54 : decode cX6_total 54 = .ok (.goto (-39), 3) := by decide +kernel
theorem dX6_total_57 : decode cX6_total 57 = .ok (.iload_n 2, 1) := by decide +kernel
theorem dX6_total_58 : decode cX6_total 58 = .ok (.ireturn, 1) := by decide +kernel
set_option maxRecDepth 20000 in
theorem ggX6_would_X6_isOrder : GoodIn wsX6_would wsX6_isOrder := goodIn_r _ [5] (by decide +kernel) (by decide +kernel)
set_option maxRecDepth 20000 in
theorem gX6_would_X6_isOrder : GoodIn wsX6_would (va_wsS RX6 200 yX6_isOrder wsX6_isOrder) := goodIn_app (goodIn_of _ (by decide +kernel)) ggX6_would_X6_isOrder
set_option maxRecDepth 20000 in
theorem ggX6_would_X4_leastCharge : GoodIn wsX6_would wsX4_leastCharge := goodIn_r _ [10, 11, 12, 13, 14, 15, 16, 17, 18, 19, 20, 21, 22, 23, 24, 25, 26, 27, 28, 29, 30, 31, 32, 33, 34, 4, 35, 36, 37, 38, 39, 40, 41, 42, 43, 44, 45, 46, 9, 47, 48, 49, 50, 51, 52, 53, 54, 55, 56, 57, 58, 59, 60, 61, 62, 63, 64, 65, 66, 67, 68, 69, 70, 71, 72, 73, 74, 75, 76, 77, 78, 79, 80, 81, 82, 83, 84, 85, 86, 87, 88, 89, 90, 91, 92, 93, 94, 95, 96, 97, 98, 99, 100, 101, 102, 103, 104, 105, 106, 107, 108, 109, 110, 111, 112, 113, 114, 115, 116, 117, 118, 119, 120, 121, 122, 123, 124, 125, 126, 127, 128, 129, 130, 131, 132, 133, 134, 135, 136, 137, 138, 139, 140, 141, 150, 151, 152, 153, 154, 155, 156, 157, 158, 159, 160, 161, 162, 163, 164, 165, 166, 167, 168, 169, 170, 171] (by decide +kernel) (by decide +kernel)
set_option maxRecDepth 20000 in
theorem gX6_would_X4_leastCharge : GoodIn wsX6_would (wsV RX6 167 RX4 yX4_leastCharge wsX4_leastCharge) := goodIn_app (goodIn_of _ (by decide +kernel)) ggX6_would_X4_leastCharge
theorem dX6_would_0 : decode cX6_would 0 = .ok (.iload_n 1, 1) := by decide +kernel
theorem dX6_would_1 : decode cX6_would 1 = .ok (.iload_n 2, 1) := by decide +kernel
theorem dX6_would_2 : decode cX6_would 2 = .ok (.invokestatic 200, 3) := by decide +kernel
theorem dX6_would_5 : decode cX6_would 5 = .ok (.ifCond .eq 15, 3) := by decide +kernel
theorem dX6_would_8 : decode cX6_would 8 = .ok (.aload_n 0, 1) := by decide +kernel
theorem dX6_would_9 : decode cX6_would 9 = .ok (.getfield 49, 3) := by decide +kernel
theorem dX6_would_12 : decode cX6_would 12 = .ok (.iload_n 1, 1) := by decide +kernel
theorem dX6_would_13 : decode cX6_would 13 = .ok (.iload_n 2, 1) := by decide +kernel
theorem dX6_would_14 : decode cX6_would 14 = .ok (.invokevirtual 167, 3) := by decide +kernel
theorem dX6_would_17 : decode cX6_would 17 = .ok (.goto 4, 3) := by decide +kernel
theorem dX6_would_20 : decode cX6_would 20 = .ok (.iconst (-1), 1) := by decide +kernel
theorem dX6_would_21 : decode cX6_would 21 = .ok (.ireturn, 1) := by decide +kernel
set_option maxRecDepth 20000 in
theorem ggX6_put_X0_hasGood : GoodIn wsX6_put wsX0_hasGood := goodIn_r _ [7, 8, 59, 60, 61, 62, 63, 64, 65, 66, 67, 68] (by decide +kernel) (by decide +kernel)
set_option maxRecDepth 20000 in
theorem gX6_put_X0_hasGood : GoodIn wsX6_put (wsV RX6 115 RX0 yX0_hasGood wsX0_hasGood) := goodIn_app (goodIn_of _ (by decide +kernel)) ggX6_put_X0_hasGood
set_option maxRecDepth 20000 in
theorem ggX6_put_X6_isParcel : GoodIn wsX6_put wsX6_isParcel := goodIn_r _ [12] (by decide +kernel) (by decide +kernel)
set_option maxRecDepth 20000 in
theorem gX6_put_X6_isParcel : GoodIn wsX6_put (va_wsS RX6 184 yX6_isParcel wsX6_isParcel) := goodIn_app (goodIn_of _ (by decide +kernel)) ggX6_put_X6_isParcel
set_option maxRecDepth 20000 in
theorem ggX6_put_X1_parcelOf : GoodIn wsX6_put wsX1_parcelOf := goodIn_r _ [17, 18, 19, 11, 20, 69, 70, 71, 72] (by decide +kernel) (by decide +kernel)
set_option maxRecDepth 20000 in
theorem gX6_put_X1_parcelOf : GoodIn wsX6_put (wsV RX6 129 RX1 yX1_parcelOf wsX1_parcelOf) := goodIn_app (goodIn_of _ (by decide +kernel)) ggX6_put_X1_parcelOf
set_option maxRecDepth 20000 in
theorem ggX6_put_X1_keep : GoodIn wsX6_put wsX1_keep := goodIn_r _ [24, 18, 25, 26, 27, 28, 29, 30, 31, 32, 11, 33, 34, 19, 20, 35, 36, 37, 69, 70, 71, 72] (by decide +kernel) (by decide +kernel)
set_option maxRecDepth 20000 in
theorem gX6_put_X1_keep : GoodIn wsX6_put (wsV RX6 204 RX1 yX1_keep wsX1_keep) := goodIn_app (goodIn_of _ (by decide +kernel)) ggX6_put_X1_keep
set_option maxRecDepth 20000 in
theorem ggX6_put_X1_moveGood : GoodIn wsX6_put wsX1_moveGood := goodIn_r _ [41, 18, 42, 14, 15, 16, 17, 19, 11, 20, 36, 37, 43, 44, 45, 46, 47, 48, 49, 50, 69, 70, 71, 72] (by decide +kernel) (by decide +kernel)
set_option maxRecDepth 20000 in
theorem gX6_put_X1_moveGood : GoodIn wsX6_put (wsV RX6 207 RX1 yX1_moveGood wsX1_moveGood) := goodIn_app (goodIn_of _ (by decide +kernel)) ggX6_put_X1_moveGood
theorem dX6_put_0 : decode cX6_put 0 = .ok (.aload_n 0, 1) := by decide +kernel
theorem dX6_put_1 : decode cX6_put 1 = .ok (.getfield 19, 3) := by decide +kernel
theorem dX6_put_4 : decode cX6_put 4 = .ok (.iload_n 1, 1) := by decide +kernel
theorem dX6_put_5 : decode cX6_put 5 = .ok (.invokevirtual 115, 3) := by decide +kernel
theorem dX6_put_8 : decode cX6_put 8 = .ok (.ifCond .eq 15, 3) := by decide +kernel
theorem dX6_put_11 : decode cX6_put 11 = .ok (.iload_n 2, 1) := by decide +kernel
theorem dX6_put_12 : decode cX6_put 12 = .ok (.iconst (-1), 1) := by decide +kernel
theorem dX6_put_13 : decode cX6_put 13 = .ok (.if_icmp .eq 13, 3) := by decide +kernel
theorem dX6_put_16 : decode cX6_put 16 = .ok (.iload_n 2, 1) := by decide +kernel
theorem dX6_put_17 : decode cX6_put 17 = .ok (.invokestatic 184, 3) := by decide +kernel
theorem dX6_put_20 : decode cX6_put 20 = .ok (.ifCond .ne 6, 3) := by decide +kernel
theorem dX6_put_23 : decode cX6_put 23 = .ok (.bipush (-3), 2) := by decide +kernel
theorem dX6_put_25 : decode cX6_put 25 = .ok (.ireturn, 1) := by decide +kernel
theorem dX6_put_26 : decode cX6_put 26 = .ok (.aload_n 0, 1) := by decide +kernel
theorem dX6_put_27 : decode cX6_put 27 = .ok (.getfield 56, 3) := by decide +kernel
theorem dX6_put_30 : decode cX6_put 30 = .ok (.iload_n 1, 1) := by decide +kernel
theorem dX6_put_31 : decode cX6_put 31 = .ok (.invokevirtual 129, 3) := by decide +kernel
theorem dX6_put_34 : decode cX6_put 34 = .ok (.istore_n 3, 1) := by decide +kernel
theorem dX6_put_35 : decode cX6_put 35 = .ok (.iload_n 3, 1) := by decide +kernel
theorem dX6_put_36 : decode cX6_put 36 = .ok (.iload_n 2, 1) := by decide +kernel
theorem dX6_put_37 : decode cX6_put 37 = .ok (.if_icmp .ne 6, 3) := by decide +kernel
theorem dX6_put_40 : decode cX6_put 40 = .ok (.bipush (-2), 2) := by decide +kernel
theorem dX6_put_42 : decode cX6_put 42 = .ok (.ireturn, 1) := by decide +kernel
theorem dX6_put_43 : decode cX6_put 43 = .ok (.aload_n 0, 1) := by decide +kernel
theorem dX6_put_44 : decode cX6_put 44 = .ok (.getfield 56, 3) := by decide +kernel
theorem dX6_put_47 : decode cX6_put 47 = .ok (.invokevirtual 204, 3) := by decide +kernel
theorem dX6_put_50 : decode cX6_put 50 = .ok (.aload_n 0, 1) := by decide +kernel
theorem dX6_put_51 : decode cX6_put 51 = .ok (.getfield 56, 3) := by decide +kernel
theorem dX6_put_54 : decode cX6_put 54 = .ok (.iload_n 1, 1) := by decide +kernel
theorem dX6_put_55 : decode cX6_put 55 = .ok (.iload_n 2, 1) := by decide +kernel
theorem dX6_put_56 : decode cX6_put 56 = .ok (.invokevirtual 207, 3) := by decide +kernel
theorem dX6_put_59 : decode cX6_put 59 = .ok (.iload_n 3, 1) := by decide +kernel
theorem dX6_put_60 : decode cX6_put 60 = .ok (.ireturn, 1) := by decide +kernel
set_option maxRecDepth 20000 in
theorem ggX6_by_X6_isParcel : GoodIn wsX6_by wsX6_isParcel := goodIn_r _ [6] (by decide +kernel) (by decide +kernel)
set_option maxRecDepth 20000 in
theorem gX6_by_X6_isParcel : GoodIn wsX6_by (va_wsS RX6 184 yX6_isParcel wsX6_isParcel) := goodIn_app (goodIn_of _ (by decide +kernel)) ggX6_by_X6_isParcel
set_option maxRecDepth 20000 in
theorem ggX6_by_X0_hasCarrier : GoodIn wsX6_by wsX0_hasCarrier := goodIn_r _ [11, 12, 50, 51, 52, 53, 54, 55, 56, 57, 58, 59] (by decide +kernel) (by decide +kernel)
set_option maxRecDepth 20000 in
theorem gX6_by_X0_hasCarrier : GoodIn wsX6_by (wsV RX6 135 RX0 yX0_hasCarrier wsX0_hasCarrier) := goodIn_app (goodIn_of _ (by decide +kernel)) ggX6_by_X0_hasCarrier
set_option maxRecDepth 20000 in
theorem ggX6_by_X1_carrierOf : GoodIn wsX6_by wsX1_carrierOf := goodIn_r _ [17, 18, 19, 5, 20, 60, 61, 62, 63] (by decide +kernel) (by decide +kernel)
set_option maxRecDepth 20000 in
theorem gX6_by_X1_carrierOf : GoodIn wsX6_by (wsV RX6 190 RX1 yX1_carrierOf wsX1_carrierOf) := goodIn_app (goodIn_of _ (by decide +kernel)) ggX6_by_X1_carrierOf
set_option maxRecDepth 20000 in
theorem ggX6_by_X1_keep : GoodIn wsX6_by wsX1_keep := goodIn_r _ [24, 18, 25, 26, 27, 28, 29, 30, 31, 32, 5, 33, 34, 19, 20, 35, 36, 37, 60, 61, 62, 63] (by decide +kernel) (by decide +kernel)
set_option maxRecDepth 20000 in
theorem gX6_by_X1_keep : GoodIn wsX6_by (wsV RX6 204 RX1 yX1_keep wsX1_keep) := goodIn_app (goodIn_of _ (by decide +kernel)) ggX6_by_X1_keep
set_option maxRecDepth 20000 in
theorem ggX6_by_X1_setCarrier : GoodIn wsX6_by wsX1_setCarrier := goodIn_r _ [41, 18, 36, 5, 37, 60, 61, 62, 63] (by decide +kernel) (by decide +kernel)
set_option maxRecDepth 20000 in
theorem gX6_by_X1_setCarrier : GoodIn wsX6_by (wsV RX6 211 RX1 yX1_setCarrier wsX1_setCarrier) := goodIn_app (goodIn_of _ (by decide +kernel)) ggX6_by_X1_setCarrier
theorem dX6_by_0 : decode cX6_by 0 = .ok (.iload_n 1, 1) := by decide +kernel
theorem dX6_by_1 : decode cX6_by 1 = .ok (.invokestatic 184, 3) := by decide +kernel
theorem dX6_by_4 : decode cX6_by 4 = .ok (.ifCond .eq 14, 3) := by decide +kernel
theorem dX6_by_7 : decode cX6_by 7 = .ok (.aload_n 0, 1) := by decide +kernel
theorem dX6_by_8 : decode cX6_by 8 = .ok (.getfield 19, 3) := by decide +kernel
theorem dX6_by_11 : decode cX6_by 11 = .ok (.iload_n 2, 1) := by decide +kernel
theorem dX6_by_12 : decode cX6_by 12 = .ok (.invokevirtual 135, 3) := by decide +kernel
theorem dX6_by_15 : decode cX6_by 15 = .ok (.ifCond .ne 5, 3) := by decide +kernel
theorem dX6_by_18 : decode cX6_by 18 = .ok (.iconst (-1), 1) := by decide +kernel
theorem dX6_by_19 : decode cX6_by 19 = .ok (.ireturn, 1) := by decide +kernel
theorem dX6_by_20 : decode cX6_by 20 = .ok (.aload_n 0, 1) := by decide +kernel
theorem dX6_by_21 : decode cX6_by 21 = .ok (.getfield 56, 3) := by decide +kernel
theorem dX6_by_24 : decode cX6_by 24 = .ok (.iload_n 1, 1) := by decide +kernel
theorem dX6_by_25 : decode cX6_by 25 = .ok (.invokevirtual 190, 3) := by decide +kernel
theorem dX6_by_28 : decode cX6_by 28 = .ok (.istore_n 3, 1) := by decide +kernel
theorem dX6_by_29 : decode cX6_by 29 = .ok (.aload_n 0, 1) := by decide +kernel
theorem dX6_by_30 : decode cX6_by 30 = .ok (.getfield 56, 3) := by decide +kernel
theorem dX6_by_33 : decode cX6_by 33 = .ok (.invokevirtual 204, 3) := by decide +kernel
theorem dX6_by_36 : decode cX6_by 36 = .ok (.aload_n 0, 1) := by decide +kernel
theorem dX6_by_37 : decode cX6_by 37 = .ok (.getfield 56, 3) := by decide +kernel
theorem dX6_by_40 : decode cX6_by 40 = .ok (.iload_n 1, 1) := by decide +kernel
theorem dX6_by_41 : decode cX6_by 41 = .ok (.iload_n 2, 1) := by decide +kernel
theorem dX6_by_42 : decode cX6_by 42 = .ok (.invokevirtual 211, 3) := by decide +kernel
theorem dX6_by_45 : decode cX6_by 45 = .ok (.iload_n 3, 1) := by decide +kernel
theorem dX6_by_46 : decode cX6_by 46 = .ok (.ireturn, 1) := by decide +kernel
set_option maxRecDepth 20000 in
theorem ggX6_take_X1_place : GoodIn wsX6_take wsX1_place := goodIn_r _ [8, 9, 223, 224, 225, 226] (by decide +kernel) (by decide +kernel)
set_option maxRecDepth 20000 in
theorem gX6_take_X1_place : GoodIn wsX6_take (wsV RX6 100 RX1 yX1_place wsX1_place) := goodIn_app (goodIn_of _ (by decide +kernel)) ggX6_take_X1_place
set_option maxRecDepth 20000 in
theorem ggX6_take_X1_day : GoodIn wsX6_take wsX1_day := goodIn_r _ [13, 9, 223, 224, 225, 226] (by decide +kernel) (by decide +kernel)
set_option maxRecDepth 20000 in
theorem gX6_take_X1_day : GoodIn wsX6_take (wsV RX6 103 RX1 yX1_day wsX1_day) := goodIn_app (goodIn_of _ (by decide +kernel)) ggX6_take_X1_day
set_option maxRecDepth 20000 in
theorem ggX6_take_X4_leastCharge : GoodIn wsX6_take wsX4_leastCharge := goodIn_r _ [18, 19, 20, 21, 22, 23, 24, 25, 26, 27, 28, 29, 30, 31, 32, 33, 34, 35, 36, 37, 38, 39, 40, 41, 42, 43, 44, 45, 46, 47, 48, 49, 50, 51, 52, 53, 54, 55, 17, 56, 57, 58, 59, 60, 61, 62, 63, 64, 65, 66, 67, 68, 69, 70, 71, 72, 73, 74, 75, 76, 77, 78, 79, 80, 81, 82, 83, 84, 85, 86, 87, 88, 89, 90, 91, 92, 93, 94, 95, 96, 97, 98, 99, 100, 101, 102, 103, 104, 105, 106, 107, 108, 109, 110, 111, 112, 113, 114, 115, 116, 117, 118, 119, 120, 121, 122, 123, 124, 125, 126, 127, 128, 129, 130, 131, 132, 133, 134, 135, 136, 137, 138, 139, 140, 141, 142, 143, 144, 145, 146, 147, 148, 149, 150, 227, 228, 229, 230, 231, 232, 233, 234, 235, 236, 237, 238, 239, 240, 241, 242, 243, 244, 245, 246, 247, 248] (by decide +kernel) (by decide +kernel)
set_option maxRecDepth 20000 in
theorem gX6_take_X4_leastCharge : GoodIn wsX6_take (wsV RX6 167 RX4 yX4_leastCharge wsX4_leastCharge) := goodIn_app (goodIn_of _ (by decide +kernel)) ggX6_take_X4_leastCharge
set_option maxRecDepth 20000 in
theorem ggX6_take_X4_leastRow : GoodIn wsX6_take wsX4_leastRow := goodIn_r _ [154, 19, 61, 21, 22, 23, 24, 25, 26, 27, 28, 29, 30, 31, 32, 33, 34, 35, 36, 37, 38, 39, 40, 41, 42, 43, 44, 45, 46, 47, 48, 49, 50, 51, 52, 227, 228, 229, 230, 231, 232, 233, 234, 235, 236, 237, 238, 239, 240, 241, 242, 243, 244, 245, 246, 247, 248] (by decide +kernel) (by decide +kernel)
set_option maxRecDepth 20000 in
theorem gX6_take_X4_leastRow : GoodIn wsX6_take (wsV RX6 170 RX4 yX4_leastRow wsX4_leastRow) := goodIn_app (goodIn_of _ (by decide +kernel)) ggX6_take_X4_leastRow
set_option maxRecDepth 20000 in
theorem ggX6_take_X1_keep : GoodIn wsX6_take wsX1_keep := goodIn_r _ [158, 9, 159, 160, 161, 162, 163, 96, 164, 165, 43, 166, 167, 42, 44, 168, 125, 126, 223, 224, 225, 226] (by decide +kernel) (by decide +kernel)
set_option maxRecDepth 20000 in
theorem gX6_take_X1_keep : GoodIn wsX6_take (wsV RX6 204 RX1 yX1_keep wsX1_keep) := goodIn_app (goodIn_of _ (by decide +kernel)) ggX6_take_X1_keep
set_option maxRecDepth 20000 in
theorem ggX6_take_X1_unpack : GoodIn wsX6_take wsX1_unpack := goodIn_r _ [172, 9, 173, 174, 175, 7, 176, 125, 43, 126, 177, 178, 179, 180, 223, 224, 225, 226] (by decide +kernel) (by decide +kernel)
set_option maxRecDepth 20000 in
theorem gX6_take_X1_unpack : GoodIn wsX6_take (wsV RX6 214 RX1 yX1_unpack wsX1_unpack) := goodIn_app (goodIn_of _ (by decide +kernel)) ggX6_take_X1_unpack
set_option maxRecDepth 20000 in
theorem ggX6_take_X0_goodCount : GoodIn wsX6_take wsX0_goodCount := goodIn_r _ [184, 66, 239, 240, 241, 242, 243, 244, 245, 246, 247, 248] (by decide +kernel) (by decide +kernel)
set_option maxRecDepth 20000 in
theorem gX6_take_X0_goodCount : GoodIn wsX6_take (wsV RX6 97 RX0 yX0_goodCount wsX0_goodCount) := goodIn_app (goodIn_of _ (by decide +kernel)) ggX6_take_X0_goodCount
set_option maxRecDepth 20000 in
theorem ggX6_take_X4_parcelIn : GoodIn wsX6_take wsX4_parcelIn := goodIn_r _ [187, 188, 189, 17, 190, 191, 192, 193] (by decide +kernel) (by decide +kernel)
set_option maxRecDepth 20000 in
theorem gX6_take_X4_parcelIn : GoodIn wsX6_take (va_wsS RX6 174 yX4_parcelIn wsX4_parcelIn) := goodIn_app (goodIn_of _ (by decide +kernel)) ggX6_take_X4_parcelIn
set_option maxRecDepth 20000 in
theorem ggX6_take_X1_moveGood : GoodIn wsX6_take wsX1_moveGood := goodIn_r _ [197, 9, 198, 199, 200, 7, 201, 42, 43, 44, 125, 126, 202, 203, 204, 205, 177, 178, 179, 180, 223, 224, 225, 226] (by decide +kernel) (by decide +kernel)
set_option maxRecDepth 20000 in
theorem gX6_take_X1_moveGood : GoodIn wsX6_take (wsV RX6 207 RX1 yX1_moveGood wsX1_moveGood) := goodIn_app (goodIn_of _ (by decide +kernel)) ggX6_take_X1_moveGood
set_option maxRecDepth 20000 in
theorem ggX6_take_X4_carrierIn : GoodIn wsX6_take wsX4_carrierIn := goodIn_r _ [208, 188, 189, 17, 190, 191, 192, 193] (by decide +kernel) (by decide +kernel)
set_option maxRecDepth 20000 in
theorem gX6_take_X4_carrierIn : GoodIn wsX6_take (va_wsS RX6 178 yX4_carrierIn wsX4_carrierIn) := goodIn_app (goodIn_of _ (by decide +kernel)) ggX6_take_X4_carrierIn
set_option maxRecDepth 20000 in
theorem ggX6_take_X1_setCarrier : GoodIn wsX6_take wsX1_setCarrier := goodIn_r _ [176, 9, 125, 43, 126, 223, 224, 225, 226] (by decide +kernel) (by decide +kernel)
set_option maxRecDepth 20000 in
theorem gX6_take_X1_setCarrier : GoodIn wsX6_take (wsV RX6 211 RX1 yX1_setCarrier wsX1_setCarrier) := goodIn_app (goodIn_of _ (by decide +kernel)) ggX6_take_X1_setCarrier
set_option maxRecDepth 20000 in
theorem ggX6_take_X1_filledParcels : GoodIn wsX6_take wsX1_filledParcels := goodIn_r _ [213, 198, 199, 200, 7, 201, 9, 42, 43, 44, 223, 224, 225, 226] (by decide +kernel) (by decide +kernel)
set_option maxRecDepth 20000 in
theorem gX6_take_X1_filledParcels : GoodIn wsX6_take (wsV RX6 109 RX1 yX1_filledParcels wsX1_filledParcels) := goodIn_app (goodIn_of _ (by decide +kernel)) ggX6_take_X1_filledParcels
set_option maxRecDepth 20000 in
theorem ggX6_take_J6_bitCount_0f7a4 : GoodIn wsX6_take wsJ6_bitCount_0f7a4 := goodIn_r _ [121, 122, 123, 124] (by decide +kernel) (by decide +kernel)
set_option maxRecDepth 20000 in
theorem gX6_take_J6_bitCount_0f7a4 : GoodIn wsX6_take (va_wsS RX6 217 yJ6_bitCount_0f7a4 wsJ6_bitCount_0f7a4) := goodIn_app (goodIn_of _ (by decide +kernel)) ggX6_take_J6_bitCount_0f7a4
theorem dX6_take_0 : decode cX6_take 0 = .ok (.aload_n 0, 1) := by decide +kernel
theorem dX6_take_1 : decode cX6_take 1 = .ok (.getfield 49, 3) := by decide +kernel
theorem dX6_take_4 : decode cX6_take 4 = .ok (.aload_n 0, 1) := by decide +kernel
theorem dX6_take_5 : decode cX6_take 5 = .ok (.getfield 56, 3) := by decide +kernel
theorem dX6_take_8 : decode cX6_take 8 = .ok (.invokevirtual 100, 3) := by decide +kernel
theorem dX6_take_11 : decode cX6_take 11 = .ok (.aload_n 0, 1) := by decide +kernel
theorem dX6_take_12 : decode cX6_take 12 = .ok (.getfield 56, 3) := by decide +kernel
theorem dX6_take_15 : decode cX6_take 15 = .ok (.invokevirtual 103, 3) := by decide +kernel
theorem dX6_take_18 : decode cX6_take 18 = .ok (.invokevirtual 167, 3) := by decide +kernel
theorem dX6_take_21 : decode cX6_take 21 = .ok (.ifCond .ge 6, 3) := by decide +kernel
theorem dX6_take_24 : decode cX6_take 24 = .ok (.bipush (-2), 2) := by decide +kernel
theorem dX6_take_26 : decode cX6_take 26 = .ok (.ireturn, 1) := by decide +kernel
theorem dX6_take_27 : decode cX6_take 27 = .ok (.aload_n 0, 1) := by decide +kernel
theorem dX6_take_28 : decode cX6_take 28 = .ok (.getfield 49, 3) := by decide +kernel
theorem dX6_take_31 : decode cX6_take 31 = .ok (.aload_n 0, 1) := by decide +kernel
theorem dX6_take_32 : decode cX6_take 32 = .ok (.getfield 56, 3) := by decide +kernel
theorem dX6_take_35 : decode cX6_take 35 = .ok (.invokevirtual 100, 3) := by decide +kernel
theorem dX6_take_38 : decode cX6_take 38 = .ok (.aload_n 0, 1) := by decide +kernel
theorem dX6_take_39 : decode cX6_take 39 = .ok (.getfield 56, 3) := by decide +kernel
theorem dX6_take_42 : decode cX6_take 42 = .ok (.invokevirtual 103, 3) := by decide +kernel
theorem dX6_take_45 : decode cX6_take 45 = .ok (.invokevirtual 170, 3) := by decide +kernel
theorem dX6_take_48 : decode cX6_take 48 = .ok (.lstore_n 1, 1) := by decide +kernel
theorem dX6_take_49 : decode cX6_take 49 = .ok (.aload_n 0, 1) := by decide +kernel
theorem dX6_take_50 : decode cX6_take 50 = .ok (.getfield 56, 3) := by decide +kernel
theorem dX6_take_53 : decode cX6_take 53 = .ok (.invokevirtual 204, 3) := by decide +kernel
theorem dX6_take_56 : decode cX6_take 56 = .ok (.aload_n 0, 1) := by decide +kernel
theorem dX6_take_57 : decode cX6_take 57 = .ok (.getfield 56, 3) := by decide +kernel
theorem dX6_take_60 : decode cX6_take 60 = .ok (.invokevirtual 214, 3) := by decide +kernel
theorem dX6_take_63 : decode cX6_take 63 = .ok (.iconst 0, 1) := by decide +kernel
theorem dX6_take_64 : decode cX6_take 64 = .ok (.istore_n 3, 1) := by decide +kernel
theorem dX6_take_65 : decode cX6_take 65 = .ok (.iload_n 3, 1) := by decide +kernel
theorem dX6_take_66 : decode cX6_take 66 = .ok (.aload_n 0, 1) := by decide +kernel
theorem dX6_take_67 : decode cX6_take 67 = .ok (.getfield 19, 3) := by decide +kernel
theorem dX6_take_70 : decode cX6_take 70 = .ok (.invokevirtual 97, 3) := by decide +kernel
theorem dX6_take_73 : decode cX6_take 73 = .ok (.if_icmp .ge 40, 3) := by decide +kernel
theorem dX6_take_76 : decode cX6_take 76 = .ok (.lload_n 1, 1) := by decide +kernel
theorem dX6_take_77 : decode cX6_take 77 = .ok (.iload_n 3, 1) := by decide +kernel
theorem dX6_take_78 : decode cX6_take 78 = .ok (.invokestatic 174, 3) := by decide +kernel
theorem dX6_take_81 : decode cX6_take 81 = .ok (.istore 4, 2) := by decide +kernel
theorem dX6_take_83 : decode cX6_take 83 = .ok (.aload_n 0, 1) := by decide +kernel
theorem dX6_take_84 : decode cX6_take 84 = .ok (.getfield 56, 3) := by decide +kernel
theorem dX6_take_87 : decode cX6_take 87 = .ok (.iload_n 3, 1) := by decide +kernel
theorem dX6_take_88 : decode cX6_take 88 = .ok (.iload 4, 2) := by decide +kernel
theorem dX6_take_90 : decode cX6_take 90 = .ok (.invokevirtual 207, 3) := by decide +kernel
theorem dX6_take_93 : decode cX6_take 93 = .ok (.aload_n 0, 1) := by decide +kernel
theorem dX6_take_94 : decode cX6_take 94 = .ok (.getfield 56, 3) := by decide +kernel
theorem dX6_take_97 : decode cX6_take 97 = .ok (.iload 4, 2) := by decide +kernel
theorem dX6_take_99 : decode cX6_take 99 = .ok (.lload_n 1, 1) := by decide +kernel
theorem dX6_take_100 : decode cX6_take 100 = .ok (.iload_n 3, 1) := by decide +kernel
theorem dX6_take_101 : decode cX6_take 101 = .ok (.invokestatic 178, 3) := by decide +kernel
theorem dX6_take_104 : decode cX6_take 104 = .ok (.invokevirtual 211, 3) := by decide +kernel
theorem dX6_take_107 : decode cX6_take 107 = .ok (.iinc 3 1, 3) := by decide +kernel
theorem dX6_take_110 : decode cX6_take 110 = .ok (.goto (-45), 3) := by decide +kernel
theorem dX6_take_113 : decode cX6_take 113 = .ok (.aload_n 0, 1) := by decide +kernel
theorem dX6_take_114 : decode cX6_take 114 = .ok (.getfield 56, 3) := by decide +kernel
theorem dX6_take_117 : decode cX6_take 117 = .ok (.invokevirtual 109, 3) := by decide +kernel
theorem dX6_take_120 : decode cX6_take 120 = .ok (.invokestatic 217, 3) := by decide +kernel
theorem dX6_take_123 : decode cX6_take 123 = .ok (.ireturn, 1) := by decide +kernel
set_option maxRecDepth 20000 in
theorem ggX6_claim_X6_isParcel : GoodIn wsX6_claim wsX6_isParcel := goodIn_r _ [5] (by decide +kernel) (by decide +kernel)
set_option maxRecDepth 20000 in
theorem gX6_claim_X6_isParcel : GoodIn wsX6_claim (va_wsS RX6 184 yX6_isParcel wsX6_isParcel) := goodIn_app (goodIn_of _ (by decide +kernel)) ggX6_claim_X6_isParcel
set_option maxRecDepth 20000 in
theorem ggX6_claim_X1_goodsIn : GoodIn wsX6_claim wsX1_goodsIn := goodIn_r _ [10, 11, 12, 13, 9, 14, 15, 16, 4, 17, 51, 52, 53, 54] (by decide +kernel) (by decide +kernel)
set_option maxRecDepth 20000 in
theorem gX6_claim_X1_goodsIn : GoodIn wsX6_claim (wsV RX6 187 RX1 yX1_goodsIn wsX1_goodsIn) := goodIn_app (goodIn_of _ (by decide +kernel)) ggX6_claim_X1_goodsIn
set_option maxRecDepth 20000 in
theorem ggX6_claim_X1_claimedOf : GoodIn wsX6_claim wsX1_claimedOf := goodIn_r _ [21, 15, 16, 4, 17, 51, 52, 53, 54] (by decide +kernel) (by decide +kernel)
set_option maxRecDepth 20000 in
theorem gX6_claim_X1_claimedOf : GoodIn wsX6_claim (wsV RX6 193 RX1 yX1_claimedOf wsX1_claimedOf) := goodIn_app (goodIn_of _ (by decide +kernel)) ggX6_claim_X1_claimedOf
set_option maxRecDepth 20000 in
theorem ggX6_claim_X1_keep : GoodIn wsX6_claim wsX1_keep := goodIn_r _ [25, 15, 26, 27, 28, 29, 30, 31, 32, 33, 4, 34, 35, 16, 17, 36, 37, 38, 51, 52, 53, 54] (by decide +kernel) (by decide +kernel)
set_option maxRecDepth 20000 in
theorem gX6_claim_X1_keep : GoodIn wsX6_claim (wsV RX6 204 RX1 yX1_keep wsX1_keep) := goodIn_app (goodIn_of _ (by decide +kernel)) ggX6_claim_X1_keep
set_option maxRecDepth 20000 in
theorem ggX6_claim_X1_setClaimed : GoodIn wsX6_claim wsX1_setClaimed := goodIn_r _ [42, 15, 37, 4, 38, 51, 52, 53, 54] (by decide +kernel) (by decide +kernel)
set_option maxRecDepth 20000 in
theorem gX6_claim_X1_setClaimed : GoodIn wsX6_claim (wsV RX6 222 RX1 yX1_setClaimed wsX1_setClaimed) := goodIn_app (goodIn_of _ (by decide +kernel)) ggX6_claim_X1_setClaimed
theorem dX6_claim_0 : decode cX6_claim 0 = .ok (.iload_n 1, 1) := by decide +kernel
theorem dX6_claim_1 : decode cX6_claim 1 = .ok (.invokestatic 184, 3) := by decide +kernel
theorem dX6_claim_4 : decode cX6_claim 4 = .ok (.ifCond .eq 24, 3) := by decide +kernel
theorem dX6_claim_7 : decode cX6_claim 7 = .ok (.iload_n 2, 1) := by decide +kernel
theorem dX6_claim_8 : decode cX6_claim 8 = .ok (.ifCond .lt 20, 3) := by decide +kernel
theorem dX6_claim_11 : decode cX6_claim 11 = .ok (.iload_n 2, 1) := by decide +kernel
theorem dX6_claim_12 : decode cX6_claim 12 = .ok (.bipush 99, 2) := by decide +kernel
theorem dX6_claim_14 : decode cX6_claim 14 = .ok (.if_icmp .gt 14, 3) := by decide +kernel
theorem dX6_claim_17 : decode cX6_claim 17 = .ok (.aload_n 0, 1) := by decide +kernel
theorem dX6_claim_18 : decode cX6_claim 18 = .ok (.getfield 56, 3) := by decide +kernel
theorem dX6_claim_21 : decode cX6_claim 21 = .ok (.iload_n 1, 1) := by decide +kernel
theorem dX6_claim_22 : decode cX6_claim 22 = .ok (.invokevirtual 187, 3) := by decide +kernel
theorem dX6_claim_25 : decode cX6_claim 25 = .ok (.ifCond .ne 5, 3) := by decide +kernel
theorem dX6_claim_28 : decode cX6_claim 28 = .ok (.iconst (-1), 1) := by decide +kernel
theorem dX6_claim_29 : decode cX6_claim 29 = .ok (.ireturn, 1) := by decide +kernel
theorem dX6_claim_30 : decode cX6_claim 30 = .ok (.aload_n 0, 1) := by decide +kernel
theorem dX6_claim_31 : decode cX6_claim 31 = .ok (.getfield 56, 3) := by decide +kernel
theorem dX6_claim_34 : decode cX6_claim 34 = .ok (.iload_n 1, 1) := by decide +kernel
theorem dX6_claim_35 : decode cX6_claim 35 = .ok (.invokevirtual 193, 3) := by decide +kernel
theorem dX6_claim_38 : decode cX6_claim 38 = .ok (.istore_n 3, 1) := by decide +kernel
theorem dX6_claim_39 : decode cX6_claim 39 = .ok (.aload_n 0, 1) := by decide +kernel
theorem dX6_claim_40 : decode cX6_claim 40 = .ok (.getfield 56, 3) := by decide +kernel
theorem dX6_claim_43 : decode cX6_claim 43 = .ok (.invokevirtual 204, 3) := by decide +kernel
theorem dX6_claim_46 : decode cX6_claim 46 = .ok (.aload_n 0, 1) := by decide +kernel
theorem dX6_claim_47 : decode cX6_claim 47 = .ok (.getfield 56, 3) := by decide +kernel
theorem dX6_claim_50 : decode cX6_claim 50 = .ok (.iload_n 1, 1) := by decide +kernel
theorem dX6_claim_51 : decode cX6_claim 51 = .ok (.iload_n 2, 1) := by decide +kernel
theorem dX6_claim_52 : decode cX6_claim 52 = .ok (.invokevirtual 222, 3) := by decide +kernel
theorem dX6_claim_55 : decode cX6_claim 55 = .ok (.iload_n 3, 1) := by decide +kernel
theorem dX6_claim_56 : decode cX6_claim 56 = .ok (.ireturn, 1) := by decide +kernel
set_option maxRecDepth 20000 in
theorem ggX6_order_X6_isOrder : GoodIn wsX6_order wsX6_isOrder := goodIn_r _ [5] (by decide +kernel) (by decide +kernel)
set_option maxRecDepth 20000 in
theorem gX6_order_X6_isOrder : GoodIn wsX6_order (va_wsS RX6 200 yX6_isOrder wsX6_isOrder) := goodIn_app (goodIn_of _ (by decide +kernel)) ggX6_order_X6_isOrder
set_option maxRecDepth 20000 in
theorem ggX6_order_X1_keep : GoodIn wsX6_order wsX1_keep := goodIn_r _ [10, 11, 12, 13, 14, 15, 16, 17, 18, 19, 4, 20, 21, 22, 23, 24, 25, 26, 39, 40, 41, 42] (by decide +kernel) (by decide +kernel)
set_option maxRecDepth 20000 in
theorem gX6_order_X1_keep : GoodIn wsX6_order (wsV RX6 204 RX1 yX1_keep wsX1_keep) := goodIn_app (goodIn_of _ (by decide +kernel)) ggX6_order_X1_keep
set_option maxRecDepth 20000 in
theorem ggX6_order_X1_setOrder : GoodIn wsX6_order wsX1_setOrder := goodIn_r _ [30, 11, 39, 40, 41, 42] (by decide +kernel) (by decide +kernel)
set_option maxRecDepth 20000 in
theorem gX6_order_X1_setOrder : GoodIn wsX6_order (wsV RX6 225 RX1 yX1_setOrder wsX1_setOrder) := goodIn_app (goodIn_of _ (by decide +kernel)) ggX6_order_X1_setOrder
theorem dX6_order_0 : decode cX6_order 0 = .ok (.iload_n 1, 1) := by decide +kernel
theorem dX6_order_1 : decode cX6_order 1 = .ok (.iload_n 2, 1) := by decide +kernel
theorem dX6_order_2 : decode cX6_order 2 = .ok (.invokestatic 200, 3) := by decide +kernel
theorem dX6_order_5 : decode cX6_order 5 = .ok (.ifCond .ne 5, 3) := by decide +kernel
theorem dX6_order_8 : decode cX6_order 8 = .ok (.iconst 0, 1) := by decide +kernel
theorem dX6_order_9 : decode cX6_order 9 = .ok (.ireturn, 1) := by decide +kernel
theorem dX6_order_10 : decode cX6_order 10 = .ok (.aload_n 0, 1) := by decide +kernel
theorem dX6_order_11 : decode cX6_order 11 = .ok (.getfield 56, 3) := by decide +kernel
theorem dX6_order_14 : decode cX6_order 14 = .ok (.invokevirtual 204, 3) := by decide +kernel
theorem dX6_order_17 : decode cX6_order 17 = .ok (.aload_n 0, 1) := by decide +kernel
theorem dX6_order_18 : decode cX6_order 18 = .ok (.getfield 56, 3) := by decide +kernel
theorem dX6_order_21 : decode cX6_order 21 = .ok (.iload_n 1, 1) := by decide +kernel
theorem dX6_order_22 : decode cX6_order 22 = .ok (.iload_n 2, 1) := by decide +kernel
theorem dX6_order_23 : decode cX6_order 23 = .ok (.invokevirtual 225, 3) := by decide +kernel
theorem dX6_order_26 : decode cX6_order 26 = .ok (.iconst 1, 1) := by decide +kernel
theorem dX6_order_27 : decode cX6_order 27 = .ok (.ireturn, 1) := by decide +kernel
set_option maxRecDepth 20000 in
theorem ggX6_undo_X1_goBack : GoodIn wsX6_undo wsX1_goBack := goodIn_r _ [6, 7, 8, 9, 10, 11, 12, 13, 14, 15, 16, 17, 18, 19, 32, 33, 34, 35] (by decide +kernel) (by decide +kernel)
set_option maxRecDepth 20000 in
theorem gX6_undo_X1_goBack : GoodIn wsX6_undo (wsV RX6 228 RX1 yX1_goBack wsX1_goBack) := goodIn_app (goodIn_of _ (by decide +kernel)) ggX6_undo_X1_goBack
set_option maxRecDepth 20000 in
theorem ggX6_undo_X1_keptCount : GoodIn wsX6_undo wsX1_keptCount := goodIn_r _ [23, 7, 32, 33, 34, 35] (by decide +kernel) (by decide +kernel)
set_option maxRecDepth 20000 in
theorem gX6_undo_X1_keptCount : GoodIn wsX6_undo (wsV RX6 112 RX1 yX1_keptCount wsX1_keptCount) := goodIn_app (goodIn_of _ (by decide +kernel)) ggX6_undo_X1_keptCount
theorem dX6_undo_0 : decode cX6_undo 0 = .ok (.aload_n 0, 1) := by decide +kernel
theorem dX6_undo_1 : decode cX6_undo 1 = .ok (.getfield 56, 3) := by decide +kernel
theorem dX6_undo_4 : decode cX6_undo 4 = .ok (.invokevirtual 228, 3) := by decide +kernel
theorem dX6_undo_7 : decode cX6_undo 7 = .ok (.ifCond .eq 13, 3) := by decide +kernel
theorem dX6_undo_10 : decode cX6_undo 10 = .ok (.aload_n 0, 1) := by decide +kernel
theorem dX6_undo_11 : decode cX6_undo 11 = .ok (.getfield 56, 3) := by decide +kernel
theorem dX6_undo_14 : decode cX6_undo 14 = .ok (.invokevirtual 112, 3) := by decide +kernel
theorem dX6_undo_17 : decode cX6_undo 17 = .ok (.goto 4, 3) := by decide +kernel
theorem dX6_undo_20 : decode cX6_undo 20 = .ok (.iconst (-1), 1) := by decide +kernel
theorem dX6_undo_21 : decode cX6_undo 21 = .ok (.ireturn, 1) := by decide +kernel
set_option maxRecDepth 20000 in
theorem ggX6_beginAnew_X2_learn : GoodIn wsX6_beginAnew wsX2_learn := goodIn_r _ [9, 10, 11, 12, 13, 14, 15, 16, 17, 18, 19, 20, 21, 22, 23, 24, 25, 26, 27, 28, 29, 30, 31, 32, 33, 34, 35, 36, 37, 38, 39, 40, 41, 42, 43, 44, 45, 46, 47, 8, 48, 49, 50, 51, 52, 105, 106, 107, 108, 109, 110, 111, 112, 113, 114, 115, 116, 117, 118] (by decide +kernel) (by decide +kernel)
set_option maxRecDepth 20000 in
theorem gX6_beginAnew_X2_learn : GoodIn wsX6_beginAnew (wsV RX6 231 RX2 yX2_learn wsX2_learn) := goodIn_app (goodIn_of _ (by decide +kernel)) ggX6_beginAnew_X2_learn
set_option maxRecDepth 20000 in
theorem ggX6_beginAnew_X4_forget : GoodIn wsX6_beginAnew wsX4_forget := goodIn_r _ [57, 58, 59, 60, 61, 62, 119, 120, 121, 122, 123, 124, 125, 126] (by decide +kernel) (by decide +kernel)
set_option maxRecDepth 20000 in
theorem gX6_beginAnew_X4_forget : GoodIn wsX6_beginAnew (wsV RX6 234 RX4 yX4_forget wsX4_forget) := goodIn_app (goodIn_of _ (by decide +kernel)) ggX6_beginAnew_X4_forget
set_option maxRecDepth 20000 in
theorem ggX6_beginAnew_X0_place : GoodIn wsX6_beginAnew wsX0_place := goodIn_r _ [66, 67, 109, 110, 111, 112, 113, 114, 115, 116, 117, 118] (by decide +kernel) (by decide +kernel)
set_option maxRecDepth 20000 in
theorem gX6_beginAnew_X0_place : GoodIn wsX6_beginAnew (wsV RX6 237 RX0 yX0_place wsX0_place) := goodIn_app (goodIn_of _ (by decide +kernel)) ggX6_beginAnew_X0_place
set_option maxRecDepth 20000 in
theorem ggX6_beginAnew_X0_day : GoodIn wsX6_beginAnew wsX0_day := goodIn_r _ [71, 72, 109, 110, 111, 112, 113, 114, 115, 116, 117, 118] (by decide +kernel) (by decide +kernel)
set_option maxRecDepth 20000 in
theorem gX6_beginAnew_X0_day : GoodIn wsX6_beginAnew (wsV RX6 238 RX0 yX0_day wsX0_day) := goodIn_app (goodIn_of _ (by decide +kernel)) ggX6_beginAnew_X0_day
set_option maxRecDepth 20000 in
theorem ggX6_beginAnew_X1_begin : GoodIn wsX6_beginAnew wsX1_begin := goodIn_r _ [77, 78, 79, 80, 81, 82, 76, 83, 84, 85, 86, 87, 88, 33, 26, 34, 89, 90, 91, 92, 93, 94, 95, 96, 127, 128, 129, 130] (by decide +kernel) (by decide +kernel)
set_option maxRecDepth 20000 in
theorem gX6_beginAnew_X1_begin : GoodIn wsX6_beginAnew (wsV RX6 239 RX1 yX1_begin wsX1_begin) := goodIn_app (goodIn_of _ (by decide +kernel)) ggX6_beginAnew_X1_begin
theorem dX6_beginAnew_0 : decode cX6_beginAnew 0 = .ok (.aload_n 0, 1) := by decide +kernel
theorem dX6_beginAnew_1 : decode cX6_beginAnew 1 = .ok (.getfield 40, 3) := by decide +kernel
theorem dX6_beginAnew_4 : decode cX6_beginAnew 4 = .ok (.invokevirtual 231, 3) := by decide +kernel
theorem dX6_beginAnew_7 : decode cX6_beginAnew 7 = .ok (.aload_n 0, 1) := by decide +kernel
theorem dX6_beginAnew_8 : decode cX6_beginAnew 8 = .ok (.getfield 49, 3) := by decide +kernel
theorem dX6_beginAnew_11 : decode cX6_beginAnew 11 = .ok (.invokevirtual 234, 3) := by decide +kernel
theorem dX6_beginAnew_14 : decode cX6_beginAnew 14 = .ok (.aload_n 0, 1) := by decide +kernel
theorem dX6_beginAnew_15 : decode cX6_beginAnew 15 = .ok (.getfield 56, 3) := by decide +kernel
theorem dX6_beginAnew_18 : decode cX6_beginAnew 18 = .ok (.aload_n 0, 1) := by decide +kernel
theorem dX6_beginAnew_19 : decode cX6_beginAnew 19 = .ok (.getfield 19, 3) := by decide +kernel
theorem dX6_beginAnew_22 : decode cX6_beginAnew 22 = .ok (.invokevirtual 237, 3) := by decide +kernel
theorem dX6_beginAnew_25 : decode cX6_beginAnew 25 = .ok (.aload_n 0, 1) := by decide +kernel
theorem dX6_beginAnew_26 : decode cX6_beginAnew 26 = .ok (.getfield 19, 3) := by decide +kernel
theorem dX6_beginAnew_29 : decode cX6_beginAnew 29 = .ok (.invokevirtual 238, 3) := by decide +kernel
theorem dX6_beginAnew_32 : decode cX6_beginAnew 32 = .ok (.invokevirtual 239, 3) := by decide +kernel
theorem dX6_beginAnew_35 : decode cX6_beginAnew 35 = .ok (.return_, 1) := by decide +kernel
set_option maxRecDepth 20000 in
theorem ggX6_zoneNow_X1_place : GoodIn wsX6_zoneNow wsX1_place := goodIn_r _ [7, 8, 44, 45, 46, 47] (by decide +kernel) (by decide +kernel)
set_option maxRecDepth 20000 in
theorem gX6_zoneNow_X1_place : GoodIn wsX6_zoneNow (wsV RX6 100 RX1 yX1_place wsX1_place) := goodIn_app (goodIn_of _ (by decide +kernel)) ggX6_zoneNow_X1_place
set_option maxRecDepth 20000 in
theorem ggX6_zoneNow_X1_day : GoodIn wsX6_zoneNow wsX1_day := goodIn_r _ [12, 8, 44, 45, 46, 47] (by decide +kernel) (by decide +kernel)
set_option maxRecDepth 20000 in
theorem gX6_zoneNow_X1_day : GoodIn wsX6_zoneNow (wsV RX6 103 RX1 yX1_day wsX1_day) := goodIn_app (goodIn_of _ (by decide +kernel)) ggX6_zoneNow_X1_day
set_option maxRecDepth 20000 in
theorem ggX6_zoneNow_X2_zoneOf : GoodIn wsX6_zoneNow wsX2_zoneOf := goodIn_r _ [17, 18, 19, 20, 21, 22, 23, 24, 25, 26, 27, 28, 29, 30, 31, 32, 33, 34, 35, 48, 49, 50, 51, 52, 53, 54, 55, 56, 57, 58, 59, 60, 61] (by decide +kernel) (by decide +kernel)
set_option maxRecDepth 20000 in
theorem gX6_zoneNow_X2_zoneOf : GoodIn wsX6_zoneNow (wsV RX6 242 RX2 yX2_zoneOf wsX2_zoneOf) := goodIn_app (goodIn_of _ (by decide +kernel)) ggX6_zoneNow_X2_zoneOf
theorem dX6_zoneNow_0 : decode cX6_zoneNow 0 = .ok (.aload_n 0, 1) := by decide +kernel
theorem dX6_zoneNow_1 : decode cX6_zoneNow 1 = .ok (.getfield 40, 3) := by decide +kernel
theorem dX6_zoneNow_4 : decode cX6_zoneNow 4 = .ok (.iload_n 1, 1) := by decide +kernel
theorem dX6_zoneNow_5 : decode cX6_zoneNow 5 = .ok (.aload_n 0, 1) := by decide +kernel
theorem dX6_zoneNow_6 : decode cX6_zoneNow 6 = .ok (.getfield 56, 3) := by decide +kernel
theorem dX6_zoneNow_9 : decode cX6_zoneNow 9 = .ok (.invokevirtual 100, 3) := by decide +kernel
theorem dX6_zoneNow_12 : decode cX6_zoneNow 12 = .ok (.aload_n 0, 1) := by decide +kernel
theorem dX6_zoneNow_13 : decode cX6_zoneNow 13 = .ok (.getfield 56, 3) := by decide +kernel
theorem dX6_zoneNow_16 : decode cX6_zoneNow 16 = .ok (.invokevirtual 103, 3) := by decide +kernel
theorem dX6_zoneNow_19 : decode cX6_zoneNow 19 = .ok (.invokevirtual 242, 3) := by decide +kernel
theorem dX6_zoneNow_22 : decode cX6_zoneNow 22 = .ok (.ireturn, 1) := by decide +kernel
set_option maxRecDepth 20000 in
theorem ggX6_lowerBound_X0_fullSet : GoodIn wsX6_lowerBound wsX0_fullSet := goodIn_r _ [7, 8, 84, 85, 86, 87, 88, 89, 90, 91, 92, 93] (by decide +kernel) (by decide +kernel)
set_option maxRecDepth 20000 in
theorem gX6_lowerBound_X0_fullSet : GoodIn wsX6_lowerBound (wsV RX6 245 RX0 yX0_fullSet wsX0_fullSet) := goodIn_app (goodIn_of _ (by decide +kernel)) ggX6_lowerBound_X0_fullSet
set_option maxRecDepth 20000 in
theorem ggX6_lowerBound_X2_kilosOf : GoodIn wsX6_lowerBound wsX2_kilosOf := goodIn_r _ [13, 14, 15, 16, 17, 94, 95, 96, 97] (by decide +kernel) (by decide +kernel)
set_option maxRecDepth 20000 in
theorem gX6_lowerBound_X2_kilosOf : GoodIn wsX6_lowerBound (wsV RX6 148 RX2 yX2_kilosOf wsX2_kilosOf) := goodIn_app (goodIn_of _ (by decide +kernel)) ggX6_lowerBound_X2_kilosOf
set_option maxRecDepth 20000 in
theorem ggX6_lowerBound_X0_carrierCount : GoodIn wsX6_lowerBound wsX0_carrierCount := goodIn_r _ [21, 22, 84, 85, 86, 87, 88, 89, 90, 91, 92, 93] (by decide +kernel) (by decide +kernel)
set_option maxRecDepth 20000 in
theorem gX6_lowerBound_X0_carrierCount : GoodIn wsX6_lowerBound (wsV RX6 94 RX0 yX0_carrierCount wsX0_carrierCount) := goodIn_app (goodIn_of _ (by decide +kernel)) ggX6_lowerBound_X0_carrierCount
set_option maxRecDepth 20000 in
theorem ggX6_lowerBound_X6_zoneNow : GoodIn wsX6_lowerBound wsX6_zoneNow := goodIn_r _ [26, 1, 27, 28, 29, 30, 31, 32, 33, 34, 35, 36, 37, 38, 39, 40, 12, 41, 42, 43, 44, 45, 6, 46, 47, 15, 16, 17, 48, 49, 50, 51, 52, 53, 54, 55, 76, 77, 78, 79, 80, 81, 82, 83, 98, 99, 100, 101, 94, 95, 96, 97, 84, 85, 86, 87, 88, 89, 90, 91, 92, 93] (by decide +kernel) (by decide +kernel)
set_option maxRecDepth 20000 in
theorem gX6_lowerBound_X6_zoneNow : GoodIn wsX6_lowerBound (wsV RX6 138 RX6 yX6_zoneNow wsX6_zoneNow) := goodIn_app (goodIn_of _ (by decide +kernel)) ggX6_lowerBound_X6_zoneNow
set_option maxRecDepth 20000 in
theorem ggX6_lowerBound_X2_boundBy : GoodIn wsX6_lowerBound wsX2_boundBy := goodIn_r _ [59, 42, 60, 61, 62, 6, 63, 64, 15, 16, 17, 65, 66, 67, 68, 69, 70, 71, 72, 73, 74, 12, 75, 94, 95, 96, 97, 84, 85, 86, 87, 88, 89, 90, 91, 92, 93] (by decide +kernel) (by decide +kernel)
set_option maxRecDepth 20000 in
theorem gX6_lowerBound_X2_boundBy : GoodIn wsX6_lowerBound (wsV RX6 248 RX2 yX2_boundBy wsX2_boundBy) := goodIn_app (goodIn_of _ (by decide +kernel)) ggX6_lowerBound_X2_boundBy
theorem dX6_lowerBound_0 : decode cX6_lowerBound 0 = .ok (.aload_n 0, 1) := by decide +kernel
theorem dX6_lowerBound_1 : decode cX6_lowerBound 1 = .ok (.getfield 40, 3) := by decide +kernel
theorem dX6_lowerBound_4 : decode cX6_lowerBound 4 = .ok (.aload_n 0, 1) := by decide +kernel
theorem dX6_lowerBound_5 : decode cX6_lowerBound 5 = .ok (.getfield 19, 3) := by decide +kernel
theorem dX6_lowerBound_8 : decode cX6_lowerBound 8 = .ok (.invokevirtual 245, 3) := by decide +kernel
theorem dX6_lowerBound_11 : decode cX6_lowerBound 11 = .ok (.invokevirtual 148, 3) := by decide +kernel
theorem dX6_lowerBound_14 : decode cX6_lowerBound 14 = .ok (.istore_n 1, 1) := by decide +kernel
theorem dX6_lowerBound_15 : decode cX6_lowerBound 15 = .ok (.bipush (-2), 2) := by decide +kernel
theorem dX6_lowerBound_17 : decode cX6_lowerBound 17 = .ok (.istore_n 2, 1) := by decide +kernel
theorem dX6_lowerBound_18 : decode cX6_lowerBound 18 = .ok (.iconst 0, 1) := by decide +kernel
theorem dX6_lowerBound_19 : decode cX6_lowerBound 19 = .ok (.istore_n 3, 1) := by decide +kernel
theorem dX6_lowerBound_20 : decode cX6_lowerBound 20 = .ok (.iload_n 3, 1) := by decide +kernel
theorem dX6_lowerBound_21 : decode cX6_lowerBound 21 = .ok (.aload_n 0, 1) := by decide +kernel
theorem dX6_lowerBound_22 : decode cX6_lowerBound 22 = .ok (.getfield 19, 3) := by decide +kernel
theorem dX6_lowerBound_25 : decode cX6_lowerBound 25 = .ok (.invokevirtual 94, 3) := by decide +kernel
theorem dX6_lowerBound_28 : decode cX6_lowerBound 28 = .ok (.if_icmp .ge 52, 3) := by decide +kernel
theorem dX6_lowerBound_31 : decode cX6_lowerBound 31 = .ok (.aload_n 0, 1) := by decide +kernel
theorem dX6_lowerBound_32 : decode cX6_lowerBound 32 = .ok (.iload_n 3, 1) := by decide +kernel
theorem dX6_lowerBound_33 : decode cX6_lowerBound 33 = .ok (.invokevirtual 138, 3) := by decide +kernel
theorem dX6_lowerBound_36 : decode cX6_lowerBound 36 = .ok (.istore 4, 2) := by decide +kernel
theorem dX6_lowerBound_38 : decode cX6_lowerBound 38 = .ok (.iload 4, 2) := by decide +kernel
theorem dX6_lowerBound_40 : decode cX6_lowerBound 40 = .ok (.iconst 3, 1) := by decide +kernel
theorem dX6_lowerBound_41 : decode cX6_lowerBound 41 = .ok (.if_icmp .eq 33, 3) := by decide +kernel
theorem dX6_lowerBound_44 : decode cX6_lowerBound 44 = .ok (.aload_n 0, 1) := by decide +kernel
theorem dX6_lowerBound_45 : decode cX6_lowerBound 45 = .ok (.getfield 40, 3) := by decide +kernel
theorem dX6_lowerBound_48 : decode cX6_lowerBound 48 = .ok (.iload_n 3, 1) := by decide +kernel
theorem dX6_lowerBound_49 : decode cX6_lowerBound 49 = .ok (.iload 4, 2) := by decide +kernel
theorem dX6_lowerBound_51 : decode cX6_lowerBound 51 = .ok (.iload_n 1, 1) := by decide +kernel
theorem dX6_lowerBound_52 : decode cX6_lowerBound 52 = .ok (.invokevirtual 248, 3) := by decide +kernel
theorem dX6_lowerBound_55 : decode cX6_lowerBound 55 = .ok (.istore 5, 2) := by decide +kernel
theorem dX6_lowerBound_57 : decode cX6_lowerBound 57 = .ok (.iload_n 2, 1) := by decide +kernel
theorem dX6_lowerBound_58 : decode cX6_lowerBound 58 = .ok (.ifCond .lt 9, 3) := by decide +kernel
theorem dX6_lowerBound_61 : decode cX6_lowerBound 61 = .ok (.iload 5, 2) := by decide +kernel
theorem dX6_lowerBound_63 : decode cX6_lowerBound 63 = .ok (.iload_n 2, 1) := by decide +kernel
theorem dX6_lowerBound_64 : decode cX6_lowerBound 64 = .ok (.if_icmp .ge 8, 3) := by decide +kernel
theorem dX6_lowerBound_67 : decode cX6_lowerBound 67 = .ok (.iload 5, 2) := by decide +kernel
theorem dX6_lowerBound_69 : decode cX6_lowerBound 69 = .ok (.goto 4, 3) := by decide +kernel
theorem dX6_lowerBound_72 : decode cX6_lowerBound 72 = .ok (.iload_n 2, 1) := by decide +kernel
theorem dX6_lowerBound_73 : decode cX6_lowerBound 73 = .ok (.istore_n 2, 1) := by decide +kernel
theorem dX6_lowerBound_74 : decode cX6_lowerBound 74 = .ok (.iinc 3 1, 3) := by decide +kernel
theorem dX6_lowerBound_77 : decode cX6_lowerBound 77 = .ok (.goto (-57), 3) := by decide +kernel
theorem dX6_lowerBound_80 : decode cX6_lowerBound 80 = .ok (.iload_n 2, 1) := by decide +kernel
theorem dX6_lowerBound_81 : decode cX6_lowerBound 81 = .ok (.ireturn, 1) := by decide +kernel
set_option maxRecDepth 20000 in
theorem ggX6_parcelCharge_X1_goodsIn : GoodIn wsX6_parcelCharge wsX1_goodsIn := goodIn_r _ [7, 8, 9, 10, 6, 11, 12, 13, 14, 15, 115, 116, 117, 118] (by decide +kernel) (by decide +kernel)
set_option maxRecDepth 20000 in
theorem gX6_parcelCharge_X1_goodsIn : GoodIn wsX6_parcelCharge (wsV RX6 187 RX1 yX1_goodsIn wsX1_goodsIn) := goodIn_app (goodIn_of _ (by decide +kernel)) ggX6_parcelCharge_X1_goodsIn
set_option maxRecDepth 20000 in
theorem ggX6_parcelCharge_X1_claimedOf : GoodIn wsX6_parcelCharge wsX1_claimedOf := goodIn_r _ [19, 12, 13, 14, 15, 115, 116, 117, 118] (by decide +kernel) (by decide +kernel)
set_option maxRecDepth 20000 in
theorem gX6_parcelCharge_X1_claimedOf : GoodIn wsX6_parcelCharge (wsV RX6 193 RX1 yX1_claimedOf wsX1_claimedOf) := goodIn_app (goodIn_of _ (by decide +kernel)) ggX6_parcelCharge_X1_claimedOf
set_option maxRecDepth 20000 in
theorem ggX6_parcelCharge_X2_kilosOf : GoodIn wsX6_parcelCharge wsX2_kilosOf := goodIn_r _ [24, 25, 13, 14, 15, 119, 120, 121, 122] (by decide +kernel) (by decide +kernel)
set_option maxRecDepth 20000 in
theorem gX6_parcelCharge_X2_kilosOf : GoodIn wsX6_parcelCharge (wsV RX6 148 RX2 yX2_kilosOf wsX2_kilosOf) := goodIn_app (goodIn_of _ (by decide +kernel)) ggX6_parcelCharge_X2_kilosOf
set_option maxRecDepth 20000 in
theorem ggX6_parcelCharge_X1_carrierOf : GoodIn wsX6_parcelCharge wsX1_carrierOf := goodIn_r _ [29, 12, 13, 14, 15, 115, 116, 117, 118] (by decide +kernel) (by decide +kernel)
set_option maxRecDepth 20000 in
theorem gX6_parcelCharge_X1_carrierOf : GoodIn wsX6_parcelCharge (wsV RX6 190 RX1 yX1_carrierOf wsX1_carrierOf) := goodIn_app (goodIn_of _ (by decide +kernel)) ggX6_parcelCharge_X1_carrierOf
set_option maxRecDepth 20000 in
theorem ggX6_parcelCharge_X6_zoneNow : GoodIn wsX6_parcelCharge wsX6_zoneNow := goodIn_r _ [33, 2, 1, 34, 35, 36, 6, 37, 12, 38, 39, 40, 41, 42, 43, 44, 23, 45, 46, 47, 48, 49, 50, 51, 52, 13, 14, 15, 53, 54, 55, 56, 57, 58, 59, 60, 107, 108, 109, 110, 111, 112, 113, 114, 115, 116, 117, 118, 119, 120, 121, 122, 123, 124, 125, 126, 127, 128, 129, 130, 131, 132] (by decide +kernel) (by decide +kernel)
set_option maxRecDepth 20000 in
theorem gX6_parcelCharge_X6_zoneNow : GoodIn wsX6_parcelCharge (wsV RX6 138 RX6 yX6_zoneNow wsX6_zoneNow) := goodIn_app (goodIn_of _ (by decide +kernel)) ggX6_parcelCharge_X6_zoneNow
set_option maxRecDepth 20000 in
theorem ggX6_parcelCharge_X2_chargeOf : GoodIn wsX6_parcelCharge wsX2_chargeOf := goodIn_r _ [64, 46, 65, 66, 67, 68, 69, 50, 70, 71, 13, 14, 15, 72, 73, 74, 23, 75, 76, 77, 78, 79, 80, 81, 82, 83, 84, 85, 86, 87, 88, 89, 90, 91, 92, 93, 94, 95, 96, 97, 98, 99, 100, 101, 102, 103, 104, 105, 106, 119, 120, 121, 122, 123, 124, 125, 126, 127, 128, 129, 130, 131, 132] (by decide +kernel) (by decide +kernel)
set_option maxRecDepth 20000 in
theorem gX6_parcelCharge_X2_chargeOf : GoodIn wsX6_parcelCharge (wsV RX6 154 RX2 yX2_chargeOf wsX2_chargeOf) := goodIn_app (goodIn_of _ (by decide +kernel)) ggX6_parcelCharge_X2_chargeOf
theorem dX6_parcelCharge_0 : decode cX6_parcelCharge 0 = .ok (.aload_n 0, 1) := by decide +kernel
theorem dX6_parcelCharge_1 : decode cX6_parcelCharge 1 = .ok (.getfield 56, 3) := by decide +kernel
theorem dX6_parcelCharge_4 : decode cX6_parcelCharge 4 = .ok (.iload_n 1, 1) := by decide +kernel
theorem dX6_parcelCharge_5 : decode cX6_parcelCharge 5 = .ok (.invokevirtual 187, 3) := by decide +kernel
theorem dX6_parcelCharge_8 : decode cX6_parcelCharge 8 = .ok (.istore_n 3, 1) := by decide +kernel
theorem dX6_parcelCharge_9 : decode cX6_parcelCharge 9 = .ok (.iload_n 3, 1) := by decide +kernel
theorem dX6_parcelCharge_10 : decode cX6_parcelCharge 10 = .ok (.ifCond .ne 5, 3) := by decide +kernel
theorem dX6_parcelCharge_13 : decode cX6_parcelCharge 13 = .ok (.iconst 0, 1) := by decide +kernel
theorem dX6_parcelCharge_14 : decode cX6_parcelCharge 14 = .ok (.ireturn, 1) := by decide +kernel
theorem dX6_parcelCharge_15 : decode cX6_parcelCharge 15 = .ok (.aload_n 0, 1) := by decide +kernel
theorem dX6_parcelCharge_16 : decode cX6_parcelCharge 16 = .ok (.getfield 56, 3) := by decide +kernel
theorem dX6_parcelCharge_19 : decode cX6_parcelCharge 19 = .ok (.iload_n 1, 1) := by decide +kernel
theorem dX6_parcelCharge_20 : decode cX6_parcelCharge 20 = .ok (.invokevirtual 193, 3) := by decide +kernel
theorem dX6_parcelCharge_23 : decode cX6_parcelCharge 23 = .ok (.istore 4, 2) := by decide +kernel
theorem dX6_parcelCharge_25 : decode cX6_parcelCharge 25 = .ok (.iload_n 2, 1) := by decide +kernel
theorem dX6_parcelCharge_26 : decode cX6_parcelCharge 26 = .ok (.ifCond .eq 13, 3) := by decide +kernel
theorem dX6_parcelCharge_29 : decode cX6_parcelCharge 29 = .ok (.iload 4, 2) := by decide +kernel
theorem dX6_parcelCharge_31 : decode cX6_parcelCharge 31 = .ok (.ifCond .le 8, 3) := by decide +kernel
theorem dX6_parcelCharge_34 : decode cX6_parcelCharge 34 = .ok (.iload 4, 2) := by decide +kernel
theorem dX6_parcelCharge_36 : decode cX6_parcelCharge 36 = .ok (.goto 11, 3) := by decide +kernel
theorem dX6_parcelCharge_39 : decode cX6_parcelCharge 39 = .ok (.aload_n 0, 1) := by decide +kernel
theorem dX6_parcelCharge_40 : decode cX6_parcelCharge 40 = .ok (.getfield 40, 3) := by decide +kernel
theorem dX6_parcelCharge_43 : decode cX6_parcelCharge 43 = .ok (.iload_n 3, 1) := by decide +kernel
theorem dX6_parcelCharge_44 : decode cX6_parcelCharge 44 = .ok (.invokevirtual 148, 3) := by decide +kernel
theorem dX6_parcelCharge_47 : decode cX6_parcelCharge 47 = .ok (.istore 5, 2) := by decide +kernel
theorem dX6_parcelCharge_49 : decode cX6_parcelCharge 49 = .ok (.aload_n 0, 1) := by decide +kernel
theorem dX6_parcelCharge_50 : decode cX6_parcelCharge 50 = .ok (.getfield 56, 3) := by decide +kernel
theorem dX6_parcelCharge_53 : decode cX6_parcelCharge 53 = .ok (.iload_n 1, 1) := by decide +kernel
theorem dX6_parcelCharge_54 : decode cX6_parcelCharge 54 = .ok (.invokevirtual 190, 3) := by decide +kernel
theorem dX6_parcelCharge_57 : decode cX6_parcelCharge 57 = .ok (.istore 6, 2) := by decide +kernel
theorem dX6_parcelCharge_59 : decode cX6_parcelCharge 59 = .ok (.aload_n 0, 1) := by decide +kernel
theorem dX6_parcelCharge_60 : decode cX6_parcelCharge 60 = .ok (.getfield 40, 3) := by decide +kernel
theorem dX6_parcelCharge_63 : decode cX6_parcelCharge 63 = .ok (.iload_n 3, 1) := by decide +kernel
theorem dX6_parcelCharge_64 : decode cX6_parcelCharge 64 = .ok (.iload 6, 2) := by decide +kernel
theorem dX6_parcelCharge_66 : decode cX6_parcelCharge 66 = .ok (.aload_n 0, 1) := by decide +kernel
theorem dX6_parcelCharge_67 : decode cX6_parcelCharge 67 = .ok (.iload 6, 2) := by decide +kernel
theorem dX6_parcelCharge_69 : decode cX6_parcelCharge 69 = .ok (.invokevirtual 138, 3) := by decide +kernel
theorem dX6_parcelCharge_72 : decode cX6_parcelCharge 72 = .ok (.iload 5, 2) := by decide +kernel
theorem dX6_parcelCharge_74 : decode cX6_parcelCharge 74 = .ok (.invokevirtual 154, 3) := by decide +kernel
theorem dX6_parcelCharge_77 : decode cX6_parcelCharge 77 = .ok (.ireturn, 1) := by decide +kernel
theorem dX6_isParcel_0 : decode cX6_isParcel 0 = .ok (.iload_n 0, 1) := by decide +kernel
theorem dX6_isParcel_1 : decode cX6_isParcel 1 = .ok (.ifCond .lt 13, 3) := by decide +kernel
theorem dX6_isParcel_4 : decode cX6_isParcel 4 = .ok (.iload_n 0, 1) := by decide +kernel
theorem dX6_isParcel_5 : decode cX6_isParcel 5 = .ok (.bipush 8, 2) := by decide +kernel
theorem dX6_isParcel_7 : decode cX6_isParcel 7 = .ok (.if_icmp .ge 7, 3) := by decide +kernel
theorem dX6_isParcel_10 : decode cX6_isParcel 10 = .ok (.iconst 1, 1) := by decide +kernel
theorem dX6_isParcel_11 : decode cX6_isParcel 11 = .ok (.goto 4, 3) := by decide +kernel
theorem dX6_isParcel_14 : decode cX6_isParcel 14 = .ok (.iconst 0, 1) := by decide +kernel
theorem dX6_isParcel_15 : decode cX6_isParcel 15 = .ok (.ireturn, 1) := by decide +kernel
theorem dX6_isOrder_0 : decode cX6_isOrder 0 = .ok (.iload_n 0, 1) := by decide +kernel
theorem dX6_isOrder_1 : decode cX6_isOrder 1 = .ok (.ifCond .lt 22, 3) := by decide +kernel
theorem dX6_isOrder_4 : decode cX6_isOrder 4 = .ok (.iload_n 0, 1) := by decide +kernel
theorem dX6_isOrder_5 : decode cX6_isOrder 5 = .ok (.iconst 3, 1) := by decide +kernel
theorem dX6_isOrder_6 : decode cX6_isOrder 6 = .ok (.if_icmp .gt 17, 3) := by decide +kernel
theorem dX6_isOrder_9 : decode cX6_isOrder 9 = .ok (.iload_n 1, 1) := by decide +kernel
theorem dX6_isOrder_10 : decode cX6_isOrder 10 = .ok (.ifCond .lt 13, 3) := by decide +kernel
theorem dX6_isOrder_13 : decode cX6_isOrder 13 = .ok (.iload_n 1, 1) := by decide +kernel
theorem dX6_isOrder_14 : decode cX6_isOrder 14 = .ok (.bipush 99, 2) := by decide +kernel
theorem dX6_isOrder_16 : decode cX6_isOrder 16 = .ok (.if_icmp .gt 7, 3) := by decide +kernel
theorem dX6_isOrder_19 : decode cX6_isOrder 19 = .ok (.iconst 1, 1) := by decide +kernel
theorem dX6_isOrder_20 : decode cX6_isOrder 20 = .ok (.goto 4, 3) := by decide +kernel
theorem dX6_isOrder_23 : decode cX6_isOrder 23 = .ok (.iconst 0, 1) := by decide +kernel
theorem dX6_isOrder_24 : decode cX6_isOrder 24 = .ok (.ireturn, 1) := by decide +kernel
theorem dX6_at_0 : decode cX6_at 0 = .ok (.iload_n 1, 1) := by decide +kernel
theorem dX6_at_1 : decode cX6_at 1 = .ok (.ifCond .lt 15, 3) := by decide +kernel
theorem dX6_at_4 : decode cX6_at 4 = .ok (.iload_n 1, 1) := by decide +kernel
theorem dX6_at_5 : decode cX6_at 5 = .ok (.aload_n 0, 1) := by decide +kernel
theorem dX6_at_6 : decode cX6_at 6 = .ok (.arraylength, 1) := by decide +kernel
theorem dX6_at_7 : decode cX6_at 7 = .ok (.if_icmp .ge 9, 3) := by decide +kernel
theorem dX6_at_10 : decode cX6_at 10 = .ok (.aload_n 0, 1) := by decide +kernel
theorem dX6_at_11 : decode cX6_at 11 = .ok (.iload_n 1, 1) := by decide +kernel
theorem dX6_at_12 : decode cX6_at 12 = .ok (.iaload, 1) := by decide +kernel
theorem dX6_at_13 : decode cX6_at 13 = .ok (.goto 4, 3) := by decide +kernel
theorem dX6_at_16 : decode cX6_at 16 = .ok (.iconst 0, 1) := by decide +kernel
theorem dX6_at_17 : decode cX6_at 17 = .ok (.ireturn, 1) := by decide +kernel
theorem dX6_store_0 : decode cX6_store 0 = .ok (.iload_n 1, 1) := by decide +kernel
theorem dX6_store_1 : decode cX6_store 1 = .ok (.ifCond .lt 13, 3) := by decide +kernel
theorem dX6_store_4 : decode cX6_store 4 = .ok (.iload_n 1, 1) := by decide +kernel
theorem dX6_store_5 : decode cX6_store 5 = .ok (.aload_n 0, 1) := by decide +kernel
theorem dX6_store_6 : decode cX6_store 6 = .ok (.arraylength, 1) := by decide +kernel
theorem dX6_store_7 : decode cX6_store 7 = .ok (.if_icmp .ge 7, 3) := by decide +kernel
theorem dX6_store_10 : decode cX6_store 10 = .ok (.aload_n 0, 1) := by decide +kernel
theorem dX6_store_11 : decode cX6_store 11 = .ok (.iload_n 1, 1) := by decide +kernel
theorem dX6_store_12 : decode cX6_store 12 = .ok (.iload_n 2, 1) := by decide +kernel
theorem dX6_store_13 : decode cX6_store 13 = .ok (.iastore, 1) := by decide +kernel
theorem dX6_store_14 : decode cX6_store 14 = .ok (.return_, 1) := by decide +kernel
set_option maxRecDepth 20000 in
theorem ggX6_copy_X6_at : GoodIn wsX6_copy wsX6_at := goodIn_r _ [4] (by decide +kernel) (by decide +kernel)
set_option maxRecDepth 20000 in
theorem gX6_copy_X6_at : GoodIn wsX6_copy (va_wsS RX6 251 yX6_at wsX6_at) := goodIn_app (goodIn_of _ (by decide +kernel)) ggX6_copy_X6_at
set_option maxRecDepth 20000 in
theorem ggX6_copy_X6_store : GoodIn wsX6_copy wsX6_store := goodIn_r _ [7] (by decide +kernel) (by decide +kernel)
set_option maxRecDepth 20000 in
theorem gX6_copy_X6_store : GoodIn wsX6_copy (va_wsS RX6 255 yX6_store wsX6_store) := goodIn_app (goodIn_of _ (by decide +kernel)) ggX6_copy_X6_store
theorem dX6_copy_0 : decode cX6_copy 0 = .ok (.iconst 0, 1) := by decide +kernel
theorem dX6_copy_1 : decode cX6_copy 1 = .ok (.istore 5, 2) := by decide +kernel
theorem dX6_copy_3 : decode cX6_copy 3 = .ok (.iload 5, 2) := by decide +kernel
theorem dX6_copy_5 : decode cX6_copy 5 = .ok (.iload 4, 2) := by decide +kernel
theorem dX6_copy_7 : decode cX6_copy 7 = .ok (.if_icmp .ge 25, 3) := by decide +kernel
theorem dX6_copy_10 : decode cX6_copy 10 = .ok (.aload_n 2, 1) := by decide +kernel
theorem dX6_copy_11 : decode cX6_copy 11 = .ok (.iload_n 3, 1) := by decide +kernel
theorem dX6_copy_12 : decode cX6_copy 12 = .ok (.iload 5, 2) := by decide +kernel
theorem dX6_copy_14 : decode cX6_copy 14 = .ok (.iadd, 1) := by decide +kernel
theorem dX6_copy_15 : decode cX6_copy 15 = .ok (.aload_n 0, 1) := by decide +kernel
theorem dX6_copy_16 : decode cX6_copy 16 = .ok (.iload_n 1, 1) := by decide +kernel
theorem dX6_copy_17 : decode cX6_copy 17 = .ok (.iload 5, 2) := by decide +kernel
theorem dX6_copy_19 : decode cX6_copy 19 = .ok (.iadd, 1) := by decide +kernel
theorem dX6_copy_20 : decode cX6_copy 20 = .ok (.invokestatic 251, 3) := by decide +kernel
theorem dX6_copy_23 : decode cX6_copy 23 = .ok (.invokestatic 255, 3) := by decide +kernel
theorem dX6_copy_26 : decode cX6_copy 26 = .ok (.iinc 5 1, 3) := by decide +kernel
theorem dX6_copy_29 : decode cX6_copy 29 = .ok (.goto (-26), 3) := by decide +kernel
theorem dX6_copy_32 : decode cX6_copy 32 = .ok (.return_, 1) := by decide +kernel
theorem dX7_thrown_0 : decode cX7_thrown 0 = .ok (.aload_n 0, 1) := by decide +kernel
theorem dX7_thrown_1 : decode cX7_thrown 1 = .ok (.getfield 1, 3) := by decide +kernel
theorem dX7_thrown_4 : decode cX7_thrown 4 = .ok (.ireturn, 1) := by decide +kernel
theorem dX7_refuse_0 : decode cX7_refuse 0 = .ok (.aload_n 0, 1) := by decide +kernel
theorem dX7_refuse_1 : decode cX7_refuse 1 = .ok (.iconst 1, 1) := by decide +kernel
theorem dX7_refuse_2 : decode cX7_refuse 2 = .ok (.putfield 1, 3) := by decide +kernel
theorem dX7_refuse_5 : decode cX7_refuse 5 = .ok (.iconst 0, 1) := by decide +kernel
theorem dX7_refuse_6 : decode cX7_refuse 6 = .ok (.ireturn, 1) := by decide +kernel
theorem dX7_isIn_0 : decode cX7_isIn 0 = .ok (.iload_n 0, 1) := by decide +kernel
theorem dX7_isIn_1 : decode cX7_isIn 1 = .ok (.iload_n 1, 1) := by decide +kernel
theorem dX7_isIn_2 : decode cX7_isIn 2 = .ok (.if_icmp .lt 12, 3) := by decide +kernel
theorem dX7_isIn_5 : decode cX7_isIn 5 = .ok (.iload_n 0, 1) := by decide +kernel
theorem dX7_isIn_6 : decode cX7_isIn 6 = .ok (.iload_n 2, 1) := by decide +kernel
theorem dX7_isIn_7 : decode cX7_isIn 7 = .ok (.if_icmp .gt 7, 3) := by decide +kernel
theorem dX7_isIn_10 : decode cX7_isIn 10 = .ok (.iconst 1, 1) := by decide +kernel
theorem dX7_isIn_11 : decode cX7_isIn 11 = .ok (.goto 4, 3) := by decide +kernel
theorem dX7_isIn_14 : decode cX7_isIn 14 = .ok (.iconst 0, 1) := by decide +kernel
theorem dX7_isIn_15 : decode cX7_isIn 15 = .ok (.ireturn, 1) := by decide +kernel
theorem dX7_has_0 : decode cX7_has 0 = .ok (.iload_n 0, 1) := by decide +kernel
theorem dX7_has_1 : decode cX7_has 1 = .ok (.iload_n 1, 1) := by decide +kernel
theorem dX7_has_2 : decode cX7_has 2 = .ok (.ishr, 1) := by decide +kernel
theorem dX7_has_3 : decode cX7_has 3 = .ok (.iconst 1, 1) := by decide +kernel
theorem dX7_has_4 : decode cX7_has 4 = .ok (.iand, 1) := by decide +kernel
theorem dX7_has_5 : decode cX7_has 5 = .ok (.iconst 1, 1) := by decide +kernel
theorem dX7_has_6 : decode cX7_has 6 = .ok (.if_icmp .ne 7, 3) := by decide +kernel
theorem dX7_has_9 : decode cX7_has 9 = .ok (.iconst 1, 1) := by decide +kernel
theorem dX7_has_10 : decode cX7_has 10 = .ok (.goto 4, 3) := by decide +kernel
theorem dX7_has_13 : decode cX7_has 13 = .ok (.iconst 0, 1) := by decide +kernel
theorem dX7_has_14 : decode cX7_has 14 = .ok (.ireturn, 1) := by decide +kernel
theorem dX7_lays_0 : decode cX7_lays 0 = .ok (.bipush 24, 2) := by decide +kernel
theorem dX7_lays_2 : decode cX7_lays 2 = .ok (.istore_n 2, 1) := by decide +kernel
theorem dX7_lays_3 : decode cX7_lays 3 = .ok (.iload_n 2, 1) := by decide +kernel
theorem dX7_lays_4 : decode cX7_lays 4 = .ok (.ifCond .lt 35, 3) := by decide +kernel
theorem dX7_lays_7 : decode cX7_lays 7 = .ok (.aload_n 0, 1) := by decide +kernel
theorem dX7_lays_8 : decode cX7_lays 8 = .ok (.getfield 7, 3) := by decide +kernel
theorem dX7_lays_11 : decode cX7_lays 11 = .ok (.aload_n 0, 1) := by decide +kernel
theorem dX7_lays_12 : decode cX7_lays 12 = .ok (.getfield 11, 3) := by decide +kernel
theorem dX7_lays_15 : decode cX7_lays 15 = .ok (.iload_n 1, 1) := by decide +kernel
theorem dX7_lays_16 : decode cX7_lays 16 = .ok (.iload_n 2, 1) := by decide +kernel
theorem dX7_lays_17 : decode cX7_lays 17 = .ok (.iushr, 1) := by decide +kernel
theorem dX7_lays_18 : decode cX7_lays 18 = .ok (.sipush 255, 3) := by decide +kernel
theorem dX7_lays_21 : decode cX7_lays 21 = .ok (.iand, 1) := by decide +kernel
theorem dX7_lays_22 : decode cX7_lays 22 = .ok (.iastore, 1) := by decide +kernel
theorem dX7_lays_23 : decode cX7_lays 23 = .ok (.aload_n 0, 1) := by decide +kernel
theorem dX7_lays_24 : decode cX7_lays 24 = .ok (.dup, 1) := by decide +kernel
theorem dX7_lays_25 : decode cX7_lays 25 = .ok (.getfield 11, 3) := by decide +kernel
theorem dX7_lays_28 : decode cX7_lays 28 = .ok (.iconst 1, 1) := by decide +kernel
theorem dX7_lays_29 : decode cX7_lays 29 = .ok (.iadd, 1) := by decide +kernel
theorem dX7_lays_30 : decode cX7_lays 30 = .ok (.putfield 11, 3) := by decide +kernel
theorem dX7_lays_33 : decode cX7_lays 33 = .ok (.iinc 2 (-8), 3) := by decide +kernel
theorem dX7_lays_36 : decode cX7_lays 36 = .ok (.goto (-33), 3) := by decide +kernel
theorem dX7_lays_39 : decode cX7_lays 39 = .ok (.return_, 1) := by decide +kernel
set_option maxRecDepth 20000 in
theorem ggX7_feed_X7_lays : GoodIn wsX7_feed wsX7_lays := goodIn_r _ [7, 8, 2, 9, 10, 11, 12, 13, 14, 15, 16, 17, 18, 19, 20, 21, 22, 23, 24, 25, 26, 27, 28, 29, 30] (by decide +kernel) (by decide +kernel)
set_option maxRecDepth 20000 in
theorem gX7_feed_X7_lays : GoodIn wsX7_feed (wsV RX7 14 RX7 yX7_lays wsX7_lays) := goodIn_app (goodIn_of _ (by decide +kernel)) ggX7_feed_X7_lays
theorem dX7_feed_0 : decode cX7_feed 0 = .ok (.aload_n 0, 1) := by decide +kernel
theorem dX7_feed_1 : decode cX7_feed 1 = .ok (.iconst 0, 1) := by decide +kernel
theorem dX7_feed_2 : decode cX7_feed 2 = .ok (.putfield 1, 3) := by decide +kernel
theorem dX7_feed_5 : decode cX7_feed 5 = .ok (.aload_n 0, 1) := by decide +kernel
theorem dX7_feed_6 : decode cX7_feed 6 = .ok (.getfield 11, 3) := by decide +kernel
theorem dX7_feed_9 : decode cX7_feed 9 = .ok (.bipush 20, 2) := by decide +kernel
theorem dX7_feed_11 : decode cX7_feed 11 = .ok (.iadd, 1) := by decide +kernel
