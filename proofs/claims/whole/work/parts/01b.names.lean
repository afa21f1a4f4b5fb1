theorem dX0_init_44 : decode cX0_init 44 = .ok (.iconst 3, 1) := by decide +kernel
theorem dX0_init_45 : decode cX0_init 45 = .ok (.newarray .int, 2) := by decide +kernel
theorem dX0_init_47 : decode cX0_init 47 = .ok (.putfield 27, 3) := by decide +kernel
theorem dX0_init_50 : decode cX0_init 50 = .ok (.return_, 1) := by decide +kernel
set_option maxRecDepth 20000 in
theorem ggX0_clear_J7_fill_53178 : GoodIn wsX0_clear wsJ7_fill_53178 := goodIn_r _ [10] (by decide +kernel) (by decide +kernel)
set_option maxRecDepth 20000 in
theorem gX0_clear_J7_fill_53178 : GoodIn wsX0_clear (va_wsS RX0 30 yJ7_fill_53178 wsJ7_fill_53178) := goodIn_app (goodIn_of _ (by decide +kernel)) ggX0_clear_J7_fill_53178
theorem dX0_clear_0 : decode cX0_clear 0 = .ok (.aload_n 0, 1) := by decide +kernel
theorem dX0_clear_1 : decode cX0_clear 1 = .ok (.getfield 24, 3) := by decide +kernel
theorem dX0_clear_4 : decode cX0_clear 4 = .ok (.iconst 0, 1) := by decide +kernel
theorem dX0_clear_5 : decode cX0_clear 5 = .ok (.invokestatic 30, 3) := by decide +kernel
theorem dX0_clear_8 : decode cX0_clear 8 = .ok (.aload_n 0, 1) := by decide +kernel
theorem dX0_clear_9 : decode cX0_clear 9 = .ok (.getfield 27, 3) := by decide +kernel
theorem dX0_clear_12 : decode cX0_clear 12 = .ok (.iconst 0, 1) := by decide +kernel
theorem dX0_clear_13 : decode cX0_clear 13 = .ok (.invokestatic 30, 3) := by decide +kernel
theorem dX0_clear_16 : decode cX0_clear 16 = .ok (.aload_n 0, 1) := by decide +kernel
theorem dX0_clear_17 : decode cX0_clear 17 = .ok (.iconst 0, 1) := by decide +kernel
theorem dX0_clear_18 : decode cX0_clear 18 = .ok (.putfield 36, 3) := by decide +kernel
theorem dX0_clear_21 : decode cX0_clear 21 = .ok (.aload_n 0, 1) := by decide +kernel
theorem dX0_clear_22 : decode cX0_clear 22 = .ok (.iconst 0, 1) := by decide +kernel
theorem dX0_clear_23 : decode cX0_clear 23 = .ok (.putfield 40, 3) := by decide +kernel
theorem dX0_clear_26 : decode cX0_clear 26 = .ok (.aload_n 0, 1) := by decide +kernel
theorem dX0_clear_27 : decode cX0_clear 27 = .ok (.iconst 0, 1) := by decide +kernel
theorem dX0_clear_28 : decode cX0_clear 28 = .ok (.putfield 43, 3) := by decide +kernel
theorem dX0_clear_31 : decode cX0_clear 31 = .ok (.aload_n 0, 1) := by decide +kernel
theorem dX0_clear_32 : decode cX0_clear 32 = .ok (.iconst 0, 1) := by decide +kernel
theorem dX0_clear_33 : decode cX0_clear 33 = .ok (.putfield 46, 3) := by decide +kernel
theorem dX0_clear_36 : decode cX0_clear 36 = .ok (.return_, 1) := by decide +kernel
set_option maxRecDepth 20000 in
theorem ggX0_fillAtFirst_X0_clear : GoodIn wsX0_fillAtFirst wsX0_clear := goodIn_r _ [8, 9, 10, 11, 12, 13, 14, 15, 16, 17, 18, 50, 51, 52, 53, 54, 55, 56, 57, 58, 59] (by decide +kernel) (by decide +kernel)
set_option maxRecDepth 20000 in
theorem gX0_fillAtFirst_X0_clear : GoodIn wsX0_fillAtFirst (wsV RX0 49 RX0 yX0_clear wsX0_clear) := goodIn_app (goodIn_of _ (by decide +kernel)) ggX0_fillAtFirst_X0_clear
set_option maxRecDepth 20000 in
theorem ggX0_fillAtFirst_X0_addLine : GoodIn wsX0_fillAtFirst wsX0_addLine := goodIn_r _ [22, 11, 23, 24, 9, 25, 10, 26, 12, 13, 14, 27, 28, 29, 30, 31, 32, 33, 34, 35, 36, 37, 38, 7, 39, 40, 41, 42, 43, 44, 45, 46, 47, 48, 49, 50, 51, 52, 53, 54, 55, 56, 57, 58, 59] (by decide +kernel) (by decide +kernel)
set_option maxRecDepth 20000 in
theorem gX0_fillAtFirst_X0_addLine : GoodIn wsX0_fillAtFirst (wsV RX0 55 RX0 yX0_addLine wsX0_addLine) := goodIn_app (goodIn_of _ (by decide +kernel)) ggX0_fillAtFirst_X0_addLine
theorem dX0_fillAtFirst_0 : decode cX0_fillAtFirst 0 = .ok (.aload_n 0, 1) := by decide +kernel
theorem dX0_fillAtFirst_1 : decode cX0_fillAtFirst 1 = .ok (.invokevirtual 49, 3) := by decide +kernel
theorem dX0_fillAtFirst_4 : decode cX0_fillAtFirst 4 = .ok (.aload_n 0, 1) := by decide +kernel
theorem dX0_fillAtFirst_5 : decode cX0_fillAtFirst 5 = .ok (.iconst 0, 1) := by decide +kernel
theorem dX0_fillAtFirst_6 : decode cX0_fillAtFirst 6 = .ok (.getstatic 52, 3) := by decide +kernel
theorem dX0_fillAtFirst_9 : decode cX0_fillAtFirst 9 = .ok (.invokevirtual 55, 3) := by decide +kernel
theorem dX0_fillAtFirst_12 : decode cX0_fillAtFirst 12 = .ok (.aload_n 0, 1) := by decide +kernel
theorem dX0_fillAtFirst_13 : decode cX0_fillAtFirst 13 = .ok (.iconst 1, 1) := by decide +kernel
theorem dX0_fillAtFirst_14 : decode cX0_fillAtFirst 14 = .ok (.getstatic 59, 3) := by decide +kernel
theorem dX0_fillAtFirst_17 : decode cX0_fillAtFirst 17 = .ok (.invokevirtual 55, 3) := by decide +kernel
theorem dX0_fillAtFirst_20 : decode cX0_fillAtFirst 20 = .ok (.aload_n 0, 1) := by decide +kernel
theorem dX0_fillAtFirst_21 : decode cX0_fillAtFirst 21 = .ok (.iconst 2, 1) := by decide +kernel
theorem dX0_fillAtFirst_22 : decode cX0_fillAtFirst 22 = .ok (.getstatic 62, 3) := by decide +kernel
theorem dX0_fillAtFirst_25 : decode cX0_fillAtFirst 25 = .ok (.invokevirtual 55, 3) := by decide +kernel
theorem dX0_fillAtFirst_28 : decode cX0_fillAtFirst 28 = .ok (.return_, 1) := by decide +kernel
set_option maxRecDepth 20000 in
theorem ggX0_copyFrom_X6_copy : GoodIn wsX0_copyFrom wsX6_copy := goodIn_r _ [13, 14, 15, 12, 16, 17, 18, 19] (by decide +kernel) (by decide +kernel)
set_option maxRecDepth 20000 in
theorem gX0_copyFrom_X6_copy_n65 : GoodIn wsX0_copyFrom (wsX6_copy) := ggX0_copyFrom_X6_copy
theorem dX0_copyFrom_0 : decode cX0_copyFrom 0 = .ok (.aload_n 1, 1) := by decide +kernel
theorem dX0_copyFrom_1 : decode cX0_copyFrom 1 = .ok (.getfield 11, 3) := by decide +kernel
theorem dX0_copyFrom_4 : decode cX0_copyFrom 4 = .ok (.iconst 0, 1) := by decide +kernel
theorem dX0_copyFrom_5 : decode cX0_copyFrom 5 = .ok (.aload_n 0, 1) := by decide +kernel
theorem dX0_copyFrom_6 : decode cX0_copyFrom 6 = .ok (.getfield 11, 3) := by decide +kernel
theorem dX0_copyFrom_9 : decode cX0_copyFrom 9 = .ok (.iconst 0, 1) := by decide +kernel
theorem dX0_copyFrom_10 : decode cX0_copyFrom 10 = .ok (.aload_n 0, 1) := by decide +kernel
theorem dX0_copyFrom_11 : decode cX0_copyFrom 11 = .ok (.getfield 11, 3) := by decide +kernel
theorem dX0_copyFrom_14 : decode cX0_copyFrom 14 = .ok (.arraylength, 1) := by decide +kernel
theorem dX0_copyFrom_15 : decode cX0_copyFrom 15 = .ok (.invokestatic 65, 3) := by decide +kernel
theorem dX0_copyFrom_18 : decode cX0_copyFrom 18 = .ok (.aload_n 1, 1) := by decide +kernel
theorem dX0_copyFrom_19 : decode cX0_copyFrom 19 = .ok (.getfield 15, 3) := by decide +kernel
theorem dX0_copyFrom_22 : decode cX0_copyFrom 22 = .ok (.iconst 0, 1) := by decide +kernel
theorem dX0_copyFrom_23 : decode cX0_copyFrom 23 = .ok (.aload_n 0, 1) := by decide +kernel
theorem dX0_copyFrom_24 : decode cX0_copyFrom 24 = .ok (.getfield 15, 3) := by decide +kernel
theorem dX0_copyFrom_27 : decode cX0_copyFrom 27 = .ok (.iconst 0, 1) := by decide +kernel
theorem dX0_copyFrom_28 : decode cX0_copyFrom 28 = .ok (.aload_n 0, 1) := by decide +kernel
theorem dX0_copyFrom_29 : decode cX0_copyFrom 29 = .ok (.getfield 15, 3) := by decide +kernel
theorem dX0_copyFrom_32 : decode cX0_copyFrom 32 = .ok (.arraylength, 1) := by decide +kernel
theorem dX0_copyFrom_33 : decode cX0_copyFrom 33 = .ok (.invokestatic 65, 3) := by decide +kernel
theorem dX0_copyFrom_36 : decode cX0_copyFrom 36 = .ok (.aload_n 1, 1) := by decide +kernel
theorem dX0_copyFrom_37 : decode cX0_copyFrom 37 = .ok (.getfield 18, 3) := by decide +kernel
theorem dX0_copyFrom_40 : decode cX0_copyFrom 40 = .ok (.iconst 0, 1) := by decide +kernel
theorem dX0_copyFrom_41 : decode cX0_copyFrom 41 = .ok (.aload_n 0, 1) := by decide +kernel
theorem dX0_copyFrom_42 : decode cX0_copyFrom 42 = .ok (.getfield 18, 3) := by decide +kernel
theorem dX0_copyFrom_45 : decode cX0_copyFrom 45 = .ok (.iconst 0, 1) := by decide +kernel
theorem dX0_copyFrom_46 : decode cX0_copyFrom 46 = .ok (.aload_n 0, 1) := by decide +kernel
theorem dX0_copyFrom_47 : decode cX0_copyFrom 47 = .ok (.getfield 18, 3) := by decide +kernel
theorem dX0_copyFrom_50 : decode cX0_copyFrom 50 = .ok (.arraylength, 1) := by decide +kernel
theorem dX0_copyFrom_51 : decode cX0_copyFrom 51 = .ok (.invokestatic 65, 3) := by decide +kernel
theorem dX0_copyFrom_54 : decode cX0_copyFrom 54 = .ok (.aload_n 1, 1) := by decide +kernel
theorem dX0_copyFrom_55 : decode cX0_copyFrom 55 = .ok (.getfield 21, 3) := by decide +kernel
theorem dX0_copyFrom_58 : decode cX0_copyFrom 58 = .ok (.iconst 0, 1) := by decide +kernel
theorem dX0_copyFrom_59 : decode cX0_copyFrom 59 = .ok (.aload_n 0, 1) := by decide +kernel
theorem dX0_copyFrom_60 : decode cX0_copyFrom 60 = .ok (.getfield 21, 3) := by decide +kernel
theorem dX0_copyFrom_63 : decode cX0_copyFrom 63 = .ok (.iconst 0, 1) := by decide +kernel
theorem dX0_copyFrom_64 : decode cX0_copyFrom 64 = .ok (.aload_n 0, 1) := by decide +kernel
theorem dX0_copyFrom_65 : decode cX0_copyFrom 65 = .ok (.getfield 21, 3) := by decide +kernel
theorem dX0_copyFrom_68 : decode cX0_copyFrom 68 = .ok (.arraylength, 1) := by decide +kernel
theorem dX0_copyFrom_69 : decode cX0_copyFrom 69 = .ok (.invokestatic 65, 3) := by decide +kernel
theorem dX0_copyFrom_72 : decode cX0_copyFrom 72 = .ok (.aload_n 1, 1) := by decide +kernel
theorem dX0_copyFrom_73 : decode cX0_copyFrom 73 = .ok (.getfield 24, 3) := by decide +kernel
theorem dX0_copyFrom_76 : decode cX0_copyFrom 76 = .ok (.iconst 0, 1) := by decide +kernel
theorem dX0_copyFrom_77 : decode cX0_copyFrom 77 = .ok (.aload_n 0, 1) := by decide +kernel
theorem dX0_copyFrom_78 : decode cX0_copyFrom 78 = .ok (.getfield 24, 3) := by decide +kernel
theorem dX0_copyFrom_81 : decode cX0_copyFrom 81 = .ok (.iconst 0, 1) := by decide +kernel
theorem dX0_copyFrom_82 : decode cX0_copyFrom 82 = .ok (.iconst 3, 1) := by decide +kernel
theorem dX0_copyFrom_83 : decode cX0_copyFrom 83 = .ok (.invokestatic 65, 3) := by decide +kernel
theorem dX0_copyFrom_86 : decode cX0_copyFrom 86 = .ok (.aload_n 1, 1) := by decide +kernel
theorem dX0_copyFrom_87 : decode cX0_copyFrom 87 = .ok (.getfield 27, 3) := by decide +kernel
theorem dX0_copyFrom_90 : decode cX0_copyFrom 90 = .ok (.iconst 0, 1) := by decide +kernel
theorem dX0_copyFrom_91 : decode cX0_copyFrom 91 = .ok (.aload_n 0, 1) := by decide +kernel
theorem dX0_copyFrom_92 : decode cX0_copyFrom 92 = .ok (.getfield 27, 3) := by decide +kernel
theorem dX0_copyFrom_95 : decode cX0_copyFrom 95 = .ok (.iconst 0, 1) := by decide +kernel
theorem dX0_copyFrom_96 : decode cX0_copyFrom 96 = .ok (.iconst 3, 1) := by decide +kernel
theorem dX0_copyFrom_97 : decode cX0_copyFrom 97 = .ok (.invokestatic 65, 3) := by decide +kernel
theorem dX0_copyFrom_100 : decode cX0_copyFrom 100 = .ok (.aload_n 0, 1) := by decide +kernel
theorem dX0_copyFrom_101 : decode cX0_copyFrom 101 = .ok (.aload_n 1, 1) := by decide +kernel
theorem dX0_copyFrom_102 : decode cX0_copyFrom 102 = .ok (.getfield 36, 3) := by decide +kernel
theorem dX0_copyFrom_105 : decode cX0_copyFrom 105 = .ok (.putfield 36, 3) := by decide +kernel
theorem dX0_copyFrom_108 : decode cX0_copyFrom 108 = .ok (.aload_n 0, 1) := by decide +kernel
theorem dX0_copyFrom_109 : decode cX0_copyFrom 109 = .ok (.aload_n 1, 1) := by decide +kernel
theorem dX0_copyFrom_110 : decode cX0_copyFrom 110 = .ok (.getfield 40, 3) := by decide +kernel
theorem dX0_copyFrom_113 : decode cX0_copyFrom 113 = .ok (.putfield 40, 3) := by decide +kernel
theorem dX0_copyFrom_116 : decode cX0_copyFrom 116 = .ok (.aload_n 0, 1) := by decide +kernel
theorem dX0_copyFrom_117 : decode cX0_copyFrom 117 = .ok (.aload_n 1, 1) := by decide +kernel
theorem dX0_copyFrom_118 : decode cX0_copyFrom 118 = .ok (.getfield 43, 3) := by decide +kernel
theorem dX0_copyFrom_121 : decode cX0_copyFrom 121 = .ok (.putfield 43, 3) := by decide +kernel
theorem dX0_copyFrom_124 : decode cX0_copyFrom 124 = .ok (.aload_n 0, 1) := by decide +kernel
theorem dX0_copyFrom_125 : decode cX0_copyFrom 125 = .ok (.aload_n 1, 1) := by decide +kernel
theorem dX0_copyFrom_126 : decode cX0_copyFrom 126 = .ok (.getfield 46, 3) := by decide +kernel
theorem dX0_copyFrom_129 : decode cX0_copyFrom 129 = .ok (.putfield 46, 3) := by decide +kernel
theorem dX0_copyFrom_132 : decode cX0_copyFrom 132 = .ok (.return_, 1) := by decide +kernel
set_option maxRecDepth 20000 in
theorem ggX0_isFull_X0_breakCount : GoodIn wsX0_isFull wsX0_breakCount := goodIn_r _ [7, 8, 9, 10, 11, 17, 18, 19, 20, 21, 22, 23, 24, 25, 26] (by decide +kernel) (by decide +kernel)
set_option maxRecDepth 20000 in
theorem gX0_isFull_X0_breakCount : GoodIn wsX0_isFull (wsV RX0 69 RX0 yX0_breakCount wsX0_breakCount) := goodIn_app (goodIn_of _ (by decide +kernel)) ggX0_isFull_X0_breakCount
set_option maxRecDepth 20000 in
theorem ggX0_isFull_X0_zonesCount : GoodIn wsX0_isFull wsX0_zonesCount := goodIn_r _ [15, 16, 9, 10, 11, 17, 18, 19, 20, 21, 22, 23, 24, 25, 26] (by decide +kernel) (by decide +kernel)
set_option maxRecDepth 20000 in
theorem gX0_isFull_X0_zonesCount : GoodIn wsX0_isFull (wsV RX0 73 RX0 yX0_zonesCount wsX0_zonesCount) := goodIn_app (goodIn_of _ (by decide +kernel)) ggX0_isFull_X0_zonesCount
theorem dX0_isFull_0 : decode cX0_isFull 0 = .ok (.iload_n 1, 1) := by decide +kernel
theorem dX0_isFull_1 : decode cX0_isFull 1 = .ok (.tableswitch 100 0 3 #[31, 45, 65, 85], 31) := by decide +kernel
theorem dX0_isFull_32 : decode cX0_isFull 32 = .ok (.aload_n 0, 1) := by decide +kernel
theorem dX0_isFull_33 : decode cX0_isFull 33 = .ok (.getfield 36, 3) := by decide +kernel
theorem dX0_isFull_36 : decode cX0_isFull 36 = .ok (.iconst 3, 1) := by decide +kernel
theorem dX0_isFull_37 : decode cX0_isFull 37 = .ok (.if_icmp .lt 7, 3) := by decide +kernel
theorem dX0_isFull_40 : decode cX0_isFull 40 = .ok (.iconst 1, 1) := by decide +kernel
theorem dX0_isFull_41 : decode cX0_isFull 41 = .ok (.goto 4, 3) := by decide +kernel
theorem dX0_isFull_44 : decode cX0_isFull 44 = .ok (.iconst 0, 1) := by decide +kernel
theorem dX0_isFull_45 : decode cX0_isFull 45 = .ok (.ireturn, 1) := by decide +kernel
theorem dX0_isFull_46 : decode cX0_isFull 46 = .ok (.aload_n 0, 1) := by decide +kernel
theorem dX0_isFull_47 : decode cX0_isFull 47 = .ok (.aload_n 0, 1) := by decide +kernel
theorem dX0_isFull_48 : decode cX0_isFull 48 = .ok (.getfield 36, 3) := by decide +kernel
theorem dX0_isFull_51 : decode cX0_isFull 51 = .ok (.iconst 1, 1) := by decide +kernel
theorem dX0_isFull_52 : decode cX0_isFull 52 = .ok (.isub, 1) := by decide +kernel
theorem dX0_isFull_53 : decode cX0_isFull 53 = .ok (.invokevirtual 69, 3) := by decide +kernel
theorem dX0_isFull_56 : decode cX0_isFull 56 = .ok (.iconst 5, 1) := by decide +kernel
theorem dX0_isFull_57 : decode cX0_isFull 57 = .ok (.if_icmp .lt 7, 3) := by decide +kernel
theorem dX0_isFull_60 : decode cX0_isFull 60 = .ok (.iconst 1, 1) := by decide +kernel
theorem dX0_isFull_61 : decode cX0_isFull 61 = .ok (.goto 4, 3) := by decide +kernel
theorem dX0_isFull_64 : decode cX0_isFull 64 = .ok (.iconst 0, 1) := by decide +kernel
theorem dX0_isFull_65 : decode cX0_isFull 65 = .ok (.ireturn, 1) := by decide +kernel
theorem dX0_isFull_66 : decode cX0_isFull 66 = .ok (.aload_n 0, 1) := by decide +kernel
theorem dX0_isFull_67 : decode cX0_isFull 67 = .ok (.aload_n 0, 1) := by decide +kernel
theorem dX0_isFull_68 : decode cX0_isFull 68 = .ok (.getfield 36, 3) := by decide +kernel
theorem dX0_isFull_71 : decode cX0_isFull 71 = .ok (.iconst 1, 1) := by decide +kernel
theorem dX0_isFull_72 : decode cX0_isFull 72 = .ok (.isub, 1) := by decide +kernel
theorem dX0_isFull_73 : decode cX0_isFull 73 = .ok (.invokevirtual 73, 3) := by decide +kernel
theorem dX0_isFull_76 : decode cX0_isFull 76 = .ok (.iconst 3, 1) := by decide +kernel
theorem dX0_isFull_77 : decode cX0_isFull 77 = .ok (.if_icmp .lt 7, 3) := by decide +kernel
theorem dX0_isFull_80 : decode cX0_isFull 80 = .ok (.iconst 1, 1) := by decide +kernel
theorem dX0_isFull_81 : decode cX0_isFull 81 = .ok (.goto 4, 3) := by decide +kernel
theorem dX0_isFull_84 : decode cX0_isFull 84 = .ok (.iconst 0, 1) := by decide +kernel
theorem dX0_isFull_85 : decode cX0_isFull 85 = .ok (.ireturn, 1) := by decide +kernel
theorem dX0_isFull_86 : decode cX0_isFull 86 = .ok (.aload_n 0, 1) := by decide +kernel
theorem dX0_isFull_87 : decode cX0_isFull 87 = .ok (.getfield 40, 3) := by decide +kernel
theorem dX0_isFull_90 : decode cX0_isFull 90 = .ok (.bipush 8, 2) := by decide +kernel
theorem dX0_isFull_92 : decode cX0_isFull 92 = .ok (.if_icmp .lt 7, 3) := by decide +kernel
theorem dX0_isFull_95 : decode cX0_isFull 95 = .ok (.iconst 1, 1) := by decide +kernel
theorem dX0_isFull_96 : decode cX0_isFull 96 = .ok (.goto 4, 3) := by decide +kernel
theorem dX0_isFull_99 : decode cX0_isFull 99 = .ok (.iconst 0, 1) := by decide +kernel
theorem dX0_isFull_100 : decode cX0_isFull 100 = .ok (.ireturn, 1) := by decide +kernel
theorem dX0_isFull_101 : decode cX0_isFull 101 = .ok (.iconst 0, 1) := by decide +kernel
theorem dX0_isFull_102 : decode cX0_isFull 102 = .ok (.ireturn, 1) := by decide +kernel
set_option maxRecDepth 20000 in
theorem ggX0_addLine_X6_copy : GoodIn wsX0_addLine wsX6_copy := goodIn_r _ [13, 14, 15, 12, 16, 17, 18, 19] (by decide +kernel) (by decide +kernel)
set_option maxRecDepth 20000 in
theorem gX0_addLine_X6_copy_n65 : GoodIn wsX0_addLine (wsX6_copy) := ggX0_addLine_X6_copy
set_option maxRecDepth 20000 in
theorem ggX0_addLine_X0_breakCount : GoodIn wsX0_addLine wsX0_breakCount := goodIn_r _ [24, 4, 15, 12, 16, 35, 36, 37, 38, 39, 40, 41, 42, 43, 44] (by decide +kernel) (by decide +kernel)
set_option maxRecDepth 20000 in
theorem gX0_addLine_X0_breakCount : GoodIn wsX0_addLine (wsV RX0 69 RX0 yX0_breakCount wsX0_breakCount) := goodIn_app (goodIn_of _ (by decide +kernel)) ggX0_addLine_X0_breakCount
set_option maxRecDepth 20000 in
theorem ggX0_addLine_X0_breakStart : GoodIn wsX0_addLine wsX0_breakStart := goodIn_r _ [27] (by decide +kernel) (by decide +kernel)
set_option maxRecDepth 20000 in
theorem gX0_addLine_X0_breakStart : GoodIn wsX0_addLine (va_wsS RX0 76 yX0_breakStart wsX0_breakStart) := goodIn_app (goodIn_of _ (by decide +kernel)) ggX0_addLine_X0_breakStart
set_option maxRecDepth 20000 in
theorem ggX0_addLine_X6_store : GoodIn wsX0_addLine wsX6_store := goodIn_r _ [19] (by decide +kernel) (by decide +kernel)
set_option maxRecDepth 20000 in
theorem gX0_addLine_X6_store_n80 : GoodIn wsX0_addLine (wsX6_store) := ggX0_addLine_X6_store
set_option maxRecDepth 20000 in
theorem ggX0_addLine_X0_zonesCount : GoodIn wsX0_addLine wsX0_zonesCount := goodIn_r _ [31, 6, 15, 12, 16, 35, 36, 37, 38, 39, 40, 41, 42, 43, 44] (by decide +kernel) (by decide +kernel)
set_option maxRecDepth 20000 in
theorem gX0_addLine_X0_zonesCount : GoodIn wsX0_addLine (wsV RX0 73 RX0 yX0_zonesCount wsX0_zonesCount) := goodIn_app (goodIn_of _ (by decide +kernel)) ggX0_addLine_X0_zonesCount
set_option maxRecDepth 20000 in
theorem ggX0_addLine_X0_zonesStart : GoodIn wsX0_addLine wsX0_zonesStart := goodIn_r _ [34] (by decide +kernel) (by decide +kernel)
set_option maxRecDepth 20000 in
theorem gX0_addLine_X0_zonesStart : GoodIn wsX0_addLine (va_wsS RX0 84 yX0_zonesStart wsX0_zonesStart) := goodIn_app (goodIn_of _ (by decide +kernel)) ggX0_addLine_X0_zonesStart
set_option maxRecDepth 20000 in
theorem ggX0_addLine_X6_at : GoodIn wsX0_addLine wsX6_at := goodIn_r _ [16] (by decide +kernel) (by decide +kernel)
set_option maxRecDepth 20000 in
theorem gX0_addLine_X6_at_n87 : GoodIn wsX0_addLine (wsX6_at) := ggX0_addLine_X6_at
theorem dX0_addLine_0 : decode cX0_addLine 0 = .ok (.aload_n 0, 1) := by decide +kernel
theorem dX0_addLine_1 : decode cX0_addLine 1 = .ok (.getfield 36, 3) := by decide +kernel
theorem dX0_addLine_4 : decode cX0_addLine 4 = .ok (.iconst 1, 1) := by decide +kernel
theorem dX0_addLine_5 : decode cX0_addLine 5 = .ok (.isub, 1) := by decide +kernel
theorem dX0_addLine_6 : decode cX0_addLine 6 = .ok (.istore_n 3, 1) := by decide +kernel
theorem dX0_addLine_7 : decode cX0_addLine 7 = .ok (.iload_n 1, 1) := by decide +kernel
theorem dX0_addLine_8 : decode cX0_addLine 8 = .ok (.tableswitch 191 0 4 #[36, 67, 104, 141, 170], 36) := by decide +kernel
theorem dX0_addLine_44 : decode cX0_addLine 44 = .ok (.aload_n 2, 1) := by decide +kernel
theorem dX0_addLine_45 : decode cX0_addLine 45 = .ok (.iconst 0, 1) := by decide +kernel
theorem dX0_addLine_46 : decode cX0_addLine 46 = .ok (.aload_n 0, 1) := by decide +kernel
theorem dX0_addLine_47 : decode cX0_addLine 47 = .ok (.getfield 11, 3) := by decide +kernel
theorem dX0_addLine_50 : decode cX0_addLine 50 = .ok (.aload_n 0, 1) := by decide +kernel
theorem dX0_addLine_51 : decode cX0_addLine 51 = .ok (.getfield 36, 3) := by decide +kernel
theorem dX0_addLine_54 : decode cX0_addLine 54 = .ok (.bipush 6, 2) := by decide +kernel
theorem dX0_addLine_56 : decode cX0_addLine 56 = .ok (.imul, 1) := by decide +kernel
theorem dX0_addLine_57 : decode cX0_addLine 57 = .ok (.bipush 6, 2) := by decide +kernel
theorem dX0_addLine_59 : decode cX0_addLine 59 = .ok (.invokestatic 65, 3) := by decide +kernel
theorem dX0_addLine_62 : decode cX0_addLine 62 = .ok (.aload_n 0, 1) := by decide +kernel
theorem dX0_addLine_63 : decode cX0_addLine 63 = .ok (.dup, 1) := by decide +kernel
theorem dX0_addLine_64 : decode cX0_addLine 64 = .ok (.getfield 36, 3) := by decide +kernel
theorem dX0_addLine_67 : decode cX0_addLine 67 = .ok (.iconst 1, 1) := by decide +kernel
theorem dX0_addLine_68 : decode cX0_addLine 68 = .ok (.iadd, 1) := by decide +kernel
theorem dX0_addLine_69 : decode cX0_addLine 69 = .ok (.putfield 36, 3) := by decide +kernel
theorem dX0_addLine_72 : decode cX0_addLine 72 = .ok (.goto 127, 3) := by decide +kernel
theorem dX0_addLine_75 : decode cX0_addLine 75 = .ok (.aload_n 2, 1) := by decide +kernel
theorem dX0_addLine_76 : decode cX0_addLine 76 = .ok (.iconst 0, 1) := by decide +kernel
theorem dX0_addLine_77 : decode cX0_addLine 77 = .ok (.aload_n 0, 1) := by decide +kernel
theorem dX0_addLine_78 : decode cX0_addLine 78 = .ok (.getfield 15, 3) := by decide +kernel
theorem dX0_addLine_81 : decode cX0_addLine 81 = .ok (.iload_n 3, 1) := by decide +kernel
theorem dX0_addLine_82 : decode cX0_addLine 82 = .ok (.aload_n 0, 1) := by decide +kernel
theorem dX0_addLine_83 : decode cX0_addLine 83 = .ok (.iload_n 3, 1) := by decide +kernel
theorem dX0_addLine_84 : decode cX0_addLine 84 = .ok (.invokevirtual 69, 3) := by decide +kernel
theorem dX0_addLine_87 : decode cX0_addLine 87 = .ok (.invokestatic 76, 3) := by decide +kernel
theorem dX0_addLine_90 : decode cX0_addLine 90 = .ok (.iconst 4, 1) := by decide +kernel
theorem dX0_addLine_91 : decode cX0_addLine 91 = .ok (.invokestatic 65, 3) := by decide +kernel
theorem dX0_addLine_94 : decode cX0_addLine 94 = .ok (.aload_n 0, 1) := by decide +kernel
theorem dX0_addLine_95 : decode cX0_addLine 95 = .ok (.getfield 24, 3) := by decide +kernel
theorem dX0_addLine_98 : decode cX0_addLine 98 = .ok (.iload_n 3, 1) := by decide +kernel
theorem dX0_addLine_99 : decode cX0_addLine 99 = .ok (.aload_n 0, 1) := by decide +kernel
theorem dX0_addLine_100 : decode cX0_addLine 100 = .ok (.iload_n 3, 1) := by decide +kernel
theorem dX0_addLine_101 : decode cX0_addLine 101 = .ok (.invokevirtual 69, 3) := by decide +kernel
theorem dX0_addLine_104 : decode cX0_addLine 104 = .ok (.iconst 1, 1) := by decide +kernel
theorem dX0_addLine_105 : decode cX0_addLine 105 = .ok (.iadd, 1) := by decide +kernel
theorem dX0_addLine_106 : decode cX0_addLine 106 = .ok (.invokestatic 80, 3) := by decide +kernel
theorem dX0_addLine_109 : decode cX0_addLine 109 = .ok (.goto 90, 3) := by decide +kernel
theorem dX0_addLine_112 : decode cX0_addLine 112 = .ok (.aload_n 2, 1) := by decide +kernel
theorem dX0_addLine_113 : decode cX0_addLine 113 = .ok (.iconst 0, 1) := by decide +kernel
theorem dX0_addLine_114 : decode cX0_addLine 114 = .ok (.aload_n 0, 1) := by decide +kernel
theorem dX0_addLine_115 : decode cX0_addLine 115 = .ok (.getfield 18, 3) := by decide +kernel
theorem dX0_addLine_118 : decode cX0_addLine 118 = .ok (.iload_n 3, 1) := by decide +kernel
theorem dX0_addLine_119 : decode cX0_addLine 119 = .ok (.aload_n 0, 1) := by decide +kernel
theorem dX0_addLine_120 : decode cX0_addLine 120 = .ok (.iload_n 3, 1) := by decide +kernel
theorem dX0_addLine_121 : decode cX0_addLine 121 = .ok (.invokevirtual 73, 3) := by decide +kernel
theorem dX0_addLine_124 : decode cX0_addLine 124 = .ok (.invokestatic 84, 3) := by decide +kernel
theorem dX0_addLine_127 : decode cX0_addLine 127 = .ok (.iconst 5, 1) := by decide +kernel
theorem dX0_addLine_128 : decode cX0_addLine 128 = .ok (.invokestatic 65, 3) := by decide +kernel
theorem dX0_addLine_131 : decode cX0_addLine 131 = .ok (.aload_n 0, 1) := by decide +kernel
theorem dX0_addLine_132 : decode cX0_addLine 132 = .ok (.getfield 27, 3) := by decide +kernel
theorem dX0_addLine_135 : decode cX0_addLine 135 = .ok (.iload_n 3, 1) := by decide +kernel
theorem dX0_addLine_136 : decode cX0_addLine 136 = .ok (.aload_n 0, 1) := by decide +kernel
theorem dX0_addLine_137 : decode cX0_addLine 137 = .ok (.iload_n 3, 1) := by decide +kernel
theorem dX0_addLine_138 : decode cX0_addLine 138 = .ok (.invokevirtual 73, 3) := by decide +kernel
theorem dX0_addLine_141 : decode cX0_addLine 141 = .ok (.iconst 1, 1) := by decide +kernel
theorem dX0_addLine_142 : decode cX0_addLine 142 = .ok (.iadd, 1) := by decide +kernel
theorem dX0_addLine_143 : decode cX0_addLine 143 = .ok (.invokestatic 80, 3) := by decide +kernel
theorem dX0_addLine_146 : decode cX0_addLine 146 = .ok (.goto 53, 3) := by decide +kernel
theorem dX0_addLine_149 : decode cX0_addLine 149 = .ok (.aload_n 2, 1) := by decide +kernel
theorem dX0_addLine_150 : decode cX0_addLine 150 = .ok (.iconst 0, 1) := by decide +kernel
theorem dX0_addLine_151 : decode cX0_addLine 151 = .ok (.aload_n 0, 1) := by decide +kernel
theorem dX0_addLine_152 : decode cX0_addLine 152 = .ok (.getfield 21, 3) := by decide +kernel
theorem dX0_addLine_155 : decode cX0_addLine 155 = .ok (.aload_n 0, 1) := by decide +kernel
theorem dX0_addLine_156 : decode cX0_addLine 156 = .ok (.getfield 40, 3) := by decide +kernel
theorem dX0_addLine_159 : decode cX0_addLine 159 = .ok (.iconst 3, 1) := by decide +kernel
theorem dX0_addLine_160 : decode cX0_addLine 160 = .ok (.imul, 1) := by decide +kernel
theorem dX0_addLine_161 : decode cX0_addLine 161 = .ok (.iconst 3, 1) := by decide +kernel
theorem dX0_addLine_162 : decode cX0_addLine 162 = .ok (.invokestatic 65, 3) := by decide +kernel
theorem dX0_addLine_165 : decode cX0_addLine 165 = .ok (.aload_n 0, 1) := by decide +kernel
theorem dX0_addLine_166 : decode cX0_addLine 166 = .ok (.dup, 1) := by decide +kernel
theorem dX0_addLine_167 : decode cX0_addLine 167 = .ok (.getfield 40, 3) := by decide +kernel
theorem dX0_addLine_170 : decode cX0_addLine 170 = .ok (.iconst 1, 1) := by decide +kernel
theorem dX0_addLine_171 : decode cX0_addLine 171 = .ok (.iadd, 1) := by decide +kernel
theorem dX0_addLine_172 : decode cX0_addLine 172 = .ok (.putfield 40, 3) := by decide +kernel
theorem dX0_addLine_175 : decode cX0_addLine 175 = .ok (.goto 24, 3) := by decide +kernel
theorem dX0_addLine_178 : decode cX0_addLine 178 = .ok (.aload_n 0, 1) := by decide +kernel
theorem dX0_addLine_179 : decode cX0_addLine 179 = .ok (.aload_n 2, 1) := by decide +kernel
theorem dX0_addLine_180 : decode cX0_addLine 180 = .ok (.iconst 0, 1) := by decide +kernel
theorem dX0_addLine_181 : decode cX0_addLine 181 = .ok (.invokestatic 87, 3) := by decide +kernel
theorem dX0_addLine_184 : decode cX0_addLine 184 = .ok (.putfield 43, 3) := by decide +kernel
theorem dX0_addLine_187 : decode cX0_addLine 187 = .ok (.aload_n 0, 1) := by decide +kernel
theorem dX0_addLine_188 : decode cX0_addLine 188 = .ok (.aload_n 2, 1) := by decide +kernel
theorem dX0_addLine_189 : decode cX0_addLine 189 = .ok (.iconst 1, 1) := by decide +kernel
theorem dX0_addLine_190 : decode cX0_addLine 190 = .ok (.invokestatic 87, 3) := by decide +kernel
theorem dX0_addLine_193 : decode cX0_addLine 193 = .ok (.putfield 46, 3) := by decide +kernel
theorem dX0_addLine_196 : decode cX0_addLine 196 = .ok (.goto 3, 3) := by decide +kernel
theorem dX0_addLine_199 : decode cX0_addLine 199 = .ok (.return_, 1) := by decide +kernel
theorem dX0_breakStart_0 : decode cX0_breakStart 0 = .ok (.iload_n 0, 1) := by decide +kernel
theorem dX0_breakStart_1 : decode cX0_breakStart 1 = .ok (.iconst 5, 1) := by decide +kernel
theorem dX0_breakStart_2 : decode cX0_breakStart 2 = .ok (.imul, 1) := by decide +kernel
theorem dX0_breakStart_3 : decode cX0_breakStart 3 = .ok (.iload_n 1, 1) := by decide +kernel
theorem dX0_breakStart_4 : decode cX0_breakStart 4 = .ok (.iadd, 1) := by decide +kernel
theorem dX0_breakStart_5 : decode cX0_breakStart 5 = .ok (.iconst 4, 1) := by decide +kernel
theorem dX0_breakStart_6 : decode cX0_breakStart 6 = .ok (.imul, 1) := by decide +kernel
theorem dX0_breakStart_7 : decode cX0_breakStart 7 = .ok (.ireturn, 1) := by decide +kernel
theorem dX0_zonesStart_0 : decode cX0_zonesStart 0 = .ok (.iload_n 0, 1) := by decide +kernel
theorem dX0_zonesStart_1 : decode cX0_zonesStart 1 = .ok (.iconst 3, 1) := by decide +kernel
theorem dX0_zonesStart_2 : decode cX0_zonesStart 2 = .ok (.imul, 1) := by decide +kernel
theorem dX0_zonesStart_3 : decode cX0_zonesStart 3 = .ok (.iload_n 1, 1) := by decide +kernel
theorem dX0_zonesStart_4 : decode cX0_zonesStart 4 = .ok (.iadd, 1) := by decide +kernel
theorem dX0_zonesStart_5 : decode cX0_zonesStart 5 = .ok (.iconst 5, 1) := by decide +kernel
theorem dX0_zonesStart_6 : decode cX0_zonesStart 6 = .ok (.imul, 1) := by decide +kernel
theorem dX0_zonesStart_7 : decode cX0_zonesStart 7 = .ok (.ireturn, 1) := by decide +kernel
theorem dX0_carrierCount_0 : decode cX0_carrierCount 0 = .ok (.aload_n 0, 1) := by decide +kernel
theorem dX0_carrierCount_1 : decode cX0_carrierCount 1 = .ok (.getfield 36, 3) := by decide +kernel
theorem dX0_carrierCount_4 : decode cX0_carrierCount 4 = .ok (.ireturn, 1) := by decide +kernel
theorem dX0_goodCount_0 : decode cX0_goodCount 0 = .ok (.aload_n 0, 1) := by decide +kernel
theorem dX0_goodCount_1 : decode cX0_goodCount 1 = .ok (.getfield 40, 3) := by decide +kernel
theorem dX0_goodCount_4 : decode cX0_goodCount 4 = .ok (.ireturn, 1) := by decide +kernel
theorem dX0_place_0 : decode cX0_place 0 = .ok (.aload_n 0, 1) := by decide +kernel
theorem dX0_place_1 : decode cX0_place 1 = .ok (.getfield 43, 3) := by decide +kernel
theorem dX0_place_4 : decode cX0_place 4 = .ok (.ireturn, 1) := by decide +kernel
theorem dX0_day_0 : decode cX0_day 0 = .ok (.aload_n 0, 1) := by decide +kernel
theorem dX0_day_1 : decode cX0_day 1 = .ok (.getfield 46, 3) := by decide +kernel
theorem dX0_day_4 : decode cX0_day 4 = .ok (.ireturn, 1) := by decide +kernel
set_option maxRecDepth 20000 in
theorem ggX0_breakCount_X6_at : GoodIn wsX0_breakCount wsX6_at := goodIn_r _ [4] (by decide +kernel) (by decide +kernel)
set_option maxRecDepth 20000 in
theorem gX0_breakCount_X6_at_n87 : GoodIn wsX0_breakCount (wsX6_at) := ggX0_breakCount_X6_at
theorem dX0_breakCount_0 : decode cX0_breakCount 0 = .ok (.aload_n 0, 1) := by decide +kernel
theorem dX0_breakCount_1 : decode cX0_breakCount 1 = .ok (.getfield 24, 3) := by decide +kernel
theorem dX0_breakCount_4 : decode cX0_breakCount 4 = .ok (.iload_n 1, 1) := by decide +kernel
theorem dX0_breakCount_5 : decode cX0_breakCount 5 = .ok (.invokestatic 87, 3) := by decide +kernel
theorem dX0_breakCount_8 : decode cX0_breakCount 8 = .ok (.ireturn, 1) := by decide +kernel
set_option maxRecDepth 20000 in
theorem ggX0_zonesCount_X6_at : GoodIn wsX0_zonesCount wsX6_at := goodIn_r _ [4] (by decide +kernel) (by decide +kernel)
set_option maxRecDepth 20000 in
theorem gX0_zonesCount_X6_at_n87 : GoodIn wsX0_zonesCount (wsX6_at) := ggX0_zonesCount_X6_at
theorem dX0_zonesCount_0 : decode cX0_zonesCount 0 = .ok (.aload_n 0, 1) := by decide +kernel
theorem dX0_zonesCount_1 : decode cX0_zonesCount 1 = .ok (.getfield 27, 3) := by decide +kernel
theorem dX0_zonesCount_4 : decode cX0_zonesCount 4 = .ok (.iload_n 1, 1) := by decide +kernel
theorem dX0_zonesCount_5 : decode cX0_zonesCount 5 = .ok (.invokestatic 87, 3) := by decide +kernel
theorem dX0_zonesCount_8 : decode cX0_zonesCount 8 = .ok (.ireturn, 1) := by decide +kernel
set_option maxRecDepth 20000 in
theorem ggX0_carrierNumber_X6_at : GoodIn wsX0_carrierNumber wsX6_at := goodIn_r _ [4] (by decide +kernel) (by decide +kernel)
set_option maxRecDepth 20000 in
theorem gX0_carrierNumber_X6_at_n87 : GoodIn wsX0_carrierNumber (wsX6_at) := ggX0_carrierNumber_X6_at
theorem dX0_carrierNumber_0 : decode cX0_carrierNumber 0 = .ok (.aload_n 0, 1) := by decide +kernel
theorem dX0_carrierNumber_1 : decode cX0_carrierNumber 1 = .ok (.getfield 11, 3) := by decide +kernel
theorem dX0_carrierNumber_4 : decode cX0_carrierNumber 4 = .ok (.iload_n 1, 1) := by decide +kernel
theorem dX0_carrierNumber_5 : decode cX0_carrierNumber 5 = .ok (.bipush 6, 2) := by decide +kernel
theorem dX0_carrierNumber_7 : decode cX0_carrierNumber 7 = .ok (.imul, 1) := by decide +kernel
theorem dX0_carrierNumber_8 : decode cX0_carrierNumber 8 = .ok (.iload_n 2, 1) := by decide +kernel
theorem dX0_carrierNumber_9 : decode cX0_carrierNumber 9 = .ok (.iadd, 1) := by decide +kernel
theorem dX0_carrierNumber_10 : decode cX0_carrierNumber 10 = .ok (.invokestatic 87, 3) := by decide +kernel
theorem dX0_carrierNumber_13 : decode cX0_carrierNumber 13 = .ok (.ireturn, 1) := by decide +kernel
set_option maxRecDepth 20000 in
theorem ggX0_breakNumber_X0_breakStart : GoodIn wsX0_breakNumber wsX0_breakStart := goodIn_r _ [5] (by decide +kernel) (by decide +kernel)
set_option maxRecDepth 20000 in
theorem gX0_breakNumber_X0_breakStart : GoodIn wsX0_breakNumber (va_wsS RX0 76 yX0_breakStart wsX0_breakStart) := goodIn_app (goodIn_of _ (by decide +kernel)) ggX0_breakNumber_X0_breakStart
set_option maxRecDepth 20000 in
theorem ggX0_breakNumber_X6_at : GoodIn wsX0_breakNumber wsX6_at := goodIn_r _ [8] (by decide +kernel) (by decide +kernel)
set_option maxRecDepth 20000 in
theorem gX0_breakNumber_X6_at_n87 : GoodIn wsX0_breakNumber (wsX6_at) := ggX0_breakNumber_X6_at
theorem dX0_breakNumber_0 : decode cX0_breakNumber 0 = .ok (.aload_n 0, 1) := by decide +kernel
theorem dX0_breakNumber_1 : decode cX0_breakNumber 1 = .ok (.getfield 15, 3) := by decide +kernel
theorem dX0_breakNumber_4 : decode cX0_breakNumber 4 = .ok (.iload_n 1, 1) := by decide +kernel
theorem dX0_breakNumber_5 : decode cX0_breakNumber 5 = .ok (.iload_n 2, 1) := by decide +kernel
theorem dX0_breakNumber_6 : decode cX0_breakNumber 6 = .ok (.invokestatic 76, 3) := by decide +kernel
theorem dX0_breakNumber_9 : decode cX0_breakNumber 9 = .ok (.iload_n 3, 1) := by decide +kernel
theorem dX0_breakNumber_10 : decode cX0_breakNumber 10 = .ok (.iadd, 1) := by decide +kernel
theorem dX0_breakNumber_11 : decode cX0_breakNumber 11 = .ok (.invokestatic 87, 3) := by decide +kernel
theorem dX0_breakNumber_14 : decode cX0_breakNumber 14 = .ok (.ireturn, 1) := by decide +kernel
set_option maxRecDepth 20000 in
theorem ggX0_zonesNumber_X0_zonesStart : GoodIn wsX0_zonesNumber wsX0_zonesStart := goodIn_r _ [5] (by decide +kernel) (by decide +kernel)
set_option maxRecDepth 20000 in
theorem gX0_zonesNumber_X0_zonesStart : GoodIn wsX0_zonesNumber (va_wsS RX0 84 yX0_zonesStart wsX0_zonesStart) := goodIn_app (goodIn_of _ (by decide +kernel)) ggX0_zonesNumber_X0_zonesStart
set_option maxRecDepth 20000 in
theorem ggX0_zonesNumber_X6_at : GoodIn wsX0_zonesNumber wsX6_at := goodIn_r _ [8] (by decide +kernel) (by decide +kernel)
set_option maxRecDepth 20000 in
theorem gX0_zonesNumber_X6_at_n87 : GoodIn wsX0_zonesNumber (wsX6_at) := ggX0_zonesNumber_X6_at
theorem dX0_zonesNumber_0 : decode cX0_zonesNumber 0 = .ok (.aload_n 0, 1) := by decide +kernel
theorem dX0_zonesNumber_1 : decode cX0_zonesNumber 1 = .ok (.getfield 18, 3) := by decide +kernel
theorem dX0_zonesNumber_4 : decode cX0_zonesNumber 4 = .ok (.iload_n 1, 1) := by decide +kernel
theorem dX0_zonesNumber_5 : decode cX0_zonesNumber 5 = .ok (.iload_n 2, 1) := by decide +kernel
theorem dX0_zonesNumber_6 : decode cX0_zonesNumber 6 = .ok (.invokestatic 84, 3) := by decide +kernel
theorem dX0_zonesNumber_9 : decode cX0_zonesNumber 9 = .ok (.iload_n 3, 1) := by decide +kernel
theorem dX0_zonesNumber_10 : decode cX0_zonesNumber 10 = .ok (.iadd, 1) := by decide +kernel
theorem dX0_zonesNumber_11 : decode cX0_zonesNumber 11 = .ok (.invokestatic 87, 3) := by decide +kernel
theorem dX0_zonesNumber_14 : decode cX0_zonesNumber 14 = .ok (.ireturn, 1) := by decide +kernel
set_option maxRecDepth 20000 in
theorem ggX0_goodNumber_X6_at : GoodIn wsX0_goodNumber wsX6_at := goodIn_r _ [4] (by decide +kernel) (by decide +kernel)
set_option maxRecDepth 20000 in
theorem gX0_goodNumber_X6_at_n87 : GoodIn wsX0_goodNumber (wsX6_at) := ggX0_goodNumber_X6_at
theorem dX0_goodNumber_0 : decode cX0_goodNumber 0 = .ok (.aload_n 0, 1) := by decide +kernel
theorem dX0_goodNumber_1 : decode cX0_goodNumber 1 = .ok (.getfield 21, 3) := by decide +kernel
theorem dX0_goodNumber_4 : decode cX0_goodNumber 4 = .ok (.iload_n 1, 1) := by decide +kernel
theorem dX0_goodNumber_5 : decode cX0_goodNumber 5 = .ok (.iconst 3, 1) := by decide +kernel
theorem dX0_goodNumber_6 : decode cX0_goodNumber 6 = .ok (.imul, 1) := by decide +kernel
theorem dX0_goodNumber_7 : decode cX0_goodNumber 7 = .ok (.iload_n 2, 1) := by decide +kernel
theorem dX0_goodNumber_8 : decode cX0_goodNumber 8 = .ok (.iadd, 1) := by decide +kernel
theorem dX0_goodNumber_9 : decode cX0_goodNumber 9 = .ok (.invokestatic 87, 3) := by decide +kernel
theorem dX0_goodNumber_12 : decode cX0_goodNumber 12 = .ok (.ireturn, 1) := by decide +kernel
theorem dX0_hasCarrier_0 : decode cX0_hasCarrier 0 = .ok (.iload_n 1, 1) := by decide +kernel
theorem dX0_hasCarrier_1 : decode cX0_hasCarrier 1 = .ok (.ifCond .lt 15, 3) := by decide +kernel
theorem dX0_hasCarrier_4 : decode cX0_hasCarrier 4 = .ok (.iload_n 1, 1) := by decide +kernel
theorem dX0_hasCarrier_5 : decode cX0_hasCarrier 5 = .ok (.aload_n 0, 1) := by decide +kernel
theorem dX0_hasCarrier_6 : decode cX0_hasCarrier 6 = .ok (.getfield 36, 3) := by decide +kernel
theorem dX0_hasCarrier_9 : decode cX0_hasCarrier 9 = .ok (.if_icmp .ge 7, 3) := by decide +kernel
theorem dX0_hasCarrier_12 : decode cX0_hasCarrier 12 = .ok (.iconst 1, 1) := by decide +kernel
theorem dX0_hasCarrier_13 : decode cX0_hasCarrier 13 = .ok (.goto 4, 3) := by decide +kernel
theorem dX0_hasCarrier_16 : decode cX0_hasCarrier 16 = .ok (.iconst 0, 1) := by decide +kernel
theorem dX0_hasCarrier_17 : decode cX0_hasCarrier 17 = .ok (.ireturn, 1) := by decide +kernel
theorem dX0_hasGood_0 : decode cX0_hasGood 0 = .ok (.iload_n 1, 1) := by decide +kernel
theorem dX0_hasGood_1 : decode cX0_hasGood 1 = .ok (.ifCond .lt 15, 3) := by decide +kernel
theorem dX0_hasGood_4 : decode cX0_hasGood 4 = .ok (.iload_n 1, 1) := by decide +kernel
theorem dX0_hasGood_5 : decode cX0_hasGood 5 = .ok (.aload_n 0, 1) := by decide +kernel
theorem dX0_hasGood_6 : decode cX0_hasGood 6 = .ok (.getfield 40, 3) := by decide +kernel
theorem dX0_hasGood_9 : decode cX0_hasGood 9 = .ok (.if_icmp .ge 7, 3) := by decide +kernel
theorem dX0_hasGood_12 : decode cX0_hasGood 12 = .ok (.iconst 1, 1) := by decide +kernel
theorem dX0_hasGood_13 : decode cX0_hasGood 13 = .ok (.goto 4, 3) := by decide +kernel
theorem dX0_hasGood_16 : decode cX0_hasGood 16 = .ok (.iconst 0, 1) := by decide +kernel
theorem dX0_hasGood_17 : decode cX0_hasGood 17 = .ok (.ireturn, 1) := by decide +kernel
theorem dX0_fullSet_0 : decode cX0_fullSet 0 = .ok (.iconst 1, 1) := by decide +kernel
theorem dX0_fullSet_1 : decode cX0_fullSet 1 = .ok (.aload_n 0, 1) := by decide +kernel
theorem dX0_fullSet_2 : decode cX0_fullSet 2 = .ok (.getfield 40, 3) := by decide +kernel
theorem dX0_fullSet_5 : decode cX0_fullSet 5 = .ok (.ishl, 1) := by decide +kernel
theorem dX0_fullSet_6 : decode cX0_fullSet 6 = .ok (.iconst 1, 1) := by decide +kernel
theorem dX0_fullSet_7 : decode cX0_fullSet 7 = .ok (.isub, 1) := by decide +kernel
theorem dX0_fullSet_8 : decode cX0_fullSet 8 = .ok (.ireturn, 1) := by decide +kernel
set_option maxRecDepth 20000 in
theorem ggX0_hasSet_X0_fullSet : GoodIn wsX0_hasSet wsX0_fullSet := goodIn_r _ [5, 6, 7, 8, 9, 10, 11, 12, 13, 14, 15, 16] (by decide +kernel) (by decide +kernel)
set_option maxRecDepth 20000 in
theorem gX0_hasSet_X0_fullSet : GoodIn wsX0_hasSet (wsV RX0 91 RX0 yX0_fullSet wsX0_fullSet) := goodIn_app (goodIn_of _ (by decide +kernel)) ggX0_hasSet_X0_fullSet
theorem dX0_hasSet_0 : decode cX0_hasSet 0 = .ok (.iload_n 1, 1) := by decide +kernel
theorem dX0_hasSet_1 : decode cX0_hasSet 1 = .ok (.iconst 1, 1) := by decide +kernel
theorem dX0_hasSet_2 : decode cX0_hasSet 2 = .ok (.if_icmp .lt 15, 3) := by decide +kernel
theorem dX0_hasSet_5 : decode cX0_hasSet 5 = .ok (.iload_n 1, 1) := by decide +kernel
theorem dX0_hasSet_6 : decode cX0_hasSet 6 = .ok (.aload_n 0, 1) := by decide +kernel
theorem dX0_hasSet_7 : decode cX0_hasSet 7 = .ok (.invokevirtual 91, 3) := by decide +kernel
theorem dX0_hasSet_10 : decode cX0_hasSet 10 = .ok (.if_icmp .gt 7, 3) := by decide +kernel
theorem dX0_hasSet_13 : decode cX0_hasSet 13 = .ok (.iconst 1, 1) := by decide +kernel
theorem dX0_hasSet_14 : decode cX0_hasSet 14 = .ok (.goto 4, 3) := by decide +kernel
theorem dX0_hasSet_17 : decode cX0_hasSet 17 = .ok (.iconst 0, 1) := by decide +kernel
theorem dX0_hasSet_18 : decode cX0_hasSet 18 = .ok (.ireturn, 1) := by decide +kernel
theorem dX1_init_0 : decode cX1_init 0 = .ok (.aload_n 0, 1) := by decide +kernel
theorem dX1_init_1 : decode cX1_init 1 = .ok (.invokespecial 5, 3) := by decide +kernel
theorem dX1_init_4 : decode cX1_init 4 = .ok (.aload_n 0, 1) := by decide +kernel
theorem dX1_init_5 : decode cX1_init 5 = .ok (.bipush 26, 2) := by decide +kernel
theorem dX1_init_7 : decode cX1_init 7 = .ok (.newarray .int, 2) := by decide +kernel
theorem dX1_init_9 : decode cX1_init 9 = .ok (.putfield 11, 3) := by decide +kernel
theorem dX1_init_12 : decode cX1_init 12 = .ok (.aload_n 0, 1) := by decide +kernel
theorem dX1_init_13 : decode cX1_init 13 = .ok (.sipush 260, 3) := by decide +kernel
theorem dX1_init_16 : decode cX1_init 16 = .ok (.newarray .int, 2) := by decide +kernel
theorem dX1_init_18 : decode cX1_init 18 = .ok (.putfield 15, 3) := by decide +kernel
theorem dX1_init_21 : decode cX1_init 21 = .ok (.return_, 1) := by decide +kernel
set_option maxRecDepth 20000 in
theorem ggX1_begin_X1_unpack : GoodIn wsX1_begin wsX1_unpack := goodIn_r _ [7, 8, 9, 10, 11, 6, 12, 13, 14, 15, 16, 17, 18, 19, 24, 25, 26, 27] (by decide +kernel) (by decide +kernel)
set_option maxRecDepth 20000 in
theorem gX1_begin_X1_unpack : GoodIn wsX1_begin (wsV RX1 18 RX1 yX1_unpack wsX1_unpack) := goodIn_app (goodIn_of _ (by decide +kernel)) ggX1_begin_X1_unpack
set_option maxRecDepth 20000 in
theorem ggX1_begin_X1_setOrder : GoodIn wsX1_begin wsX1_setOrder := goodIn_r _ [23, 8, 24, 25, 26, 27] (by decide +kernel) (by decide +kernel)
set_option maxRecDepth 20000 in
theorem gX1_begin_X1_setOrder : GoodIn wsX1_begin (wsV RX1 21 RX1 yX1_setOrder wsX1_setOrder) := goodIn_app (goodIn_of _ (by decide +kernel)) ggX1_begin_X1_setOrder
theorem dX1_begin_0 : decode cX1_begin 0 = .ok (.aload_n 0, 1) := by decide +kernel
theorem dX1_begin_1 : decode cX1_begin 1 = .ok (.invokevirtual 18, 3) := by decide +kernel
theorem dX1_begin_4 : decode cX1_begin 4 = .ok (.aload_n 0, 1) := by decide +kernel
theorem dX1_begin_5 : decode cX1_begin 5 = .ok (.iload_n 1, 1) := by decide +kernel
theorem dX1_begin_6 : decode cX1_begin 6 = .ok (.iload_n 2, 1) := by decide +kernel
theorem dX1_begin_7 : decode cX1_begin 7 = .ok (.invokevirtual 21, 3) := by decide +kernel
theorem dX1_begin_10 : decode cX1_begin 10 = .ok (.aload_n 0, 1) := by decide +kernel
theorem dX1_begin_11 : decode cX1_begin 11 = .ok (.iconst 0, 1) := by decide +kernel
theorem dX1_begin_12 : decode cX1_begin 12 = .ok (.putfield 25, 3) := by decide +kernel
theorem dX1_begin_15 : decode cX1_begin 15 = .ok (.aload_n 0, 1) := by decide +kernel
theorem dX1_begin_16 : decode cX1_begin 16 = .ok (.iconst 0, 1) := by decide +kernel
theorem dX1_begin_17 : decode cX1_begin 17 = .ok (.putfield 29, 3) := by decide +kernel
theorem dX1_begin_20 : decode cX1_begin 20 = .ok (.return_, 1) := by decide +kernel
set_option maxRecDepth 20000 in
theorem ggX1_unpack_X1_setCarrier : GoodIn wsX1_unpack wsX1_setCarrier := goodIn_r _ [6, 1, 7, 8, 9, 14, 15, 16, 17] (by decide +kernel) (by decide +kernel)
set_option maxRecDepth 20000 in
theorem gX1_unpack_X1_setCarrier : GoodIn wsX1_unpack (wsV RX1 32 RX1 yX1_setCarrier wsX1_setCarrier) := goodIn_app (goodIn_of _ (by decide +kernel)) ggX1_unpack_X1_setCarrier
set_option maxRecDepth 20000 in
theorem ggX1_unpack_X1_setClaimed : GoodIn wsX1_unpack wsX1_setClaimed := goodIn_r _ [13, 1, 7, 8, 9, 14, 15, 16, 17] (by decide +kernel) (by decide +kernel)
set_option maxRecDepth 20000 in
theorem gX1_unpack_X1_setClaimed : GoodIn wsX1_unpack (wsV RX1 35 RX1 yX1_setClaimed wsX1_setClaimed) := goodIn_app (goodIn_of _ (by decide +kernel)) ggX1_unpack_X1_setClaimed
theorem dX1_unpack_0 : decode cX1_unpack 0 = .ok (.iconst 0, 1) := by decide +kernel
theorem dX1_unpack_1 : decode cX1_unpack 1 = .ok (.istore_n 1, 1) := by decide +kernel
theorem dX1_unpack_2 : decode cX1_unpack 2 = .ok (.iload_n 1, 1) := by decide +kernel
theorem dX1_unpack_3 : decode cX1_unpack 3 = .ok (.bipush 8, 2) := by decide +kernel
theorem dX1_unpack_5 : decode cX1_unpack 5 = .ok (.if_icmp .ge 16, 3) := by decide +kernel
theorem dX1_unpack_8 : decode cX1_unpack 8 = .ok (.aload_n 0, 1) := by decide +kernel
theorem dX1_unpack_9 : decode cX1_unpack 9 = .ok (.getfield 11, 3) := by decide +kernel
theorem dX1_unpack_12 : decode cX1_unpack 12 = .ok (.iload_n 1, 1) := by decide +kernel
theorem dX1_unpack_13 : decode cX1_unpack 13 = .ok (.iconst (-1), 1) := by decide +kernel
theorem dX1_unpack_14 : decode cX1_unpack 14 = .ok (.iastore, 1) := by decide +kernel
theorem dX1_unpack_15 : decode cX1_unpack 15 = .ok (.iinc 1 1, 3) := by decide +kernel
theorem dX1_unpack_18 : decode cX1_unpack 18 = .ok (.goto (-16), 3) := by decide +kernel
theorem dX1_unpack_21 : decode cX1_unpack 21 = .ok (.iconst 0, 1) := by decide +kernel
theorem dX1_unpack_22 : decode cX1_unpack 22 = .ok (.istore_n 1, 1) := by decide +kernel
theorem dX1_unpack_23 : decode cX1_unpack 23 = .ok (.iload_n 1, 1) := by decide +kernel
theorem dX1_unpack_24 : decode cX1_unpack 24 = .ok (.bipush 8, 2) := by decide +kernel
theorem dX1_unpack_26 : decode cX1_unpack 26 = .ok (.if_icmp .ge 21, 3) := by decide +kernel
theorem dX1_unpack_29 : decode cX1_unpack 29 = .ok (.aload_n 0, 1) := by decide +kernel
theorem dX1_unpack_30 : decode cX1_unpack 30 = .ok (.iload_n 1, 1) := by decide +kernel
theorem dX1_unpack_31 : decode cX1_unpack 31 = .ok (.iconst 0, 1) := by decide +kernel
theorem dX1_unpack_32 : decode cX1_unpack 32 = .ok (.invokevirtual 32, 3) := by decide +kernel
theorem dX1_unpack_35 : decode cX1_unpack 35 = .ok (.aload_n 0, 1) := by decide +kernel
theorem dX1_unpack_36 : decode cX1_unpack 36 = .ok (.iload_n 1, 1) := by decide +kernel
theorem dX1_unpack_37 : decode cX1_unpack 37 = .ok (.iconst 0, 1) := by decide +kernel
theorem dX1_unpack_38 : decode cX1_unpack 38 = .ok (.invokevirtual 35, 3) := by decide +kernel
theorem dX1_unpack_41 : decode cX1_unpack 41 = .ok (.iinc 1 1, 3) := by decide +kernel
theorem dX1_unpack_44 : decode cX1_unpack 44 = .ok (.goto (-21), 3) := by decide +kernel
theorem dX1_unpack_47 : decode cX1_unpack 47 = .ok (.return_, 1) := by decide +kernel
set_option maxRecDepth 20000 in
theorem ggX1_keep_X6_copy : GoodIn wsX1_keep wsX6_copy := goodIn_r _ [11, 12, 13, 10, 14, 15, 16, 17] (by decide +kernel) (by decide +kernel)
set_option maxRecDepth 20000 in
theorem gX1_keep_X6_copy_n38 : GoodIn wsX1_keep (wsX6_copy) := ggX1_keep_X6_copy
theorem dX1_keep_0 : decode cX1_keep 0 = .ok (.aload_n 0, 1) := by decide +kernel
theorem dX1_keep_1 : decode cX1_keep 1 = .ok (.getfield 11, 3) := by decide +kernel
theorem dX1_keep_4 : decode cX1_keep 4 = .ok (.iconst 0, 1) := by decide +kernel
theorem dX1_keep_5 : decode cX1_keep 5 = .ok (.aload_n 0, 1) := by decide +kernel
theorem dX1_keep_6 : decode cX1_keep 6 = .ok (.getfield 15, 3) := by decide +kernel
theorem dX1_keep_9 : decode cX1_keep 9 = .ok (.aload_n 0, 1) := by decide +kernel
theorem dX1_keep_10 : decode cX1_keep 10 = .ok (.getfield 25, 3) := by decide +kernel
theorem dX1_keep_13 : decode cX1_keep 13 = .ok (.bipush 26, 2) := by decide +kernel
theorem dX1_keep_15 : decode cX1_keep 15 = .ok (.imul, 1) := by decide +kernel
theorem dX1_keep_16 : decode cX1_keep 16 = .ok (.bipush 26, 2) := by decide +kernel
theorem dX1_keep_18 : decode cX1_keep 18 = .ok (.invokestatic 38, 3) := by decide +kernel
theorem dX1_keep_21 : decode cX1_keep 21 = .ok (.aload_n 0, 1) := by decide +kernel
theorem dX1_keep_22 : decode cX1_keep 22 = .ok (.aload_n 0, 1) := by decide +kernel
theorem dX1_keep_23 : decode cX1_keep 23 = .ok (.getfield 25, 3) := by decide +kernel
theorem dX1_keep_26 : decode cX1_keep 26 = .ok (.iconst 1, 1) := by decide +kernel
theorem dX1_keep_27 : decode cX1_keep 27 = .ok (.iadd, 1) := by decide +kernel
theorem dX1_keep_28 : decode cX1_keep 28 = .ok (.bipush 10, 2) := by decide +kernel
theorem dX1_keep_30 : decode cX1_keep 30 = .ok (.irem, 1) := by decide +kernel
theorem dX1_keep_31 : decode cX1_keep 31 = .ok (.putfield 25, 3) := by decide +kernel
theorem dX1_keep_34 : decode cX1_keep 34 = .ok (.aload_n 0, 1) := by decide +kernel
theorem dX1_keep_35 : decode cX1_keep 35 = .ok (.aload_n 0, 1) := by decide +kernel
theorem dX1_keep_36 : decode cX1_keep 36 = .ok (.getfield 29, 3) := by decide +kernel
theorem dX1_keep_39 : decode cX1_keep 39 = .ok (.iconst 1, 1) := by decide +kernel
theorem dX1_keep_40 : decode cX1_keep 40 = .ok (.iadd, 1) := by decide +kernel
theorem dX1_keep_41 : decode cX1_keep 41 = .ok (.bipush 10, 2) := by decide +kernel
theorem dX1_keep_43 : decode cX1_keep 43 = .ok (.invokestatic 42, 3) := by decide +kernel
theorem dX1_keep_46 : decode cX1_keep 46 = .ok (.putfield 29, 3) := by decide +kernel
theorem dX1_keep_49 : decode cX1_keep 49 = .ok (.return_, 1) := by decide +kernel
set_option maxRecDepth 20000 in
theorem ggX1_goBack_X6_copy : GoodIn wsX1_goBack wsX6_copy := goodIn_r _ [7, 8, 9, 6, 10, 11, 12, 13] (by decide +kernel) (by decide +kernel)
set_option maxRecDepth 20000 in
theorem gX1_goBack_X6_copy_n38 : GoodIn wsX1_goBack (wsX6_copy) := ggX1_goBack_X6_copy
theorem dX1_goBack_0 : decode cX1_goBack 0 = .ok (.aload_n 0, 1) := by decide +kernel
theorem dX1_goBack_1 : decode cX1_goBack 1 = .ok (.getfield 29, 3) := by decide +kernel
theorem dX1_goBack_4 : decode cX1_goBack 4 = .ok (.iconst 1, 1) := by decide +kernel
theorem dX1_goBack_5 : decode cX1_goBack 5 = .ok (.if_icmp .ge 5, 3) := by decide +kernel
theorem dX1_goBack_8 : decode cX1_goBack 8 = .ok (.iconst 0, 1) := by decide +kernel
theorem dX1_goBack_9 : decode cX1_goBack 9 = .ok (.ireturn, 1) := by decide +kernel
theorem dX1_goBack_10 : decode cX1_goBack 10 = .ok (.aload_n 0, 1) := by decide +kernel
theorem dX1_goBack_11 : decode cX1_goBack 11 = .ok (.aload_n 0, 1) := by decide +kernel
theorem dX1_goBack_12 : decode cX1_goBack 12 = .ok (.getfield 25, 3) := by decide +kernel
theorem dX1_goBack_15 : decode cX1_goBack 15 = .ok (.bipush 10, 2) := by decide +kernel
theorem dX1_goBack_17 : decode cX1_goBack 17 = .ok (.iadd, 1) := by decide +kernel
theorem dX1_goBack_18 : decode cX1_goBack 18 = .ok (.iconst 1, 1) := by decide +kernel
theorem dX1_goBack_19 : decode cX1_goBack 19 = .ok (.isub, 1) := by decide +kernel
theorem dX1_goBack_20 : decode cX1_goBack 20 = .ok (.bipush 10, 2) := by decide +kernel
theorem dX1_goBack_22 : decode cX1_goBack 22 = .ok (.irem, 1) := by decide +kernel
theorem dX1_goBack_23 : decode cX1_goBack 23 = .ok (.putfield 25, 3) := by decide +kernel
theorem dX1_goBack_26 : decode cX1_goBack 26 = .ok (.aload_n 0, 1) := by decide +kernel
theorem dX1_goBack_27 : decode cX1_goBack 27 = .ok (.dup, 1) := by decide +kernel
theorem dX1_goBack_28 : decode cX1_goBack 28 = .ok (.getfield 29, 3) := by decide +kernel
theorem dX1_goBack_31 : decode cX1_goBack 31 = .ok (.iconst 1, 1) := by decide +kernel
theorem dX1_goBack_32 : decode cX1_goBack 32 = .ok (.isub, 1) := by decide +kernel
theorem dX1_goBack_33 : decode cX1_goBack 33 = .ok (.putfield 29, 3) := by decide +kernel
theorem dX1_goBack_36 : decode cX1_goBack 36 = .ok (.aload_n 0, 1) := by decide +kernel
theorem dX1_goBack_37 : decode cX1_goBack 37 = .ok (.getfield 15, 3) := by decide +kernel
theorem dX1_goBack_40 : decode cX1_goBack 40 = .ok (.aload_n 0, 1) := by decide +kernel
theorem dX1_goBack_41 : decode cX1_goBack 41 = .ok (.getfield 25, 3) := by decide +kernel
theorem dX1_goBack_44 : decode cX1_goBack 44 = .ok (.bipush 26, 2) := by decide +kernel
theorem dX1_goBack_46 : decode cX1_goBack 46 = .ok (.imul, 1) := by decide +kernel
theorem dX1_goBack_47 : decode cX1_goBack 47 = .ok (.aload_n 0, 1) := by decide +kernel
theorem dX1_goBack_48 : decode cX1_goBack 48 = .ok (.getfield 11, 3) := by decide +kernel
theorem dX1_goBack_51 : decode cX1_goBack 51 = .ok (.iconst 0, 1) := by decide +kernel
theorem dX1_goBack_52 : decode cX1_goBack 52 = .ok (.bipush 26, 2) := by decide +kernel
theorem dX1_goBack_54 : decode cX1_goBack 54 = .ok (.invokestatic 38, 3) := by decide +kernel
theorem dX1_goBack_57 : decode cX1_goBack 57 = .ok (.iconst 1, 1) := by decide +kernel
theorem dX1_goBack_58 : decode cX1_goBack 58 = .ok (.ireturn, 1) := by decide +kernel
theorem dX1_keptCount_0 : decode cX1_keptCount 0 = .ok (.aload_n 0, 1) := by decide +kernel
theorem dX1_keptCount_1 : decode cX1_keptCount 1 = .ok (.getfield 29, 3) := by decide +kernel
theorem dX1_keptCount_4 : decode cX1_keptCount 4 = .ok (.ireturn, 1) := by decide +kernel
theorem dX1_place_0 : decode cX1_place 0 = .ok (.aload_n 0, 1) := by decide +kernel
theorem dX1_place_1 : decode cX1_place 1 = .ok (.getfield 11, 3) := by decide +kernel
theorem dX1_place_4 : decode cX1_place 4 = .ok (.bipush 24, 2) := by decide +kernel
theorem dX1_place_6 : decode cX1_place 6 = .ok (.iaload, 1) := by decide +kernel
theorem dX1_place_7 : decode cX1_place 7 = .ok (.ireturn, 1) := by decide +kernel
theorem dX1_day_0 : decode cX1_day 0 = .ok (.aload_n 0, 1) := by decide +kernel
theorem dX1_day_1 : decode cX1_day 1 = .ok (.getfield 11, 3) := by decide +kernel
theorem dX1_day_4 : decode cX1_day 4 = .ok (.bipush 25, 2) := by decide +kernel
theorem dX1_day_6 : decode cX1_day 6 = .ok (.iaload, 1) := by decide +kernel
theorem dX1_day_7 : decode cX1_day 7 = .ok (.ireturn, 1) := by decide +kernel
theorem dX1_setOrder_0 : decode cX1_setOrder 0 = .ok (.aload_n 0, 1) := by decide +kernel
theorem dX1_setOrder_1 : decode cX1_setOrder 1 = .ok (.getfield 11, 3) := by decide +kernel
theorem dX1_setOrder_4 : decode cX1_setOrder 4 = .ok (.bipush 24, 2) := by decide +kernel
theorem dX1_setOrder_6 : decode cX1_setOrder 6 = .ok (.iload_n 1, 1) := by decide +kernel
theorem dX1_setOrder_7 : decode cX1_setOrder 7 = .ok (.iastore, 1) := by decide +kernel
theorem dX1_setOrder_8 : decode cX1_setOrder 8 = .ok (.aload_n 0, 1) := by decide +kernel
theorem dX1_setOrder_9 : decode cX1_setOrder 9 = .ok (.getfield 11, 3) := by decide +kernel
theorem dX1_setOrder_12 : decode cX1_setOrder 12 = .ok (.bipush 25, 2) := by decide +kernel
theorem dX1_setOrder_14 : decode cX1_setOrder 14 = .ok (.iload_n 2, 1) := by decide +kernel
theorem dX1_setOrder_15 : decode cX1_setOrder 15 = .ok (.iastore, 1) := by decide +kernel
theorem dX1_setOrder_16 : decode cX1_setOrder 16 = .ok (.return_, 1) := by decide +kernel
set_option maxRecDepth 20000 in
theorem ggX1_parcelOf_X6_at : GoodIn wsX1_parcelOf wsX6_at := goodIn_r _ [4] (by decide +kernel) (by decide +kernel)
set_option maxRecDepth 20000 in
theorem gX1_parcelOf_X6_at_n48 : GoodIn wsX1_parcelOf (wsX6_at) := ggX1_parcelOf_X6_at
theorem dX1_parcelOf_0 : decode cX1_parcelOf 0 = .ok (.aload_n 0, 1) := by decide +kernel
theorem dX1_parcelOf_1 : decode cX1_parcelOf 1 = .ok (.getfield 11, 3) := by decide +kernel
theorem dX1_parcelOf_4 : decode cX1_parcelOf 4 = .ok (.iload_n 1, 1) := by decide +kernel
theorem dX1_parcelOf_5 : decode cX1_parcelOf 5 = .ok (.invokestatic 48, 3) := by decide +kernel
theorem dX1_parcelOf_8 : decode cX1_parcelOf 8 = .ok (.ireturn, 1) := by decide +kernel
set_option maxRecDepth 20000 in
theorem ggX1_carrierOf_X6_at : GoodIn wsX1_carrierOf wsX6_at := goodIn_r _ [4] (by decide +kernel) (by decide +kernel)
set_option maxRecDepth 20000 in
theorem gX1_carrierOf_X6_at_n48 : GoodIn wsX1_carrierOf (wsX6_at) := ggX1_carrierOf_X6_at
theorem dX1_carrierOf_0 : decode cX1_carrierOf 0 = .ok (.aload_n 0, 1) := by decide +kernel
theorem dX1_carrierOf_1 : decode cX1_carrierOf 1 = .ok (.getfield 11, 3) := by decide +kernel
theorem dX1_carrierOf_4 : decode cX1_carrierOf 4 = .ok (.bipush 8, 2) := by decide +kernel
theorem dX1_carrierOf_6 : decode cX1_carrierOf 6 = .ok (.iload_n 1, 1) := by decide +kernel
theorem dX1_carrierOf_7 : decode cX1_carrierOf 7 = .ok (.iadd, 1) := by decide +kernel
theorem dX1_carrierOf_8 : decode cX1_carrierOf 8 = .ok (.invokestatic 48, 3) := by decide +kernel
theorem dX1_carrierOf_11 : decode cX1_carrierOf 11 = .ok (.ireturn, 1) := by decide +kernel
set_option maxRecDepth 20000 in
theorem ggX1_setCarrier_X6_store : GoodIn wsX1_setCarrier wsX6_store := goodIn_r _ [4] (by decide +kernel) (by decide +kernel)
set_option maxRecDepth 20000 in
theorem gX1_setCarrier_X6_store_n52 : GoodIn wsX1_setCarrier (wsX6_store) := ggX1_setCarrier_X6_store
theorem dX1_setCarrier_0 : decode cX1_setCarrier 0 = .ok (.aload_n 0, 1) := by decide +kernel
theorem dX1_setCarrier_1 : decode cX1_setCarrier 1 = .ok (.getfield 11, 3) := by decide +kernel
theorem dX1_setCarrier_4 : decode cX1_setCarrier 4 = .ok (.bipush 8, 2) := by decide +kernel
theorem dX1_setCarrier_6 : decode cX1_setCarrier 6 = .ok (.iload_n 1, 1) := by decide +kernel
theorem dX1_setCarrier_7 : decode cX1_setCarrier 7 = .ok (.iadd, 1) := by decide +kernel
theorem dX1_setCarrier_8 : decode cX1_setCarrier 8 = .ok (.iload_n 2, 1) := by decide +kernel
theorem dX1_setCarrier_9 : decode cX1_setCarrier 9 = .ok (.invokestatic 52, 3) := by decide +kernel
theorem dX1_setCarrier_12 : decode cX1_setCarrier 12 = .ok (.return_, 1) := by decide +kernel
set_option maxRecDepth 20000 in
theorem ggX1_claimedOf_X6_at : GoodIn wsX1_claimedOf wsX6_at := goodIn_r _ [4] (by decide +kernel) (by decide +kernel)
set_option maxRecDepth 20000 in
theorem gX1_claimedOf_X6_at_n48 : GoodIn wsX1_claimedOf (wsX6_at) := ggX1_claimedOf_X6_at
theorem dX1_claimedOf_0 : decode cX1_claimedOf 0 = .ok (.aload_n 0, 1) := by decide +kernel
theorem dX1_claimedOf_1 : decode cX1_claimedOf 1 = .ok (.getfield 11, 3) := by decide +kernel
theorem dX1_claimedOf_4 : decode cX1_claimedOf 4 = .ok (.bipush 16, 2) := by decide +kernel
theorem dX1_claimedOf_6 : decode cX1_claimedOf 6 = .ok (.iload_n 1, 1) := by decide +kernel
theorem dX1_claimedOf_7 : decode cX1_claimedOf 7 = .ok (.iadd, 1) := by decide +kernel
theorem dX1_claimedOf_8 : decode cX1_claimedOf 8 = .ok (.invokestatic 48, 3) := by decide +kernel
theorem dX1_claimedOf_11 : decode cX1_claimedOf 11 = .ok (.ireturn, 1) := by decide +kernel
set_option maxRecDepth 20000 in
theorem ggX1_setClaimed_X6_store : GoodIn wsX1_setClaimed wsX6_store := goodIn_r _ [4] (by decide +kernel) (by decide +kernel)
set_option maxRecDepth 20000 in
theorem gX1_setClaimed_X6_store_n52 : GoodIn wsX1_setClaimed (wsX6_store) := ggX1_setClaimed_X6_store
theorem dX1_setClaimed_0 : decode cX1_setClaimed 0 = .ok (.aload_n 0, 1) := by decide +kernel
theorem dX1_setClaimed_1 : decode cX1_setClaimed 1 = .ok (.getfield 11, 3) := by decide +kernel
theorem dX1_setClaimed_4 : decode cX1_setClaimed 4 = .ok (.bipush 16, 2) := by decide +kernel
theorem dX1_setClaimed_6 : decode cX1_setClaimed 6 = .ok (.iload_n 1, 1) := by decide +kernel
theorem dX1_setClaimed_7 : decode cX1_setClaimed 7 = .ok (.iadd, 1) := by decide +kernel
theorem dX1_setClaimed_8 : decode cX1_setClaimed 8 = .ok (.iload_n 2, 1) := by decide +kernel
theorem dX1_setClaimed_9 : decode cX1_setClaimed 9 = .ok (.invokestatic 52, 3) := by decide +kernel
theorem dX1_setClaimed_12 : decode cX1_setClaimed 12 = .ok (.return_, 1) := by decide +kernel
set_option maxRecDepth 20000 in
theorem ggX1_moveGood_X1_parcelOf : GoodIn wsX1_moveGood wsX1_parcelOf := goodIn_r _ [6, 1, 7, 8, 9, 20, 21, 22, 23] (by decide +kernel) (by decide +kernel)
set_option maxRecDepth 20000 in
theorem gX1_moveGood_X1_parcelOf : GoodIn wsX1_moveGood (wsV RX1 56 RX1 yX1_parcelOf wsX1_parcelOf) := goodIn_app (goodIn_of _ (by decide +kernel)) ggX1_moveGood_X1_parcelOf
set_option maxRecDepth 20000 in
theorem ggX1_moveGood_X6_store : GoodIn wsX1_moveGood wsX6_store := goodIn_r _ [11] (by decide +kernel) (by decide +kernel)
set_option maxRecDepth 20000 in
theorem gX1_moveGood_X6_store_n52 : GoodIn wsX1_moveGood (wsX6_store) := ggX1_moveGood_X6_store
set_option maxRecDepth 20000 in
theorem ggX1_moveGood_X1_goodsIn : GoodIn wsX1_moveGood wsX1_goodsIn := goodIn_r _ [15, 2, 3, 4, 5, 6, 1, 7, 8, 9, 20, 21, 22, 23] (by decide +kernel) (by decide +kernel)
set_option maxRecDepth 20000 in
theorem gX1_moveGood_X1_goodsIn : GoodIn wsX1_moveGood (wsV RX1 60 RX1 yX1_goodsIn wsX1_goodsIn) := goodIn_app (goodIn_of _ (by decide +kernel)) ggX1_moveGood_X1_goodsIn
set_option maxRecDepth 20000 in
theorem ggX1_moveGood_X1_setClaimed : GoodIn wsX1_moveGood wsX1_setClaimed := goodIn_r _ [19, 1, 10, 8, 11, 20, 21, 22, 23] (by decide +kernel) (by decide +kernel)
set_option maxRecDepth 20000 in
theorem gX1_moveGood_X1_setClaimed : GoodIn wsX1_moveGood (wsV RX1 35 RX1 yX1_setClaimed wsX1_setClaimed) := goodIn_app (goodIn_of _ (by decide +kernel)) ggX1_moveGood_X1_setClaimed
theorem dX1_moveGood_0 : decode cX1_moveGood 0 = .ok (.aload_n 0, 1) := by decide +kernel
theorem dX1_moveGood_1 : decode cX1_moveGood 1 = .ok (.iload_n 1, 1) := by decide +kernel
theorem dX1_moveGood_2 : decode cX1_moveGood 2 = .ok (.invokevirtual 56, 3) := by decide +kernel
theorem dX1_moveGood_5 : decode cX1_moveGood 5 = .ok (.istore_n 3, 1) := by decide +kernel
theorem dX1_moveGood_6 : decode cX1_moveGood 6 = .ok (.aload_n 0, 1) := by decide +kernel
theorem dX1_moveGood_7 : decode cX1_moveGood 7 = .ok (.getfield 11, 3) := by decide +kernel
theorem dX1_moveGood_10 : decode cX1_moveGood 10 = .ok (.iload_n 1, 1) := by decide +kernel
theorem dX1_moveGood_11 : decode cX1_moveGood 11 = .ok (.iload_n 2, 1) := by decide +kernel
theorem dX1_moveGood_12 : decode cX1_moveGood 12 = .ok (.invokestatic 52, 3) := by decide +kernel
theorem dX1_moveGood_15 : decode cX1_moveGood 15 = .ok (.iload_n 3, 1) := by decide +kernel
theorem dX1_moveGood_16 : decode cX1_moveGood 16 = .ok (.iconst (-1), 1) := by decide +kernel
theorem dX1_moveGood_17 : decode cX1_moveGood 17 = .ok (.if_icmp .eq 17, 3) := by decide +kernel
theorem dX1_moveGood_20 : decode cX1_moveGood 20 = .ok (.aload_n 0, 1) := by decide +kernel
theorem dX1_moveGood_21 : decode cX1_moveGood 21 = .ok (.iload_n 3, 1) := by decide +kernel
theorem dX1_moveGood_22 : decode cX1_moveGood 22 = .ok (.invokevirtual 60, 3) := by decide +kernel
theorem dX1_moveGood_25 : decode cX1_moveGood 25 = .ok (.ifCond .ne 9, 3) := by decide +kernel
theorem dX1_moveGood_28 : decode cX1_moveGood 28 = .ok (.aload_n 0, 1) := by decide +kernel
theorem dX1_moveGood_29 : decode cX1_moveGood 29 = .ok (.iload_n 3, 1) := by decide +kernel
theorem dX1_moveGood_30 : decode cX1_moveGood 30 = .ok (.iconst 0, 1) := by decide +kernel
theorem dX1_moveGood_31 : decode cX1_moveGood 31 = .ok (.invokevirtual 35, 3) := by decide +kernel
theorem dX1_moveGood_34 : decode cX1_moveGood 34 = .ok (.return_, 1) := by decide +kernel
set_option maxRecDepth 20000 in
theorem ggX1_goodsIn_X1_parcelOf : GoodIn wsX1_goodsIn wsX1_parcelOf := goodIn_r _ [5, 6, 7, 8, 9, 10, 11, 12, 13] (by decide +kernel) (by decide +kernel)
set_option maxRecDepth 20000 in
theorem gX1_goodsIn_X1_parcelOf : GoodIn wsX1_goodsIn (wsV RX1 56 RX1 yX1_parcelOf wsX1_parcelOf) := goodIn_app (goodIn_of _ (by decide +kernel)) ggX1_goodsIn_X1_parcelOf
theorem dX1_goodsIn_0 : decode cX1_goodsIn 0 = .ok (.iconst 0, 1) := by decide +kernel
theorem dX1_goodsIn_1 : decode cX1_goodsIn 1 = .ok (.istore_n 2, 1) := by decide +kernel
theorem dX1_goodsIn_2 : decode cX1_goodsIn 2 = .ok (.iconst 0, 1) := by decide +kernel
theorem dX1_goodsIn_3 : decode cX1_goodsIn 3 = .ok (.istore_n 3, 1) := by decide +kernel
theorem dX1_goodsIn_4 : decode cX1_goodsIn 4 = .ok (.iload_n 3, 1) := by decide +kernel
theorem dX1_goodsIn_5 : decode cX1_goodsIn 5 = .ok (.bipush 8, 2) := by decide +kernel
theorem dX1_goodsIn_7 : decode cX1_goodsIn 7 = .ok (.if_icmp .ge 24, 3) := by decide +kernel
theorem dX1_goodsIn_10 : decode cX1_goodsIn 10 = .ok (.aload_n 0, 1) := by decide +kernel
theorem dX1_goodsIn_11 : decode cX1_goodsIn 11 = .ok (.iload_n 3, 1) := by decide +kernel
theorem dX1_goodsIn_12 : decode cX1_goodsIn 12 = .ok (.invokevirtual 56, 3) := by decide +kernel
theorem dX1_goodsIn_15 : decode cX1_goodsIn 15 = .ok (.iload_n 1, 1) := by decide +kernel
theorem dX1_goodsIn_16 : decode cX1_goodsIn 16 = .ok (.if_icmp .ne 9, 3) := by decide +kernel
theorem dX1_goodsIn_19 : decode cX1_goodsIn 19 = .ok (.iload_n 2, 1) := by decide +kernel
theorem dX1_goodsIn_20 : decode cX1_goodsIn 20 = .ok (.iconst 1, 1) := by decide +kernel
theorem dX1_goodsIn_21 : decode cX1_goodsIn 21 = .ok (.iload_n 3, 1) := by decide +kernel
theorem dX1_goodsIn_22 : decode cX1_goodsIn 22 = .ok (.ishl, 1) := by decide +kernel
theorem dX1_goodsIn_23 : decode cX1_goodsIn 23 = .ok (.ior, 1) := by decide +kernel
theorem dX1_goodsIn_24 : decode cX1_goodsIn 24 = .ok (.istore_n 2, 1) := by decide +kernel
theorem dX1_goodsIn_25 : decode cX1_goodsIn 25 = .ok (.iinc 3 1, 3) := by decide +kernel
theorem dX1_goodsIn_28 : decode cX1_goodsIn 28 = .ok (.goto (-24), 3) := by decide +kernel
theorem dX1_goodsIn_31 : decode cX1_goodsIn 31 = .ok (.iload_n 2, 1) := by decide +kernel
theorem dX1_goodsIn_32 : decode cX1_goodsIn 32 = .ok (.ireturn, 1) := by decide +kernel
set_option maxRecDepth 20000 in
theorem ggX1_packedGoods_X1_goodsIn : GoodIn wsX1_packedGoods wsX1_goodsIn := goodIn_r _ [5, 6, 7, 8, 4, 9, 10, 11, 12, 13, 14, 15, 16, 17] (by decide +kernel) (by decide +kernel)
set_option maxRecDepth 20000 in
theorem gX1_packedGoods_X1_goodsIn : GoodIn wsX1_packedGoods (wsV RX1 60 RX1 yX1_goodsIn wsX1_goodsIn) := goodIn_app (goodIn_of _ (by decide +kernel)) ggX1_packedGoods_X1_goodsIn
theorem dX1_packedGoods_0 : decode cX1_packedGoods 0 = .ok (.sipush 255, 3) := by decide +kernel
theorem dX1_packedGoods_3 : decode cX1_packedGoods 3 = .ok (.aload_n 0, 1) := by decide +kernel
theorem dX1_packedGoods_4 : decode cX1_packedGoods 4 = .ok (.iconst (-1), 1) := by decide +kernel
theorem dX1_packedGoods_5 : decode cX1_packedGoods 5 = .ok (.invokevirtual 60, 3) := by decide +kernel
theorem dX1_packedGoods_8 : decode cX1_packedGoods 8 = .ok (.iconst (-1), 1) := by decide +kernel
theorem dX1_packedGoods_9 : decode cX1_packedGoods 9 = .ok (.ixor, 1) := by decide +kernel
theorem dX1_packedGoods_10 : decode cX1_packedGoods 10 = .ok (.iand, 1) := by decide +kernel
theorem dX1_packedGoods_11 : decode cX1_packedGoods 11 = .ok (.ireturn, 1) := by decide +kernel
set_option maxRecDepth 20000 in
theorem ggX1_filledParcels_X1_parcelOf : GoodIn wsX1_filledParcels wsX1_parcelOf := goodIn_r _ [5, 6, 7, 8, 9, 10, 11, 12, 13] (by decide +kernel) (by decide +kernel)
set_option maxRecDepth 20000 in
theorem gX1_filledParcels_X1_parcelOf : GoodIn wsX1_filledParcels (wsV RX1 56 RX1 yX1_parcelOf wsX1_parcelOf) := goodIn_app (goodIn_of _ (by decide +kernel)) ggX1_filledParcels_X1_parcelOf
theorem dX1_filledParcels_0 : decode cX1_filledParcels 0 = .ok (.iconst 0, 1) := by decide +kernel
theorem dX1_filledParcels_1 : decode cX1_filledParcels 1 = .ok (.istore_n 1, 1) := by decide +kernel
theorem dX1_filledParcels_2 : decode cX1_filledParcels 2 = .ok (.iconst 0, 1) := by decide +kernel
theorem dX1_filledParcels_3 : decode cX1_filledParcels 3 = .ok (.istore_n 2, 1) := by decide +kernel
theorem dX1_filledParcels_4 : decode cX1_filledParcels 4 = .ok (.iload_n 2, 1) := by decide +kernel
theorem dX1_filledParcels_5 : decode cX1_filledParcels 5 = .ok (.bipush 8, 2) := by decide +kernel
theorem dX1_filledParcels_7 : decode cX1_filledParcels 7 = .ok (.if_icmp .ge 28, 3) := by decide +kernel
theorem dX1_filledParcels_10 : decode cX1_filledParcels 10 = .ok (.aload_n 0, 1) := by decide +kernel
theorem dX1_filledParcels_11 : decode cX1_filledParcels 11 = .ok (.iload_n 2, 1) := by decide +kernel
theorem dX1_filledParcels_12 : decode cX1_filledParcels 12 = .ok (.invokevirtual 56, 3) := by decide +kernel
theorem dX1_filledParcels_15 : decode cX1_filledParcels 15 = .ok (.iconst (-1), 1) := by decide +kernel
theorem dX1_filledParcels_16 : decode cX1_filledParcels 16 = .ok (.if_icmp .eq 13, 3) := by decide +kernel
theorem dX1_filledParcels_19 : decode cX1_filledParcels 19 = .ok (.iload_n 1, 1) := by decide +kernel
theorem dX1_filledParcels_20 : decode cX1_filledParcels 20 = .ok (.iconst 1, 1) := by decide +kernel
theorem dX1_filledParcels_21 : decode cX1_filledParcels 21 = .ok (.aload_n 0, 1) := by decide +kernel
theorem dX1_filledParcels_22 : decode cX1_filledParcels 22 = .ok (.iload_n 2, 1) := by decide +kernel
theorem dX1_filledParcels_23 : decode cX1_filledParcels 23 = .ok (.invokevirtual 56, 3) := by decide +kernel
theorem dX1_filledParcels_26 : decode cX1_filledParcels 26 = .ok (.ishl, 1) := by decide +kernel
theorem dX1_filledParcels_27 : decode cX1_filledParcels 27 = .ok (.ior, 1) := by decide +kernel
theorem dX1_filledParcels_28 : decode cX1_filledParcels 28 = .ok (.istore_n 1, 1) := by decide +kernel
theorem dX1_filledParcels_29 : decode cX1_filledParcels 29 = .ok (.iinc 2 1, 3) := by decide +kernel
theorem dX1_filledParcels_32 : decode cX1_filledParcels 32 = .ok (.goto (-28), 3) := by decide +kernel
theorem dX1_filledParcels_35 : decode cX1_filledParcels 35 = .ok (.iload_n 1, 1) := by decide +kernel
theorem dX1_filledParcels_36 : decode cX1_filledParcels 36 = .ok (.ireturn, 1) := by decide +kernel
theorem dX2_init_0 : decode cX2_init 0 = .ok (.aload_n 0, 1) := by decide +kernel
theorem dX2_init_1 : decode cX2_init 1 = .ok (.invokespecial 3, 3) := by decide +kernel
theorem dX2_init_4 : decode cX2_init 4 = .ok (.aload_n 0, 1) := by decide +kernel
theorem dX2_init_5 : decode cX2_init 5 = .ok (.sipush 256, 3) := by decide +kernel
theorem dX2_init_8 : decode cX2_init 8 = .ok (.newarray .int, 2) := by decide +kernel
theorem dX2_init_10 : decode cX2_init 10 = .ok (.putfield 9, 3) := by decide +kernel
theorem dX2_init_13 : decode cX2_init 13 = .ok (.aload_n 0, 1) := by decide +kernel
theorem dX2_init_14 : decode cX2_init 14 = .ok (.sipush 256, 3) := by decide +kernel
theorem dX2_init_17 : decode cX2_init 17 = .ok (.newarray .int, 2) := by decide +kernel
theorem dX2_init_19 : decode cX2_init 19 = .ok (.putfield 15, 3) := by decide +kernel
theorem dX2_init_22 : decode cX2_init 22 = .ok (.aload_n 0, 1) := by decide +kernel
theorem dX2_init_23 : decode cX2_init 23 = .ok (.iconst 3, 1) := by decide +kernel
theorem dX2_init_24 : decode cX2_init 24 = .ok (.newarray .int, 2) := by decide +kernel
theorem dX2_init_26 : decode cX2_init 26 = .ok (.putfield 18, 3) := by decide +kernel
theorem dX2_init_29 : decode cX2_init 29 = .ok (.aload_n 0, 1) := by decide +kernel
theorem dX2_init_30 : decode cX2_init 30 = .ok (.aload_n 1, 1) := by decide +kernel
theorem dX2_init_31 : decode cX2_init 31 = .ok (.putfield 21, 3) := by decide +kernel
theorem dX2_init_34 : decode cX2_init 34 = .ok (.return_, 1) := by decide +kernel
set_option maxRecDepth 20000 in
theorem ggX2_learn_X0_fullSet : GoodIn wsX2_learn wsX0_fullSet := goodIn_r _ [9, 10, 49, 50, 51, 52, 53, 54, 55, 56, 57, 58] (by decide +kernel) (by decide +kernel)
set_option maxRecDepth 20000 in
theorem gX2_learn_X0_fullSet : GoodIn wsX2_learn (wsV RX2 25 RX0 yX0_fullSet wsX0_fullSet) := goodIn_app (goodIn_of _ (by decide +kernel)) ggX2_learn_X0_fullSet
set_option maxRecDepth 20000 in
theorem ggX2_learn_J6_numberOfTrailingZeros_0f7a4 : GoodIn wsX2_learn wsJ6_numberOfTrailingZeros_0f7a4 := goodIn_r _ [14, 15] (by decide +kernel) (by decide +kernel)
set_option maxRecDepth 20000 in
theorem gX2_learn_J6_numberOfTrailingZeros_0f7a4 : GoodIn wsX2_learn (va_wsS RX2 31 yJ6_numberOfTrailingZeros_0f7a4 wsJ6_numberOfTrailingZeros_0f7a4) := goodIn_app (goodIn_of _ (by decide +kernel)) ggX2_learn_J6_numberOfTrailingZeros_0f7a4
set_option maxRecDepth 20000 in
theorem ggX2_learn_X6_at : GoodIn wsX2_learn wsX6_at := goodIn_r _ [18] (by decide +kernel) (by decide +kernel)
set_option maxRecDepth 20000 in
theorem gX2_learn_X6_at_n37 : GoodIn wsX2_learn (wsX6_at) := ggX2_learn_X6_at
set_option maxRecDepth 20000 in
theorem ggX2_learn_X0_goodNumber : GoodIn wsX2_learn wsX0_goodNumber := goodIn_r _ [22, 23, 16, 17, 18, 49, 50, 51, 52, 53, 54, 55, 56, 57, 58] (by decide +kernel) (by decide +kernel)
set_option maxRecDepth 20000 in
theorem gX2_learn_X0_goodNumber : GoodIn wsX2_learn (wsV RX2 41 RX0 yX0_goodNumber wsX0_goodNumber) := goodIn_app (goodIn_of _ (by decide +kernel)) ggX2_learn_X0_goodNumber
set_option maxRecDepth 20000 in
theorem ggX2_learn_X6_store : GoodIn wsX2_learn wsX6_store := goodIn_r _ [25] (by decide +kernel) (by decide +kernel)
set_option maxRecDepth 20000 in
theorem gX2_learn_X6_store_n45 : GoodIn wsX2_learn (wsX6_store) := ggX2_learn_X6_store
set_option maxRecDepth 20000 in
theorem ggX2_learn_X0_carrierCount : GoodIn wsX2_learn wsX0_carrierCount := goodIn_r _ [29, 30, 49, 50, 51, 52, 53, 54, 55, 56, 57, 58] (by decide +kernel) (by decide +kernel)
set_option maxRecDepth 20000 in
theorem gX2_learn_X0_carrierCount : GoodIn wsX2_learn (wsV RX2 49 RX0 yX0_carrierCount wsX0_carrierCount) := goodIn_app (goodIn_of _ (by decide +kernel)) ggX2_learn_X0_carrierCount
set_option maxRecDepth 20000 in
theorem ggX2_learn_X0_carrierNumber : GoodIn wsX2_learn wsX0_carrierNumber := goodIn_r _ [34, 35, 16, 17, 18, 49, 50, 51, 52, 53, 54, 55, 56, 57, 58] (by decide +kernel) (by decide +kernel)
set_option maxRecDepth 20000 in
theorem gX2_learn_X0_carrierNumber : GoodIn wsX2_learn (wsV RX2 52 RX0 yX0_carrierNumber wsX0_carrierNumber) := goodIn_app (goodIn_of _ (by decide +kernel)) ggX2_learn_X0_carrierNumber
set_option maxRecDepth 20000 in
theorem ggX2_learn_X2_findLongGoods : GoodIn wsX2_learn wsX2_findLongGoods := goodIn_r _ [40, 1, 41, 42, 43, 8, 44, 10, 19, 20, 21, 22, 23, 16, 17, 18, 45, 46, 47, 48, 49, 50, 51, 52, 53, 54, 55, 56, 57, 58] (by decide +kernel) (by decide +kernel)
set_option maxRecDepth 20000 in
theorem gX2_learn_X2_findLongGoods : GoodIn wsX2_learn (wsV RX2 55 RX2 yX2_findLongGoods wsX2_findLongGoods) := goodIn_app (goodIn_of _ (by decide +kernel)) ggX2_learn_X2_findLongGoods
theorem dX2_learn_0 : decode cX2_learn 0 = .ok (.iconst 1, 1) := by decide +kernel
theorem dX2_learn_1 : decode cX2_learn 1 = .ok (.istore_n 1, 1) := by decide +kernel
theorem dX2_learn_2 : decode cX2_learn 2 = .ok (.iload_n 1, 1) := by decide +kernel
theorem dX2_learn_3 : decode cX2_learn 3 = .ok (.aload_n 0, 1) := by decide +kernel
theorem dX2_learn_4 : decode cX2_learn 4 = .ok (.getfield 21, 3) := by decide +kernel
theorem dX2_learn_7 : decode cX2_learn 7 = .ok (.invokevirtual 25, 3) := by decide +kernel
theorem dX2_learn_10 : decode cX2_learn 10 = .ok (.if_icmp .gt 72, 3) := by decide +kernel
theorem dX2_learn_13 : decode cX2_learn 13 = .ok (.iload_n 1, 1) := by decide +kernel
theorem dX2_learn_14 : decode cX2_learn 14 = .ok (.iload_n 1, 1) := by decide +kernel
theorem dX2_learn_15 : decode cX2_learn 15 = .ok (.iconst 1, 1) := by decide +kernel
theorem dX2_learn_16 : decode cX2_learn 16 = .ok (.isub, 1) := by decide +kernel
theorem dX2_learn_17 : decode cX2_learn 17 = .ok (.iand, 1) := by decide +kernel
theorem dX2_learn_18 : decode cX2_learn 18 = .ok (.istore_n 2, 1) := by decide +kernel
theorem dX2_learn_19 : decode cX2_learn 19 = .ok (.iload_n 1, 1) := by decide +kernel
theorem dX2_learn_20 : decode cX2_learn 20 = .ok (.invokestatic 31, 3) := by decide +kernel
theorem dX2_learn_23 : decode cX2_learn 23 = .ok (.istore_n 3, 1) := by decide +kernel
theorem dX2_learn_24 : decode cX2_learn 24 = .ok (.aload_n 0, 1) := by decide +kernel
theorem dX2_learn_25 : decode cX2_learn 25 = .ok (.getfield 9, 3) := by decide +kernel
theorem dX2_learn_28 : decode cX2_learn 28 = .ok (.iload_n 1, 1) := by decide +kernel
theorem dX2_learn_29 : decode cX2_learn 29 = .ok (.aload_n 0, 1) := by decide +kernel
theorem dX2_learn_30 : decode cX2_learn 30 = .ok (.getfield 9, 3) := by decide +kernel
theorem dX2_learn_33 : decode cX2_learn 33 = .ok (.iload_n 2, 1) := by decide +kernel
theorem dX2_learn_34 : decode cX2_learn 34 = .ok (.invokestatic 37, 3) := by decide +kernel
theorem dX2_learn_37 : decode cX2_learn 37 = .ok (.aload_n 0, 1) := by decide +kernel
theorem dX2_learn_38 : decode cX2_learn 38 = .ok (.getfield 21, 3) := by decide +kernel
theorem dX2_learn_41 : decode cX2_learn 41 = .ok (.iload_n 3, 1) := by decide +kernel
theorem dX2_learn_42 : decode cX2_learn 42 = .ok (.iconst 0, 1) := by decide +kernel
theorem dX2_learn_43 : decode cX2_learn 43 = .ok (.invokevirtual 41, 3) := by decide +kernel
theorem dX2_learn_46 : decode cX2_learn 46 = .ok (.iadd, 1) := by decide +kernel
theorem dX2_learn_47 : decode cX2_learn 47 = .ok (.invokestatic 45, 3) := by decide +kernel
theorem dX2_learn_50 : decode cX2_learn 50 = .ok (.aload_n 0, 1) := by decide +kernel
theorem dX2_learn_51 : decode cX2_learn 51 = .ok (.getfield 15, 3) := by decide +kernel
theorem dX2_learn_54 : decode cX2_learn 54 = .ok (.iload_n 1, 1) := by decide +kernel
theorem dX2_learn_55 : decode cX2_learn 55 = .ok (.aload_n 0, 1) := by decide +kernel
theorem dX2_learn_56 : decode cX2_learn 56 = .ok (.getfield 15, 3) := by decide +kernel
theorem dX2_learn_59 : decode cX2_learn 59 = .ok (.iload_n 2, 1) := by decide +kernel
theorem dX2_learn_60 : decode cX2_learn 60 = .ok (.invokestatic 37, 3) := by decide +kernel
theorem dX2_learn_63 : decode cX2_learn 63 = .ok (.aload_n 0, 1) := by decide +kernel
theorem dX2_learn_64 : decode cX2_learn 64 = .ok (.getfield 21, 3) := by decide +kernel
theorem dX2_learn_67 : decode cX2_learn 67 = .ok (.iload_n 3, 1) := by decide +kernel
theorem dX2_learn_68 : decode cX2_learn 68 = .ok (.iconst 1, 1) := by decide +kernel
theorem dX2_learn_69 : decode cX2_learn 69 = .ok (.invokevirtual 41, 3) := by decide +kernel
theorem dX2_learn_72 : decode cX2_learn 72 = .ok (.iadd, 1) := by decide +kernel
theorem dX2_learn_73 : decode cX2_learn 73 = .ok (.invokestatic 45, 3) := by decide +kernel
theorem dX2_learn_76 : decode cX2_learn 76 = .ok (.iinc 1 1, 3) := by decide +kernel
theorem dX2_learn_79 : decode cX2_learn 79 = .ok (.goto (-77), 3) := by decide +kernel
theorem dX2_learn_82 : decode cX2_learn 82 = .ok (.iconst 0, 1) := by decide +kernel
theorem dX2_learn_83 : decode cX2_learn 83 = .ok (.istore_n 1, 1) := by decide +kernel
theorem dX2_learn_84 : decode cX2_learn 84 = .ok (.iload_n 1, 1) := by decide +kernel
theorem dX2_learn_85 : decode cX2_learn 85 = .ok (.aload_n 0, 1) := by decide +kernel
theorem dX2_learn_86 : decode cX2_learn 86 = .ok (.getfield 21, 3) := by decide +kernel
theorem dX2_learn_89 : decode cX2_learn 89 = .ok (.invokevirtual 49, 3) := by decide +kernel
theorem dX2_learn_92 : decode cX2_learn 92 = .ok (.if_icmp .ge 30, 3) := by decide +kernel
theorem dX2_learn_95 : decode cX2_learn 95 = .ok (.aload_n 0, 1) := by decide +kernel
theorem dX2_learn_96 : decode cX2_learn 96 = .ok (.getfield 18, 3) := by decide +kernel
theorem dX2_learn_99 : decode cX2_learn 99 = .ok (.iload_n 1, 1) := by decide +kernel
theorem dX2_learn_100 : decode cX2_learn 100 = .ok (.aload_n 0, 1) := by decide +kernel
theorem dX2_learn_101 : decode cX2_learn 101 = .ok (.aload_n 0, 1) := by decide +kernel
theorem dX2_learn_102 : decode cX2_learn 102 = .ok (.getfield 21, 3) := by decide +kernel
theorem dX2_learn_105 : decode cX2_learn 105 = .ok (.iload_n 1, 1) := by decide +kernel
theorem dX2_learn_106 : decode cX2_learn 106 = .ok (.iconst 4, 1) := by decide +kernel
theorem dX2_learn_107 : decode cX2_learn 107 = .ok (.invokevirtual 52, 3) := by decide +kernel
theorem dX2_learn_110 : decode cX2_learn 110 = .ok (.invokevirtual 55, 3) := by decide +kernel
theorem dX2_learn_113 : decode cX2_learn 113 = .ok (.invokestatic 45, 3) := by decide +kernel
theorem dX2_learn_116 : decode cX2_learn 116 = .ok (.iinc 1 1, 3) := by decide +kernel
theorem dX2_learn_119 : decode cX2_learn 119 = .ok (.goto (-35), 3) := by decide +kernel
theorem dX2_learn_122 : decode cX2_learn 122 = .ok (.return_, 1) := by decide +kernel
set_option maxRecDepth 20000 in
theorem ggX2_findLongGoods_X0_goodCount : GoodIn wsX2_findLongGoods wsX0_goodCount := goodIn_r _ [6, 7, 20, 21, 22, 23, 24, 25, 26, 27, 28, 29] (by decide +kernel) (by decide +kernel)
set_option maxRecDepth 20000 in
theorem gX2_findLongGoods_X0_goodCount : GoodIn wsX2_findLongGoods (wsV RX2 58 RX0 yX0_goodCount wsX0_goodCount) := goodIn_app (goodIn_of _ (by decide +kernel)) ggX2_findLongGoods_X0_goodCount
set_option maxRecDepth 20000 in
theorem ggX2_findLongGoods_X0_goodNumber : GoodIn wsX2_findLongGoods wsX0_goodNumber := goodIn_r _ [11, 12, 13, 14, 15, 20, 21, 22, 23, 24, 25, 26, 27, 28, 29] (by decide +kernel) (by decide +kernel)
set_option maxRecDepth 20000 in
theorem gX2_findLongGoods_X0_goodNumber : GoodIn wsX2_findLongGoods (wsV RX2 41 RX0 yX0_goodNumber wsX0_goodNumber) := goodIn_app (goodIn_of _ (by decide +kernel)) ggX2_findLongGoods_X0_goodNumber
theorem dX2_findLongGoods_0 : decode cX2_findLongGoods 0 = .ok (.iconst 0, 1) := by decide +kernel
theorem dX2_findLongGoods_1 : decode cX2_findLongGoods 1 = .ok (.istore_n 2, 1) := by decide +kernel
theorem dX2_findLongGoods_2 : decode cX2_findLongGoods 2 = .ok (.iconst 0, 1) := by decide +kernel
theorem dX2_findLongGoods_3 : decode cX2_findLongGoods 3 = .ok (.istore_n 3, 1) := by decide +kernel
theorem dX2_findLongGoods_4 : decode cX2_findLongGoods 4 = .ok (.iload_n 3, 1) := by decide +kernel
theorem dX2_findLongGoods_5 : decode cX2_findLongGoods 5 = .ok (.aload_n 0, 1) := by decide +kernel
theorem dX2_findLongGoods_6 : decode cX2_findLongGoods 6 = .ok (.getfield 21, 3) := by decide +kernel
theorem dX2_findLongGoods_9 : decode cX2_findLongGoods 9 = .ok (.invokevirtual 58, 3) := by decide +kernel
theorem dX2_findLongGoods_12 : decode cX2_findLongGoods 12 = .ok (.if_icmp .ge 28, 3) := by decide +kernel
theorem dX2_findLongGoods_15 : decode cX2_findLongGoods 15 = .ok (.aload_n 0, 1) := by decide +kernel
theorem dX2_findLongGoods_16 : decode cX2_findLongGoods 16 = .ok (.getfield 21, 3) := by decide +kernel
theorem dX2_findLongGoods_19 : decode cX2_findLongGoods 19 = .ok (.iload_n 3, 1) := by decide +kernel
theorem dX2_findLongGoods_20 : decode cX2_findLongGoods 20 = .ok (.iconst 2, 1) := by decide +kernel
theorem dX2_findLongGoods_21 : decode cX2_findLongGoods 21 = .ok (.invokevirtual 41, 3) := by decide +kernel
theorem dX2_findLongGoods_24 : decode cX2_findLongGoods 24 = .ok (.iload_n 1, 1) := by decide +kernel
theorem dX2_findLongGoods_25 : decode cX2_findLongGoods 25 = .ok (.if_icmp .le 9, 3) := by decide +kernel
theorem dX2_findLongGoods_28 : decode cX2_findLongGoods 28 = .ok (.iload_n 2, 1) := by decide +kernel
theorem dX2_findLongGoods_29 : decode cX2_findLongGoods 29 = .ok (.iconst 1, 1) := by decide +kernel
theorem dX2_findLongGoods_30 : decode cX2_findLongGoods 30 = .ok (.iload_n 3, 1) := by decide +kernel
theorem dX2_findLongGoods_31 : decode cX2_findLongGoods 31 = .ok (.ishl, 1) := by decide +kernel
theorem dX2_findLongGoods_32 : decode cX2_findLongGoods 32 = .ok (.ior, 1) := by decide +kernel
theorem dX2_findLongGoods_33 : decode cX2_findLongGoods 33 = .ok (.istore_n 2, 1) := by decide +kernel
theorem dX2_findLongGoods_34 : decode cX2_findLongGoods 34 = .ok (.iinc 3 1, 3) := by decide +kernel
theorem dX2_findLongGoods_37 : decode cX2_findLongGoods 37 = .ok (.goto (-33), 3) := by decide +kernel
theorem dX2_findLongGoods_40 : decode cX2_findLongGoods 40 = .ok (.iload_n 2, 1) := by decide +kernel
theorem dX2_findLongGoods_41 : decode cX2_findLongGoods 41 = .ok (.ireturn, 1) := by decide +kernel
set_option maxRecDepth 20000 in
theorem ggX2_kilosOf_X6_at : GoodIn wsX2_kilosOf wsX6_at := goodIn_r _ [4] (by decide +kernel) (by decide +kernel)
set_option maxRecDepth 20000 in
theorem gX2_kilosOf_X6_at_n37 : GoodIn wsX2_kilosOf (wsX6_at) := ggX2_kilosOf_X6_at
theorem dX2_kilosOf_0 : decode cX2_kilosOf 0 = .ok (.aload_n 0, 1) := by decide +kernel
theorem dX2_kilosOf_1 : decode cX2_kilosOf 1 = .ok (.getfield 9, 3) := by decide +kernel
theorem dX2_kilosOf_4 : decode cX2_kilosOf 4 = .ok (.iload_n 1, 1) := by decide +kernel
theorem dX2_kilosOf_5 : decode cX2_kilosOf 5 = .ok (.invokestatic 37, 3) := by decide +kernel
theorem dX2_kilosOf_8 : decode cX2_kilosOf 8 = .ok (.ireturn, 1) := by decide +kernel
set_option maxRecDepth 20000 in
theorem ggX2_zoneOf_X0_zonesCount : GoodIn wsX2_zoneOf wsX0_zonesCount := goodIn_r _ [6, 7, 8, 9, 10, 23, 24, 25, 26, 27, 28, 29, 30, 31, 32] (by decide +kernel) (by decide +kernel)
set_option maxRecDepth 20000 in
theorem gX2_zoneOf_X0_zonesCount : GoodIn wsX2_zoneOf (wsV RX2 61 RX0 yX0_zonesCount wsX0_zonesCount) := goodIn_app (goodIn_of _ (by decide +kernel)) ggX2_zoneOf_X0_zonesCount
set_option maxRecDepth 20000 in
theorem ggX2_zoneOf_X0_zonesNumber : GoodIn wsX2_zoneOf wsX0_zonesNumber := goodIn_r _ [14, 15, 16, 17, 5, 18, 8, 9, 10, 23, 24, 25, 26, 27, 28, 29, 30, 31, 32] (by decide +kernel) (by decide +kernel)
set_option maxRecDepth 20000 in
theorem gX2_zoneOf_X0_zonesNumber : GoodIn wsX2_zoneOf (wsV RX2 64 RX0 yX0_zonesNumber wsX0_zonesNumber) := goodIn_app (goodIn_of _ (by decide +kernel)) ggX2_zoneOf_X0_zonesNumber
theorem dX2_zoneOf_0 : decode cX2_zoneOf 0 = .ok (.iconst 3, 1) := by decide +kernel
theorem dX2_zoneOf_1 : decode cX2_zoneOf 1 = .ok (.istore 4, 2) := by decide +kernel
theorem dX2_zoneOf_3 : decode cX2_zoneOf 3 = .ok (.iconst 0, 1) := by decide +kernel
theorem dX2_zoneOf_4 : decode cX2_zoneOf 4 = .ok (.istore 5, 2) := by decide +kernel
theorem dX2_zoneOf_6 : decode cX2_zoneOf 6 = .ok (.iload 5, 2) := by decide +kernel
theorem dX2_zoneOf_8 : decode cX2_zoneOf 8 = .ok (.aload_n 0, 1) := by decide +kernel
theorem dX2_zoneOf_9 : decode cX2_zoneOf 9 = .ok (.getfield 21, 3) := by decide +kernel
theorem dX2_zoneOf_12 : decode cX2_zoneOf 12 = .ok (.iload_n 1, 1) := by decide +kernel
theorem dX2_zoneOf_13 : decode cX2_zoneOf 13 = .ok (.invokevirtual 61, 3) := by decide +kernel
theorem dX2_zoneOf_16 : decode cX2_zoneOf 16 = .ok (.if_icmp .ge 39, 3) := by decide +kernel
theorem dX2_zoneOf_19 : decode cX2_zoneOf 19 = .ok (.aload_n 0, 1) := by decide +kernel
theorem dX2_zoneOf_20 : decode cX2_zoneOf 20 = .ok (.getfield 21, 3) := by decide +kernel
theorem dX2_zoneOf_23 : decode cX2_zoneOf 23 = .ok (.iload_n 1, 1) := by decide +kernel
theorem dX2_zoneOf_24 : decode cX2_zoneOf 24 = .ok (.iload 5, 2) := by decide +kernel
theorem dX2_zoneOf_26 : decode cX2_zoneOf 26 = .ok (.iconst 0, 1) := by decide +kernel
theorem dX2_zoneOf_27 : decode cX2_zoneOf 27 = .ok (.invokevirtual 64, 3) := by decide +kernel
theorem dX2_zoneOf_30 : decode cX2_zoneOf 30 = .ok (.iload_n 3, 1) := by decide +kernel
theorem dX2_zoneOf_31 : decode cX2_zoneOf 31 = .ok (.if_icmp .gt 18, 3) := by decide +kernel
theorem dX2_zoneOf_34 : decode cX2_zoneOf 34 = .ok (.aload_n 0, 1) := by decide +kernel
theorem dX2_zoneOf_35 : decode cX2_zoneOf 35 = .ok (.getfield 21, 3) := by decide +kernel
theorem dX2_zoneOf_38 : decode cX2_zoneOf 38 = .ok (.iload_n 1, 1) := by decide +kernel
theorem dX2_zoneOf_39 : decode cX2_zoneOf 39 = .ok (.iload 5, 2) := by decide +kernel
theorem dX2_zoneOf_41 : decode cX2_zoneOf 41 = .ok (.iconst 1, 1) := by decide +kernel
theorem dX2_zoneOf_42 : decode cX2_zoneOf 42 = .ok (.iload_n 2, 1) := by decide +kernel
theorem dX2_zoneOf_43 : decode cX2_zoneOf 43 = .ok (.iadd, 1) := by decide +kernel
theorem dX2_zoneOf_44 : decode cX2_zoneOf 44 = .ok (.invokevirtual 64, 3) := by decide +kernel
theorem dX2_zoneOf_47 : decode cX2_zoneOf 47 = .ok (.istore 4, 2) := by decide +kernel
theorem dX2_zoneOf_49 : decode cX2_zoneOf 49 = .ok (.iinc 5 1, 3) := by decide +kernel
theorem dX2_zoneOf_52 : decode cX2_zoneOf 52 = .ok (.goto (-46), 3) := by decide +kernel
theorem dX2_zoneOf_55 : decode cX2_zoneOf 55 = .ok (.iload 4, 2) := by decide +kernel
theorem dX2_zoneOf_57 : decode cX2_zoneOf 57 = .ok (.ireturn, 1) := by decide +kernel
set_option maxRecDepth 20000 in
theorem ggX2_zonesAt_X0_carrierCount : GoodIn wsX2_zonesAt wsX0_carrierCount := goodIn_r _ [6, 7, 33, 34, 35, 36, 37, 38, 39, 40, 41, 42] (by decide +kernel) (by decide +kernel)
set_option maxRecDepth 20000 in
theorem gX2_zonesAt_X0_carrierCount : GoodIn wsX2_zonesAt (wsV RX2 49 RX0 yX0_carrierCount wsX0_carrierCount) := goodIn_app (goodIn_of _ (by decide +kernel)) ggX2_zonesAt_X0_carrierCount
set_option maxRecDepth 20000 in
theorem ggX2_zonesAt_X2_zoneOf : GoodIn wsX2_zonesAt wsX2_zoneOf := goodIn_r _ [12, 1, 13, 14, 15, 5, 16, 17, 18, 19, 20, 21, 22, 23, 24, 25, 26, 27, 28, 29, 30, 31, 32, 33, 34, 35, 36, 37, 38, 39, 40, 41, 42] (by decide +kernel) (by decide +kernel)
set_option maxRecDepth 20000 in
theorem gX2_zonesAt_X2_zoneOf : GoodIn wsX2_zonesAt (wsV RX2 68 RX2 yX2_zoneOf wsX2_zoneOf) := goodIn_app (goodIn_of _ (by decide +kernel)) ggX2_zonesAt_X2_zoneOf
theorem dX2_zonesAt_0 : decode cX2_zonesAt 0 = .ok (.iconst 0, 1) := by decide +kernel
theorem dX2_zonesAt_1 : decode cX2_zonesAt 1 = .ok (.istore_n 3, 1) := by decide +kernel
theorem dX2_zonesAt_2 : decode cX2_zonesAt 2 = .ok (.iconst 0, 1) := by decide +kernel
theorem dX2_zonesAt_3 : decode cX2_zonesAt 3 = .ok (.istore 4, 2) := by decide +kernel
theorem dX2_zonesAt_5 : decode cX2_zonesAt 5 = .ok (.iload 4, 2) := by decide +kernel
theorem dX2_zonesAt_7 : decode cX2_zonesAt 7 = .ok (.aload_n 0, 1) := by decide +kernel
theorem dX2_zonesAt_8 : decode cX2_zonesAt 8 = .ok (.getfield 21, 3) := by decide +kernel
theorem dX2_zonesAt_11 : decode cX2_zonesAt 11 = .ok (.invokevirtual 49, 3) := by decide +kernel
theorem dX2_zonesAt_14 : decode cX2_zonesAt 14 = .ok (.if_icmp .ge 25, 3) := by decide +kernel
theorem dX2_zonesAt_17 : decode cX2_zonesAt 17 = .ok (.iload_n 3, 1) := by decide +kernel
theorem dX2_zonesAt_18 : decode cX2_zonesAt 18 = .ok (.aload_n 0, 1) := by decide +kernel
theorem dX2_zonesAt_19 : decode cX2_zonesAt 19 = .ok (.iload 4, 2) := by decide +kernel
theorem dX2_zonesAt_21 : decode cX2_zonesAt 21 = .ok (.iload_n 1, 1) := by decide +kernel
theorem dX2_zonesAt_22 : decode cX2_zonesAt 22 = .ok (.iload_n 2, 1) := by decide +kernel
theorem dX2_zonesAt_23 : decode cX2_zonesAt 23 = .ok (.invokevirtual 68, 3) := by decide +kernel
theorem dX2_zonesAt_26 : decode cX2_zonesAt 26 = .ok (.iconst 2, 1) := by decide +kernel
theorem dX2_zonesAt_27 : decode cX2_zonesAt 27 = .ok (.iload 4, 2) := by decide +kernel
theorem dX2_zonesAt_29 : decode cX2_zonesAt 29 = .ok (.imul, 1) := by decide +kernel
theorem dX2_zonesAt_30 : decode cX2_zonesAt 30 = .ok (.ishl, 1) := by decide +kernel
theorem dX2_zonesAt_31 : decode cX2_zonesAt 31 = .ok (.ior, 1) := by decide +kernel
theorem dX2_zonesAt_32 : decode cX2_zonesAt 32 = .ok (.istore_n 3, 1) := by decide +kernel
theorem dX2_zonesAt_33 : decode cX2_zonesAt 33 = .ok (.iinc 4 1, 3) := by decide +kernel
theorem dX2_zonesAt_36 : decode cX2_zonesAt 36 = .ok (.goto (-31), 3) := by decide +kernel
theorem dX2_zonesAt_39 : decode cX2_zonesAt 39 = .ok (.iload_n 3, 1) := by decide +kernel
theorem dX2_zonesAt_40 : decode cX2_zonesAt 40 = .ok (.ireturn, 1) := by decide +kernel
theorem dX2_zoneIn_0 : decode cX2_zoneIn 0 = .ok (.iload_n 0, 1) := by decide +kernel
theorem dX2_zoneIn_1 : decode cX2_zoneIn 1 = .ok (.iconst 2, 1) := by decide +kernel
theorem dX2_zoneIn_2 : decode cX2_zoneIn 2 = .ok (.iload_n 1, 1) := by decide +kernel
theorem dX2_zoneIn_3 : decode cX2_zoneIn 3 = .ok (.imul, 1) := by decide +kernel
theorem dX2_zoneIn_4 : decode cX2_zoneIn 4 = .ok (.ishr, 1) := by decide +kernel
theorem dX2_zoneIn_5 : decode cX2_zoneIn 5 = .ok (.iconst 3, 1) := by decide +kernel
theorem dX2_zoneIn_6 : decode cX2_zoneIn 6 = .ok (.iand, 1) := by decide +kernel
theorem dX2_zoneIn_7 : decode cX2_zoneIn 7 = .ok (.ireturn, 1) := by decide +kernel
set_option maxRecDepth 20000 in
theorem ggX2_priceOf_X0_breakCount : GoodIn wsX2_priceOf wsX0_breakCount := goodIn_r _ [6, 7, 8, 9, 10, 23, 24, 25, 26, 27, 28, 29, 30, 31, 32] (by decide +kernel) (by decide +kernel)
set_option maxRecDepth 20000 in
theorem gX2_priceOf_X0_breakCount : GoodIn wsX2_priceOf (wsV RX2 71 RX0 yX0_breakCount wsX0_breakCount) := goodIn_app (goodIn_of _ (by decide +kernel)) ggX2_priceOf_X0_breakCount
set_option maxRecDepth 20000 in
theorem ggX2_priceOf_X0_breakNumber : GoodIn wsX2_priceOf wsX0_breakNumber := goodIn_r _ [14, 15, 16, 17, 5, 18, 8, 9, 10, 23, 24, 25, 26, 27, 28, 29, 30, 31, 32] (by decide +kernel) (by decide +kernel)
set_option maxRecDepth 20000 in
theorem gX2_priceOf_X0_breakNumber : GoodIn wsX2_priceOf (wsV RX2 74 RX0 yX0_breakNumber wsX0_breakNumber) := goodIn_app (goodIn_of _ (by decide +kernel)) ggX2_priceOf_X0_breakNumber
theorem dX2_priceOf_0 : decode cX2_priceOf 0 = .ok (.iconst (-1), 1) := by decide +kernel
theorem dX2_priceOf_1 : decode cX2_priceOf 1 = .ok (.istore 4, 2) := by decide +kernel
theorem dX2_priceOf_3 : decode cX2_priceOf 3 = .ok (.iload_n 2, 1) := by decide +kernel
theorem dX2_priceOf_4 : decode cX2_priceOf 4 = .ok (.iconst 3, 1) := by decide +kernel
theorem dX2_priceOf_5 : decode cX2_priceOf 5 = .ok (.if_icmp .ne 6, 3) := by decide +kernel
theorem dX2_priceOf_8 : decode cX2_priceOf 8 = .ok (.iload 4, 2) := by decide +kernel
theorem dX2_priceOf_10 : decode cX2_priceOf 10 = .ok (.ireturn, 1) := by decide +kernel
theorem dX2_priceOf_11 : decode cX2_priceOf 11 = .ok (.iconst 0, 1) := by decide +kernel
theorem dX2_priceOf_12 : decode cX2_priceOf 12 = .ok (.istore 5, 2) := by decide +kernel
theorem dX2_priceOf_14 : decode cX2_priceOf 14 = .ok (.iload 5, 2) := by decide +kernel
theorem dX2_priceOf_16 : decode cX2_priceOf 16 = .ok (.aload_n 0, 1) := by decide +kernel
theorem dX2_priceOf_17 : decode cX2_priceOf 17 = .ok (.getfield 21, 3) := by decide +kernel
theorem dX2_priceOf_20 : decode cX2_priceOf 20 = .ok (.iload_n 1, 1) := by decide +kernel
theorem dX2_priceOf_21 : decode cX2_priceOf 21 = .ok (.invokevirtual 71, 3) := by decide +kernel
theorem dX2_priceOf_24 : decode cX2_priceOf 24 = .ok (.if_icmp .ge 55, 3) := by decide +kernel
theorem dX2_priceOf_27 : decode cX2_priceOf 27 = .ok (.aload_n 0, 1) := by decide +kernel
theorem dX2_priceOf_28 : decode cX2_priceOf 28 = .ok (.getfield 21, 3) := by decide +kernel
theorem dX2_priceOf_31 : decode cX2_priceOf 31 = .ok (.iload_n 1, 1) := by decide +kernel
theorem dX2_priceOf_32 : decode cX2_priceOf 32 = .ok (.iload 5, 2) := by decide +kernel
theorem dX2_priceOf_34 : decode cX2_priceOf 34 = .ok (.iconst 1, 1) := by decide +kernel
theorem dX2_priceOf_35 : decode cX2_priceOf 35 = .ok (.iload_n 2, 1) := by decide +kernel
theorem dX2_priceOf_36 : decode cX2_priceOf 36 = .ok (.iadd, 1) := by decide +kernel
theorem dX2_priceOf_37 : decode cX2_priceOf 37 = .ok (.invokevirtual 74, 3) := by decide +kernel
theorem dX2_priceOf_40 : decode cX2_priceOf 40 = .ok (.istore 6, 2) := by decide +kernel
theorem dX2_priceOf_42 : decode cX2_priceOf 42 = .ok (.aload_n 0, 1) := by decide +kernel
theorem dX2_priceOf_43 : decode cX2_priceOf 43 = .ok (.getfield 21, 3) := by decide +kernel
theorem dX2_priceOf_46 : decode cX2_priceOf 46 = .ok (.iload_n 1, 1) := by decide +kernel
theorem dX2_priceOf_47 : decode cX2_priceOf 47 = .ok (.iload 5, 2) := by decide +kernel
theorem dX2_priceOf_49 : decode cX2_priceOf 49 = .ok (.iconst 0, 1) := by decide +kernel
theorem dX2_priceOf_50 : decode cX2_priceOf 50 = .ok (.invokevirtual 74, 3) := by decide +kernel
theorem dX2_priceOf_53 : decode cX2_priceOf 53 = .ok (.iload_n 3, 1) := by decide +kernel
theorem dX2_priceOf_54 : decode cX2_priceOf 54 = .ok (.if_icmp .lt 19, 3) := by decide +kernel
theorem dX2_priceOf_57 : decode cX2_priceOf 57 = .ok (.iload 4, 2) := by decide +kernel
theorem dX2_priceOf_59 : decode cX2_priceOf 59 = .ok (.ifCond .lt 10, 3) := by decide +kernel
theorem dX2_priceOf_62 : decode cX2_priceOf 62 = .ok (.iload 6, 2) := by decide +kernel
theorem dX2_priceOf_64 : decode cX2_priceOf 64 = .ok (.iload 4, 2) := by decide +kernel
theorem dX2_priceOf_66 : decode cX2_priceOf 66 = .ok (.if_icmp .ge 7, 3) := by decide +kernel
theorem dX2_priceOf_69 : decode cX2_priceOf 69 = .ok (.iload 6, 2) := by decide +kernel
theorem dX2_priceOf_71 : decode cX2_priceOf 71 = .ok (.istore 4, 2) := by decide +kernel
theorem dX2_priceOf_73 : decode cX2_priceOf 73 = .ok (.iinc 5 1, 3) := by decide +kernel
theorem dX2_priceOf_76 : decode cX2_priceOf 76 = .ok (.goto (-62), 3) := by decide +kernel
theorem dX2_priceOf_79 : decode cX2_priceOf 79 = .ok (.iload 4, 2) := by decide +kernel
theorem dX2_priceOf_81 : decode cX2_priceOf 81 = .ok (.ireturn, 1) := by decide +kernel
set_option maxRecDepth 20000 in
theorem ggX2_billedKilos_X6_at : GoodIn wsX2_billedKilos wsX6_at := goodIn_r _ [9] (by decide +kernel) (by decide +kernel)
set_option maxRecDepth 20000 in
theorem gX2_billedKilos_X6_at_n37 : GoodIn wsX2_billedKilos (wsX6_at) := ggX2_billedKilos_X6_at
set_option maxRecDepth 20000 in
theorem ggX2_billedKilos_X0_carrierNumber : GoodIn wsX2_billedKilos wsX0_carrierNumber := goodIn_r _ [14, 15, 7, 8, 9, 24, 25, 26, 27, 28, 29, 30, 31, 32, 33] (by decide +kernel) (by decide +kernel)
set_option maxRecDepth 20000 in
theorem gX2_billedKilos_X0_carrierNumber : GoodIn wsX2_billedKilos (wsV RX2 52 RX0 yX0_carrierNumber wsX0_carrierNumber) := goodIn_app (goodIn_of _ (by decide +kernel)) ggX2_billedKilos_X0_carrierNumber
set_option maxRecDepth 20000 in
theorem ggX2_billedKilos_X2_divideUp : GoodIn wsX2_billedKilos wsX2_divideUp := goodIn_r _ [19] (by decide +kernel) (by decide +kernel)
set_option maxRecDepth 20000 in
theorem gX2_billedKilos_X2_divideUp : GoodIn wsX2_billedKilos (va_wsS RX2 77 yX2_divideUp wsX2_divideUp) := goodIn_app (goodIn_of _ (by decide +kernel)) ggX2_billedKilos_X2_divideUp
theorem dX2_billedKilos_0 : decode cX2_billedKilos 0 = .ok (.iload_n 3, 1) := by decide +kernel
theorem dX2_billedKilos_1 : decode cX2_billedKilos 1 = .ok (.aload_n 0, 1) := by decide +kernel
theorem dX2_billedKilos_2 : decode cX2_billedKilos 2 = .ok (.getfield 15, 3) := by decide +kernel
theorem dX2_billedKilos_5 : decode cX2_billedKilos 5 = .ok (.iload_n 1, 1) := by decide +kernel
theorem dX2_billedKilos_6 : decode cX2_billedKilos 6 = .ok (.invokestatic 37, 3) := by decide +kernel
theorem dX2_billedKilos_9 : decode cX2_billedKilos 9 = .ok (.aload_n 0, 1) := by decide +kernel
theorem dX2_billedKilos_10 : decode cX2_billedKilos 10 = .ok (.getfield 21, 3) := by decide +kernel
theorem dX2_billedKilos_13 : decode cX2_billedKilos 13 = .ok (.iload_n 2, 1) := by decide +kernel
theorem dX2_billedKilos_14 : decode cX2_billedKilos 14 = .ok (.iconst 2, 1) := by decide +kernel
theorem dX2_billedKilos_15 : decode cX2_billedKilos 15 = .ok (.invokevirtual 52, 3) := by decide +kernel
theorem dX2_billedKilos_18 : decode cX2_billedKilos 18 = .ok (.invokestatic 77, 3) := by decide +kernel
theorem dX2_billedKilos_21 : decode cX2_billedKilos 21 = .ok (.invokestatic 80, 3) := by decide +kernel
theorem dX2_billedKilos_24 : decode cX2_billedKilos 24 = .ok (.ireturn, 1) := by decide +kernel
set_option maxRecDepth 20000 in
theorem ggX2_chargeOf_X0_carrierNumber : GoodIn wsX2_chargeOf wsX0_carrierNumber := goodIn_r _ [8, 9, 10, 11, 12, 53, 54, 55, 56, 57, 58, 59, 60, 61, 62] (by decide +kernel) (by decide +kernel)
set_option maxRecDepth 20000 in
theorem gX2_chargeOf_X0_carrierNumber : GoodIn wsX2_chargeOf (wsV RX2 52 RX0 yX0_carrierNumber wsX0_carrierNumber) := goodIn_app (goodIn_of _ (by decide +kernel)) ggX2_chargeOf_X0_carrierNumber
set_option maxRecDepth 20000 in
theorem ggX2_chargeOf_X6_at : GoodIn wsX2_chargeOf wsX6_at := goodIn_r _ [12] (by decide +kernel) (by decide +kernel)
set_option maxRecDepth 20000 in
theorem gX2_chargeOf_X6_at_n37 : GoodIn wsX2_chargeOf (wsX6_at) := ggX2_chargeOf_X6_at
set_option maxRecDepth 20000 in
theorem ggX2_chargeOf_X2_billedKilos : GoodIn wsX2_chargeOf wsX2_billedKilos := goodIn_r _ [17, 2, 1, 18, 19, 20, 21, 10, 11, 12, 4, 5, 6, 7, 8, 9, 22, 23, 16, 24, 49, 50, 51, 52, 53, 54, 55, 56, 57, 58, 59, 60, 61, 62] (by decide +kernel) (by decide +kernel)
set_option maxRecDepth 20000 in
theorem gX2_chargeOf_X2_billedKilos : GoodIn wsX2_chargeOf (wsV RX2 85 RX2 yX2_billedKilos wsX2_billedKilos) := goodIn_app (goodIn_of _ (by decide +kernel)) ggX2_chargeOf_X2_billedKilos
set_option maxRecDepth 20000 in
theorem ggX2_chargeOf_X2_priceOf : GoodIn wsX2_chargeOf wsX2_priceOf := goodIn_r _ [28, 1, 29, 30, 31, 7, 32, 33, 10, 11, 12, 34, 35, 36, 37, 38, 39, 40, 41, 49, 50, 51, 52, 53, 54, 55, 56, 57, 58, 59, 60, 61, 62] (by decide +kernel) (by decide +kernel)
set_option maxRecDepth 20000 in
theorem gX2_chargeOf_X2_priceOf : GoodIn wsX2_chargeOf (wsV RX2 88 RX2 yX2_priceOf wsX2_priceOf) := goodIn_app (goodIn_of _ (by decide +kernel)) ggX2_chargeOf_X2_priceOf
set_option maxRecDepth 20000 in
theorem ggX2_chargeOf_J6_bitCount_0f7a4 : GoodIn wsX2_chargeOf wsJ6_bitCount_0f7a4 := goodIn_r _ [45, 46, 47, 48] (by decide +kernel) (by decide +kernel)
set_option maxRecDepth 20000 in
theorem gX2_chargeOf_J6_bitCount_0f7a4 : GoodIn wsX2_chargeOf (va_wsS RX2 91 yJ6_bitCount_0f7a4 wsJ6_bitCount_0f7a4) := goodIn_app (goodIn_of _ (by decide +kernel)) ggX2_chargeOf_J6_bitCount_0f7a4
theorem dX2_chargeOf_0 : decode cX2_chargeOf 0 = .ok (.iload_n 3, 1) := by decide +kernel
theorem dX2_chargeOf_1 : decode cX2_chargeOf 1 = .ok (.iconst 3, 1) := by decide +kernel
theorem dX2_chargeOf_2 : decode cX2_chargeOf 2 = .ok (.if_icmp .ne 6, 3) := by decide +kernel
theorem dX2_chargeOf_5 : decode cX2_chargeOf 5 = .ok (.bipush (-2), 2) := by decide +kernel
theorem dX2_chargeOf_7 : decode cX2_chargeOf 7 = .ok (.ireturn, 1) := by decide +kernel
theorem dX2_chargeOf_8 : decode cX2_chargeOf 8 = .ok (.iload 4, 2) := by decide +kernel
theorem dX2_chargeOf_10 : decode cX2_chargeOf 10 = .ok (.aload_n 0, 1) := by decide +kernel
theorem dX2_chargeOf_11 : decode cX2_chargeOf 11 = .ok (.getfield 21, 3) := by decide +kernel
theorem dX2_chargeOf_14 : decode cX2_chargeOf 14 = .ok (.iload_n 2, 1) := by decide +kernel
theorem dX2_chargeOf_15 : decode cX2_chargeOf 15 = .ok (.iconst 0, 1) := by decide +kernel
theorem dX2_chargeOf_16 : decode cX2_chargeOf 16 = .ok (.invokevirtual 52, 3) := by decide +kernel
theorem dX2_chargeOf_19 : decode cX2_chargeOf 19 = .ok (.if_icmp .le 6, 3) := by decide +kernel
theorem dX2_chargeOf_22 : decode cX2_chargeOf 22 = .ok (.bipush (-3), 2) := by decide +kernel
theorem dX2_chargeOf_24 : decode cX2_chargeOf 24 = .ok (.ireturn, 1) := by decide +kernel
theorem dX2_chargeOf_25 : decode cX2_chargeOf 25 = .ok (.aload_n 0, 1) := by decide +kernel
theorem dX2_chargeOf_26 : decode cX2_chargeOf 26 = .ok (.getfield 15, 3) := by decide +kernel
theorem dX2_chargeOf_29 : decode cX2_chargeOf 29 = .ok (.iload_n 1, 1) := by decide +kernel
theorem dX2_chargeOf_30 : decode cX2_chargeOf 30 = .ok (.invokestatic 37, 3) := by decide +kernel
theorem dX2_chargeOf_33 : decode cX2_chargeOf 33 = .ok (.aload_n 0, 1) := by decide +kernel
theorem dX2_chargeOf_34 : decode cX2_chargeOf 34 = .ok (.getfield 21, 3) := by decide +kernel
theorem dX2_chargeOf_37 : decode cX2_chargeOf 37 = .ok (.iload_n 2, 1) := by decide +kernel
theorem dX2_chargeOf_38 : decode cX2_chargeOf 38 = .ok (.iconst 1, 1) := by decide +kernel
theorem dX2_chargeOf_39 : decode cX2_chargeOf 39 = .ok (.invokevirtual 52, 3) := by decide +kernel
theorem dX2_chargeOf_42 : decode cX2_chargeOf 42 = .ok (.if_icmp .le 6, 3) := by decide +kernel
theorem dX2_chargeOf_45 : decode cX2_chargeOf 45 = .ok (.bipush (-4), 2) := by decide +kernel
theorem dX2_chargeOf_47 : decode cX2_chargeOf 47 = .ok (.ireturn, 1) := by decide +kernel
theorem dX2_chargeOf_48 : decode cX2_chargeOf 48 = .ok (.aload_n 0, 1) := by decide +kernel
theorem dX2_chargeOf_49 : decode cX2_chargeOf 49 = .ok (.iload_n 2, 1) := by decide +kernel
theorem dX2_chargeOf_50 : decode cX2_chargeOf 50 = .ok (.iload_n 3, 1) := by decide +kernel
theorem dX2_chargeOf_51 : decode cX2_chargeOf 51 = .ok (.aload_n 0, 1) := by decide +kernel
theorem dX2_chargeOf_52 : decode cX2_chargeOf 52 = .ok (.iload_n 1, 1) := by decide +kernel
theorem dX2_chargeOf_53 : decode cX2_chargeOf 53 = .ok (.iload_n 2, 1) := by decide +kernel
theorem dX2_chargeOf_54 : decode cX2_chargeOf 54 = .ok (.iload 4, 2) := by decide +kernel
theorem dX2_chargeOf_56 : decode cX2_chargeOf 56 = .ok (.invokevirtual 85, 3) := by decide +kernel
theorem dX2_chargeOf_59 : decode cX2_chargeOf 59 = .ok (.invokevirtual 88, 3) := by decide +kernel
theorem dX2_chargeOf_62 : decode cX2_chargeOf 62 = .ok (.istore 5, 2) := by decide +kernel
theorem dX2_chargeOf_64 : decode cX2_chargeOf 64 = .ok (.iload 5, 2) := by decide +kernel
theorem dX2_chargeOf_66 : decode cX2_chargeOf 66 = .ok (.ifCond .ge 6, 3) := by decide +kernel
theorem dX2_chargeOf_69 : decode cX2_chargeOf 69 = .ok (.bipush (-5), 2) := by decide +kernel
theorem dX2_chargeOf_71 : decode cX2_chargeOf 71 = .ok (.ireturn, 1) := by decide +kernel
theorem dX2_chargeOf_72 : decode cX2_chargeOf 72 = .ok (.iload_n 1, 1) := by decide +kernel
theorem dX2_chargeOf_73 : decode cX2_chargeOf 73 = .ok (.aload_n 0, 1) := by decide +kernel
theorem dX2_chargeOf_74 : decode cX2_chargeOf 74 = .ok (.getfield 18, 3) := by decide +kernel
theorem dX2_chargeOf_77 : decode cX2_chargeOf 77 = .ok (.iload_n 2, 1) := by decide +kernel
theorem dX2_chargeOf_78 : decode cX2_chargeOf 78 = .ok (.invokestatic 37, 3) := by decide +kernel
theorem dX2_chargeOf_81 : decode cX2_chargeOf 81 = .ok (.iand, 1) := by decide +kernel
theorem dX2_chargeOf_82 : decode cX2_chargeOf 82 = .ok (.invokestatic 91, 3) := by decide +kernel
theorem dX2_chargeOf_85 : decode cX2_chargeOf 85 = .ok (.istore 6, 2) := by decide +kernel
theorem dX2_chargeOf_87 : decode cX2_chargeOf 87 = .ok (.iload 5, 2) := by decide +kernel
theorem dX2_chargeOf_89 : decode cX2_chargeOf 89 = .ok (.iload 6, 2) := by decide +kernel
theorem dX2_chargeOf_91 : decode cX2_chargeOf 91 = .ok (.aload_n 0, 1) := by decide +kernel
theorem dX2_chargeOf_92 : decode cX2_chargeOf 92 = .ok (.getfield 21, 3) := by decide +kernel
theorem dX2_chargeOf_95 : decode cX2_chargeOf 95 = .ok (.iload_n 2, 1) := by decide +kernel
theorem dX2_chargeOf_96 : decode cX2_chargeOf 96 = .ok (.iconst 5, 1) := by decide +kernel
theorem dX2_chargeOf_97 : decode cX2_chargeOf 97 = .ok (.invokevirtual 52, 3) := by decide +kernel
theorem dX2_chargeOf_100 : decode cX2_chargeOf 100 = .ok (.imul, 1) := by decide +kernel
theorem dX2_chargeOf_101 : decode cX2_chargeOf 101 = .ok (.iadd, 1) := by decide +kernel
theorem dX2_chargeOf_102 : decode cX2_chargeOf 102 = .ok (.istore 7, 2) := by decide +kernel
theorem dX2_chargeOf_104 : decode cX2_chargeOf 104 = .ok (.iload 7, 2) := by decide +kernel
theorem dX2_chargeOf_106 : decode cX2_chargeOf 106 = .ok (.iload 7, 2) := by decide +kernel
theorem dX2_chargeOf_108 : decode cX2_chargeOf 108 = .ok (.aload_n 0, 1) := by decide +kernel
theorem dX2_chargeOf_109 : decode cX2_chargeOf 109 = .ok (.getfield 21, 3) := by decide +kernel
theorem dX2_chargeOf_112 : decode cX2_chargeOf 112 = .ok (.iload_n 2, 1) := by decide +kernel
theorem dX2_chargeOf_113 : decode cX2_chargeOf 113 = .ok (.iconst 3, 1) := by decide +kernel
theorem dX2_chargeOf_114 : decode cX2_chargeOf 114 = .ok (.invokevirtual 52, 3) := by decide +kernel
theorem dX2_chargeOf_117 : decode cX2_chargeOf 117 = .ok (.imul, 1) := by decide +kernel
theorem dX2_chargeOf_118 : decode cX2_chargeOf 118 = .ok (.bipush 100, 2) := by decide +kernel
theorem dX2_chargeOf_120 : decode cX2_chargeOf 120 = .ok (.idiv, 1) := by decide +kernel
theorem dX2_chargeOf_121 : decode cX2_chargeOf 121 = .ok (.iadd, 1) := by decide +kernel
theorem dX2_chargeOf_122 : decode cX2_chargeOf 122 = .ok (.ireturn, 1) := by decide +kernel
set_option maxRecDepth 20000 in
theorem ggX2_leastOffer_X0_carrierCount : GoodIn wsX2_leastOffer wsX0_carrierCount := goodIn_r _ [6, 7, 70, 71, 72, 73, 74, 75, 76, 77, 78, 79] (by decide +kernel) (by decide +kernel)
set_option maxRecDepth 20000 in
theorem gX2_leastOffer_X0_carrierCount : GoodIn wsX2_leastOffer (wsV RX2 49 RX0 yX0_carrierCount wsX0_carrierCount) := goodIn_app (goodIn_of _ (by decide +kernel)) ggX2_leastOffer_X0_carrierCount
set_option maxRecDepth 20000 in
theorem ggX2_leastOffer_X2_zoneIn : GoodIn wsX2_leastOffer wsX2_zoneIn := goodIn_r _ [11] (by decide +kernel) (by decide +kernel)
set_option maxRecDepth 20000 in
theorem gX2_leastOffer_X2_zoneIn : GoodIn wsX2_leastOffer (va_wsS RX2 94 yX2_zoneIn wsX2_zoneIn) := goodIn_app (goodIn_of _ (by decide +kernel)) ggX2_leastOffer_X2_zoneIn
set_option maxRecDepth 20000 in
theorem ggX2_leastOffer_X2_kilosOf : GoodIn wsX2_leastOffer wsX2_kilosOf := goodIn_r _ [15, 16, 17, 18, 19, 66, 67, 68, 69] (by decide +kernel) (by decide +kernel)
set_option maxRecDepth 20000 in
theorem gX2_leastOffer_X2_kilosOf : GoodIn wsX2_leastOffer (wsV RX2 97 RX2 yX2_kilosOf wsX2_kilosOf) := goodIn_app (goodIn_of _ (by decide +kernel)) ggX2_leastOffer_X2_kilosOf
set_option maxRecDepth 20000 in
theorem ggX2_leastOffer_X2_chargeOf : GoodIn wsX2_leastOffer wsX2_chargeOf := goodIn_r _ [23, 1, 24, 25, 26, 27, 28, 5, 29, 30, 17, 18, 19, 31, 32, 33, 10, 34, 35, 36, 37, 38, 39, 40, 41, 42, 43, 44, 45, 46, 47, 48, 49, 50, 51, 52, 53, 54, 55, 56, 57, 58, 59, 60, 61, 62, 63, 64, 65, 66, 67, 68, 69, 70, 71, 72, 73, 74, 75, 76, 77, 78, 79] (by decide +kernel) (by decide +kernel)
set_option maxRecDepth 20000 in
theorem gX2_leastOffer_X2_chargeOf : GoodIn wsX2_leastOffer (wsV RX2 100 RX2 yX2_chargeOf wsX2_chargeOf) := goodIn_app (goodIn_of _ (by decide +kernel)) ggX2_leastOffer_X2_chargeOf
theorem dX2_leastOffer_0 : decode cX2_leastOffer 0 = .ok (.iconst (-1), 1) := by decide +kernel
theorem dX2_leastOffer_1 : decode cX2_leastOffer 1 = .ok (.istore_n 3, 1) := by decide +kernel
theorem dX2_leastOffer_2 : decode cX2_leastOffer 2 = .ok (.iconst 0, 1) := by decide +kernel
theorem dX2_leastOffer_3 : decode cX2_leastOffer 3 = .ok (.istore 4, 2) := by decide +kernel
theorem dX2_leastOffer_5 : decode cX2_leastOffer 5 = .ok (.iload 4, 2) := by decide +kernel
theorem dX2_leastOffer_7 : decode cX2_leastOffer 7 = .ok (.aload_n 0, 1) := by decide +kernel
theorem dX2_leastOffer_8 : decode cX2_leastOffer 8 = .ok (.getfield 21, 3) := by decide +kernel
theorem dX2_leastOffer_11 : decode cX2_leastOffer 11 = .ok (.invokevirtual 49, 3) := by decide +kernel
theorem dX2_leastOffer_14 : decode cX2_leastOffer 14 = .ok (.if_icmp .ge 56, 3) := by decide +kernel
theorem dX2_leastOffer_17 : decode cX2_leastOffer 17 = .ok (.aload_n 0, 1) := by decide +kernel
theorem dX2_leastOffer_18 : decode cX2_leastOffer 18 = .ok (.iload_n 1, 1) := by decide +kernel
theorem dX2_leastOffer_19 : decode cX2_leastOffer 19 = .ok (.iload 4, 2) := by decide +kernel
theorem dX2_leastOffer_21 : decode cX2_leastOffer 21 = .ok (.iload_n 2, 1) := by decide +kernel
theorem dX2_leastOffer_22 : decode cX2_leastOffer 22 = .ok (.iload 4, 2) := by decide +kernel
theorem dX2_leastOffer_24 : decode cX2_leastOffer 24 = .ok (.invokestatic 94, 3) := by decide +kernel
theorem dX2_leastOffer_27 : decode cX2_leastOffer 27 = .ok (.aload_n 0, 1) := by decide +kernel
theorem dX2_leastOffer_28 : decode cX2_leastOffer 28 = .ok (.iload_n 1, 1) := by decide +kernel
theorem dX2_leastOffer_29 : decode cX2_leastOffer 29 = .ok (.invokevirtual 97, 3) := by decide +kernel
theorem dX2_leastOffer_32 : decode cX2_leastOffer 32 = .ok (.invokevirtual 100, 3) := by decide +kernel
theorem dX2_leastOffer_35 : decode cX2_leastOffer 35 = .ok (.istore 5, 2) := by decide +kernel
theorem dX2_leastOffer_37 : decode cX2_leastOffer 37 = .ok (.iload 5, 2) := by decide +kernel
theorem dX2_leastOffer_39 : decode cX2_leastOffer 39 = .ok (.iconst 3, 1) := by decide +kernel
theorem dX2_leastOffer_40 : decode cX2_leastOffer 40 = .ok (.imul, 1) := by decide +kernel
theorem dX2_leastOffer_41 : decode cX2_leastOffer 41 = .ok (.iload 4, 2) := by decide +kernel
theorem dX2_leastOffer_43 : decode cX2_leastOffer 43 = .ok (.iadd, 1) := by decide +kernel
theorem dX2_leastOffer_44 : decode cX2_leastOffer 44 = .ok (.istore 6, 2) := by decide +kernel
theorem dX2_leastOffer_46 : decode cX2_leastOffer 46 = .ok (.iload 5, 2) := by decide +kernel
theorem dX2_leastOffer_48 : decode cX2_leastOffer 48 = .ok (.ifCond .lt 16, 3) := by decide +kernel
theorem dX2_leastOffer_51 : decode cX2_leastOffer 51 = .ok (.iload_n 3, 1) := by decide +kernel
theorem dX2_leastOffer_52 : decode cX2_leastOffer 52 = .ok (.ifCond .lt 9, 3) := by decide +kernel
theorem dX2_leastOffer_55 : decode cX2_leastOffer 55 = .ok (.iload 6, 2) := by decide +kernel
theorem dX2_leastOffer_57 : decode cX2_leastOffer 57 = .ok (.iload_n 3, 1) := by decide +kernel
theorem dX2_leastOffer_58 : decode cX2_leastOffer 58 = .ok (.if_icmp .ge 6, 3) := by decide +kernel
theorem dX2_leastOffer_61 : decode cX2_leastOffer 61 = .ok (.iload 6, 2) := by decide +kernel
theorem dX2_leastOffer_63 : decode cX2_leastOffer 63 = .ok (.istore_n 3, 1) := by decide +kernel
theorem dX2_leastOffer_64 : decode cX2_leastOffer 64 = .ok (.iinc 4 1, 3) := by decide +kernel
theorem dX2_leastOffer_67 : decode cX2_leastOffer 67 = .ok (.goto (-62), 3) := by decide +kernel
theorem dX2_leastOffer_70 : decode cX2_leastOffer 70 = .ok (.iload_n 3, 1) := by decide +kernel
theorem dX2_leastOffer_71 : decode cX2_leastOffer 71 = .ok (.ireturn, 1) := by decide +kernel
theorem dX2_chargeOfOffer_0 : decode cX2_chargeOfOffer 0 = .ok (.iload_n 0, 1) := by decide +kernel
theorem dX2_chargeOfOffer_1 : decode cX2_chargeOfOffer 1 = .ok (.iconst 3, 1) := by decide +kernel
theorem dX2_chargeOfOffer_2 : decode cX2_chargeOfOffer 2 = .ok (.idiv, 1) := by decide +kernel
theorem dX2_chargeOfOffer_3 : decode cX2_chargeOfOffer 3 = .ok (.ireturn, 1) := by decide +kernel
theorem dX2_carrierOfOffer_0 : decode cX2_carrierOfOffer 0 = .ok (.iload_n 0, 1) := by decide +kernel
theorem dX2_carrierOfOffer_1 : decode cX2_carrierOfOffer 1 = .ok (.iconst 3, 1) := by decide +kernel
theorem dX2_carrierOfOffer_2 : decode cX2_carrierOfOffer 2 = .ok (.irem, 1) := by decide +kernel
theorem dX2_carrierOfOffer_3 : decode cX2_carrierOfOffer 3 = .ok (.ireturn, 1) := by decide +kernel
set_option maxRecDepth 20000 in
theorem ggX2_boundBy_X0_breakCount : GoodIn wsX2_boundBy wsX0_breakCount := goodIn_r _ [6, 7, 8, 9, 10, 27, 28, 29, 30, 31, 32, 33, 34, 35, 36] (by decide +kernel) (by decide +kernel)
set_option maxRecDepth 20000 in
theorem gX2_boundBy_X0_breakCount : GoodIn wsX2_boundBy (wsV RX2 71 RX0 yX0_breakCount wsX0_breakCount) := goodIn_app (goodIn_of _ (by decide +kernel)) ggX2_boundBy_X0_breakCount
set_option maxRecDepth 20000 in
theorem ggX2_boundBy_X0_breakNumber : GoodIn wsX2_boundBy wsX0_breakNumber := goodIn_r _ [14, 15, 16, 17, 5, 18, 8, 9, 10, 27, 28, 29, 30, 31, 32, 33, 34, 35, 36] (by decide +kernel) (by decide +kernel)
set_option maxRecDepth 20000 in
theorem gX2_boundBy_X0_breakNumber : GoodIn wsX2_boundBy (wsV RX2 74 RX0 yX0_breakNumber wsX0_breakNumber) := goodIn_app (goodIn_of _ (by decide +kernel)) ggX2_boundBy_X0_breakNumber
set_option maxRecDepth 20000 in
theorem ggX2_boundBy_X2_divideUp : GoodIn wsX2_boundBy wsX2_divideUp := goodIn_r _ [22] (by decide +kernel) (by decide +kernel)
set_option maxRecDepth 20000 in
theorem gX2_boundBy_X2_divideUp : GoodIn wsX2_boundBy (va_wsS RX2 77 yX2_divideUp wsX2_divideUp) := goodIn_app (goodIn_of _ (by decide +kernel)) ggX2_boundBy_X2_divideUp
theorem dX2_boundBy_0 : decode cX2_boundBy 0 = .ok (.iconst (-1), 1) := by decide +kernel
theorem dX2_boundBy_1 : decode cX2_boundBy 1 = .ok (.istore 4, 2) := by decide +kernel
theorem dX2_boundBy_3 : decode cX2_boundBy 3 = .ok (.iconst 0, 1) := by decide +kernel
theorem dX2_boundBy_4 : decode cX2_boundBy 4 = .ok (.istore 5, 2) := by decide +kernel
theorem dX2_boundBy_6 : decode cX2_boundBy 6 = .ok (.iload 5, 2) := by decide +kernel
theorem dX2_boundBy_8 : decode cX2_boundBy 8 = .ok (.aload_n 0, 1) := by decide +kernel
theorem dX2_boundBy_9 : decode cX2_boundBy 9 = .ok (.getfield 21, 3) := by decide +kernel
theorem dX2_boundBy_12 : decode cX2_boundBy 12 = .ok (.iload_n 1, 1) := by decide +kernel
theorem dX2_boundBy_13 : decode cX2_boundBy 13 = .ok (.invokevirtual 71, 3) := by decide +kernel
theorem dX2_boundBy_16 : decode cX2_boundBy 16 = .ok (.if_icmp .ge 65, 3) := by decide +kernel
theorem dX2_boundBy_19 : decode cX2_boundBy 19 = .ok (.aload_n 0, 1) := by decide +kernel
theorem dX2_boundBy_20 : decode cX2_boundBy 20 = .ok (.getfield 21, 3) := by decide +kernel
theorem dX2_boundBy_23 : decode cX2_boundBy 23 = .ok (.iload_n 1, 1) := by decide +kernel
theorem dX2_boundBy_24 : decode cX2_boundBy 24 = .ok (.iload 5, 2) := by decide +kernel
theorem dX2_boundBy_26 : decode cX2_boundBy 26 = .ok (.iconst 1, 1) := by decide +kernel
theorem dX2_boundBy_27 : decode cX2_boundBy 27 = .ok (.iload_n 2, 1) := by decide +kernel
theorem dX2_boundBy_28 : decode cX2_boundBy 28 = .ok (.iadd, 1) := by decide +kernel
theorem dX2_boundBy_29 : decode cX2_boundBy 29 = .ok (.invokevirtual 74, 3) := by decide +kernel
theorem dX2_boundBy_32 : decode cX2_boundBy 32 = .ok (.istore 6, 2) := by decide +kernel
theorem dX2_boundBy_34 : decode cX2_boundBy 34 = .ok (.iload_n 3, 1) := by decide +kernel
theorem dX2_boundBy_35 : decode cX2_boundBy 35 = .ok (.iload 6, 2) := by decide +kernel
theorem dX2_boundBy_37 : decode cX2_boundBy 37 = .ok (.imul, 1) := by decide +kernel
theorem dX2_boundBy_38 : decode cX2_boundBy 38 = .ok (.aload_n 0, 1) := by decide +kernel
theorem dX2_boundBy_39 : decode cX2_boundBy 39 = .ok (.getfield 21, 3) := by decide +kernel
theorem dX2_boundBy_42 : decode cX2_boundBy 42 = .ok (.iload_n 1, 1) := by decide +kernel
theorem dX2_boundBy_43 : decode cX2_boundBy 43 = .ok (.iload 5, 2) := by decide +kernel
theorem dX2_boundBy_45 : decode cX2_boundBy 45 = .ok (.iconst 0, 1) := by decide +kernel
theorem dX2_boundBy_46 : decode cX2_boundBy 46 = .ok (.invokevirtual 74, 3) := by decide +kernel
theorem dX2_boundBy_49 : decode cX2_boundBy 49 = .ok (.invokestatic 77, 3) := by decide +kernel
theorem dX2_boundBy_52 : decode cX2_boundBy 52 = .ok (.istore 7, 2) := by decide +kernel
theorem dX2_boundBy_54 : decode cX2_boundBy 54 = .ok (.iload 4, 2) := by decide +kernel
theorem dX2_boundBy_56 : decode cX2_boundBy 56 = .ok (.ifCond .lt 10, 3) := by decide +kernel
theorem dX2_boundBy_59 : decode cX2_boundBy 59 = .ok (.iload 7, 2) := by decide +kernel
theorem dX2_boundBy_61 : decode cX2_boundBy 61 = .ok (.iload 4, 2) := by decide +kernel
theorem dX2_boundBy_63 : decode cX2_boundBy 63 = .ok (.if_icmp .ge 8, 3) := by decide +kernel
theorem dX2_boundBy_66 : decode cX2_boundBy 66 = .ok (.iload 7, 2) := by decide +kernel
theorem dX2_boundBy_68 : decode cX2_boundBy 68 = .ok (.goto 5, 3) := by decide +kernel
theorem dX2_boundBy_71 : decode cX2_boundBy 71 = .ok (.iload 4, 2) := by decide +kernel
theorem dX2_boundBy_73 : decode cX2_boundBy 73 = .ok (.istore 4, 2) := by decide +kernel
theorem dX2_boundBy_75 : decode cX2_boundBy 75 = .ok (.iinc 5 1, 3) := by decide +kernel
theorem dX2_boundBy_78 : decode cX2_boundBy 78 = .ok (.goto (-72), 3) := by decide +kernel
theorem dX2_boundBy_81 : decode cX2_boundBy 81 = .ok (.iload 4, 2) := by decide +kernel
theorem dX2_boundBy_83 : decode cX2_boundBy 83 = .ok (.ireturn, 1) := by decide +kernel
theorem dX2_divideUp_0 : decode cX2_divideUp 0 = .ok (.iload_n 1, 1) := by decide +kernel
theorem dX2_divideUp_1 : decode cX2_divideUp 1 = .ok (.iconst 1, 1) := by decide +kernel
theorem dX2_divideUp_2 : decode cX2_divideUp 2 = .ok (.if_icmp .ge 7, 3) := by decide +kernel
theorem dX2_divideUp_5 : decode cX2_divideUp 5 = .ok (.iconst 0, 1) := by decide +kernel
theorem dX2_divideUp_6 : decode cX2_divideUp 6 = .ok (.goto 10, 3) := by decide +kernel
theorem dX2_divideUp_9 : decode cX2_divideUp 9 = .ok (.iload_n 0, 1) := by decide +kernel
theorem dX2_divideUp_10 : decode cX2_divideUp 10 = .ok (.iload_n 1, 1) := by decide +kernel
theorem dX2_divideUp_11 : decode cX2_divideUp 11 = .ok (.iadd, 1) := by decide +kernel
theorem dX2_divideUp_12 : decode cX2_divideUp 12 = .ok (.iconst 1, 1) := by decide +kernel
theorem dX2_divideUp_13 : decode cX2_divideUp 13 = .ok (.isub, 1) := by decide +kernel
theorem dX2_divideUp_14 : decode cX2_divideUp 14 = .ok (.iload_n 1, 1) := by decide +kernel
theorem dX2_divideUp_15 : decode cX2_divideUp 15 = .ok (.idiv, 1) := by decide +kernel
theorem dX2_divideUp_16 : decode cX2_divideUp 16 = .ok (.ireturn, 1) := by decide +kernel
theorem dX3_init_0 : decode cX3_init 0 = .ok (.aload_n 0, 1) := by decide +kernel
theorem dX3_init_1 : decode cX3_init 1 = .ok (.invokespecial 3, 3) := by decide +kernel
theorem dX3_init_4 : decode cX3_init 4 = .ok (.aload_n 0, 1) := by decide +kernel
theorem dX3_init_5 : decode cX3_init 5 = .ok (.bipush 6, 2) := by decide +kernel
theorem dX3_init_7 : decode cX3_init 7 = .ok (.newarray .int, 2) := by decide +kernel
theorem dX3_init_9 : decode cX3_init 9 = .ok (.putfield 11, 3) := by decide +kernel
theorem dX3_init_12 : decode cX3_init 12 = .ok (.aload_n 0, 1) := by decide +kernel
theorem dX3_init_13 : decode cX3_init 13 = .ok (.aload_n 1, 1) := by decide +kernel
theorem dX3_init_14 : decode cX3_init 14 = .ok (.putfield 15, 3) := by decide +kernel
theorem dX3_init_17 : decode cX3_init 17 = .ok (.aload_n 0, 1) := by decide +kernel
theorem dX3_init_18 : decode cX3_init 18 = .ok (.aload_n 2, 1) := by decide +kernel
theorem dX3_init_19 : decode cX3_init 19 = .ok (.putfield 19, 3) := by decide +kernel
theorem dX3_init_22 : decode cX3_init 22 = .ok (.return_, 1) := by decide +kernel
theorem dX3_faultKind_0 : decode cX3_faultKind 0 = .ok (.aload_n 0, 1) := by decide +kernel
theorem dX3_faultKind_1 : decode cX3_faultKind 1 = .ok (.getfield 23, 3) := by decide +kernel
theorem dX3_faultKind_4 : decode cX3_faultKind 4 = .ok (.ireturn, 1) := by decide +kernel
set_option maxRecDepth 20000 in
theorem ggX3_read_X0_clear : GoodIn wsX3_read wsX0_clear := goodIn_r _ [9, 10, 11, 12, 13, 14, 15, 16, 17, 18, 19, 201, 202, 203, 204, 205, 206, 207, 208, 209, 210] (by decide +kernel) (by decide +kernel)
set_option maxRecDepth 20000 in
theorem gX3_read_X0_clear : GoodIn wsX3_read (wsV RX3 27 RX0 yX0_clear wsX0_clear) := goodIn_app (goodIn_of _ (by decide +kernel)) ggX3_read_X0_clear
set_option maxRecDepth 20000 in
theorem ggX3_read_X3_readLine : GoodIn wsX3_read wsX3_readLine := goodIn_r _ [24, 25, 2, 1, 26, 27, 28, 29, 30, 31, 23, 32, 33, 34, 35, 36, 37, 3, 4, 38, 39, 40, 41, 42, 43, 44, 45, 46, 47, 48, 49, 50, 51, 52, 53, 54, 55, 56, 57, 58, 59, 60, 61, 62, 63, 64, 65, 66, 67, 68, 69, 70, 71, 72, 73, 74, 75, 76, 77, 78, 79, 80, 81, 82, 83, 84, 85, 86, 87, 88, 89, 90, 91, 92, 93, 94, 95, 96, 97, 98, 99, 100, 101, 102, 103, 104, 105, 106, 107, 108, 109, 110, 111, 112, 113, 114, 115, 116, 117, 118, 119, 120, 121, 122, 123, 124, 8, 125, 12, 13, 126, 127, 128, 129, 10, 130, 131, 132, 133, 134, 135, 136, 11, 137, 138, 139, 140, 141, 142, 143, 144, 145, 146, 147, 148, 149, 150, 151, 152, 153, 154, 155, 156, 157, 158, 159, 160, 161, 162, 163, 164, 165, 166, 167, 168, 169, 170, 171, 172, 173, 174, 175, 176, 177, 178, 179, 180, 181, 182, 183, 184, 14, 15, 185, 186, 187, 188, 193, 194, 195, 196, 197, 198, 199, 200, 211, 212, 201, 202, 203, 204, 205, 206, 207, 208, 209, 210] (by decide +kernel) (by decide +kernel)
set_option maxRecDepth 20000 in
theorem gX3_read_X3_readLine : GoodIn wsX3_read (wsV RX3 35 RX3 yX3_readLine wsX3_readLine) := goodIn_app (goodIn_of _ (by decide +kernel)) ggX3_read_X3_readLine
set_option maxRecDepth 20000 in
theorem ggX3_read_X3_readEnd : GoodIn wsX3_read wsX3_readEnd := goodIn_r _ [192, 25, 33, 29, 30, 31, 23, 32, 34, 35, 36, 37, 3, 4, 38, 39, 40, 41, 42, 43, 44, 45, 46, 47, 48, 49, 50, 51, 52, 53, 54, 55, 28, 56, 57, 58, 59, 60, 61, 173, 174, 175, 176, 2, 193, 194, 195, 196, 197, 198, 199, 200, 211, 212] (by decide +kernel) (by decide +kernel)
set_option maxRecDepth 20000 in
theorem gX3_read_X3_readEnd : GoodIn wsX3_read (wsV RX3 42 RX3 yX3_readEnd wsX3_readEnd) := goodIn_app (goodIn_of _ (by decide +kernel)) ggX3_read_X3_readEnd
theorem dX3_read_0 : decode cX3_read 0 = .ok (.aload_n 0, 1) := by decide +kernel
theorem dX3_read_1 : decode cX3_read 1 = .ok (.getfield 19, 3) := by decide +kernel
theorem dX3_read_4 : decode cX3_read 4 = .ok (.invokevirtual 27, 3) := by decide +kernel
theorem dX3_read_7 : decode cX3_read 7 = .ok (.aload_n 0, 1) := by decide +kernel
theorem dX3_read_8 : decode cX3_read 8 = .ok (.iconst 0, 1) := by decide +kernel
theorem dX3_read_9 : decode cX3_read 9 = .ok (.putfield 23, 3) := by decide +kernel
theorem dX3_read_12 : decode cX3_read 12 = .ok (.aload_n 0, 1) := by decide +kernel
theorem dX3_read_13 : decode cX3_read 13 = .ok (.iconst 0, 1) := by decide +kernel
theorem dX3_read_14 : decode cX3_read 14 = .ok (.putfield 32, 3) := by decide +kernel
theorem dX3_read_17 : decode cX3_read 17 = .ok (.iconst 5, 1) := by decide +kernel
theorem dX3_read_18 : decode cX3_read 18 = .ok (.istore_n 1, 1) := by decide +kernel
theorem dX3_read_19 : decode cX3_read 19 = .ok (.iconst 0, 1) := by decide +kernel
theorem dX3_read_20 : decode cX3_read 20 = .ok (.istore_n 2, 1) := by decide +kernel
theorem dX3_read_21 : decode cX3_read 21 = .ok (.iload_n 2, 1) := by decide +kernel
theorem dX3_read_22 : decode cX3_read 22 = .ok (.sipush 700, 3) := by decide +kernel
theorem dX3_read_25 : decode cX3_read 25 = .ok (.if_icmp .gt 50, 3) := by decide +kernel
theorem dX3_read_28 : decode cX3_read 28 = .ok (.iload_n 1, 1) := by decide +kernel
theorem dX3_read_29 : decode cX3_read 29 = .ok (.iconst 4, 1) := by decide +kernel
theorem dX3_read_30 : decode cX3_read 30 = .ok (.if_icmp .eq 45, 3) := by decide +kernel
theorem dX3_read_33 : decode cX3_read 33 = .ok (.aload_n 0, 1) := by decide +kernel
theorem dX3_read_34 : decode cX3_read 34 = .ok (.iload_n 1, 1) := by decide +kernel
theorem dX3_read_35 : decode cX3_read 35 = .ok (.invokevirtual 35, 3) := by decide +kernel
theorem dX3_read_38 : decode cX3_read 38 = .ok (.istore_n 3, 1) := by decide +kernel
theorem dX3_read_39 : decode cX3_read 39 = .ok (.iload_n 3, 1) := by decide +kernel
theorem dX3_read_40 : decode cX3_read 40 = .ok (.iconst (-1), 1) := by decide +kernel
theorem dX3_read_41 : decode cX3_read 41 = .ok (.if_icmp .ne 10, 3) := by decide +kernel
theorem dX3_read_44 : decode cX3_read 44 = .ok (.iconst (-1), 1) := by decide +kernel
theorem dX3_read_45 : decode cX3_read 45 = .ok (.aload_n 0, 1) := by decide +kernel
theorem dX3_read_46 : decode cX3_read 46 = .ok (.getfield 39, 3) := by decide +kernel
theorem dX3_read_49 : decode cX3_read 49 = .ok (.isub, 1) := by decide +kernel
theorem dX3_read_50 : decode cX3_read 50 = .ok (.ireturn, 1) := by decide +kernel
theorem dX3_read_51 : decode cX3_read 51 = .ok (.iload_n 3, 1) := by decide +kernel
theorem dX3_read_52 : decode cX3_read 52 = .ok (.istore_n 1, 1) := by decide +kernel
theorem dX3_read_53 : decode cX3_read 53 = .ok (.iload_n 3, 1) := by decide +kernel
theorem dX3_read_54 : decode cX3_read 54 = .ok (.iconst 4, 1) := by decide +kernel
theorem dX3_read_55 : decode cX3_read 55 = .ok (.if_icmp .ne 14, 3) := by decide +kernel
theorem dX3_read_58 : decode cX3_read 58 = .ok (.aload_n 0, 1) := by decide +kernel
theorem dX3_read_59 : decode cX3_read 59 = .ok (.invokevirtual 42, 3) := by decide +kernel
theorem dX3_read_62 : decode cX3_read 62 = .ok (.ifCond .eq 7, 3) := by decide +kernel
theorem dX3_read_65 : decode cX3_read 65 = .ok (.iload_n 2, 1) := by decide +kernel
theorem dX3_read_66 : decode cX3_read 66 = .ok (.iconst 1, 1) := by decide +kernel
theorem dX3_read_67 : decode cX3_read 67 = .ok (.iadd, 1) := by decide +kernel
theorem dX3_read_68 : decode cX3_read 68 = .ok (.ireturn, 1) := by decide +kernel
theorem dX3_read_69 : decode cX3_read 69 = .ok (.iinc 2 1, 3) := by decide +kernel
theorem dX3_read_72 : decode cX3_read 72 = .ok (.goto (-51), 3) := by decide +kernel
theorem dX3_read_75 : decode cX3_read 75 = .ok (.iconst (-1), 1) := by decide +kernel
theorem dX3_read_76 : decode cX3_read 76 = .ok (.aload_n 0, 1) := by decide +kernel
theorem dX3_read_77 : decode cX3_read 77 = .ok (.getfield 39, 3) := by decide +kernel
theorem dX3_read_80 : decode cX3_read 80 = .ok (.isub, 1) := by decide +kernel
theorem dX3_read_81 : decode cX3_read 81 = .ok (.ireturn, 1) := by decide +kernel
set_option maxRecDepth 20000 in
theorem ggX3_readEnd_X3_advance : GoodIn wsX3_readEnd wsX3_advance := goodIn_r _ [7, 2, 8, 9, 10, 11, 12, 13, 1, 14, 15, 16, 17, 18, 19, 20, 21, 22, 23, 24, 25, 26, 6, 27, 28, 29, 30, 31, 32, 33, 34, 35, 36, 37, 38, 44, 45, 46, 47, 48, 49, 50, 51, 52, 53] (by decide +kernel) (by decide +kernel)
set_option maxRecDepth 20000 in
theorem gX3_readEnd_X3_advance : GoodIn wsX3_readEnd (wsV RX3 46 RX3 yX3_advance wsX3_advance) := goodIn_app (goodIn_of _ (by decide +kernel)) ggX3_readEnd_X3_advance
set_option maxRecDepth 20000 in
theorem ggX3_readEnd_X5_size : GoodIn wsX3_readEnd wsX5_size := goodIn_r _ [18, 19, 52, 53] (by decide +kernel) (by decide +kernel)
set_option maxRecDepth 20000 in
theorem gX3_readEnd_X5_size : GoodIn wsX3_readEnd (wsV RX3 52 RX5 yX5_size wsX5_size) := goodIn_app (goodIn_of _ (by decide +kernel)) ggX3_readEnd_X5_size
set_option maxRecDepth 20000 in
theorem ggX3_readEnd_X3_fails : GoodIn wsX3_readEnd wsX3_fails := goodIn_r _ [42, 43, 44, 45, 46, 47, 48, 49, 50, 51] (by decide +kernel) (by decide +kernel)
set_option maxRecDepth 20000 in
theorem gX3_readEnd_X3_fails : GoodIn wsX3_readEnd (wsV RX3 58 RX3 yX3_fails wsX3_fails) := goodIn_app (goodIn_of _ (by decide +kernel)) ggX3_readEnd_X3_fails
theorem dX3_readEnd_0 : decode cX3_readEnd 0 = .ok (.aload_n 0, 1) := by decide +kernel
theorem dX3_readEnd_1 : decode cX3_readEnd 1 = .ok (.invokevirtual 46, 3) := by decide +kernel
theorem dX3_readEnd_4 : decode cX3_readEnd 4 = .ok (.aload_n 0, 1) := by decide +kernel
theorem dX3_readEnd_5 : decode cX3_readEnd 5 = .ok (.getfield 49, 3) := by decide +kernel
theorem dX3_readEnd_8 : decode cX3_readEnd 8 = .ok (.iconst 1, 1) := by decide +kernel
theorem dX3_readEnd_9 : decode cX3_readEnd 9 = .ok (.if_icmp .ne 16, 3) := by decide +kernel
theorem dX3_readEnd_12 : decode cX3_readEnd 12 = .ok (.aload_n 0, 1) := by decide +kernel
theorem dX3_readEnd_13 : decode cX3_readEnd 13 = .ok (.getfield 15, 3) := by decide +kernel
theorem dX3_readEnd_16 : decode cX3_readEnd 16 = .ok (.invokevirtual 52, 3) := by decide +kernel
theorem dX3_readEnd_19 : decode cX3_readEnd 19 = .ok (.sipush 700, 3) := by decide +kernel
theorem dX3_readEnd_22 : decode cX3_readEnd 22 = .ok (.if_icmp .le 11, 3) := by decide +kernel
theorem dX3_readEnd_25 : decode cX3_readEnd 25 = .ok (.aload_n 0, 1) := by decide +kernel
theorem dX3_readEnd_26 : decode cX3_readEnd 26 = .ok (.iconst 1, 1) := by decide +kernel
theorem dX3_readEnd_27 : decode cX3_readEnd 27 = .ok (.invokevirtual 58, 3) := by decide +kernel
theorem dX3_readEnd_30 : decode cX3_readEnd 30 = .ok (.ifCond .eq 7, 3) := by decide +kernel
theorem dX3_readEnd_33 : decode cX3_readEnd 33 = .ok (.iconst 1, 1) := by decide +kernel
theorem dX3_readEnd_34 : decode cX3_readEnd 34 = .ok (.goto 4, 3) := by decide +kernel
theorem dX3_readEnd_37 : decode cX3_readEnd 37 = .ok (.iconst 0, 1) := by decide +kernel
theorem dX3_readEnd_38 : decode cX3_readEnd 38 = .ok (.ireturn, 1) := by decide +kernel
theorem dX3_fails_0 : decode cX3_fails 0 = .ok (.aload_n 0, 1) := by decide +kernel
theorem dX3_fails_1 : decode cX3_fails 1 = .ok (.iload_n 1, 1) := by decide +kernel
theorem dX3_fails_2 : decode cX3_fails 2 = .ok (.putfield 23, 3) := by decide +kernel
theorem dX3_fails_5 : decode cX3_fails 5 = .ok (.iconst 0, 1) := by decide +kernel
theorem dX3_fails_6 : decode cX3_fails 6 = .ok (.ireturn, 1) := by decide +kernel
set_option maxRecDepth 20000 in
theorem ggX3_readLine_X3_advance : GoodIn wsX3_readLine wsX3_advance := goodIn_r _ [11, 12, 13, 14, 15, 16, 17, 18, 1, 19, 20, 21, 22, 23, 24, 25, 26, 27, 28, 29, 30, 31, 10, 32, 33, 34, 35, 36, 6, 37, 38, 39, 40, 41, 42, 177, 178, 179, 180, 181, 182, 183, 184, 185, 186] (by decide +kernel) (by decide +kernel)
set_option maxRecDepth 20000 in
theorem gX3_readLine_X3_advance : GoodIn wsX3_readLine (wsV RX3 46 RX3 yX3_advance wsX3_advance) := goodIn_app (goodIn_of _ (by decide +kernel)) ggX3_readLine_X3_advance
set_option maxRecDepth 20000 in
theorem ggX3_readLine_X3_lineOfWord : GoodIn wsX3_readLine wsX3_lineOfWord := goodIn_r _ [46, 47, 48, 49, 10, 50, 17, 18, 12, 51, 52, 53, 54, 55, 56, 57, 58, 59, 60, 61, 62, 25, 26, 27, 22, 28, 24, 29, 63, 64, 65, 66, 67, 68, 69, 70, 71, 72, 73, 74, 75, 76, 77, 78, 79, 80, 81, 82, 83, 84, 85, 86, 87, 88, 89, 90, 91, 92, 93, 94, 95, 96, 97, 98, 99, 177, 178, 179, 180, 181, 182, 183, 184, 185, 186] (by decide +kernel) (by decide +kernel)
set_option maxRecDepth 20000 in
theorem gX3_readLine_X3_lineOfWord : GoodIn wsX3_readLine (wsV RX3 62 RX3 yX3_lineOfWord wsX3_lineOfWord) := goodIn_app (goodIn_of _ (by decide +kernel)) ggX3_readLine_X3_lineOfWord
set_option maxRecDepth 20000 in
theorem ggX3_readLine_X3_mayFollow : GoodIn wsX3_readLine wsX3_mayFollow := goodIn_r _ [102] (by decide +kernel) (by decide +kernel)
set_option maxRecDepth 20000 in
theorem gX3_readLine_X3_mayFollow : GoodIn wsX3_readLine (va_wsS RX3 65 yX3_mayFollow wsX3_mayFollow) := goodIn_app (goodIn_of _ (by decide +kernel)) ggX3_readLine_X3_mayFollow
set_option maxRecDepth 20000 in
theorem ggX3_readLine_X0_isFull : GoodIn wsX3_readLine wsX0_isFull := goodIn_r _ [107, 108, 109, 110, 111, 112, 106, 113, 114, 115, 116, 117, 118, 119, 120, 121, 122, 187, 188, 189, 190, 191, 192, 193, 194, 195, 196] (by decide +kernel) (by decide +kernel)
set_option maxRecDepth 20000 in
theorem gX3_readLine_X0_isFull : GoodIn wsX3_readLine (wsV RX3 69 RX0 yX0_isFull wsX0_isFull) := goodIn_app (goodIn_of _ (by decide +kernel)) ggX3_readLine_X0_isFull
set_option maxRecDepth 20000 in
theorem ggX3_readLine_X6_at : GoodIn wsX3_readLine wsX6_at := goodIn_r _ [117] (by decide +kernel) (by decide +kernel)
set_option maxRecDepth 20000 in
theorem gX3_readLine_X6_at_n75 : GoodIn wsX3_readLine (wsX6_at) := ggX3_readLine_X6_at
set_option maxRecDepth 20000 in
theorem ggX3_readLine_X3_lowest : GoodIn wsX3_readLine wsX3_lowest := goodIn_r _ [126, 3, 127, 128, 129, 130, 106, 131, 108, 132, 111, 112, 113, 114, 115, 116, 117, 133, 134, 135, 136, 137, 138, 139, 140, 141, 119, 120, 121, 122, 142, 143, 144, 145, 146, 147, 148, 149, 177, 178, 179, 180, 181, 182, 183, 184, 187, 188, 189, 190, 191, 192, 193, 194, 195, 196] (by decide +kernel) (by decide +kernel)
set_option maxRecDepth 20000 in
theorem gX3_readLine_X3_lowest : GoodIn wsX3_readLine (wsV RX3 79 RX3 yX3_lowest wsX3_lowest) := goodIn_app (goodIn_of _ (by decide +kernel)) ggX3_readLine_X3_lowest
set_option maxRecDepth 20000 in
theorem ggX3_readLine_X3_highest : GoodIn wsX3_readLine wsX3_highest := goodIn_r _ [153, 3, 154, 128, 129, 130, 106, 131, 108, 141, 119, 120, 121, 122, 115, 116, 117, 177, 178, 179, 180, 181, 182, 183, 184, 187, 188, 189, 190, 191, 192, 193, 194, 195, 196] (by decide +kernel) (by decide +kernel)
set_option maxRecDepth 20000 in
theorem gX3_readLine_X3_highest : GoodIn wsX3_readLine (wsV RX3 83 RX3 yX3_highest wsX3_highest) := goodIn_app (goodIn_of _ (by decide +kernel)) ggX3_readLine_X3_highest
set_option maxRecDepth 20000 in
theorem ggX3_readLine_X3_readNumber : GoodIn wsX3_readLine wsX3_readNumber := goodIn_r _ [158, 1, 6, 7, 8, 9, 10, 11, 12, 13, 14, 15, 16, 17, 18, 19, 20, 21, 22, 23, 24, 25, 26, 27, 28, 29, 30, 31, 32, 33, 34, 35, 36, 37, 38, 39, 40, 41, 42, 159, 160, 161, 162, 2, 177, 178, 179, 180, 181, 182, 183, 184, 185, 186] (by decide +kernel) (by decide +kernel)
set_option maxRecDepth 20000 in
theorem gX3_readLine_X3_readNumber : GoodIn wsX3_readLine (wsV RX3 86 RX3 yX3_readNumber wsX3_readNumber) := goodIn_app (goodIn_of _ (by decide +kernel)) ggX3_readLine_X3_readNumber
set_option maxRecDepth 20000 in
theorem ggX3_readLine_X6_store : GoodIn wsX3_readLine wsX6_store := goodIn_r _ [164] (by decide +kernel) (by decide +kernel)
set_option maxRecDepth 20000 in
theorem gX3_readLine_X6_store_n92 : GoodIn wsX3_readLine (wsX6_store) := ggX3_readLine_X6_store
set_option maxRecDepth 20000 in
theorem ggX3_readLine_X0_addLine : GoodIn wsX3_readLine wsX0_addLine := goodIn_r _ [168, 108, 169, 137, 114, 146, 122, 170, 109, 171, 172, 173, 116, 174, 175, 115, 117, 176, 163, 164, 110, 111, 112, 106, 113, 138, 139, 140, 118, 119, 120, 121, 147, 148, 149, 187, 188, 189, 190, 191, 192, 193, 194, 195, 196] (by decide +kernel) (by decide +kernel)
set_option maxRecDepth 20000 in
theorem gX3_readLine_X0_addLine : GoodIn wsX3_readLine (wsV RX3 96 RX0 yX0_addLine wsX0_addLine) := goodIn_app (goodIn_of _ (by decide +kernel)) ggX3_readLine_X0_addLine
theorem dX3_readLine_0 : decode cX3_readLine 0 = .ok (.aload_n 0, 1) := by decide +kernel
theorem dX3_readLine_1 : decode cX3_readLine 1 = .ok (.invokevirtual 46, 3) := by decide +kernel
theorem dX3_readLine_4 : decode cX3_readLine 4 = .ok (.aload_n 0, 1) := by decide +kernel
theorem dX3_readLine_5 : decode cX3_readLine 5 = .ok (.getfield 49, 3) := by decide +kernel
theorem dX3_readLine_8 : decode cX3_readLine 8 = .ok (.iconst 2, 1) := by decide +kernel
theorem dX3_readLine_9 : decode cX3_readLine 9 = .ok (.if_icmp .ne 10, 3) := by decide +kernel
theorem dX3_readLine_12 : decode cX3_readLine 12 = .ok (.aload_n 0, 1) := by decide +kernel
theorem dX3_readLine_13 : decode cX3_readLine 13 = .ok (.invokevirtual 62, 3) := by decide +kernel
theorem dX3_readLine_16 : decode cX3_readLine 16 = .ok (.goto 4, 3) := by decide +kernel
theorem dX3_readLine_19 : decode cX3_readLine 19 = .ok (.iconst (-1), 1) := by decide +kernel
theorem dX3_readLine_20 : decode cX3_readLine 20 = .ok (.istore_n 2, 1) := by decide +kernel
theorem dX3_readLine_21 : decode cX3_readLine 21 = .ok (.iload_n 2, 1) := by decide +kernel
theorem dX3_readLine_22 : decode cX3_readLine 22 = .ok (.iconst (-1), 1) := by decide +kernel
theorem dX3_readLine_23 : decode cX3_readLine 23 = .ok (.if_icmp .eq 11, 3) := by decide +kernel
theorem dX3_readLine_26 : decode cX3_readLine 26 = .ok (.iload_n 2, 1) := by decide +kernel
theorem dX3_readLine_27 : decode cX3_readLine 27 = .ok (.iload_n 1, 1) := by decide +kernel
theorem dX3_readLine_28 : decode cX3_readLine 28 = .ok (.invokestatic 65, 3) := by decide +kernel
theorem dX3_readLine_31 : decode cX3_readLine 31 = .ok (.ifCond .ne 10, 3) := by decide +kernel
theorem dX3_readLine_34 : decode cX3_readLine 34 = .ok (.aload_n 0, 1) := by decide +kernel
theorem dX3_readLine_35 : decode cX3_readLine 35 = .ok (.iconst 1, 1) := by decide +kernel
theorem dX3_readLine_36 : decode cX3_readLine 36 = .ok (.putfield 23, 3) := by decide +kernel
theorem dX3_readLine_39 : decode cX3_readLine 39 = .ok (.iconst (-1), 1) := by decide +kernel
theorem dX3_readLine_40 : decode cX3_readLine 40 = .ok (.ireturn, 1) := by decide +kernel
theorem dX3_readLine_41 : decode cX3_readLine 41 = .ok (.aload_n 0, 1) := by decide +kernel
theorem dX3_readLine_42 : decode cX3_readLine 42 = .ok (.getfield 19, 3) := by decide +kernel
theorem dX3_readLine_45 : decode cX3_readLine 45 = .ok (.iload_n 2, 1) := by decide +kernel
theorem dX3_readLine_46 : decode cX3_readLine 46 = .ok (.invokevirtual 69, 3) := by decide +kernel
theorem dX3_readLine_49 : decode cX3_readLine 49 = .ok (.ifCond .eq 10, 3) := by decide +kernel
theorem dX3_readLine_52 : decode cX3_readLine 52 = .ok (.aload_n 0, 1) := by decide +kernel
theorem dX3_readLine_53 : decode cX3_readLine 53 = .ok (.iconst 3, 1) := by decide +kernel
theorem dX3_readLine_54 : decode cX3_readLine 54 = .ok (.putfield 23, 3) := by decide +kernel
theorem dX3_readLine_57 : decode cX3_readLine 57 = .ok (.iconst (-1), 1) := by decide +kernel
theorem dX3_readLine_58 : decode cX3_readLine 58 = .ok (.ireturn, 1) := by decide +kernel
theorem dX3_readLine_59 : decode cX3_readLine 59 = .ok (.iconst 0, 1) := by decide +kernel
theorem dX3_readLine_60 : decode cX3_readLine 60 = .ok (.istore_n 3, 1) := by decide +kernel
theorem dX3_readLine_61 : decode cX3_readLine 61 = .ok (.iload_n 3, 1) := by decide +kernel
theorem dX3_readLine_62 : decode cX3_readLine 62 = .ok (.getstatic 72, 3) := by decide +kernel
theorem dX3_readLine_65 : decode cX3_readLine 65 = .ok (.iload_n 2, 1) := by decide +kernel
theorem dX3_readLine_66 : decode cX3_readLine 66 = .ok (.invokestatic 75, 3) := by decide +kernel
theorem dX3_readLine_69 : decode cX3_readLine 69 = .ok (.if_icmp .ge 42, 3) := by decide +kernel
theorem dX3_readLine_72 : decode cX3_readLine 72 = .ok (.aload_n 0, 1) := by decide +kernel
theorem dX3_readLine_73 : decode cX3_readLine 73 = .ok (.aload_n 0, 1) := by decide +kernel
theorem dX3_readLine_74 : decode cX3_readLine 74 = .ok (.iload_n 2, 1) := by decide +kernel
theorem dX3_readLine_75 : decode cX3_readLine 75 = .ok (.iload_n 3, 1) := by decide +kernel
theorem dX3_readLine_76 : decode cX3_readLine 76 = .ok (.invokevirtual 79, 3) := by decide +kernel
theorem dX3_readLine_79 : decode cX3_readLine 79 = .ok (.aload_n 0, 1) := by decide +kernel
theorem dX3_readLine_80 : decode cX3_readLine 80 = .ok (.iload_n 2, 1) := by decide +kernel
theorem dX3_readLine_81 : decode cX3_readLine 81 = .ok (.iload_n 3, 1) := by decide +kernel
theorem dX3_readLine_82 : decode cX3_readLine 82 = .ok (.invokevirtual 83, 3) := by decide +kernel
theorem dX3_readLine_85 : decode cX3_readLine 85 = .ok (.invokevirtual 86, 3) := by decide +kernel
theorem dX3_readLine_88 : decode cX3_readLine 88 = .ok (.ifCond .ne 5, 3) := by decide +kernel
theorem dX3_readLine_91 : decode cX3_readLine 91 = .ok (.iconst (-1), 1) := by decide +kernel
theorem dX3_readLine_92 : decode cX3_readLine 92 = .ok (.ireturn, 1) := by decide +kernel
theorem dX3_readLine_93 : decode cX3_readLine 93 = .ok (.aload_n 0, 1) := by decide +kernel
theorem dX3_readLine_94 : decode cX3_readLine 94 = .ok (.getfield 11, 3) := by decide +kernel
theorem dX3_readLine_97 : decode cX3_readLine 97 = .ok (.iload_n 3, 1) := by decide +kernel
theorem dX3_readLine_98 : decode cX3_readLine 98 = .ok (.aload_n 0, 1) := by decide +kernel
theorem dX3_readLine_99 : decode cX3_readLine 99 = .ok (.getfield 89, 3) := by decide +kernel
theorem dX3_readLine_102 : decode cX3_readLine 102 = .ok (.invokestatic 92, 3) := by decide +kernel
theorem dX3_readLine_105 : decode cX3_readLine 105 = .ok (.iinc 3 1, 3) := by decide +kernel
theorem dX3_readLine_108 : decode cX3_readLine 108 = .ok (.goto (-47), 3) := by decide +kernel
theorem dX3_readLine_111 : decode cX3_readLine 111 = .ok (.aload_n 0, 1) := by decide +kernel
theorem dX3_readLine_112 : decode cX3_readLine 112 = .ok (.invokevirtual 46, 3) := by decide +kernel
theorem dX3_readLine_115 : decode cX3_readLine 115 = .ok (.aload_n 0, 1) := by decide +kernel
theorem dX3_readLine_116 : decode cX3_readLine 116 = .ok (.getfield 49, 3) := by decide +kernel
theorem dX3_readLine_119 : decode cX3_readLine 119 = .ok (.iconst 4, 1) := by decide +kernel
theorem dX3_readLine_120 : decode cX3_readLine 120 = .ok (.if_icmp .eq 10, 3) := by decide +kernel
theorem dX3_readLine_123 : decode cX3_readLine 123 = .ok (.aload_n 0, 1) := by decide +kernel
theorem dX3_readLine_124 : decode cX3_readLine 124 = .ok (.iconst 1, 1) := by decide +kernel
theorem dX3_readLine_125 : decode cX3_readLine 125 = .ok (.putfield 23, 3) := by decide +kernel
theorem dX3_readLine_128 : decode cX3_readLine 128 = .ok (.iconst (-1), 1) := by decide +kernel
theorem dX3_readLine_129 : decode cX3_readLine 129 = .ok (.ireturn, 1) := by decide +kernel
theorem dX3_readLine_130 : decode cX3_readLine 130 = .ok (.aload_n 0, 1) := by decide +kernel
theorem dX3_readLine_131 : decode cX3_readLine 131 = .ok (.getfield 19, 3) := by decide +kernel
theorem dX3_readLine_134 : decode cX3_readLine 134 = .ok (.iload_n 2, 1) := by decide +kernel
theorem dX3_readLine_135 : decode cX3_readLine 135 = .ok (.aload_n 0, 1) := by decide +kernel
theorem dX3_readLine_136 : decode cX3_readLine 136 = .ok (.getfield 11, 3) := by decide +kernel
theorem dX3_readLine_139 : decode cX3_readLine 139 = .ok (.invokevirtual 96, 3) := by decide +kernel
theorem dX3_readLine_142 : decode cX3_readLine 142 = .ok (.iload_n 2, 1) := by decide +kernel
theorem dX3_readLine_143 : decode cX3_readLine 143 = .ok (.ireturn, 1) := by decide +kernel
theorem dX3_mayFollow_0 : decode cX3_mayFollow 0 = .ok (.iload_n 1, 1) := by decide +kernel
theorem dX3_mayFollow_1 : decode cX3_mayFollow 1 = .ok (.tableswitch 103 0 5 #[49, 60, 76, 87, 103, 39], 39) := by decide +kernel
theorem dX3_mayFollow_40 : decode cX3_mayFollow 40 = .ok (.iload_n 0, 1) := by decide +kernel
theorem dX3_mayFollow_41 : decode cX3_mayFollow 41 = .ok (.ifCond .ne 7, 3) := by decide +kernel
theorem dX3_mayFollow_44 : decode cX3_mayFollow 44 = .ok (.iconst 1, 1) := by decide +kernel
theorem dX3_mayFollow_45 : decode cX3_mayFollow 45 = .ok (.goto 4, 3) := by decide +kernel
theorem dX3_mayFollow_48 : decode cX3_mayFollow 48 = .ok (.iconst 0, 1) := by decide +kernel
theorem dX3_mayFollow_49 : decode cX3_mayFollow 49 = .ok (.ireturn, 1) := by decide +kernel
theorem dX3_mayFollow_50 : decode cX3_mayFollow 50 = .ok (.iload_n 0, 1) := by decide +kernel
theorem dX3_mayFollow_51 : decode cX3_mayFollow 51 = .ok (.iconst 1, 1) := by decide +kernel
theorem dX3_mayFollow_52 : decode cX3_mayFollow 52 = .ok (.if_icmp .ne 7, 3) := by decide +kernel
theorem dX3_mayFollow_55 : decode cX3_mayFollow 55 = .ok (.iconst 1, 1) := by decide +kernel
theorem dX3_mayFollow_56 : decode cX3_mayFollow 56 = .ok (.goto 4, 3) := by decide +kernel
theorem dX3_mayFollow_59 : decode cX3_mayFollow 59 = .ok (.iconst 0, 1) := by decide +kernel
theorem dX3_mayFollow_60 : decode cX3_mayFollow 60 = .ok (.ireturn, 1) := by decide +kernel
theorem dX3_mayFollow_61 : decode cX3_mayFollow 61 = .ok (.iload_n 0, 1) := by decide +kernel
theorem dX3_mayFollow_62 : decode cX3_mayFollow 62 = .ok (.iconst 1, 1) := by decide +kernel
theorem dX3_mayFollow_63 : decode cX3_mayFollow 63 = .ok (.if_icmp .eq 8, 3) := by decide +kernel
theorem dX3_mayFollow_66 : decode cX3_mayFollow 66 = .ok (.iload_n 0, 1) := by decide +kernel
theorem dX3_mayFollow_67 : decode cX3_mayFollow 67 = .ok (.iconst 2, 1) := by decide +kernel
theorem dX3_mayFollow_68 : decode cX3_mayFollow 68 = .ok (.if_icmp .ne 7, 3) := by decide +kernel
theorem dX3_mayFollow_71 : decode cX3_mayFollow 71 = .ok (.iconst 1, 1) := by decide +kernel
theorem dX3_mayFollow_72 : decode cX3_mayFollow 72 = .ok (.goto 4, 3) := by decide +kernel
theorem dX3_mayFollow_75 : decode cX3_mayFollow 75 = .ok (.iconst 0, 1) := by decide +kernel
theorem dX3_mayFollow_76 : decode cX3_mayFollow 76 = .ok (.ireturn, 1) := by decide +kernel
theorem dX3_mayFollow_77 : decode cX3_mayFollow 77 = .ok (.iload_n 0, 1) := by decide +kernel
theorem dX3_mayFollow_78 : decode cX3_mayFollow 78 = .ok (.iconst 1, 1) := by decide +kernel
theorem dX3_mayFollow_79 : decode cX3_mayFollow 79 = .ok (.if_icmp .eq 7, 3) := by decide +kernel
theorem dX3_mayFollow_82 : decode cX3_mayFollow 82 = .ok (.iconst 1, 1) := by decide +kernel
theorem dX3_mayFollow_83 : decode cX3_mayFollow 83 = .ok (.goto 4, 3) := by decide +kernel
theorem dX3_mayFollow_86 : decode cX3_mayFollow 86 = .ok (.iconst 0, 1) := by decide +kernel
theorem dX3_mayFollow_87 : decode cX3_mayFollow 87 = .ok (.ireturn, 1) := by decide +kernel
theorem dX3_mayFollow_88 : decode cX3_mayFollow 88 = .ok (.iload_n 0, 1) := by decide +kernel
theorem dX3_mayFollow_89 : decode cX3_mayFollow 89 = .ok (.iconst 3, 1) := by decide +kernel
theorem dX3_mayFollow_90 : decode cX3_mayFollow 90 = .ok (.if_icmp .eq 8, 3) := by decide +kernel
theorem dX3_mayFollow_93 : decode cX3_mayFollow 93 = .ok (.iload_n 0, 1) := by decide +kernel
theorem dX3_mayFollow_94 : decode cX3_mayFollow 94 = .ok (.iconst 4, 1) := by decide +kernel
theorem dX3_mayFollow_95 : decode cX3_mayFollow 95 = .ok (.if_icmp .ne 7, 3) := by decide +kernel
theorem dX3_mayFollow_98 : decode cX3_mayFollow 98 = .ok (.iconst 1, 1) := by decide +kernel
theorem dX3_mayFollow_99 : decode cX3_mayFollow 99 = .ok (.goto 4, 3) := by decide +kernel
theorem dX3_mayFollow_102 : decode cX3_mayFollow 102 = .ok (.iconst 0, 1) := by decide +kernel
theorem dX3_mayFollow_103 : decode cX3_mayFollow 103 = .ok (.ireturn, 1) := by decide +kernel
theorem dX3_mayFollow_104 : decode cX3_mayFollow 104 = .ok (.iconst 0, 1) := by decide +kernel
theorem dX3_mayFollow_105 : decode cX3_mayFollow 105 = .ok (.ireturn, 1) := by decide +kernel
set_option maxRecDepth 20000 in
theorem ggX3_readNumber_X3_advance : GoodIn wsX3_readNumber wsX3_advance := goodIn_r _ [7, 8, 9, 10, 11, 12, 13, 14, 1, 15, 16, 17, 18, 19, 20, 21, 22, 23, 24, 25, 26, 27, 6, 28, 29, 30, 31, 32, 2, 33, 34, 35, 36, 37, 38, 44, 45, 46, 47, 48, 49, 50, 51, 52, 53] (by decide +kernel) (by decide +kernel)
set_option maxRecDepth 20000 in
theorem gX3_readNumber_X3_advance : GoodIn wsX3_readNumber (wsV RX3 46 RX3 yX3_advance wsX3_advance) := goodIn_app (goodIn_of _ (by decide +kernel)) ggX3_readNumber_X3_advance
set_option maxRecDepth 20000 in
theorem ggX3_readNumber_X3_fails : GoodIn wsX3_readNumber wsX3_fails := goodIn_r _ [42, 43, 44, 45, 46, 47, 48, 49, 50, 51] (by decide +kernel) (by decide +kernel)
set_option maxRecDepth 20000 in
theorem gX3_readNumber_X3_fails : GoodIn wsX3_readNumber (wsV RX3 58 RX3 yX3_fails wsX3_fails) := goodIn_app (goodIn_of _ (by decide +kernel)) ggX3_readNumber_X3_fails
theorem dX3_readNumber_0 : decode cX3_readNumber 0 = .ok (.aload_n 0, 1) := by decide +kernel
theorem dX3_readNumber_1 : decode cX3_readNumber 1 = .ok (.invokevirtual 46, 3) := by decide +kernel
theorem dX3_readNumber_4 : decode cX3_readNumber 4 = .ok (.aload_n 0, 1) := by decide +kernel
theorem dX3_readNumber_5 : decode cX3_readNumber 5 = .ok (.getfield 49, 3) := by decide +kernel
theorem dX3_readNumber_8 : decode cX3_readNumber 8 = .ok (.iconst 3, 1) := by decide +kernel
theorem dX3_readNumber_9 : decode cX3_readNumber 9 = .ok (.if_icmp .eq 9, 3) := by decide +kernel
theorem dX3_readNumber_12 : decode cX3_readNumber 12 = .ok (.aload_n 0, 1) := by decide +kernel
theorem dX3_readNumber_13 : decode cX3_readNumber 13 = .ok (.iconst 1, 1) := by decide +kernel
theorem dX3_readNumber_14 : decode cX3_readNumber 14 = .ok (.invokevirtual 58, 3) := by decide +kernel
theorem dX3_readNumber_17 : decode cX3_readNumber 17 = .ok (.ireturn, 1) := by decide +kernel
theorem dX3_readNumber_18 : decode cX3_readNumber 18 = .ok (.aload_n 0, 1) := by decide +kernel
theorem dX3_readNumber_19 : decode cX3_readNumber 19 = .ok (.getfield 89, 3) := by decide +kernel
theorem dX3_readNumber_22 : decode cX3_readNumber 22 = .ok (.iload_n 1, 1) := by decide +kernel
theorem dX3_readNumber_23 : decode cX3_readNumber 23 = .ok (.if_icmp .lt 11, 3) := by decide +kernel
theorem dX3_readNumber_26 : decode cX3_readNumber 26 = .ok (.aload_n 0, 1) := by decide +kernel
theorem dX3_readNumber_27 : decode cX3_readNumber 27 = .ok (.getfield 89, 3) := by decide +kernel
theorem dX3_readNumber_30 : decode cX3_readNumber 30 = .ok (.iload_n 2, 1) := by decide +kernel
theorem dX3_readNumber_31 : decode cX3_readNumber 31 = .ok (.if_icmp .le 11, 3) := by decide +kernel
theorem dX3_readNumber_34 : decode cX3_readNumber 34 = .ok (.aload_n 0, 1) := by decide +kernel
theorem dX3_readNumber_35 : decode cX3_readNumber 35 = .ok (.iconst 2, 1) := by decide +kernel
theorem dX3_readNumber_36 : decode cX3_readNumber 36 = .ok (.invokevirtual 58, 3) := by decide +kernel
theorem dX3_readNumber_39 : decode cX3_readNumber 39 = .ok (.ifCond .eq 7, 3) := by decide +kernel
theorem dX3_readNumber_42 : decode cX3_readNumber 42 = .ok (.iconst 1, 1) := by decide +kernel
theorem dX3_readNumber_43 : decode cX3_readNumber 43 = .ok (.goto 4, 3) := by decide +kernel
theorem dX3_readNumber_46 : decode cX3_readNumber 46 = .ok (.iconst 0, 1) := by decide +kernel
theorem dX3_readNumber_47 : decode cX3_readNumber 47 = .ok (.ireturn, 1) := by decide +kernel
set_option maxRecDepth 20000 in
theorem ggX3_lowest_X0_carrierCount : GoodIn wsX3_lowest wsX0_carrierCount := goodIn_r _ [7, 8, 46, 47, 48, 49, 50, 51, 52, 53, 54, 55] (by decide +kernel) (by decide +kernel)
set_option maxRecDepth 20000 in
theorem gX3_lowest_X0_carrierCount : GoodIn wsX3_lowest (wsV RX3 100 RX0 yX0_carrierCount wsX0_carrierCount) := goodIn_app (goodIn_of _ (by decide +kernel)) ggX3_lowest_X0_carrierCount
set_option maxRecDepth 20000 in
theorem ggX3_lowest_X0_breakCount : GoodIn wsX3_lowest wsX0_breakCount := goodIn_r _ [12, 13, 14, 15, 16, 46, 47, 48, 49, 50, 51, 52, 53, 54, 55] (by decide +kernel) (by decide +kernel)
set_option maxRecDepth 20000 in
theorem gX3_lowest_X0_breakCount : GoodIn wsX3_lowest (wsV RX3 103 RX0 yX0_breakCount wsX0_breakCount) := goodIn_app (goodIn_of _ (by decide +kernel)) ggX3_lowest_X0_breakCount
set_option maxRecDepth 20000 in
theorem ggX3_lowest_X0_breakNumber : GoodIn wsX3_lowest wsX0_breakNumber := goodIn_r _ [20, 21, 22, 23, 6, 24, 14, 15, 16, 46, 47, 48, 49, 50, 51, 52, 53, 54, 55] (by decide +kernel) (by decide +kernel)
set_option maxRecDepth 20000 in
theorem gX3_lowest_X0_breakNumber : GoodIn wsX3_lowest (wsV RX3 106 RX0 yX0_breakNumber wsX0_breakNumber) := goodIn_app (goodIn_of _ (by decide +kernel)) ggX3_lowest_X0_breakNumber
set_option maxRecDepth 20000 in
theorem ggX3_lowest_X0_zonesCount : GoodIn wsX3_lowest wsX0_zonesCount := goodIn_r _ [28, 29, 14, 15, 16, 46, 47, 48, 49, 50, 51, 52, 53, 54, 55] (by decide +kernel) (by decide +kernel)
set_option maxRecDepth 20000 in
theorem gX3_lowest_X0_zonesCount : GoodIn wsX3_lowest (wsV RX3 110 RX0 yX0_zonesCount wsX0_zonesCount) := goodIn_app (goodIn_of _ (by decide +kernel)) ggX3_lowest_X0_zonesCount
set_option maxRecDepth 20000 in
theorem ggX3_lowest_X0_zonesNumber : GoodIn wsX3_lowest wsX0_zonesNumber := goodIn_r _ [33, 34, 35, 36, 6, 37, 14, 15, 16, 46, 47, 48, 49, 50, 51, 52, 53, 54, 55] (by decide +kernel) (by decide +kernel)
set_option maxRecDepth 20000 in
theorem gX3_lowest_X0_zonesNumber : GoodIn wsX3_lowest (wsV RX3 113 RX0 yX0_zonesNumber wsX0_zonesNumber) := goodIn_app (goodIn_of _ (by decide +kernel)) ggX3_lowest_X0_zonesNumber
set_option maxRecDepth 20000 in
theorem ggX3_lowest_X6_at : GoodIn wsX3_lowest wsX6_at := goodIn_r _ [16] (by decide +kernel) (by decide +kernel)
set_option maxRecDepth 20000 in
theorem gX3_lowest_X6_at_n75 : GoodIn wsX3_lowest (wsX6_at) := ggX3_lowest_X6_at
theorem dX3_lowest_0 : decode cX3_lowest 0 = .ok (.aload_n 0, 1) := by decide +kernel
theorem dX3_lowest_1 : decode cX3_lowest 1 = .ok (.getfield 19, 3) := by decide +kernel
theorem dX3_lowest_4 : decode cX3_lowest 4 = .ok (.invokevirtual 100, 3) := by decide +kernel
theorem dX3_lowest_7 : decode cX3_lowest 7 = .ok (.iconst 1, 1) := by decide +kernel
theorem dX3_lowest_8 : decode cX3_lowest 8 = .ok (.isub, 1) := by decide +kernel
theorem dX3_lowest_9 : decode cX3_lowest 9 = .ok (.istore_n 3, 1) := by decide +kernel
theorem dX3_lowest_10 : decode cX3_lowest 10 = .ok (.aload_n 0, 1) := by decide +kernel
theorem dX3_lowest_11 : decode cX3_lowest 11 = .ok (.getfield 19, 3) := by decide +kernel
theorem dX3_lowest_14 : decode cX3_lowest 14 = .ok (.iload_n 3, 1) := by decide +kernel
theorem dX3_lowest_15 : decode cX3_lowest 15 = .ok (.invokevirtual 103, 3) := by decide +kernel
theorem dX3_lowest_18 : decode cX3_lowest 18 = .ok (.istore 4, 2) := by decide +kernel
theorem dX3_lowest_20 : decode cX3_lowest 20 = .ok (.iload_n 1, 1) := by decide +kernel
theorem dX3_lowest_21 : decode cX3_lowest 21 = .ok (.iconst 1, 1) := by decide +kernel
theorem dX3_lowest_22 : decode cX3_lowest 22 = .ok (.if_icmp .ne 28, 3) := by decide +kernel
theorem dX3_lowest_25 : decode cX3_lowest 25 = .ok (.iload_n 2, 1) := by decide +kernel
theorem dX3_lowest_26 : decode cX3_lowest 26 = .ok (.ifCond .ne 24, 3) := by decide +kernel
theorem dX3_lowest_29 : decode cX3_lowest 29 = .ok (.iload 4, 2) := by decide +kernel
theorem dX3_lowest_31 : decode cX3_lowest 31 = .ok (.ifCond .le 19, 3) := by decide +kernel
theorem dX3_lowest_34 : decode cX3_lowest 34 = .ok (.aload_n 0, 1) := by decide +kernel
theorem dX3_lowest_35 : decode cX3_lowest 35 = .ok (.getfield 19, 3) := by decide +kernel
theorem dX3_lowest_38 : decode cX3_lowest 38 = .ok (.iload_n 3, 1) := by decide +kernel
theorem dX3_lowest_39 : decode cX3_lowest 39 = .ok (.iload 4, 2) := by decide +kernel
theorem dX3_lowest_41 : decode cX3_lowest 41 = .ok (.iconst 1, 1) := by decide +kernel
theorem dX3_lowest_42 : decode cX3_lowest 42 = .ok (.isub, 1) := by decide +kernel
theorem dX3_lowest_43 : decode cX3_lowest 43 = .ok (.iconst 0, 1) := by decide +kernel
theorem dX3_lowest_44 : decode cX3_lowest 44 = .ok (.invokevirtual 106, 3) := by decide +kernel
theorem dX3_lowest_47 : decode cX3_lowest 47 = .ok (.iconst 1, 1) := by decide +kernel
theorem dX3_lowest_48 : decode cX3_lowest 48 = .ok (.iadd, 1) := by decide +kernel
theorem dX3_lowest_49 : decode cX3_lowest 49 = .ok (.ireturn, 1) := by decide +kernel
theorem dX3_lowest_50 : decode cX3_lowest 50 = .ok (.aload_n 0, 1) := by decide +kernel
theorem dX3_lowest_51 : decode cX3_lowest 51 = .ok (.getfield 19, 3) := by decide +kernel
theorem dX3_lowest_54 : decode cX3_lowest 54 = .ok (.iload_n 3, 1) := by decide +kernel
theorem dX3_lowest_55 : decode cX3_lowest 55 = .ok (.invokevirtual 110, 3) := by decide +kernel
theorem dX3_lowest_58 : decode cX3_lowest 58 = .ok (.istore 5, 2) := by decide +kernel
theorem dX3_lowest_60 : decode cX3_lowest 60 = .ok (.iload_n 1, 1) := by decide +kernel
theorem dX3_lowest_61 : decode cX3_lowest 61 = .ok (.iconst 2, 1) := by decide +kernel
theorem dX3_lowest_62 : decode cX3_lowest 62 = .ok (.if_icmp .ne 28, 3) := by decide +kernel
theorem dX3_lowest_65 : decode cX3_lowest 65 = .ok (.iload_n 2, 1) := by decide +kernel
theorem dX3_lowest_66 : decode cX3_lowest 66 = .ok (.ifCond .ne 24, 3) := by decide +kernel
theorem dX3_lowest_69 : decode cX3_lowest 69 = .ok (.iload 5, 2) := by decide +kernel
theorem dX3_lowest_71 : decode cX3_lowest 71 = .ok (.ifCond .le 19, 3) := by decide +kernel
theorem dX3_lowest_74 : decode cX3_lowest 74 = .ok (.aload_n 0, 1) := by decide +kernel
theorem dX3_lowest_75 : decode cX3_lowest 75 = .ok (.getfield 19, 3) := by decide +kernel
theorem dX3_lowest_78 : decode cX3_lowest 78 = .ok (.iload_n 3, 1) := by decide +kernel
theorem dX3_lowest_79 : decode cX3_lowest 79 = .ok (.iload 5, 2) := by decide +kernel
theorem dX3_lowest_81 : decode cX3_lowest 81 = .ok (.iconst 1, 1) := by decide +kernel
theorem dX3_lowest_82 : decode cX3_lowest 82 = .ok (.isub, 1) := by decide +kernel
theorem dX3_lowest_83 : decode cX3_lowest 83 = .ok (.iconst 0, 1) := by decide +kernel
theorem dX3_lowest_84 : decode cX3_lowest 84 = .ok (.invokevirtual 113, 3) := by decide +kernel
theorem dX3_lowest_87 : decode cX3_lowest 87 = .ok (.iconst 1, 1) := by decide +kernel
theorem dX3_lowest_88 : decode cX3_lowest 88 = .ok (.iadd, 1) := by decide +kernel
theorem dX3_lowest_89 : decode cX3_lowest 89 = .ok (.ireturn, 1) := by decide +kernel
theorem dX3_lowest_90 : decode cX3_lowest 90 = .ok (.getstatic 116, 3) := by decide +kernel
theorem dX3_lowest_93 : decode cX3_lowest 93 = .ok (.iload_n 1, 1) := by decide +kernel
theorem dX3_lowest_94 : decode cX3_lowest 94 = .ok (.bipush 6, 2) := by decide +kernel
theorem dX3_lowest_96 : decode cX3_lowest 96 = .ok (.imul, 1) := by decide +kernel
theorem dX3_lowest_97 : decode cX3_lowest 97 = .ok (.iload_n 2, 1) := by decide +kernel
theorem dX3_lowest_98 : decode cX3_lowest 98 = .ok (.iadd, 1) := by decide +kernel
theorem dX3_lowest_99 : decode cX3_lowest 99 = .ok (.invokestatic 75, 3) := by decide +kernel
theorem dX3_lowest_102 : decode cX3_lowest 102 = .ok (.ireturn, 1) := by decide +kernel
set_option maxRecDepth 20000 in
theorem ggX3_highest_X0_carrierCount : GoodIn wsX3_highest wsX0_carrierCount := goodIn_r _ [7, 8, 25, 26, 27, 28, 29, 30, 31, 32, 33, 34] (by decide +kernel) (by decide +kernel)
set_option maxRecDepth 20000 in
theorem gX3_highest_X0_carrierCount : GoodIn wsX3_highest (wsV RX3 100 RX0 yX0_carrierCount wsX0_carrierCount) := goodIn_app (goodIn_of _ (by decide +kernel)) ggX3_highest_X0_carrierCount
set_option maxRecDepth 20000 in
theorem ggX3_highest_X0_zonesCount : GoodIn wsX3_highest wsX0_zonesCount := goodIn_r _ [12, 13, 14, 15, 16, 25, 26, 27, 28, 29, 30, 31, 32, 33, 34] (by decide +kernel) (by decide +kernel)
set_option maxRecDepth 20000 in
theorem gX3_highest_X0_zonesCount : GoodIn wsX3_highest (wsV RX3 110 RX0 yX0_zonesCount wsX0_zonesCount) := goodIn_app (goodIn_of _ (by decide +kernel)) ggX3_highest_X0_zonesCount
set_option maxRecDepth 20000 in
theorem ggX3_highest_X6_at : GoodIn wsX3_highest wsX6_at := goodIn_r _ [16] (by decide +kernel) (by decide +kernel)
set_option maxRecDepth 20000 in
theorem gX3_highest_X6_at_n75 : GoodIn wsX3_highest (wsX6_at) := ggX3_highest_X6_at
theorem dX3_highest_0 : decode cX3_highest 0 = .ok (.iload_n 1, 1) := by decide +kernel
theorem dX3_highest_1 : decode cX3_highest 1 = .ok (.iconst 2, 1) := by decide +kernel
theorem dX3_highest_2 : decode cX3_highest 2 = .ok (.if_icmp .ne 28, 3) := by decide +kernel
theorem dX3_highest_5 : decode cX3_highest 5 = .ok (.iload_n 2, 1) := by decide +kernel
theorem dX3_highest_6 : decode cX3_highest 6 = .ok (.ifCond .ne 24, 3) := by decide +kernel
theorem dX3_highest_9 : decode cX3_highest 9 = .ok (.aload_n 0, 1) := by decide +kernel
theorem dX3_highest_10 : decode cX3_highest 10 = .ok (.getfield 19, 3) := by decide +kernel
theorem dX3_highest_13 : decode cX3_highest 13 = .ok (.aload_n 0, 1) := by decide +kernel
theorem dX3_highest_14 : decode cX3_highest 14 = .ok (.getfield 19, 3) := by decide +kernel
theorem dX3_highest_17 : decode cX3_highest 17 = .ok (.invokevirtual 100, 3) := by decide +kernel
theorem dX3_highest_20 : decode cX3_highest 20 = .ok (.iconst 1, 1) := by decide +kernel
theorem dX3_highest_21 : decode cX3_highest 21 = .ok (.isub, 1) := by decide +kernel
theorem dX3_highest_22 : decode cX3_highest 22 = .ok (.invokevirtual 110, 3) := by decide +kernel
theorem dX3_highest_25 : decode cX3_highest 25 = .ok (.ifCond .ne 5, 3) := by decide +kernel
theorem dX3_highest_28 : decode cX3_highest 28 = .ok (.iconst 0, 1) := by decide +kernel
theorem dX3_highest_29 : decode cX3_highest 29 = .ok (.ireturn, 1) := by decide +kernel
theorem dX3_highest_30 : decode cX3_highest 30 = .ok (.getstatic 119, 3) := by decide +kernel
theorem dX3_highest_33 : decode cX3_highest 33 = .ok (.iload_n 1, 1) := by decide +kernel
theorem dX3_highest_34 : decode cX3_highest 34 = .ok (.bipush 6, 2) := by decide +kernel
theorem dX3_highest_36 : decode cX3_highest 36 = .ok (.imul, 1) := by decide +kernel
theorem dX3_highest_37 : decode cX3_highest 37 = .ok (.iload_n 2, 1) := by decide +kernel
theorem dX3_highest_38 : decode cX3_highest 38 = .ok (.iadd, 1) := by decide +kernel
theorem dX3_highest_39 : decode cX3_highest 39 = .ok (.invokestatic 75, 3) := by decide +kernel
theorem dX3_highest_42 : decode cX3_highest 42 = .ok (.ireturn, 1) := by decide +kernel
set_option maxRecDepth 20000 in
theorem ggX3_lineOfWord_X3_isWord : GoodIn wsX3_lineOfWord wsX3_isWord := goodIn_r _ [5, 6, 7, 8, 9, 10, 11, 12, 13, 14, 15, 16, 17, 18, 19, 20, 21, 22, 23, 24, 25, 26, 27, 28, 29, 30, 31, 32, 33, 34, 35, 36, 37, 38, 39, 40, 41, 42, 43, 44, 45, 46, 47, 48, 49, 50, 51, 52, 53, 54, 55, 56, 57, 58, 59, 60, 61, 62, 63, 64, 65, 66, 67, 68, 69, 70, 71, 72, 73, 74] (by decide +kernel) (by decide +kernel)
set_option maxRecDepth 20000 in
theorem gX3_lineOfWord_X3_isWord : GoodIn wsX3_lineOfWord (wsV RX3 124 RX3 yX3_isWord wsX3_isWord) := goodIn_app (goodIn_of _ (by decide +kernel)) ggX3_lineOfWord_X3_isWord
theorem dX3_lineOfWord_0 : decode cX3_lineOfWord 0 = .ok (.aload_n 0, 1) := by decide +kernel
theorem dX3_lineOfWord_1 : decode cX3_lineOfWord 1 = .ok (.ldc 122, 2) := by decide +kernel
theorem dX3_lineOfWord_3 : decode cX3_lineOfWord 3 = .ok (.invokevirtual 124, 3) := by decide +kernel
theorem dX3_lineOfWord_6 : decode cX3_lineOfWord 6 = .ok (.ifCond .eq 5, 3) := by decide +kernel
theorem dX3_lineOfWord_9 : decode cX3_lineOfWord 9 = .ok (.iconst 0, 1) := by decide +kernel
theorem dX3_lineOfWord_10 : decode cX3_lineOfWord 10 = .ok (.ireturn, 1) := by decide +kernel
theorem dX3_lineOfWord_11 : decode cX3_lineOfWord 11 = .ok (.aload_n 0, 1) := by decide +kernel
theorem dX3_lineOfWord_12 : decode cX3_lineOfWord 12 = .ok (.ldc 128, 2) := by decide +kernel
theorem dX3_lineOfWord_14 : decode cX3_lineOfWord 14 = .ok (.invokevirtual 124, 3) := by decide +kernel
theorem dX3_lineOfWord_17 : decode cX3_lineOfWord 17 = .ok (.ifCond .eq 5, 3) := by decide +kernel
theorem dX3_lineOfWord_20 : decode cX3_lineOfWord 20 = .ok (.iconst 1, 1) := by decide +kernel
theorem dX3_lineOfWord_21 : decode cX3_lineOfWord 21 = .ok (.ireturn, 1) := by decide +kernel
theorem dX3_lineOfWord_22 : decode cX3_lineOfWord 22 = .ok (.aload_n 0, 1) := by decide +kernel
theorem dX3_lineOfWord_23 : decode cX3_lineOfWord 23 = .ok (.ldc 130, 2) := by decide +kernel
theorem dX3_lineOfWord_25 : decode cX3_lineOfWord 25 = .ok (.invokevirtual 124, 3) := by decide +kernel
theorem dX3_lineOfWord_28 : decode cX3_lineOfWord 28 = .ok (.ifCond .eq 5, 3) := by decide +kernel
theorem dX3_lineOfWord_31 : decode cX3_lineOfWord 31 = .ok (.iconst 2, 1) := by decide +kernel
theorem dX3_lineOfWord_32 : decode cX3_lineOfWord 32 = .ok (.ireturn, 1) := by decide +kernel
theorem dX3_lineOfWord_33 : decode cX3_lineOfWord 33 = .ok (.aload_n 0, 1) := by decide +kernel
theorem dX3_lineOfWord_34 : decode cX3_lineOfWord 34 = .ok (.ldc 132, 2) := by decide +kernel
theorem dX3_lineOfWord_36 : decode cX3_lineOfWord 36 = .ok (.invokevirtual 124, 3) := by decide +kernel
theorem dX3_lineOfWord_39 : decode cX3_lineOfWord 39 = .ok (.ifCond .eq 5, 3) := by decide +kernel
theorem dX3_lineOfWord_42 : decode cX3_lineOfWord 42 = .ok (.iconst 3, 1) := by decide +kernel
theorem dX3_lineOfWord_43 : decode cX3_lineOfWord 43 = .ok (.ireturn, 1) := by decide +kernel
theorem dX3_lineOfWord_44 : decode cX3_lineOfWord 44 = .ok (.aload_n 0, 1) := by decide +kernel
theorem dX3_lineOfWord_45 : decode cX3_lineOfWord 45 = .ok (.ldc 134, 2) := by decide +kernel
theorem dX3_lineOfWord_47 : decode cX3_lineOfWord 47 = .ok (.invokevirtual 124, 3) := by decide +kernel
theorem dX3_lineOfWord_50 : decode cX3_lineOfWord 50 = .ok (.ifCond .eq 7, 3) := by decide +kernel
theorem dX3_lineOfWord_53 : decode cX3_lineOfWord 53 = .ok (.iconst 4, 1) := by decide +kernel
theorem dX3_lineOfWord_54 : decode cX3_lineOfWord 54 = .ok (.goto 4, 3) := by decide +kernel
theorem dX3_lineOfWord_57 : decode cX3_lineOfWord 57 = .ok (.iconst (-1), 1) := by decide +kernel
theorem dX3_lineOfWord_58 : decode cX3_lineOfWord 58 = .ok (.ireturn, 1) := by decide +kernel
set_option maxRecDepth 20000 in
theorem ggX3_isWord_J0_length_8abf5 : GoodIn wsX3_isWord wsJ0_length_8abf5 := goodIn_r _ [8, 9, 10, 11, 12, 7, 13, 14, 15] (by decide +kernel) (by decide +kernel)
set_option maxRecDepth 20000 in
theorem gX3_isWord_J0_length_8abf5 : GoodIn wsX3_isWord (wsV RX3 136 RJ0 yJ0_length_8abf5 wsJ0_length_8abf5) := goodIn_app (goodIn_of _ (by decide +kernel)) ggX3_isWord_J0_length_8abf5
set_option maxRecDepth 20000 in
theorem ggX3_isWord_X5_byteAt : GoodIn wsX3_isWord wsX5_byteAt := goodIn_r _ [20, 21, 22, 68, 69] (by decide +kernel) (by decide +kernel)
set_option maxRecDepth 20000 in
theorem gX3_isWord_X5_byteAt : GoodIn wsX3_isWord (wsV RX3 141 RX5 yX5_byteAt wsX5_byteAt) := goodIn_app (goodIn_of _ (by decide +kernel)) ggX3_isWord_X5_byteAt
set_option maxRecDepth 20000 in
theorem ggX3_isWord_J0_charAt_5068e : GoodIn wsX3_isWord wsJ0_charAt_5068e := goodIn_r _ [26, 9, 27, 28, 29, 7, 30, 14, 15, 31, 32, 33, 34, 35, 36, 37, 38, 39, 40, 41, 42, 43, 44, 45, 46, 47, 48, 49, 50, 51, 52, 53, 54, 55, 56, 57, 58, 59] (by decide +kernel) (by decide +kernel)
set_option maxRecDepth 20000 in
theorem gX3_isWord_J0_charAt_5068e : GoodIn wsX3_isWord (wsV RX3 144 RJ0 yJ0_charAt_5068e wsJ0_charAt_5068e) := goodIn_app (goodIn_of _ (by decide +kernel)) ggX3_isWord_J0_charAt_5068e
theorem dX3_isWord_0 : decode cX3_isWord 0 = .ok (.aload_n 0, 1) := by decide +kernel
theorem dX3_isWord_1 : decode cX3_isWord 1 = .ok (.getfield 32, 3) := by decide +kernel
theorem dX3_isWord_4 : decode cX3_isWord 4 = .ok (.aload_n 0, 1) := by decide +kernel
theorem dX3_isWord_5 : decode cX3_isWord 5 = .ok (.getfield 39, 3) := by decide +kernel
theorem dX3_isWord_8 : decode cX3_isWord 8 = .ok (.isub, 1) := by decide +kernel
theorem dX3_isWord_9 : decode cX3_isWord 9 = .ok (.aload_n 1, 1) := by decide +kernel
theorem dX3_isWord_10 : decode cX3_isWord 10 = .ok (.invokevirtual 136, 3) := by decide +kernel
theorem dX3_isWord_13 : decode cX3_isWord 13 = .ok (.if_icmp .eq 5, 3) := by decide +kernel
theorem dX3_isWord_16 : decode cX3_isWord 16 = .ok (.iconst 0, 1) := by decide +kernel
theorem dX3_isWord_17 : decode cX3_isWord 17 = .ok (.ireturn, 1) := by decide +kernel
theorem dX3_isWord_18 : decode cX3_isWord 18 = .ok (.iconst 0, 1) := by decide +kernel
theorem dX3_isWord_19 : decode cX3_isWord 19 = .ok (.istore_n 2, 1) := by decide +kernel
theorem dX3_isWord_20 : decode cX3_isWord 20 = .ok (.iload_n 2, 1) := by decide +kernel
theorem dX3_isWord_21 : decode cX3_isWord 21 = .ok (.aload_n 1, 1) := by decide +kernel
theorem dX3_isWord_22 : decode cX3_isWord 22 = .ok (.invokevirtual 136, 3) := by decide +kernel
theorem dX3_isWord_25 : decode cX3_isWord 25 = .ok (.if_icmp .ge 32, 3) := by decide +kernel
theorem dX3_isWord_28 : decode cX3_isWord 28 = .ok (.aload_n 0, 1) := by decide +kernel
theorem dX3_isWord_29 : decode cX3_isWord 29 = .ok (.getfield 15, 3) := by decide +kernel
theorem dX3_isWord_32 : decode cX3_isWord 32 = .ok (.aload_n 0, 1) := by decide +kernel
theorem dX3_isWord_33 : decode cX3_isWord 33 = .ok (.getfield 39, 3) := by decide +kernel
theorem dX3_isWord_36 : decode cX3_isWord 36 = .ok (.iload_n 2, 1) := by decide +kernel
theorem dX3_isWord_37 : decode cX3_isWord 37 = .ok (.iadd, 1) := by decide +kernel
theorem dX3_isWord_38 : decode cX3_isWord 38 = .ok (.invokevirtual 141, 3) := by decide +kernel
theorem dX3_isWord_41 : decode cX3_isWord 41 = .ok (.aload_n 1, 1) := by decide +kernel
theorem dX3_isWord_42 : decode cX3_isWord 42 = .ok (.iload_n 2, 1) := by decide +kernel
theorem dX3_isWord_43 : decode cX3_isWord 43 = .ok (.invokevirtual 144, 3) := by decide +kernel
theorem dX3_isWord_46 : decode cX3_isWord 46 = .ok (.if_icmp .eq 5, 3) := by decide +kernel
theorem dX3_isWord_49 : decode cX3_isWord 49 = .ok (.iconst 0, 1) := by decide +kernel
theorem dX3_isWord_50 : decode cX3_isWord 50 = .ok (.ireturn, 1) := by decide +kernel
theorem dX3_isWord_51 : decode cX3_isWord 51 = .ok (.iinc 2 1, 3) := by decide +kernel
theorem dX3_isWord_54 : decode cX3_isWord 54 = .ok (.goto (-34), 3) := by decide +kernel
theorem dX3_isWord_57 : decode cX3_isWord 57 = .ok (.iconst 1, 1) := by decide +kernel
theorem dX3_isWord_58 : decode cX3_isWord 58 = .ok (.ireturn, 1) := by decide +kernel
set_option maxRecDepth 20000 in
theorem ggX3_advance_X5_size : GoodIn wsX3_advance wsX5_size := goodIn_r _ [13, 14, 43, 44] (by decide +kernel) (by decide +kernel)
set_option maxRecDepth 20000 in
theorem gX3_advance_X5_size : GoodIn wsX3_advance (wsV RX3 52 RX5 yX5_size wsX5_size) := goodIn_app (goodIn_of _ (by decide +kernel)) ggX3_advance_X5_size
set_option maxRecDepth 20000 in
theorem ggX3_advance_X5_byteAt : GoodIn wsX3_advance wsX5_byteAt := goodIn_r _ [18, 14, 19, 43, 44] (by decide +kernel) (by decide +kernel)
set_option maxRecDepth 20000 in
theorem gX3_advance_X5_byteAt : GoodIn wsX3_advance (wsV RX3 141 RX5 yX5_byteAt wsX5_byteAt) := goodIn_app (goodIn_of _ (by decide +kernel)) ggX3_advance_X5_byteAt
set_option maxRecDepth 20000 in
theorem ggX3_advance_X3_isBlank : GoodIn wsX3_advance wsX3_isBlank := goodIn_r _ [23] (by decide +kernel) (by decide +kernel)
set_option maxRecDepth 20000 in
theorem gX3_advance_X3_isBlank : GoodIn wsX3_advance (va_wsS RX3 153 yX3_isBlank wsX3_isBlank) := goodIn_app (goodIn_of _ (by decide +kernel)) ggX3_advance_X3_isBlank
set_option maxRecDepth 20000 in
theorem ggX3_advance_X3_scanRun : GoodIn wsX3_advance wsX3_scanRun := goodIn_r _ [27, 28, 6, 1, 8, 7, 9, 10, 11, 12, 13, 14, 15, 16, 17, 18, 19, 29, 30, 22, 31, 32, 33, 34, 35, 36, 37, 38, 39, 40, 41, 42, 43, 44] (by decide +kernel) (by decide +kernel)
set_option maxRecDepth 20000 in
theorem gX3_advance_X3_scanRun : GoodIn wsX3_advance (wsV RX3 156 RX3 yX3_scanRun wsX3_scanRun) := goodIn_app (goodIn_of _ (by decide +kernel)) ggX3_advance_X3_scanRun
theorem dX3_advance_0 : decode cX3_advance 0 = .ok (.aload_n 0, 1) := by decide +kernel
theorem dX3_advance_1 : decode cX3_advance 1 = .ok (.getfield 15, 3) := by decide +kernel
theorem dX3_advance_4 : decode cX3_advance 4 = .ok (.invokevirtual 52, 3) := by decide +kernel
theorem dX3_advance_7 : decode cX3_advance 7 = .ok (.sipush 700, 3) := by decide +kernel
theorem dX3_advance_10 : decode cX3_advance 10 = .ok (.invokestatic 148, 3) := by decide +kernel
theorem dX3_advance_13 : decode cX3_advance 13 = .ok (.istore_n 1, 1) := by decide +kernel
theorem dX3_advance_14 : decode cX3_advance 14 = .ok (.aload_n 0, 1) := by decide +kernel
theorem dX3_advance_15 : decode cX3_advance 15 = .ok (.aload_n 0, 1) := by decide +kernel
theorem dX3_advance_16 : decode cX3_advance 16 = .ok (.getfield 32, 3) := by decide +kernel
theorem dX3_advance_19 : decode cX3_advance 19 = .ok (.iload_n 1, 1) := by decide +kernel
theorem dX3_advance_20 : decode cX3_advance 20 = .ok (.invokestatic 148, 3) := by decide +kernel
theorem dX3_advance_23 : decode cX3_advance 23 = .ok (.putfield 39, 3) := by decide +kernel
theorem dX3_advance_26 : decode cX3_advance 26 = .ok (.aload_n 0, 1) := by decide +kernel
theorem dX3_advance_27 : decode cX3_advance 27 = .ok (.getfield 39, 3) := by decide +kernel
theorem dX3_advance_30 : decode cX3_advance 30 = .ok (.iload_n 1, 1) := by decide +kernel
theorem dX3_advance_31 : decode cX3_advance 31 = .ok (.if_icmp .ge 33, 3) := by decide +kernel
theorem dX3_advance_34 : decode cX3_advance 34 = .ok (.aload_n 0, 1) := by decide +kernel
theorem dX3_advance_35 : decode cX3_advance 35 = .ok (.getfield 15, 3) := by decide +kernel
theorem dX3_advance_38 : decode cX3_advance 38 = .ok (.aload_n 0, 1) := by decide +kernel
theorem dX3_advance_39 : decode cX3_advance 39 = .ok (.getfield 39, 3) := by decide +kernel
theorem dX3_advance_42 : decode cX3_advance 42 = .ok (.invokevirtual 141, 3) := by decide +kernel
theorem dX3_advance_45 : decode cX3_advance 45 = .ok (.invokestatic 153, 3) := by decide +kernel
theorem dX3_advance_48 : decode cX3_advance 48 = .ok (.ifCond .eq 16, 3) := by decide +kernel
theorem dX3_advance_51 : decode cX3_advance 51 = .ok (.aload_n 0, 1) := by decide +kernel
theorem dX3_advance_52 : decode cX3_advance 52 = .ok (.dup, 1) := by decide +kernel
theorem dX3_advance_53 : decode cX3_advance 53 = .ok (.getfield 39, 3) := by decide +kernel
theorem dX3_advance_56 : decode cX3_advance 56 = .ok (.iconst 1, 1) := by decide +kernel
theorem dX3_advance_57 : decode cX3_advance 57 = .ok (.iadd, 1) := by decide +kernel
theorem dX3_advance_58 : decode cX3_advance 58 = .ok (.putfield 39, 3) := by decide +kernel
theorem dX3_advance_61 : decode cX3_advance 61 = .ok (.goto (-35), 3) := by decide +kernel
theorem dX3_advance_64 : decode cX3_advance 64 = .ok (.aload_n 0, 1) := by decide +kernel
theorem dX3_advance_65 : decode cX3_advance 65 = .ok (.aload_n 0, 1) := by decide +kernel
theorem dX3_advance_66 : decode cX3_advance 66 = .ok (.getfield 39, 3) := by decide +kernel
theorem dX3_advance_69 : decode cX3_advance 69 = .ok (.putfield 32, 3) := by decide +kernel
theorem dX3_advance_72 : decode cX3_advance 72 = .ok (.aload_n 0, 1) := by decide +kernel
theorem dX3_advance_73 : decode cX3_advance 73 = .ok (.getfield 39, 3) := by decide +kernel
theorem dX3_advance_76 : decode cX3_advance 76 = .ok (.iload_n 1, 1) := by decide +kernel
theorem dX3_advance_77 : decode cX3_advance 77 = .ok (.if_icmp .lt 9, 3) := by decide +kernel
theorem dX3_advance_80 : decode cX3_advance 80 = .ok (.aload_n 0, 1) := by decide +kernel
theorem dX3_advance_81 : decode cX3_advance 81 = .ok (.iconst 1, 1) := by decide +kernel
theorem dX3_advance_82 : decode cX3_advance 82 = .ok (.putfield 49, 3) := by decide +kernel
theorem dX3_advance_85 : decode cX3_advance 85 = .ok (.return_, 1) := by decide +kernel
theorem dX3_advance_86 : decode cX3_advance 86 = .ok (.aload_n 0, 1) := by decide +kernel
theorem dX3_advance_87 : decode cX3_advance 87 = .ok (.invokevirtual 156, 3) := by decide +kernel
theorem dX3_advance_90 : decode cX3_advance 90 = .ok (.aload_n 0, 1) := by decide +kernel
theorem dX3_advance_91 : decode cX3_advance 91 = .ok (.getfield 32, 3) := by decide +kernel
theorem dX3_advance_94 : decode cX3_advance 94 = .ok (.aload_n 0, 1) := by decide +kernel
theorem dX3_advance_95 : decode cX3_advance 95 = .ok (.getfield 39, 3) := by decide +kernel
theorem dX3_advance_98 : decode cX3_advance 98 = .ok (.if_icmp .ne 38, 3) := by decide +kernel
theorem dX3_advance_101 : decode cX3_advance 101 = .ok (.aload_n 0, 1) := by decide +kernel
theorem dX3_advance_102 : decode cX3_advance 102 = .ok (.aload_n 0, 1) := by decide +kernel
theorem dX3_advance_103 : decode cX3_advance 103 = .ok (.getfield 15, 3) := by decide +kernel
theorem dX3_advance_106 : decode cX3_advance 106 = .ok (.aload_n 0, 1) := by decide +kernel
theorem dX3_advance_107 : decode cX3_advance 107 = .ok (.getfield 39, 3) := by decide +kernel
theorem dX3_advance_110 : decode cX3_advance 110 = .ok (.invokevirtual 141, 3) := by decide +kernel
theorem dX3_advance_113 : decode cX3_advance 113 = .ok (.bipush 59, 2) := by decide +kernel
theorem dX3_advance_115 : decode cX3_advance 115 = .ok (.if_icmp .ne 7, 3) := by decide +kernel
theorem dX3_advance_118 : decode cX3_advance 118 = .ok (.iconst 4, 1) := by decide +kernel
theorem dX3_advance_119 : decode cX3_advance 119 = .ok (.goto 4, 3) := by decide +kernel
theorem dX3_advance_122 : decode cX3_advance 122 = .ok (.iconst 0, 1) := by decide +kernel
theorem dX3_advance_123 : decode cX3_advance 123 = .ok (.putfield 49, 3) := by decide +kernel
theorem dX3_advance_126 : decode cX3_advance 126 = .ok (.aload_n 0, 1) := by decide +kernel
theorem dX3_advance_127 : decode cX3_advance 127 = .ok (.aload_n 0, 1) := by decide +kernel
theorem dX3_advance_128 : decode cX3_advance 128 = .ok (.getfield 39, 3) := by decide +kernel
theorem dX3_advance_131 : decode cX3_advance 131 = .ok (.iconst 1, 1) := by decide +kernel
theorem dX3_advance_132 : decode cX3_advance 132 = .ok (.iadd, 1) := by decide +kernel
theorem dX3_advance_133 : decode cX3_advance 133 = .ok (.putfield 32, 3) := by decide +kernel
theorem dX3_advance_136 : decode cX3_advance 136 = .ok (.return_, 1) := by decide +kernel
set_option maxRecDepth 20000 in
theorem ggX3_scanRun_X5_size : GoodIn wsX3_scanRun wsX5_size := goodIn_r _ [10, 11, 32, 33] (by decide +kernel) (by decide +kernel)
set_option maxRecDepth 20000 in
theorem gX3_scanRun_X5_size : GoodIn wsX3_scanRun (wsV RX3 52 RX5 yX5_size wsX5_size) := goodIn_app (goodIn_of _ (by decide +kernel)) ggX3_scanRun_X5_size
set_option maxRecDepth 20000 in
theorem ggX3_scanRun_X5_byteAt : GoodIn wsX3_scanRun wsX5_byteAt := goodIn_r _ [15, 11, 16, 32, 33] (by decide +kernel) (by decide +kernel)
set_option maxRecDepth 20000 in
theorem gX3_scanRun_X5_byteAt : GoodIn wsX3_scanRun (wsV RX3 141 RX5 yX5_byteAt wsX5_byteAt) := goodIn_app (goodIn_of _ (by decide +kernel)) ggX3_scanRun_X5_byteAt
set_option maxRecDepth 20000 in
theorem ggX3_scanRun_X3_isLetter : GoodIn wsX3_scanRun wsX3_isLetter := goodIn_r _ [20] (by decide +kernel) (by decide +kernel)
set_option maxRecDepth 20000 in
theorem gX3_scanRun_X3_isLetter : GoodIn wsX3_scanRun (va_wsS RX3 159 yX3_isLetter wsX3_isLetter) := goodIn_app (goodIn_of _ (by decide +kernel)) ggX3_scanRun_X3_isLetter
set_option maxRecDepth 20000 in
theorem ggX3_scanRun_X3_isDigit : GoodIn wsX3_scanRun wsX3_isDigit := goodIn_r _ [23] (by decide +kernel) (by decide +kernel)
set_option maxRecDepth 20000 in
theorem gX3_scanRun_X3_isDigit : GoodIn wsX3_scanRun (va_wsS RX3 162 yX3_isDigit wsX3_isDigit) := goodIn_app (goodIn_of _ (by decide +kernel)) ggX3_scanRun_X3_isDigit
theorem dX3_scanRun_0 : decode cX3_scanRun 0 = .ok (.iconst 0, 1) := by decide +kernel
theorem dX3_scanRun_1 : decode cX3_scanRun 1 = .ok (.istore_n 1, 1) := by decide +kernel
theorem dX3_scanRun_2 : decode cX3_scanRun 2 = .ok (.aload_n 0, 1) := by decide +kernel
theorem dX3_scanRun_3 : decode cX3_scanRun 3 = .ok (.iconst 0, 1) := by decide +kernel
theorem dX3_scanRun_4 : decode cX3_scanRun 4 = .ok (.putfield 89, 3) := by decide +kernel
theorem dX3_scanRun_7 : decode cX3_scanRun 7 = .ok (.aload_n 0, 1) := by decide +kernel
theorem dX3_scanRun_8 : decode cX3_scanRun 8 = .ok (.getfield 32, 3) := by decide +kernel
theorem dX3_scanRun_11 : decode cX3_scanRun 11 = .ok (.aload_n 0, 1) := by decide +kernel
theorem dX3_scanRun_12 : decode cX3_scanRun 12 = .ok (.getfield 15, 3) := by decide +kernel
theorem dX3_scanRun_15 : decode cX3_scanRun 15 = .ok (.invokevirtual 52, 3) := by decide +kernel
theorem dX3_scanRun_18 : decode cX3_scanRun 18 = .ok (.if_icmp .ge 108, 3) := by decide +kernel
theorem dX3_scanRun_21 : decode cX3_scanRun 21 = .ok (.aload_n 0, 1) := by decide +kernel
theorem dX3_scanRun_22 : decode cX3_scanRun 22 = .ok (.getfield 15, 3) := by decide +kernel
theorem dX3_scanRun_25 : decode cX3_scanRun 25 = .ok (.aload_n 0, 1) := by decide +kernel
theorem dX3_scanRun_26 : decode cX3_scanRun 26 = .ok (.getfield 32, 3) := by decide +kernel
theorem dX3_scanRun_29 : decode cX3_scanRun 29 = .ok (.invokevirtual 141, 3) := by decide +kernel
theorem dX3_scanRun_32 : decode cX3_scanRun 32 = .ok (.invokestatic 159, 3) := by decide +kernel
theorem dX3_scanRun_35 : decode cX3_scanRun 35 = .ok (.ifCond .ne 20, 3) := by decide +kernel
theorem dX3_scanRun_38 : decode cX3_scanRun 38 = .ok (.aload_n 0, 1) := by decide +kernel
theorem dX3_scanRun_39 : decode cX3_scanRun 39 = .ok (.getfield 15, 3) := by decide +kernel
theorem dX3_scanRun_42 : decode cX3_scanRun 42 = .ok (.aload_n 0, 1) := by decide +kernel
theorem dX3_scanRun_43 : decode cX3_scanRun 43 = .ok (.getfield 32, 3) := by decide +kernel
theorem dX3_scanRun_46 : decode cX3_scanRun 46 = .ok (.invokevirtual 141, 3) := by decide +kernel
theorem dX3_scanRun_49 : decode cX3_scanRun 49 = .ok (.invokestatic 162, 3) := by decide +kernel
theorem dX3_scanRun_52 : decode cX3_scanRun 52 = .ok (.ifCond .eq 74, 3) := by decide +kernel
theorem dX3_scanRun_55 : decode cX3_scanRun 55 = .ok (.aload_n 0, 1) := by decide +kernel
theorem dX3_scanRun_56 : decode cX3_scanRun 56 = .ok (.getfield 15, 3) := by decide +kernel
