theorem dX7_rainsAt_17 : decode cX7_rainsAt 17 = .ok (.aload_n 0, 1) := by decide +kernel
theorem dX7_rainsAt_18 : decode cX7_rainsAt 18 = .ok (.getfield 9, 3) := by decide +kernel
theorem dX7_rainsAt_21 : decode cX7_rainsAt 21 = .ok (.iload_n 2, 1) := by decide +kernel
theorem dX7_rainsAt_22 : decode cX7_rainsAt 22 = .ok (.iaload, 1) := by decide +kernel
theorem dX7_rainsAt_23 : decode cX7_rainsAt 23 = .ok (.if_icmp .lt 15, 3) := by decide +kernel
theorem dX7_rainsAt_26 : decode cX7_rainsAt 26 = .ok (.iload_n 1, 1) := by decide +kernel
theorem dX7_rainsAt_27 : decode cX7_rainsAt 27 = .ok (.aload_n 0, 1) := by decide +kernel
theorem dX7_rainsAt_28 : decode cX7_rainsAt 28 = .ok (.getfield 15, 3) := by decide +kernel
theorem dX7_rainsAt_31 : decode cX7_rainsAt 31 = .ok (.iload_n 2, 1) := by decide +kernel
theorem dX7_rainsAt_32 : decode cX7_rainsAt 32 = .ok (.iaload, 1) := by decide +kernel
theorem dX7_rainsAt_33 : decode cX7_rainsAt 33 = .ok (.if_icmp .ge 5, 3) := by decide +kernel
theorem dX7_rainsAt_36 : decode cX7_rainsAt 36 = .ok (.iconst 1, 1) := by decide +kernel
theorem dX7_rainsAt_37 : decode cX7_rainsAt 37 = .ok (.ireturn, 1) := by decide +kernel
theorem dX7_rainsAt_38 : decode cX7_rainsAt 38 = .ok (.iinc 2 1, 3) := by decide +kernel
theorem dX7_rainsAt_41 : decode cX7_rainsAt 41 = .ok (.goto (-39), 3) := by decide +kernel
theorem dX7_rainsAt_44 : decode cX7_rainsAt 44 = .ok (.iconst 0, 1) := by decide +kernel
theorem dX7_rainsAt_45 : decode cX7_rainsAt 45 = .ok (.ireturn, 1) := by decide +kernel
theorem dX8_init_0 : decode cX8_init 0 = .ok (.aload_n 0, 1) := by decide +kernel
theorem dX8_init_1 : decode cX8_init 1 = .ok (.invokespecial 3, 3) := by decide +kernel
theorem dX8_init_4 : decode cX8_init 4 = .ok (.aload_n 0, 1) := by decide +kernel
theorem dX8_init_5 : decode cX8_init 5 = .ok (.sipush 200, 3) := by decide +kernel
theorem dX8_init_8 : decode cX8_init 8 = .ok (.newarray .int, 2) := by decide +kernel
theorem dX8_init_10 : decode cX8_init 10 = .ok (.putfield 9, 3) := by decide +kernel
theorem dX8_init_13 : decode cX8_init 13 = .ok (.return_, 1) := by decide +kernel
theorem dX8_addBytes_0 : decode cX8_addBytes 0 = .ok (.bipush 24, 2) := by decide +kernel
theorem dX8_addBytes_2 : decode cX8_addBytes 2 = .ok (.istore_n 2, 1) := by decide +kernel
theorem dX8_addBytes_3 : decode cX8_addBytes 3 = .ok (.iload_n 2, 1) := by decide +kernel
theorem dX8_addBytes_4 : decode cX8_addBytes 4 = .ok (.ifCond .lt 52, 3) := by decide +kernel
theorem dX8_addBytes_7 : decode cX8_addBytes 7 = .ok (.aload_n 0, 1) := by decide +kernel
theorem dX8_addBytes_8 : decode cX8_addBytes 8 = .ok (.getfield 15, 3) := by decide +kernel
theorem dX8_addBytes_11 : decode cX8_addBytes 11 = .ok (.ifCond .lt 39, 3) := by decide +kernel
theorem dX8_addBytes_14 : decode cX8_addBytes 14 = .ok (.aload_n 0, 1) := by decide +kernel
theorem dX8_addBytes_15 : decode cX8_addBytes 15 = .ok (.getfield 15, 3) := by decide +kernel
theorem dX8_addBytes_18 : decode cX8_addBytes 18 = .ok (.sipush 200, 3) := by decide +kernel
theorem dX8_addBytes_21 : decode cX8_addBytes 21 = .ok (.if_icmp .ge 29, 3) := by decide +kernel
theorem dX8_addBytes_24 : decode cX8_addBytes 24 = .ok (.aload_n 0, 1) := by decide +kernel
theorem dX8_addBytes_25 : decode cX8_addBytes 25 = .ok (.getfield 9, 3) := by decide +kernel
theorem dX8_addBytes_28 : decode cX8_addBytes 28 = .ok (.aload_n 0, 1) := by decide +kernel
theorem dX8_addBytes_29 : decode cX8_addBytes 29 = .ok (.getfield 15, 3) := by decide +kernel
theorem dX8_addBytes_32 : decode cX8_addBytes 32 = .ok (.iload_n 1, 1) := by decide +kernel
theorem dX8_addBytes_33 : decode cX8_addBytes 33 = .ok (.iload_n 2, 1) := by decide +kernel
theorem dX8_addBytes_34 : decode cX8_addBytes 34 = .ok (.iushr, 1) := by decide +kernel
theorem dX8_addBytes_35 : decode cX8_addBytes 35 = .ok (.sipush 255, 3) := by decide +kernel
theorem dX8_addBytes_38 : decode cX8_addBytes 38 = .ok (.iand, 1) := by decide +kernel
theorem dX8_addBytes_39 : decode cX8_addBytes 39 = .ok (.iastore, 1) := by decide +kernel
theorem dX8_addBytes_40 : decode cX8_addBytes 40 = .ok (.aload_n 0, 1) := by decide +kernel
theorem dX8_addBytes_41 : decode cX8_addBytes 41 = .ok (.dup, 1) := by decide +kernel
theorem dX8_addBytes_42 : decode cX8_addBytes 42 = .ok (.getfield 15, 3) := by decide +kernel
theorem dX8_addBytes_45 : decode cX8_addBytes 45 = .ok (.iconst 1, 1) := by decide +kernel
theorem dX8_addBytes_46 : decode cX8_addBytes 46 = .ok (.iadd, 1) := by decide +kernel
theorem dX8_addBytes_47 : decode cX8_addBytes 47 = .ok (.putfield 15, 3) := by decide +kernel
theorem dX8_addBytes_50 : decode cX8_addBytes 50 = .ok (.iinc 2 (-8), 3) := by decide +kernel
theorem dX8_addBytes_53 : decode cX8_addBytes 53 = .ok (.goto (-50), 3) := by decide +kernel
theorem dX8_addBytes_56 : decode cX8_addBytes 56 = .ok (.return_, 1) := by decide +kernel
theorem dX8_at_0 : decode cX8_at 0 = .ok (.iload_n 1, 1) := by decide +kernel
theorem dX8_at_1 : decode cX8_at 1 = .ok (.ifCond .lt 27, 3) := by decide +kernel
theorem dX8_at_4 : decode cX8_at 4 = .ok (.iload_n 1, 1) := by decide +kernel
theorem dX8_at_5 : decode cX8_at 5 = .ok (.aload_n 0, 1) := by decide +kernel
theorem dX8_at_6 : decode cX8_at 6 = .ok (.getfield 15, 3) := by decide +kernel
theorem dX8_at_9 : decode cX8_at 9 = .ok (.if_icmp .ge 19, 3) := by decide +kernel
theorem dX8_at_12 : decode cX8_at 12 = .ok (.iload_n 1, 1) := by decide +kernel
theorem dX8_at_13 : decode cX8_at 13 = .ok (.sipush 200, 3) := by decide +kernel
theorem dX8_at_16 : decode cX8_at 16 = .ok (.if_icmp .ge 12, 3) := by decide +kernel
theorem dX8_at_19 : decode cX8_at 19 = .ok (.aload_n 0, 1) := by decide +kernel
theorem dX8_at_20 : decode cX8_at 20 = .ok (.getfield 9, 3) := by decide +kernel
theorem dX8_at_23 : decode cX8_at 23 = .ok (.iload_n 1, 1) := by decide +kernel
theorem dX8_at_24 : decode cX8_at 24 = .ok (.iaload, 1) := by decide +kernel
theorem dX8_at_25 : decode cX8_at 25 = .ok (.goto 4, 3) := by decide +kernel
theorem dX8_at_28 : decode cX8_at 28 = .ok (.iconst 0, 1) := by decide +kernel
theorem dX8_at_29 : decode cX8_at 29 = .ok (.ireturn, 1) := by decide +kernel
theorem dX9_isNumber_0 : decode cX9_isNumber 0 = .ok (.iload_n 0, 1) := by decide +kernel
theorem dX9_isNumber_1 : decode cX9_isNumber 1 = .ok (.sipush 1000, 3) := by decide +kernel
theorem dX9_isNumber_4 : decode cX9_isNumber 4 = .ok (.if_icmp .lt 7, 3) := by decide +kernel
theorem dX9_isNumber_7 : decode cX9_isNumber 7 = .ok (.iconst 1, 1) := by decide +kernel
theorem dX9_isNumber_8 : decode cX9_isNumber 8 = .ok (.goto 4, 3) := by decide +kernel
theorem dX9_isNumber_11 : decode cX9_isNumber 11 = .ok (.iconst 0, 1) := by decide +kernel
theorem dX9_isNumber_12 : decode cX9_isNumber 12 = .ok (.ireturn, 1) := by decide +kernel
theorem dX9_isName_0 : decode cX9_isName 0 = .ok (.iload_n 0, 1) := by decide +kernel
theorem dX9_isName_1 : decode cX9_isName 1 = .ok (.sipush 128, 3) := by decide +kernel
theorem dX9_isName_4 : decode cX9_isName 4 = .ok (.if_icmp .lt 14, 3) := by decide +kernel
theorem dX9_isName_7 : decode cX9_isName 7 = .ok (.iload_n 0, 1) := by decide +kernel
theorem dX9_isName_8 : decode cX9_isName 8 = .ok (.sipush 141, 3) := by decide +kernel
theorem dX9_isName_11 : decode cX9_isName 11 = .ok (.if_icmp .ge 7, 3) := by decide +kernel
theorem dX9_isName_14 : decode cX9_isName 14 = .ok (.iconst 1, 1) := by decide +kernel
theorem dX9_isName_15 : decode cX9_isName 15 = .ok (.goto 4, 3) := by decide +kernel
theorem dX9_isName_18 : decode cX9_isName 18 = .ok (.iconst 0, 1) := by decide +kernel
theorem dX9_isName_19 : decode cX9_isName 19 = .ok (.ireturn, 1) := by decide +kernel
set_option maxRecDepth 20000 in
theorem ggX10_init_Jx4a65c_init_da8c8 : GoodIn wsX10_init wsJx4a65c_init_da8c8 := goodIn_r _ [35, 36, 37, 38, 39, 40, 41, 42, 43, 44, 45, 46, 47, 2, 3, 130, 131, 132] (by decide +kernel) (by decide +kernel)
set_option maxRecDepth 20000 in
theorem gX10_init_Jx4a65c_init_da8c8 : GoodIn wsX10_init (wsJx4a65c_init_da8c8) := ggX10_init_Jx4a65c_init_da8c8
set_option maxRecDepth 20000 in
theorem ggX10_init_X0_init : GoodIn wsX10_init wsX0_init := goodIn_r _ [50, 51, 2, 3, 52, 5, 6, 53, 54, 55, 34, 35, 36, 37, 38, 39, 40, 41, 42, 43, 44, 45, 46, 47, 130, 131, 132, 146, 147, 148, 149, 150, 151, 152, 153, 154, 155] (by decide +kernel) (by decide +kernel)
set_option maxRecDepth 20000 in
theorem gX10_init_X0_init : GoodIn wsX10_init (wsX0_init) := ggX10_init_X0_init
set_option maxRecDepth 20000 in
theorem ggX10_init_Jx4a65c_add_9ea2d : GoodIn wsX10_init wsJx4a65c_add_9ea2d := goodIn_r _ [59, 60, 61, 37, 62, 63, 64, 65, 6, 66, 67, 68, 69, 70, 71, 72, 73, 74, 36, 75, 76, 77, 78, 79, 80, 81, 82, 83, 84, 85, 86, 87, 88, 89, 90, 91, 92, 93, 94, 95, 96, 97, 98, 99, 100, 101, 102, 103, 104, 105, 106, 107, 108, 130, 131, 132] (by decide +kernel) (by decide +kernel)
set_option maxRecDepth 20000 in
theorem gX10_init_Jx4a65c_add_9ea2d : GoodIn wsX10_init (wsV RX10 33 RJx4a65c yJx4a65c_add_9ea2d wsJx4a65c_add_9ea2d) := goodIn_app (goodIn_of _ (by decide +kernel)) ggX10_init_Jx4a65c_add_9ea2d
set_option maxRecDepth 20000 in
theorem ggX10_init_X7_init : GoodIn wsX10_init wsX7_init := goodIn_r _ [110, 111, 2, 3, 112, 113, 114, 156, 157, 158] (by decide +kernel) (by decide +kernel)
set_option maxRecDepth 20000 in
theorem gX10_init_X7_init_n39 : GoodIn wsX10_init (wsX7_init) := ggX10_init_X7_init
set_option maxRecDepth 20000 in
theorem ggX10_init_X8_init : GoodIn wsX10_init wsX8_init := goodIn_r _ [116, 117, 2, 3, 112, 118, 159, 160] (by decide +kernel) (by decide +kernel)
set_option maxRecDepth 20000 in
theorem gX10_init_X8_init_n46 : GoodIn wsX10_init (wsX8_init) := ggX10_init_X8_init
set_option maxRecDepth 20000 in
theorem ggX10_init_X5_init : GoodIn wsX10_init wsX5_init := goodIn_r _ [120, 121, 2, 3, 112, 122, 123, 124, 161, 162, 163, 164, 165, 166] (by decide +kernel) (by decide +kernel)
set_option maxRecDepth 20000 in
theorem gX10_init_X5_init_n53 : GoodIn wsX10_init (wsX5_init) := ggX10_init_X5_init
set_option maxRecDepth 20000 in
theorem ggX10_init_X6_init : GoodIn wsX10_init wsX6_init := goodIn_r _ [126, 127, 2, 3, 112, 128, 129, 167, 168, 169] (by decide +kernel) (by decide +kernel)
set_option maxRecDepth 20000 in
theorem gX10_init_X6_init_n60 : GoodIn wsX10_init (wsX6_init) := ggX10_init_X6_init
theorem dX10_init_0 : decode cX10_init 0 = .ok (.aload_n 0, 1) := by decide +kernel
theorem dX10_init_1 : decode cX10_init 1 = .ok (.invokespecial 1, 3) := by decide +kernel
theorem dX10_init_4 : decode cX10_init 4 = .ok (.aload_n 0, 1) := by decide +kernel
theorem dX10_init_5 : decode cX10_init 5 = .ok (.new 7, 3) := by decide +kernel
theorem dX10_init_8 : decode cX10_init 8 = .ok (.dup, 1) := by decide +kernel
theorem dX10_init_9 : decode cX10_init 9 = .ok (.invokespecial 9, 3) := by decide +kernel
theorem dX10_init_12 : decode cX10_init 12 = .ok (.putfield 10, 3) := by decide +kernel
theorem dX10_init_15 : decode cX10_init 15 = .ok (.aload_n 0, 1) := by decide +kernel
theorem dX10_init_16 : decode cX10_init 16 = .ok (.new 7, 3) := by decide +kernel
theorem dX10_init_19 : decode cX10_init 19 = .ok (.dup, 1) := by decide +kernel
theorem dX10_init_20 : decode cX10_init 20 = .ok (.invokespecial 9, 3) := by decide +kernel
theorem dX10_init_23 : decode cX10_init 23 = .ok (.putfield 16, 3) := by decide +kernel
theorem dX10_init_26 : decode cX10_init 26 = .ok (.aload_n 0, 1) := by decide +kernel
theorem dX10_init_27 : decode cX10_init 27 = .ok (.new 7, 3) := by decide +kernel
theorem dX10_init_30 : decode cX10_init 30 = .ok (.dup, 1) := by decide +kernel
theorem dX10_init_31 : decode cX10_init 31 = .ok (.invokespecial 9, 3) := by decide +kernel
theorem dX10_init_34 : decode cX10_init 34 = .ok (.putfield 19, 3) := by decide +kernel
theorem dX10_init_37 : decode cX10_init 37 = .ok (.aload_n 0, 1) := by decide +kernel
theorem dX10_init_38 : decode cX10_init 38 = .ok (.new 7, 3) := by decide +kernel
theorem dX10_init_41 : decode cX10_init 41 = .ok (.dup, 1) := by decide +kernel
theorem dX10_init_42 : decode cX10_init 42 = .ok (.invokespecial 9, 3) := by decide +kernel
theorem dX10_init_45 : decode cX10_init 45 = .ok (.putfield 22, 3) := by decide +kernel
theorem dX10_init_48 : decode cX10_init 48 = .ok (.aload_n 0, 1) := by decide +kernel
theorem dX10_init_49 : decode cX10_init 49 = .ok (.new 7, 3) := by decide +kernel
theorem dX10_init_52 : decode cX10_init 52 = .ok (.dup, 1) := by decide +kernel
theorem dX10_init_53 : decode cX10_init 53 = .ok (.invokespecial 9, 3) := by decide +kernel
theorem dX10_init_56 : decode cX10_init 56 = .ok (.putfield 25, 3) := by decide +kernel
theorem dX10_init_59 : decode cX10_init 59 = .ok (.iconst 0, 1) := by decide +kernel
theorem dX10_init_60 : decode cX10_init 60 = .ok (.istore_n 1, 1) := by decide +kernel
theorem dX10_init_61 : decode cX10_init 61 = .ok (.iload_n 1, 1) := by decide +kernel
theorem dX10_init_62 : decode cX10_init 62 = .ok (.iconst 4, 1) := by decide +kernel
theorem dX10_init_63 : decode cX10_init 63 = .ok (.if_icmp .ge 25, 3) := by decide +kernel
theorem dX10_init_66 : decode cX10_init 66 = .ok (.aload_n 0, 1) := by decide +kernel
theorem dX10_init_67 : decode cX10_init 67 = .ok (.getfield 25, 3) := by decide +kernel
theorem dX10_init_70 : decode cX10_init 70 = .ok (.new 28, 3) := by decide +kernel
theorem dX10_init_73 : decode cX10_init 73 = .ok (.dup, 1) := by decide +kernel
theorem dX10_init_74 : decode cX10_init 74 = .ok (.iload_n 1, 1) := by decide +kernel
theorem dX10_init_75 : decode cX10_init 75 = .ok (.invokespecial 30, 3) := by decide +kernel
theorem dX10_init_78 : decode cX10_init 78 = .ok (.invokevirtual 33, 3) := by decide +kernel
theorem dX10_init_81 : decode cX10_init 81 = .ok (.pop, 1) := by decide +kernel
theorem dX10_init_82 : decode cX10_init 82 = .ok (.iinc 1 1, 3) := by decide +kernel
theorem dX10_init_85 : decode cX10_init 85 = .ok (.goto (-24), 3) := by decide +kernel
theorem dX10_init_88 : decode cX10_init 88 = .ok (.aload_n 0, 1) := by decide +kernel
theorem dX10_init_89 : decode cX10_init 89 = .ok (.new 37, 3) := by decide +kernel
theorem dX10_init_92 : decode cX10_init 92 = .ok (.dup, 1) := by decide +kernel
theorem dX10_init_93 : decode cX10_init 93 = .ok (.invokespecial 39, 3) := by decide +kernel
theorem dX10_init_96 : decode cX10_init 96 = .ok (.putfield 40, 3) := by decide +kernel
theorem dX10_init_99 : decode cX10_init 99 = .ok (.aload_n 0, 1) := by decide +kernel
theorem dX10_init_100 : decode cX10_init 100 = .ok (.new 44, 3) := by decide +kernel
theorem dX10_init_103 : decode cX10_init 103 = .ok (.dup, 1) := by decide +kernel
theorem dX10_init_104 : decode cX10_init 104 = .ok (.invokespecial 46, 3) := by decide +kernel
theorem dX10_init_107 : decode cX10_init 107 = .ok (.putfield 47, 3) := by decide +kernel
theorem dX10_init_110 : decode cX10_init 110 = .ok (.aload_n 0, 1) := by decide +kernel
theorem dX10_init_111 : decode cX10_init 111 = .ok (.new 51, 3) := by decide +kernel
theorem dX10_init_114 : decode cX10_init 114 = .ok (.dup, 1) := by decide +kernel
theorem dX10_init_115 : decode cX10_init 115 = .ok (.invokespecial 53, 3) := by decide +kernel
theorem dX10_init_118 : decode cX10_init 118 = .ok (.putfield 54, 3) := by decide +kernel
theorem dX10_init_121 : decode cX10_init 121 = .ok (.aload_n 0, 1) := by decide +kernel
theorem dX10_init_122 : decode cX10_init 122 = .ok (.new 58, 3) := by decide +kernel
theorem dX10_init_125 : decode cX10_init 125 = .ok (.dup, 1) := by decide +kernel
theorem dX10_init_126 : decode cX10_init 126 = .ok (.invokespecial 60, 3) := by decide +kernel
theorem dX10_init_129 : decode cX10_init 129 = .ok (.putfield 61, 3) := by decide +kernel
theorem dX10_init_132 : decode cX10_init 132 = .ok (.aload_n 0, 1) := by decide +kernel
theorem dX10_init_133 : decode cX10_init 133 = .ok (.new 7, 3) := by decide +kernel
theorem dX10_init_136 : decode cX10_init 136 = .ok (.dup, 1) := by decide +kernel
theorem dX10_init_137 : decode cX10_init 137 = .ok (.invokespecial 9, 3) := by decide +kernel
theorem dX10_init_140 : decode cX10_init 140 = .ok (.putfield 65, 3) := by decide +kernel
theorem dX10_init_143 : decode cX10_init 143 = .ok (.aload_n 0, 1) := by decide +kernel
theorem dX10_init_144 : decode cX10_init 144 = .ok (.new 7, 3) := by decide +kernel
theorem dX10_init_147 : decode cX10_init 147 = .ok (.dup, 1) := by decide +kernel
theorem dX10_init_148 : decode cX10_init 148 = .ok (.invokespecial 9, 3) := by decide +kernel
theorem dX10_init_151 : decode cX10_init 151 = .ok (.putfield 68, 3) := by decide +kernel
theorem dX10_init_154 : decode cX10_init 154 = .ok (.return_, 1) := by decide +kernel
set_option maxRecDepth 20000 in
theorem ggX10_place_X10_within : GoodIn wsX10_place wsX10_within := goodIn_r _ [8] (by decide +kernel) (by decide +kernel)
set_option maxRecDepth 20000 in
theorem gX10_place_X10_within : GoodIn wsX10_place (va_wsS RX10 71 yX10_within wsX10_within) := goodIn_app (goodIn_of _ (by decide +kernel)) ggX10_place_X10_within
set_option maxRecDepth 20000 in
theorem ggX10_place_Jx4a65c_size_8abf5 : GoodIn wsX10_place wsJx4a65c_size_8abf5 := goodIn_r _ [13, 14, 96, 97, 98] (by decide +kernel) (by decide +kernel)
set_option maxRecDepth 20000 in
theorem gX10_place_Jx4a65c_size_8abf5 : GoodIn wsX10_place (wsV RX10 75 RJx4a65c yJx4a65c_size_8abf5 wsJx4a65c_size_8abf5) := goodIn_app (goodIn_of _ (by decide +kernel)) ggX10_place_Jx4a65c_size_8abf5
set_option maxRecDepth 20000 in
theorem ggX10_place_X4_init : GoodIn wsX10_place wsX4_init := goodIn_r _ [17, 18, 19, 20, 21, 22, 23, 91, 92, 93, 94, 95] (by decide +kernel) (by decide +kernel)
set_option maxRecDepth 20000 in
theorem gX10_place_X4_init : GoodIn wsX10_place (wsX4_init) := ggX10_place_X4_init
set_option maxRecDepth 20000 in
theorem ggX10_place_Jx4a65c_add_9ea2d : GoodIn wsX10_place wsJx4a65c_add_9ea2d := goodIn_r _ [27, 28, 29, 30, 14, 31, 32, 33, 12, 34, 35, 36, 37, 38, 39, 40, 41, 42, 43, 44, 45, 46, 47, 48, 49, 50, 51, 52, 53, 54, 55, 56, 57, 58, 59, 60, 61, 62, 63, 64, 65, 66, 67, 68, 69, 70, 71, 72, 73, 74, 75, 76, 77, 96, 97, 98] (by decide +kernel) (by decide +kernel)
set_option maxRecDepth 20000 in
theorem gX10_place_Jx4a65c_add_9ea2d : GoodIn wsX10_place (wsV RX10 33 RJx4a65c yJx4a65c_add_9ea2d wsJx4a65c_add_9ea2d) := goodIn_app (goodIn_of _ (by decide +kernel)) ggX10_place_Jx4a65c_add_9ea2d
theorem dX10_place_0 : decode cX10_place 0 = .ok (.iload_n 1, 1) := by decide +kernel
theorem dX10_place_1 : decode cX10_place 1 = .ok (.iconst 0, 1) := by decide +kernel
theorem dX10_place_2 : decode cX10_place 2 = .ok (.bipush 99, 2) := by decide +kernel
theorem dX10_place_4 : decode cX10_place 4 = .ok (.invokestatic 71, 3) := by decide +kernel
theorem dX10_place_7 : decode cX10_place 7 = .ok (.ifCond .eq 13, 3) := by decide +kernel
theorem dX10_place_10 : decode cX10_place 10 = .ok (.iload_n 2, 1) := by decide +kernel
theorem dX10_place_11 : decode cX10_place 11 = .ok (.iconst 0, 1) := by decide +kernel
theorem dX10_place_12 : decode cX10_place 12 = .ok (.bipush 99, 2) := by decide +kernel
theorem dX10_place_14 : decode cX10_place 14 = .ok (.invokestatic 71, 3) := by decide +kernel
theorem dX10_place_17 : decode cX10_place 17 = .ok (.ifCond .ne 5, 3) := by decide +kernel
theorem dX10_place_20 : decode cX10_place 20 = .ok (.iconst (-1), 1) := by decide +kernel
theorem dX10_place_21 : decode cX10_place 21 = .ok (.ireturn, 1) := by decide +kernel
theorem dX10_place_22 : decode cX10_place 22 = .ok (.aload_n 0, 1) := by decide +kernel
theorem dX10_place_23 : decode cX10_place 23 = .ok (.getfield 10, 3) := by decide +kernel
theorem dX10_place_26 : decode cX10_place 26 = .ok (.invokevirtual 75, 3) := by decide +kernel
theorem dX10_place_29 : decode cX10_place 29 = .ok (.bipush 20, 2) := by decide +kernel
theorem dX10_place_31 : decode cX10_place 31 = .ok (.if_icmp .lt 6, 3) := by decide +kernel
theorem dX10_place_34 : decode cX10_place 34 = .ok (.bipush (-3), 2) := by decide +kernel
theorem dX10_place_36 : decode cX10_place 36 = .ok (.ireturn, 1) := by decide +kernel
theorem dX10_place_37 : decode cX10_place 37 = .ok (.aload_n 0, 1) := by decide +kernel
theorem dX10_place_38 : decode cX10_place 38 = .ok (.getfield 10, 3) := by decide +kernel
theorem dX10_place_41 : decode cX10_place 41 = .ok (.new 79, 3) := by decide +kernel
theorem dX10_place_44 : decode cX10_place 44 = .ok (.dup, 1) := by decide +kernel
theorem dX10_place_45 : decode cX10_place 45 = .ok (.aload_n 0, 1) := by decide +kernel
theorem dX10_place_46 : decode cX10_place 46 = .ok (.getfield 10, 3) := by decide +kernel
theorem dX10_place_49 : decode cX10_place 49 = .ok (.invokevirtual 75, 3) := by decide +kernel
theorem dX10_place_52 : decode cX10_place 52 = .ok (.iload_n 1, 1) := by decide +kernel
theorem dX10_place_53 : decode cX10_place 53 = .ok (.iload_n 2, 1) := by decide +kernel
theorem dX10_place_54 : decode cX10_place 54 = .ok (.invokespecial 81, 3) := by decide +kernel
theorem dX10_place_57 : decode cX10_place 57 = .ok (.invokevirtual 33, 3) := by decide +kernel
theorem dX10_place_60 : decode cX10_place 60 = .ok (.pop, 1) := by decide +kernel
theorem dX10_place_61 : decode cX10_place 61 = .ok (.aload_n 0, 1) := by decide +kernel
theorem dX10_place_62 : decode cX10_place 62 = .ok (.getfield 10, 3) := by decide +kernel
theorem dX10_place_65 : decode cX10_place 65 = .ok (.invokevirtual 75, 3) := by decide +kernel
theorem dX10_place_68 : decode cX10_place 68 = .ok (.iconst 1, 1) := by decide +kernel
theorem dX10_place_69 : decode cX10_place 69 = .ok (.isub, 1) := by decide +kernel
theorem dX10_place_70 : decode cX10_place 70 = .ok (.ireturn, 1) := by decide +kernel
set_option maxRecDepth 20000 in
theorem ggX10_tide_X10_placeAt : GoodIn wsX10_tide wsX10_placeAt := goodIn_r _ [7, 8, 9, 10, 11, 12, 13, 14, 15, 16, 17, 18, 19, 20, 21, 22, 23, 24, 25, 26, 27, 28, 29, 30, 31, 32, 38, 39, 40, 41, 42, 43, 44, 45, 46, 47, 48, 49, 50, 51, 52, 53] (by decide +kernel) (by decide +kernel)
set_option maxRecDepth 20000 in
theorem gX10_tide_X10_placeAt : GoodIn wsX10_tide (wsV RX10 84 RX10 yX10_placeAt wsX10_placeAt) := goodIn_app (goodIn_of _ (by decide +kernel)) ggX10_tide_X10_placeAt
theorem dX10_tide_0 : decode cX10_tide 0 = .ok (.aload_n 0, 1) := by decide +kernel
theorem dX10_tide_1 : decode cX10_tide 1 = .ok (.iload_n 1, 1) := by decide +kernel
theorem dX10_tide_2 : decode cX10_tide 2 = .ok (.invokevirtual 84, 3) := by decide +kernel
theorem dX10_tide_5 : decode cX10_tide 5 = .ok (.astore 4, 2) := by decide +kernel
theorem dX10_tide_7 : decode cX10_tide 7 = .ok (.aload 4, 2) := by decide +kernel
theorem dX10_tide_9 : decode cX10_tide 9 = .ok (.ifnull 19, 3) := by decide +kernel
theorem dX10_tide_12 : decode cX10_tide 12 = .ok (.iload_n 2, 1) := by decide +kernel
theorem dX10_tide_13 : decode cX10_tide 13 = .ok (.ifCond .lt 15, 3) := by decide +kernel
theorem dX10_tide_16 : decode cX10_tide 16 = .ok (.iload_n 2, 1) := by decide +kernel
theorem dX10_tide_17 : decode cX10_tide 17 = .ok (.iload_n 3, 1) := by decide +kernel
theorem dX10_tide_18 : decode cX10_tide 18 = .ok (.if_icmp .gt 10, 3) := by decide +kernel
theorem dX10_tide_21 : decode cX10_tide 21 = .ok (.iload_n 3, 1) := by decide +kernel
theorem dX10_tide_22 : decode cX10_tide 22 = .ok (.sipush 600, 3) := by decide +kernel
theorem dX10_tide_25 : decode cX10_tide 25 = .ok (.if_icmp .le 5, 3) := by decide +kernel
theorem dX10_tide_28 : decode cX10_tide 28 = .ok (.iconst (-1), 1) := by decide +kernel
theorem dX10_tide_29 : decode cX10_tide 29 = .ok (.ireturn, 1) := by decide +kernel
theorem dX10_tide_30 : decode cX10_tide 30 = .ok (.aload 4, 2) := by decide +kernel
theorem dX10_tide_32 : decode cX10_tide 32 = .ok (.iload_n 2, 1) := by decide +kernel
theorem dX10_tide_33 : decode cX10_tide 33 = .ok (.putfield 88, 3) := by decide +kernel
theorem dX10_tide_36 : decode cX10_tide 36 = .ok (.aload 4, 2) := by decide +kernel
theorem dX10_tide_38 : decode cX10_tide 38 = .ok (.iload_n 3, 1) := by decide +kernel
theorem dX10_tide_39 : decode cX10_tide 39 = .ok (.putfield 92, 3) := by decide +kernel
theorem dX10_tide_42 : decode cX10_tide 42 = .ok (.iconst 1, 1) := by decide +kernel
theorem dX10_tide_43 : decode cX10_tide 43 = .ok (.ireturn, 1) := by decide +kernel
set_option maxRecDepth 20000 in
theorem ggX10_rain_X7_addSpan : GoodIn wsX10_rain wsX7_addSpan := goodIn_r _ [9, 10, 11, 12, 26, 27, 28] (by decide +kernel) (by decide +kernel)
set_option maxRecDepth 20000 in
theorem gX10_rain_X7_addSpan : GoodIn wsX10_rain (wsV RX10 102 RX7 yX7_addSpan wsX7_addSpan) := goodIn_app (goodIn_of _ (by decide +kernel)) ggX10_rain_X7_addSpan
theorem dX10_rain_0 : decode cX10_rain 0 = .ok (.iload_n 1, 1) := by decide +kernel
theorem dX10_rain_1 : decode cX10_rain 1 = .ok (.aload_n 0, 1) := by decide +kernel
theorem dX10_rain_2 : decode cX10_rain 2 = .ok (.getfield 95, 3) := by decide +kernel
theorem dX10_rain_5 : decode cX10_rain 5 = .ok (.if_icmp .lt 14, 3) := by decide +kernel
theorem dX10_rain_8 : decode cX10_rain 8 = .ok (.iload_n 1, 1) := by decide +kernel
theorem dX10_rain_9 : decode cX10_rain 9 = .ok (.iload_n 2, 1) := by decide +kernel
theorem dX10_rain_10 : decode cX10_rain 10 = .ok (.if_icmp .ge 9, 3) := by decide +kernel
theorem dX10_rain_13 : decode cX10_rain 13 = .ok (.iload_n 2, 1) := by decide +kernel
theorem dX10_rain_14 : decode cX10_rain 14 = .ok (.ldc 98, 2) := by decide +kernel
theorem dX10_rain_16 : decode cX10_rain 16 = .ok (.if_icmp .le 5, 3) := by decide +kernel
theorem dX10_rain_19 : decode cX10_rain 19 = .ok (.iconst (-1), 1) := by decide +kernel
theorem dX10_rain_20 : decode cX10_rain 20 = .ok (.ireturn, 1) := by decide +kernel
theorem dX10_rain_21 : decode cX10_rain 21 = .ok (.aload_n 0, 1) := by decide +kernel
theorem dX10_rain_22 : decode cX10_rain 22 = .ok (.getfield 40, 3) := by decide +kernel
theorem dX10_rain_25 : decode cX10_rain 25 = .ok (.getfield 99, 3) := by decide +kernel
theorem dX10_rain_28 : decode cX10_rain 28 = .ok (.bipush 20, 2) := by decide +kernel
theorem dX10_rain_30 : decode cX10_rain 30 = .ok (.if_icmp .lt 6, 3) := by decide +kernel
theorem dX10_rain_33 : decode cX10_rain 33 = .ok (.bipush (-3), 2) := by decide +kernel
theorem dX10_rain_35 : decode cX10_rain 35 = .ok (.ireturn, 1) := by decide +kernel
theorem dX10_rain_36 : decode cX10_rain 36 = .ok (.aload_n 0, 1) := by decide +kernel
theorem dX10_rain_37 : decode cX10_rain 37 = .ok (.getfield 40, 3) := by decide +kernel
theorem dX10_rain_40 : decode cX10_rain 40 = .ok (.iload_n 1, 1) := by decide +kernel
theorem dX10_rain_41 : decode cX10_rain 41 = .ok (.iload_n 2, 1) := by decide +kernel
theorem dX10_rain_42 : decode cX10_rain 42 = .ok (.invokevirtual 102, 3) := by decide +kernel
theorem dX10_rain_45 : decode cX10_rain 45 = .ok (.aload_n 0, 1) := by decide +kernel
theorem dX10_rain_46 : decode cX10_rain 46 = .ok (.getfield 40, 3) := by decide +kernel
theorem dX10_rain_49 : decode cX10_rain 49 = .ok (.getfield 99, 3) := by decide +kernel
theorem dX10_rain_52 : decode cX10_rain 52 = .ok (.ireturn, 1) := by decide +kernel
set_option maxRecDepth 20000 in
theorem ggX10_way_X10_placeAt : GoodIn wsX10_way wsX10_placeAt := goodIn_r _ [5, 6, 7, 8, 9, 10, 11, 12, 13, 14, 15, 16, 17, 18, 19, 20, 21, 22, 23, 24, 25, 26, 27, 28, 29, 30, 60, 61, 62, 63, 64, 65, 66, 67, 68, 69, 70, 71, 72, 73, 74, 75] (by decide +kernel) (by decide +kernel)
set_option maxRecDepth 20000 in
theorem gX10_way_X10_placeAt : GoodIn wsX10_way (wsV RX10 84 RX10 yX10_placeAt wsX10_placeAt) := goodIn_app (goodIn_of _ (by decide +kernel)) ggX10_way_X10_placeAt
set_option maxRecDepth 20000 in
theorem ggX10_way_X4_farTo : GoodIn wsX10_way wsX4_farTo := goodIn_r _ [35, 36, 37, 38, 39, 40, 76, 77, 78, 79, 80] (by decide +kernel) (by decide +kernel)
set_option maxRecDepth 20000 in
theorem gX10_way_X4_farTo : GoodIn wsX10_way (wsV RX10 106 RX4 yX4_farTo wsX4_farTo) := goodIn_app (goodIn_of _ (by decide +kernel)) ggX10_way_X4_farTo
set_option maxRecDepth 20000 in
theorem ggX10_way_X4_upTo : GoodIn wsX10_way wsX4_upTo := goodIn_r _ [44, 45, 76, 77, 78, 79, 80] (by decide +kernel) (by decide +kernel)
set_option maxRecDepth 20000 in
theorem gX10_way_X4_upTo : GoodIn wsX10_way (wsV RX10 110 RX4 yX4_upTo wsX4_upTo) := goodIn_app (goodIn_of _ (by decide +kernel)) ggX10_way_X4_upTo
set_option maxRecDepth 20000 in
theorem ggX10_way_X10_wayMinutes : GoodIn wsX10_way wsX10_wayMinutes := goodIn_r _ [49, 50, 51, 31, 32, 33, 34, 35, 36, 37, 38, 39, 40, 41, 42, 43, 44, 45, 52, 53, 54, 55, 56, 57, 58, 59, 60, 61, 62, 63, 64, 65, 66, 67, 68, 69, 70, 71, 72, 76, 77, 78, 79, 80, 81, 82, 83] (by decide +kernel) (by decide +kernel)
set_option maxRecDepth 20000 in
theorem gX10_way_X10_wayMinutes : GoodIn wsX10_way (wsV RX10 113 RX10 yX10_wayMinutes wsX10_wayMinutes) := goodIn_app (goodIn_of _ (by decide +kernel)) ggX10_way_X10_wayMinutes
theorem dX10_way_0 : decode cX10_way 0 = .ok (.aload_n 0, 1) := by decide +kernel
theorem dX10_way_1 : decode cX10_way 1 = .ok (.iload_n 1, 1) := by decide +kernel
theorem dX10_way_2 : decode cX10_way 2 = .ok (.invokevirtual 84, 3) := by decide +kernel
theorem dX10_way_5 : decode cX10_way 5 = .ok (.astore 4, 2) := by decide +kernel
theorem dX10_way_7 : decode cX10_way 7 = .ok (.aload_n 0, 1) := by decide +kernel
theorem dX10_way_8 : decode cX10_way 8 = .ok (.iload_n 2, 1) := by decide +kernel
theorem dX10_way_9 : decode cX10_way 9 = .ok (.invokevirtual 84, 3) := by decide +kernel
theorem dX10_way_12 : decode cX10_way 12 = .ok (.astore 5, 2) := by decide +kernel
theorem dX10_way_14 : decode cX10_way 14 = .ok (.aload 4, 2) := by decide +kernel
theorem dX10_way_16 : decode cX10_way 16 = .ok (.ifnull 13, 3) := by decide +kernel
theorem dX10_way_19 : decode cX10_way 19 = .ok (.aload 5, 2) := by decide +kernel
theorem dX10_way_21 : decode cX10_way 21 = .ok (.ifnull 8, 3) := by decide +kernel
theorem dX10_way_24 : decode cX10_way 24 = .ok (.iload_n 1, 1) := by decide +kernel
theorem dX10_way_25 : decode cX10_way 25 = .ok (.iload_n 2, 1) := by decide +kernel
theorem dX10_way_26 : decode cX10_way 26 = .ok (.if_icmp .ne 5, 3) := by decide +kernel
theorem dX10_way_29 : decode cX10_way 29 = .ok (.iconst (-1), 1) := by decide +kernel
theorem dX10_way_30 : decode cX10_way 30 = .ok (.ireturn, 1) := by decide +kernel
theorem dX10_way_31 : decode cX10_way 31 = .ok (.iload_n 3, 1) := by decide +kernel
theorem dX10_way_32 : decode cX10_way 32 = .ok (.tableswitch 53 0 2 #[28, 36, 44], 28) := by decide +kernel
theorem dX10_way_60 : decode cX10_way 60 = .ok (.aload 4, 2) := by decide +kernel
theorem dX10_way_62 : decode cX10_way 62 = .ok (.aload 5, 2) := by decide +kernel
theorem dX10_way_64 : decode cX10_way 64 = .ok (.invokevirtual 106, 3) := by decide +kernel
theorem dX10_way_67 : decode cX10_way 67 = .ok (.ireturn, 1) := by decide +kernel
theorem dX10_way_68 : decode cX10_way 68 = .ok (.aload 4, 2) := by decide +kernel
theorem dX10_way_70 : decode cX10_way 70 = .ok (.aload 5, 2) := by decide +kernel
theorem dX10_way_72 : decode cX10_way 72 = .ok (.invokevirtual 110, 3) := by decide +kernel
theorem dX10_way_75 : decode cX10_way 75 = .ok (.ireturn, 1) := by decide +kernel
theorem dX10_way_76 : decode cX10_way 76 = .ok (.aload_n 0, 1) := by decide +kernel
theorem dX10_way_77 : decode cX10_way 77 = .ok (.aload 4, 2) := by decide +kernel
theorem dX10_way_79 : decode cX10_way 79 = .ok (.aload 5, 2) := by decide +kernel
theorem dX10_way_81 : decode cX10_way 81 = .ok (.invokevirtual 113, 3) := by decide +kernel
theorem dX10_way_84 : decode cX10_way 84 = .ok (.ireturn, 1) := by decide +kernel
theorem dX10_way_85 : decode cX10_way 85 = .ok (.iconst (-1), 1) := by decide +kernel
theorem dX10_way_86 : decode cX10_way 86 = .ok (.ireturn, 1) := by decide +kernel
set_option maxRecDepth 20000 in
theorem ggX10_man_X10_fellowshipAt : GoodIn wsX10_man wsX10_fellowshipAt := goodIn_r _ [9, 10, 11, 12, 13, 14, 15, 16, 17, 18, 19, 20, 21, 22, 23, 24, 25, 26, 27, 28, 29, 30, 31, 32, 33, 34, 108, 109, 110, 111, 112, 113, 114, 115, 116, 117, 118, 119, 120, 131, 132, 133] (by decide +kernel) (by decide +kernel)
set_option maxRecDepth 20000 in
theorem gX10_man_X10_fellowshipAt : GoodIn wsX10_man (wsV RX10 117 RX10 yX10_fellowshipAt wsX10_fellowshipAt) := goodIn_app (goodIn_of _ (by decide +kernel)) ggX10_man_X10_fellowshipAt
set_option maxRecDepth 20000 in
theorem ggX10_man_X10_within : GoodIn wsX10_man wsX10_within := goodIn_r _ [37] (by decide +kernel) (by decide +kernel)
set_option maxRecDepth 20000 in
theorem gX10_man_X10_within : GoodIn wsX10_man (va_wsS RX10 71 yX10_within wsX10_within) := goodIn_app (goodIn_of _ (by decide +kernel)) ggX10_man_X10_within
set_option maxRecDepth 20000 in
theorem ggX10_man_X10_placeAt : GoodIn wsX10_man wsX10_placeAt := goodIn_r _ [41, 42, 43, 12, 13, 14, 15, 16, 17, 18, 19, 20, 21, 22, 23, 24, 25, 26, 27, 28, 29, 30, 31, 32, 33, 34, 108, 109, 110, 111, 112, 113, 114, 115, 116, 117, 118, 119, 120, 131, 132, 133] (by decide +kernel) (by decide +kernel)
set_option maxRecDepth 20000 in
theorem gX10_man_X10_placeAt : GoodIn wsX10_man (wsV RX10 84 RX10 yX10_placeAt wsX10_placeAt) := goodIn_app (goodIn_of _ (by decide +kernel)) ggX10_man_X10_placeAt
set_option maxRecDepth 20000 in
theorem ggX10_man_Jx4a65c_size_8abf5 : GoodIn wsX10_man wsJx4a65c_size_8abf5 := goodIn_r _ [16, 17, 131, 132, 133] (by decide +kernel) (by decide +kernel)
set_option maxRecDepth 20000 in
theorem gX10_man_Jx4a65c_size_8abf5 : GoodIn wsX10_man (wsV RX10 75 RJx4a65c yJx4a65c_size_8abf5 wsJx4a65c_size_8abf5) := goodIn_app (goodIn_of _ (by decide +kernel)) ggX10_man_Jx4a65c_size_8abf5
set_option maxRecDepth 20000 in
theorem ggX10_man_X3_init : GoodIn wsX10_man wsX3_init := goodIn_r _ [46, 47, 48, 49, 50, 51, 52, 53, 54, 121, 122, 123, 124, 125, 126, 127, 128, 129, 130] (by decide +kernel) (by decide +kernel)
set_option maxRecDepth 20000 in
theorem gX10_man_X3_init : GoodIn wsX10_man (wsX3_init) := ggX10_man_X3_init
set_option maxRecDepth 20000 in
theorem ggX10_man_Jx4a65c_add_9ea2d : GoodIn wsX10_man wsJx4a65c_add_9ea2d := goodIn_r _ [58, 59, 60, 34, 17, 61, 62, 63, 15, 64, 65, 66, 67, 68, 69, 70, 71, 72, 73, 74, 75, 76, 77, 78, 79, 80, 81, 82, 83, 84, 85, 86, 87, 88, 89, 90, 91, 92, 93, 94, 95, 96, 97, 98, 99, 100, 101, 102, 103, 104, 105, 106, 107, 131, 132, 133] (by decide +kernel) (by decide +kernel)
set_option maxRecDepth 20000 in
theorem gX10_man_Jx4a65c_add_9ea2d : GoodIn wsX10_man (wsV RX10 33 RJx4a65c yJx4a65c_add_9ea2d wsJx4a65c_add_9ea2d) := goodIn_app (goodIn_of _ (by decide +kernel)) ggX10_man_Jx4a65c_add_9ea2d
theorem dX10_man_0 : decode cX10_man 0 = .ok (.aload_n 0, 1) := by decide +kernel
theorem dX10_man_1 : decode cX10_man 1 = .ok (.iload_n 1, 1) := by decide +kernel
theorem dX10_man_2 : decode cX10_man 2 = .ok (.invokevirtual 117, 3) := by decide +kernel
theorem dX10_man_5 : decode cX10_man 5 = .ok (.ifnull 33, 3) := by decide +kernel
theorem dX10_man_8 : decode cX10_man 8 = .ok (.iload_n 2, 1) := by decide +kernel
theorem dX10_man_9 : decode cX10_man 9 = .ok (.iconst 1, 1) := by decide +kernel
theorem dX10_man_10 : decode cX10_man 10 = .ok (.bipush 99, 2) := by decide +kernel
theorem dX10_man_12 : decode cX10_man 12 = .ok (.invokestatic 71, 3) := by decide +kernel
theorem dX10_man_15 : decode cX10_man 15 = .ok (.ifCond .eq 23, 3) := by decide +kernel
theorem dX10_man_18 : decode cX10_man 18 = .ok (.iload_n 3, 1) := by decide +kernel
theorem dX10_man_19 : decode cX10_man 19 = .ok (.bipush 16, 2) := by decide +kernel
theorem dX10_man_21 : decode cX10_man 21 = .ok (.bipush 90, 2) := by decide +kernel
theorem dX10_man_23 : decode cX10_man 23 = .ok (.invokestatic 71, 3) := by decide +kernel
theorem dX10_man_26 : decode cX10_man 26 = .ok (.ifCond .eq 12, 3) := by decide +kernel
theorem dX10_man_29 : decode cX10_man 29 = .ok (.aload_n 0, 1) := by decide +kernel
theorem dX10_man_30 : decode cX10_man 30 = .ok (.iload 4, 2) := by decide +kernel
theorem dX10_man_32 : decode cX10_man 32 = .ok (.invokevirtual 84, 3) := by decide +kernel
theorem dX10_man_35 : decode cX10_man 35 = .ok (.ifnonnull 5, 3) := by decide +kernel
theorem dX10_man_38 : decode cX10_man 38 = .ok (.iconst (-1), 1) := by decide +kernel
theorem dX10_man_39 : decode cX10_man 39 = .ok (.ireturn, 1) := by decide +kernel
theorem dX10_man_40 : decode cX10_man 40 = .ok (.aload_n 0, 1) := by decide +kernel
theorem dX10_man_41 : decode cX10_man 41 = .ok (.getfield 16, 3) := by decide +kernel
theorem dX10_man_44 : decode cX10_man 44 = .ok (.invokevirtual 75, 3) := by decide +kernel
theorem dX10_man_47 : decode cX10_man 47 = .ok (.bipush 60, 2) := by decide +kernel
theorem dX10_man_49 : decode cX10_man 49 = .ok (.if_icmp .lt 6, 3) := by decide +kernel
theorem dX10_man_52 : decode cX10_man 52 = .ok (.bipush (-3), 2) := by decide +kernel
theorem dX10_man_54 : decode cX10_man 54 = .ok (.ireturn, 1) := by decide +kernel
theorem dX10_man_55 : decode cX10_man 55 = .ok (.aload_n 0, 1) := by decide +kernel
theorem dX10_man_56 : decode cX10_man 56 = .ok (.getfield 16, 3) := by decide +kernel
theorem dX10_man_59 : decode cX10_man 59 = .ok (.new 121, 3) := by decide +kernel
theorem dX10_man_62 : decode cX10_man 62 = .ok (.dup, 1) := by decide +kernel
theorem dX10_man_63 : decode cX10_man 63 = .ok (.aload_n 0, 1) := by decide +kernel
theorem dX10_man_64 : decode cX10_man 64 = .ok (.getfield 16, 3) := by decide +kernel
theorem dX10_man_67 : decode cX10_man 67 = .ok (.invokevirtual 75, 3) := by decide +kernel
theorem dX10_man_70 : decode cX10_man 70 = .ok (.iload_n 1, 1) := by decide +kernel
theorem dX10_man_71 : decode cX10_man 71 = .ok (.iload_n 2, 1) := by decide +kernel
theorem dX10_man_72 : decode cX10_man 72 = .ok (.iload_n 3, 1) := by decide +kernel
theorem dX10_man_73 : decode cX10_man 73 = .ok (.invokespecial 123, 3) := by decide +kernel
theorem dX10_man_76 : decode cX10_man 76 = .ok (.invokevirtual 33, 3) := by decide +kernel
theorem dX10_man_79 : decode cX10_man 79 = .ok (.pop, 1) := by decide +kernel
theorem dX10_man_80 : decode cX10_man 80 = .ok (.aload_n 0, 1) := by decide +kernel
theorem dX10_man_81 : decode cX10_man 81 = .ok (.getfield 16, 3) := by decide +kernel
theorem dX10_man_84 : decode cX10_man 84 = .ok (.invokevirtual 75, 3) := by decide +kernel
theorem dX10_man_87 : decode cX10_man 87 = .ok (.iconst 1, 1) := by decide +kernel
theorem dX10_man_88 : decode cX10_man 88 = .ok (.isub, 1) := by decide +kernel
theorem dX10_man_89 : decode cX10_man 89 = .ok (.ireturn, 1) := by decide +kernel
set_option maxRecDepth 20000 in
theorem ggX10_join_X10_manAt : GoodIn wsX10_join wsX10_manAt := goodIn_r _ [8, 9, 10, 11, 12, 13, 14, 15, 16, 17, 18, 19, 20, 21, 22, 23, 24, 25, 26, 27, 28, 29, 30, 31, 32, 33, 114, 115, 116, 117, 118, 119, 120, 121, 122, 123, 124, 125, 126, 147, 148, 149] (by decide +kernel) (by decide +kernel)
set_option maxRecDepth 20000 in
theorem gX10_join_X10_manAt : GoodIn wsX10_join (wsV RX10 126 RX10 yX10_manAt wsX10_manAt) := goodIn_app (goodIn_of _ (by decide +kernel)) ggX10_join_X10_manAt
set_option maxRecDepth 20000 in
theorem ggX10_join_X10_fellowshipOf : GoodIn wsX10_join wsX10_fellowshipOf := goodIn_r _ [37, 38, 39, 40, 41, 7, 42, 43, 44, 11, 12, 13, 14, 15, 16, 17, 18, 19, 20, 21, 22, 23, 24, 25, 26, 27, 28, 29, 30, 31, 32, 33, 127, 128, 129, 130, 131, 132, 133, 134, 135, 136, 114, 115, 116, 117, 118, 119, 120, 121, 122, 123, 124, 125, 126, 147, 148, 149] (by decide +kernel) (by decide +kernel)
set_option maxRecDepth 20000 in
theorem gX10_join_X10_fellowshipOf : GoodIn wsX10_join (wsV RX10 130 RX10 yX10_fellowshipOf wsX10_fellowshipOf) := goodIn_app (goodIn_of _ (by decide +kernel)) ggX10_join_X10_fellowshipOf
set_option maxRecDepth 20000 in
theorem ggX10_join_X0_placeInRow : GoodIn wsX10_join wsX0_placeInRow := goodIn_r _ [49, 50, 51, 52, 53, 12, 13, 14, 15, 16, 54, 18, 19, 20, 21, 22, 23, 24, 25, 26, 27, 28, 29, 30, 31, 32, 33, 137, 138, 139, 140, 141, 142, 143, 144, 145, 146, 127, 128, 129, 130, 131, 132, 133, 134, 135, 136, 147, 148, 149] (by decide +kernel) (by decide +kernel)
set_option maxRecDepth 20000 in
theorem gX10_join_X0_placeInRow : GoodIn wsX10_join (wsV RX10 134 RX0 yX0_placeInRow wsX0_placeInRow) := goodIn_app (goodIn_of _ (by decide +kernel)) ggX10_join_X0_placeInRow
set_option maxRecDepth 20000 in
theorem ggX10_join_X3_freeAt : GoodIn wsX10_join wsX3_freeAt := goodIn_r _ [59, 60, 127, 128, 129, 130, 131, 132, 133, 134, 135, 136] (by decide +kernel) (by decide +kernel)
set_option maxRecDepth 20000 in
theorem gX10_join_X3_freeAt : GoodIn wsX10_join (wsV RX10 138 RX3 yX3_freeAt wsX3_freeAt) := goodIn_app (goodIn_of _ (by decide +kernel)) ggX10_join_X3_freeAt
set_option maxRecDepth 20000 in
theorem ggX10_join_Jx4a65c_add_9ea2d : GoodIn wsX10_join wsJx4a65c_add_9ea2d := goodIn_r _ [64, 65, 66, 33, 16, 67, 68, 69, 14, 70, 71, 72, 73, 74, 75, 76, 77, 78, 79, 80, 81, 82, 83, 84, 85, 86, 87, 88, 89, 90, 91, 92, 93, 94, 95, 96, 97, 98, 99, 100, 101, 102, 103, 104, 105, 106, 107, 108, 109, 110, 111, 112, 113, 147, 148, 149] (by decide +kernel) (by decide +kernel)
set_option maxRecDepth 20000 in
theorem gX10_join_Jx4a65c_add_9ea2d : GoodIn wsX10_join (wsV RX10 33 RJx4a65c yJx4a65c_add_9ea2d wsJx4a65c_add_9ea2d) := goodIn_app (goodIn_of _ (by decide +kernel)) ggX10_join_Jx4a65c_add_9ea2d
set_option maxRecDepth 20000 in
theorem ggX10_join_Jx4a65c_size_8abf5 : GoodIn wsX10_join wsJx4a65c_size_8abf5 := goodIn_r _ [15, 16, 147, 148, 149] (by decide +kernel) (by decide +kernel)
set_option maxRecDepth 20000 in
theorem gX10_join_Jx4a65c_size_8abf5 : GoodIn wsX10_join (wsV RX10 75 RJx4a65c yJx4a65c_size_8abf5 wsJx4a65c_size_8abf5) := goodIn_app (goodIn_of _ (by decide +kernel)) ggX10_join_Jx4a65c_size_8abf5
theorem dX10_join_0 : decode cX10_join 0 = .ok (.aload_n 0, 1) := by decide +kernel
theorem dX10_join_1 : decode cX10_join 1 = .ok (.iload_n 1, 1) := by decide +kernel
theorem dX10_join_2 : decode cX10_join 2 = .ok (.invokevirtual 126, 3) := by decide +kernel
theorem dX10_join_5 : decode cX10_join 5 = .ok (.astore_n 2, 1) := by decide +kernel
theorem dX10_join_6 : decode cX10_join 6 = .ok (.aload_n 0, 1) := by decide +kernel
theorem dX10_join_7 : decode cX10_join 7 = .ok (.aload_n 2, 1) := by decide +kernel
theorem dX10_join_8 : decode cX10_join 8 = .ok (.invokevirtual 130, 3) := by decide +kernel
theorem dX10_join_11 : decode cX10_join 11 = .ok (.astore_n 3, 1) := by decide +kernel
theorem dX10_join_12 : decode cX10_join 12 = .ok (.aload_n 2, 1) := by decide +kernel
theorem dX10_join_13 : decode cX10_join 13 = .ok (.ifnull 7, 3) := by decide +kernel
theorem dX10_join_16 : decode cX10_join 16 = .ok (.aload_n 3, 1) := by decide +kernel
theorem dX10_join_17 : decode cX10_join 17 = .ok (.ifnonnull 5, 3) := by decide +kernel
theorem dX10_join_20 : decode cX10_join 20 = .ok (.iconst (-1), 1) := by decide +kernel
theorem dX10_join_21 : decode cX10_join 21 = .ok (.ireturn, 1) := by decide +kernel
theorem dX10_join_22 : decode cX10_join 22 = .ok (.aload_n 3, 1) := by decide +kernel
theorem dX10_join_23 : decode cX10_join 23 = .ok (.iload_n 1, 1) := by decide +kernel
theorem dX10_join_24 : decode cX10_join 24 = .ok (.invokevirtual 134, 3) := by decide +kernel
theorem dX10_join_27 : decode cX10_join 27 = .ok (.ifCond .ge 21, 3) := by decide +kernel
theorem dX10_join_30 : decode cX10_join 30 = .ok (.aload_n 2, 1) := by decide +kernel
theorem dX10_join_31 : decode cX10_join 31 = .ok (.aload_n 0, 1) := by decide +kernel
theorem dX10_join_32 : decode cX10_join 32 = .ok (.getfield 95, 3) := by decide +kernel
theorem dX10_join_35 : decode cX10_join 35 = .ok (.invokevirtual 138, 3) := by decide +kernel
theorem dX10_join_38 : decode cX10_join 38 = .ok (.ifCond .eq 10, 3) := by decide +kernel
theorem dX10_join_41 : decode cX10_join 41 = .ok (.aload_n 2, 1) := by decide +kernel
theorem dX10_join_42 : decode cX10_join 42 = .ok (.getfield 142, 3) := by decide +kernel
theorem dX10_join_45 : decode cX10_join 45 = .ok (.ifCond .eq 6, 3) := by decide +kernel
theorem dX10_join_48 : decode cX10_join 48 = .ok (.bipush (-2), 2) := by decide +kernel
theorem dX10_join_50 : decode cX10_join 50 = .ok (.ireturn, 1) := by decide +kernel
theorem dX10_join_51 : decode cX10_join 51 = .ok (.aload_n 3, 1) := by decide +kernel
theorem dX10_join_52 : decode cX10_join 52 = .ok (.getfield 146, 3) := by decide +kernel
theorem dX10_join_55 : decode cX10_join 55 = .ok (.aload_n 2, 1) := by decide +kernel
theorem dX10_join_56 : decode cX10_join 56 = .ok (.invokevirtual 33, 3) := by decide +kernel
theorem dX10_join_59 : decode cX10_join 59 = .ok (.pop, 1) := by decide +kernel
theorem dX10_join_60 : decode cX10_join 60 = .ok (.aload_n 3, 1) := by decide +kernel
theorem dX10_join_61 : decode cX10_join 61 = .ok (.getfield 146, 3) := by decide +kernel
theorem dX10_join_64 : decode cX10_join 64 = .ok (.invokevirtual 75, 3) := by decide +kernel
theorem dX10_join_67 : decode cX10_join 67 = .ok (.ireturn, 1) := by decide +kernel
set_option maxRecDepth 20000 in
theorem ggX10_leave_X10_manAt : GoodIn wsX10_leave wsX10_manAt := goodIn_r _ [5, 6, 7, 8, 9, 10, 11, 12, 13, 14, 15, 16, 17, 18, 19, 20, 21, 22, 23, 24, 25, 26, 27, 28, 29, 30, 70, 71, 72, 73, 74, 75, 76, 77, 78, 79, 80, 81, 82, 83, 84, 85] (by decide +kernel) (by decide +kernel)
set_option maxRecDepth 20000 in
theorem gX10_leave_X10_manAt : GoodIn wsX10_leave (wsV RX10 126 RX10 yX10_manAt wsX10_manAt) := goodIn_app (goodIn_of _ (by decide +kernel)) ggX10_leave_X10_manAt
set_option maxRecDepth 20000 in
theorem ggX10_leave_X10_fellowshipOf : GoodIn wsX10_leave wsX10_fellowshipOf := goodIn_r _ [34, 35, 36, 37, 38, 4, 39, 40, 41, 8, 9, 10, 11, 12, 13, 14, 15, 16, 17, 18, 19, 20, 21, 22, 23, 24, 25, 26, 27, 28, 29, 30, 86, 87, 88, 89, 90, 91, 92, 93, 94, 95, 70, 71, 72, 73, 74, 75, 76, 77, 78, 79, 80, 81, 82, 83, 84, 85] (by decide +kernel) (by decide +kernel)
set_option maxRecDepth 20000 in
theorem gX10_leave_X10_fellowshipOf : GoodIn wsX10_leave (wsV RX10 130 RX10 yX10_fellowshipOf wsX10_fellowshipOf) := goodIn_app (goodIn_of _ (by decide +kernel)) ggX10_leave_X10_fellowshipOf
set_option maxRecDepth 20000 in
theorem ggX10_leave_X0_dropFromRow : GoodIn wsX10_leave wsX0_dropFromRow := goodIn_r _ [46, 47, 48, 49, 50, 45, 51, 52, 53, 54, 9, 10, 11, 12, 13, 55, 15, 16, 17, 18, 19, 20, 21, 22, 23, 24, 25, 26, 27, 28, 29, 30, 56, 57, 58, 59, 60, 61, 62, 63, 64, 65, 66, 67, 68, 69, 96, 97, 98, 99, 100, 101, 102, 103, 104, 105, 86, 87, 88, 89, 90, 91, 92, 93, 94, 95, 83, 84, 85] (by decide +kernel) (by decide +kernel)
set_option maxRecDepth 20000 in
theorem gX10_leave_X0_dropFromRow : GoodIn wsX10_leave (wsV RX10 149 RX0 yX0_dropFromRow wsX0_dropFromRow) := goodIn_app (goodIn_of _ (by decide +kernel)) ggX10_leave_X0_dropFromRow
theorem dX10_leave_0 : decode cX10_leave 0 = .ok (.aload_n 0, 1) := by decide +kernel
theorem dX10_leave_1 : decode cX10_leave 1 = .ok (.aload_n 0, 1) := by decide +kernel
theorem dX10_leave_2 : decode cX10_leave 2 = .ok (.iload_n 1, 1) := by decide +kernel
theorem dX10_leave_3 : decode cX10_leave 3 = .ok (.invokevirtual 126, 3) := by decide +kernel
theorem dX10_leave_6 : decode cX10_leave 6 = .ok (.invokevirtual 130, 3) := by decide +kernel
theorem dX10_leave_9 : decode cX10_leave 9 = .ok (.astore_n 2, 1) := by decide +kernel
theorem dX10_leave_10 : decode cX10_leave 10 = .ok (.aload_n 2, 1) := by decide +kernel
theorem dX10_leave_11 : decode cX10_leave 11 = .ok (.ifnonnull 5, 3) := by decide +kernel
theorem dX10_leave_14 : decode cX10_leave 14 = .ok (.iconst (-1), 1) := by decide +kernel
theorem dX10_leave_15 : decode cX10_leave 15 = .ok (.ireturn, 1) := by decide +kernel
theorem dX10_leave_16 : decode cX10_leave 16 = .ok (.aload_n 2, 1) := by decide +kernel
theorem dX10_leave_17 : decode cX10_leave 17 = .ok (.iload_n 1, 1) := by decide +kernel
theorem dX10_leave_18 : decode cX10_leave 18 = .ok (.invokevirtual 149, 3) := by decide +kernel
theorem dX10_leave_21 : decode cX10_leave 21 = .ok (.ifCond .eq 7, 3) := by decide +kernel
theorem dX10_leave_24 : decode cX10_leave 24 = .ok (.iconst 1, 1) := by decide +kernel
theorem dX10_leave_25 : decode cX10_leave 25 = .ok (.goto 5, 3) := by decide +kernel
theorem dX10_leave_28 : decode cX10_leave 28 = .ok (.bipush (-2), 2) := by decide +kernel
theorem dX10_leave_30 : decode cX10_leave 30 = .ok (.ireturn, 1) := by decide +kernel
set_option maxRecDepth 20000 in
theorem ggX10_gone_X10_manAt : GoodIn wsX10_gone wsX10_manAt := goodIn_r _ [7, 8, 9, 10, 11, 12, 13, 14, 15, 16, 17, 18, 19, 20, 21, 22, 23, 24, 25, 26, 27, 28, 29, 30, 31, 32, 88, 89, 90, 91, 92, 93, 94, 95, 96, 97, 98, 99, 100, 101, 102, 103] (by decide +kernel) (by decide +kernel)
set_option maxRecDepth 20000 in
theorem gX10_gone_X10_manAt : GoodIn wsX10_gone (wsV RX10 126 RX10 yX10_manAt wsX10_manAt) := goodIn_app (goodIn_of _ (by decide +kernel)) ggX10_gone_X10_manAt
set_option maxRecDepth 20000 in
theorem ggX10_gone_X10_fellowshipOf : GoodIn wsX10_gone wsX10_fellowshipOf := goodIn_r _ [36, 37, 38, 39, 40, 6, 41, 42, 43, 10, 11, 12, 13, 14, 15, 16, 17, 18, 19, 20, 21, 22, 23, 24, 25, 26, 27, 28, 29, 30, 31, 32, 78, 79, 80, 81, 82, 83, 84, 85, 86, 87, 88, 89, 90, 91, 92, 93, 94, 95, 96, 97, 98, 99, 100, 101, 102, 103] (by decide +kernel) (by decide +kernel)
set_option maxRecDepth 20000 in
theorem gX10_gone_X10_fellowshipOf : GoodIn wsX10_gone (wsV RX10 130 RX10 yX10_fellowshipOf wsX10_fellowshipOf) := goodIn_app (goodIn_of _ (by decide +kernel)) ggX10_gone_X10_fellowshipOf
set_option maxRecDepth 20000 in
theorem ggX10_gone_X3_freeAt : GoodIn wsX10_gone wsX3_freeAt := goodIn_r _ [48, 49, 78, 79, 80, 81, 82, 83, 84, 85, 86, 87] (by decide +kernel) (by decide +kernel)
set_option maxRecDepth 20000 in
theorem gX10_gone_X3_freeAt : GoodIn wsX10_gone (wsV RX10 138 RX3 yX3_freeAt wsX3_freeAt) := goodIn_app (goodIn_of _ (by decide +kernel)) ggX10_gone_X3_freeAt
set_option maxRecDepth 20000 in
theorem ggX10_gone_X0_dropFromRow : GoodIn wsX10_gone wsX0_dropFromRow := goodIn_r _ [54, 55, 56, 57, 58, 53, 59, 60, 61, 62, 11, 12, 13, 14, 15, 63, 17, 18, 19, 20, 21, 22, 23, 24, 25, 26, 27, 28, 29, 30, 31, 32, 64, 65, 66, 67, 68, 69, 70, 71, 72, 73, 74, 75, 76, 77, 104, 105, 106, 107, 108, 109, 110, 111, 112, 113, 78, 79, 80, 81, 82, 83, 84, 85, 86, 87, 101, 102, 103] (by decide +kernel) (by decide +kernel)
set_option maxRecDepth 20000 in
theorem gX10_gone_X0_dropFromRow : GoodIn wsX10_gone (wsV RX10 149 RX0 yX0_dropFromRow wsX0_dropFromRow) := goodIn_app (goodIn_of _ (by decide +kernel)) ggX10_gone_X0_dropFromRow
theorem dX10_gone_0 : decode cX10_gone 0 = .ok (.aload_n 0, 1) := by decide +kernel
theorem dX10_gone_1 : decode cX10_gone 1 = .ok (.iload_n 1, 1) := by decide +kernel
theorem dX10_gone_2 : decode cX10_gone 2 = .ok (.invokevirtual 126, 3) := by decide +kernel
theorem dX10_gone_5 : decode cX10_gone 5 = .ok (.astore_n 2, 1) := by decide +kernel
theorem dX10_gone_6 : decode cX10_gone 6 = .ok (.aload_n 0, 1) := by decide +kernel
theorem dX10_gone_7 : decode cX10_gone 7 = .ok (.aload_n 2, 1) := by decide +kernel
theorem dX10_gone_8 : decode cX10_gone 8 = .ok (.invokevirtual 130, 3) := by decide +kernel
theorem dX10_gone_11 : decode cX10_gone 11 = .ok (.astore_n 3, 1) := by decide +kernel
theorem dX10_gone_12 : decode cX10_gone 12 = .ok (.aload_n 2, 1) := by decide +kernel
theorem dX10_gone_13 : decode cX10_gone 13 = .ok (.ifnull 7, 3) := by decide +kernel
theorem dX10_gone_16 : decode cX10_gone 16 = .ok (.aload_n 3, 1) := by decide +kernel
theorem dX10_gone_17 : decode cX10_gone 17 = .ok (.ifnonnull 5, 3) := by decide +kernel
theorem dX10_gone_20 : decode cX10_gone 20 = .ok (.iconst (-1), 1) := by decide +kernel
theorem dX10_gone_21 : decode cX10_gone 21 = .ok (.ireturn, 1) := by decide +kernel
theorem dX10_gone_22 : decode cX10_gone 22 = .ok (.aload_n 2, 1) := by decide +kernel
theorem dX10_gone_23 : decode cX10_gone 23 = .ok (.getfield 142, 3) := by decide +kernel
theorem dX10_gone_26 : decode cX10_gone 26 = .ok (.ifCond .ne 14, 3) := by decide +kernel
theorem dX10_gone_29 : decode cX10_gone 29 = .ok (.aload_n 2, 1) := by decide +kernel
theorem dX10_gone_30 : decode cX10_gone 30 = .ok (.aload_n 0, 1) := by decide +kernel
theorem dX10_gone_31 : decode cX10_gone 31 = .ok (.getfield 95, 3) := by decide +kernel
theorem dX10_gone_34 : decode cX10_gone 34 = .ok (.invokevirtual 138, 3) := by decide +kernel
theorem dX10_gone_37 : decode cX10_gone 37 = .ok (.ifCond .ne 6, 3) := by decide +kernel
theorem dX10_gone_40 : decode cX10_gone 40 = .ok (.bipush (-2), 2) := by decide +kernel
theorem dX10_gone_42 : decode cX10_gone 42 = .ok (.ireturn, 1) := by decide +kernel
theorem dX10_gone_43 : decode cX10_gone 43 = .ok (.aload_n 2, 1) := by decide +kernel
theorem dX10_gone_44 : decode cX10_gone 44 = .ok (.iconst 1, 1) := by decide +kernel
theorem dX10_gone_45 : decode cX10_gone 45 = .ok (.putfield 142, 3) := by decide +kernel
theorem dX10_gone_48 : decode cX10_gone 48 = .ok (.aload_n 3, 1) := by decide +kernel
theorem dX10_gone_49 : decode cX10_gone 49 = .ok (.iload_n 1, 1) := by decide +kernel
theorem dX10_gone_50 : decode cX10_gone 50 = .ok (.invokevirtual 149, 3) := by decide +kernel
theorem dX10_gone_53 : decode cX10_gone 53 = .ok (.pop, 1) := by decide +kernel
theorem dX10_gone_54 : decode cX10_gone 54 = .ok (.iconst 1, 1) := by decide +kernel
theorem dX10_gone_55 : decode cX10_gone 55 = .ok (.ireturn, 1) := by decide +kernel
set_option maxRecDepth 20000 in
theorem ggX10_about_X10_manAt : GoodIn wsX10_about wsX10_manAt := goodIn_r _ [14, 15, 16, 17, 18, 19, 20, 21, 22, 23, 24, 25, 26, 27, 28, 29, 30, 31, 32, 33, 34, 35, 36, 37, 38, 39, 70, 71, 72, 73, 74, 75, 76, 77, 78, 79, 80, 81, 82, 83, 84, 85] (by decide +kernel) (by decide +kernel)
set_option maxRecDepth 20000 in
theorem gX10_about_X10_manAt : GoodIn wsX10_about (wsV RX10 126 RX10 yX10_manAt wsX10_manAt) := goodIn_app (goodIn_of _ (by decide +kernel)) ggX10_about_X10_manAt
set_option maxRecDepth 20000 in
theorem ggX10_about_X10_fellowshipOf : GoodIn wsX10_about wsX10_fellowshipOf := goodIn_r _ [43, 1, 44, 45, 46, 13, 47, 48, 49, 17, 18, 19, 20, 21, 22, 23, 24, 25, 26, 27, 28, 29, 30, 31, 32, 33, 34, 35, 36, 37, 38, 39, 60, 61, 62, 63, 64, 65, 66, 67, 68, 69, 70, 71, 72, 73, 74, 75, 76, 77, 78, 79, 80, 81, 82, 83, 84, 85] (by decide +kernel) (by decide +kernel)
set_option maxRecDepth 20000 in
theorem gX10_about_X10_fellowshipOf : GoodIn wsX10_about (wsV RX10 130 RX10 yX10_fellowshipOf wsX10_fellowshipOf) := goodIn_app (goodIn_of _ (by decide +kernel)) ggX10_about_X10_fellowshipOf
set_option maxRecDepth 20000 in
theorem ggX10_about_X0_placeInRow : GoodIn wsX10_about wsX0_placeInRow := goodIn_r _ [54, 55, 56, 57, 58, 18, 19, 20, 21, 22, 59, 24, 25, 26, 27, 28, 29, 30, 31, 32, 33, 34, 35, 36, 37, 38, 39, 86, 87, 88, 89, 90, 91, 92, 93, 94, 95, 60, 61, 62, 63, 64, 65, 66, 67, 68, 69, 83, 84, 85] (by decide +kernel) (by decide +kernel)
set_option maxRecDepth 20000 in
theorem gX10_about_X0_placeInRow : GoodIn wsX10_about (wsV RX10 134 RX0 yX0_placeInRow wsX0_placeInRow) := goodIn_app (goodIn_of _ (by decide +kernel)) ggX10_about_X0_placeInRow
theorem dX10_about_0 : decode cX10_about 0 = .ok (.aload_n 0, 1) := by decide +kernel
theorem dX10_about_1 : decode cX10_about 1 = .ok (.iload_n 1, 1) := by decide +kernel
theorem dX10_about_2 : decode cX10_about 2 = .ok (.invokevirtual 126, 3) := by decide +kernel
theorem dX10_about_5 : decode cX10_about 5 = .ok (.astore_n 3, 1) := by decide +kernel
theorem dX10_about_6 : decode cX10_about 6 = .ok (.aload_n 0, 1) := by decide +kernel
theorem dX10_about_7 : decode cX10_about 7 = .ok (.aload_n 3, 1) := by decide +kernel
theorem dX10_about_8 : decode cX10_about 8 = .ok (.invokevirtual 130, 3) := by decide +kernel
theorem dX10_about_11 : decode cX10_about 11 = .ok (.astore 4, 2) := by decide +kernel
theorem dX10_about_13 : decode cX10_about 13 = .ok (.aload_n 3, 1) := by decide +kernel
theorem dX10_about_14 : decode cX10_about 14 = .ok (.ifnull 8, 3) := by decide +kernel
theorem dX10_about_17 : decode cX10_about 17 = .ok (.aload 4, 2) := by decide +kernel
theorem dX10_about_19 : decode cX10_about 19 = .ok (.ifnonnull 6, 3) := by decide +kernel
theorem dX10_about_22 : decode cX10_about 22 = .ok (.bipush (-2), 2) := by decide +kernel
theorem dX10_about_24 : decode cX10_about 24 = .ok (.ireturn, 1) := by decide +kernel
theorem dX10_about_25 : decode cX10_about 25 = .ok (.iload_n 2, 1) := by decide +kernel
theorem dX10_about_26 : decode cX10_about 26 = .ok (.tableswitch 114 0 9 #[54, 59, 64, 69, 74, 79, 84, 89, 96, 109], 54) := by decide +kernel
theorem dX10_about_80 : decode cX10_about 80 = .ok (.aload_n 3, 1) := by decide +kernel
theorem dX10_about_81 : decode cX10_about 81 = .ok (.getfield 152, 3) := by decide +kernel
theorem dX10_about_84 : decode cX10_about 84 = .ok (.ireturn, 1) := by decide +kernel
theorem dX10_about_85 : decode cX10_about 85 = .ok (.aload_n 3, 1) := by decide +kernel
theorem dX10_about_86 : decode cX10_about 86 = .ok (.getfield 155, 3) := by decide +kernel
theorem dX10_about_89 : decode cX10_about 89 = .ok (.ireturn, 1) := by decide +kernel
theorem dX10_about_90 : decode cX10_about 90 = .ok (.aload_n 3, 1) := by decide +kernel
theorem dX10_about_91 : decode cX10_about 91 = .ok (.getfield 158, 3) := by decide +kernel
theorem dX10_about_94 : decode cX10_about 94 = .ok (.ireturn, 1) := by decide +kernel
theorem dX10_about_95 : decode cX10_about 95 = .ok (.aload_n 3, 1) := by decide +kernel
theorem dX10_about_96 : decode cX10_about 96 = .ok (.getfield 161, 3) := by decide +kernel
theorem dX10_about_99 : decode cX10_about 99 = .ok (.ireturn, 1) := by decide +kernel
theorem dX10_about_100 : decode cX10_about 100 = .ok (.aload_n 3, 1) := by decide +kernel
theorem dX10_about_101 : decode cX10_about 101 = .ok (.getfield 164, 3) := by decide +kernel
theorem dX10_about_104 : decode cX10_about 104 = .ok (.ireturn, 1) := by decide +kernel
theorem dX10_about_105 : decode cX10_about 105 = .ok (.aload_n 3, 1) := by decide +kernel
theorem dX10_about_106 : decode cX10_about 106 = .ok (.getfield 167, 3) := by decide +kernel
theorem dX10_about_109 : decode cX10_about 109 = .ok (.ireturn, 1) := by decide +kernel
theorem dX10_about_110 : decode cX10_about 110 = .ok (.aload_n 3, 1) := by decide +kernel
theorem dX10_about_111 : decode cX10_about 111 = .ok (.getfield 170, 3) := by decide +kernel
theorem dX10_about_114 : decode cX10_about 114 = .ok (.ireturn, 1) := by decide +kernel
theorem dX10_about_115 : decode cX10_about 115 = .ok (.aload 4, 2) := by decide +kernel
theorem dX10_about_117 : decode cX10_about 117 = .ok (.iload_n 1, 1) := by decide +kernel
theorem dX10_about_118 : decode cX10_about 118 = .ok (.invokevirtual 134, 3) := by decide +kernel
theorem dX10_about_121 : decode cX10_about 121 = .ok (.ireturn, 1) := by decide +kernel
theorem dX10_about_122 : decode cX10_about 122 = .ok (.aload_n 3, 1) := by decide +kernel
theorem dX10_about_123 : decode cX10_about 123 = .ok (.getfield 142, 3) := by decide +kernel
theorem dX10_about_126 : decode cX10_about 126 = .ok (.ifCond .eq 7, 3) := by decide +kernel
theorem dX10_about_129 : decode cX10_about 129 = .ok (.iconst 1, 1) := by decide +kernel
theorem dX10_about_130 : decode cX10_about 130 = .ok (.goto 4, 3) := by decide +kernel
theorem dX10_about_133 : decode cX10_about 133 = .ok (.iconst 0, 1) := by decide +kernel
theorem dX10_about_134 : decode cX10_about 134 = .ok (.ireturn, 1) := by decide +kernel
theorem dX10_about_135 : decode cX10_about 135 = .ok (.aload_n 3, 1) := by decide +kernel
theorem dX10_about_136 : decode cX10_about 136 = .ok (.getfield 173, 3) := by decide +kernel
theorem dX10_about_139 : decode cX10_about 139 = .ok (.ireturn, 1) := by decide +kernel
theorem dX10_about_140 : decode cX10_about 140 = .ok (.bipush (-2), 2) := by decide +kernel
theorem dX10_about_142 : decode cX10_about 142 = .ok (.ireturn, 1) := by decide +kernel
set_option maxRecDepth 20000 in
theorem ggX10_turn_X10_fellowshipAt : GoodIn wsX10_turn wsX10_fellowshipAt := goodIn_r _ [8, 9, 10, 11, 12, 13, 14, 15, 16, 17, 18, 19, 20, 21, 22, 23, 24, 25, 26, 27, 28, 29, 30, 31, 32, 33, 54, 55, 56, 57, 58, 59, 60, 61, 62, 63, 64, 65, 66, 67, 68, 69] (by decide +kernel) (by decide +kernel)
set_option maxRecDepth 20000 in
theorem gX10_turn_X10_fellowshipAt : GoodIn wsX10_turn (wsV RX10 117 RX10 yX10_fellowshipAt wsX10_fellowshipAt) := goodIn_app (goodIn_of _ (by decide +kernel)) ggX10_turn_X10_fellowshipAt
set_option maxRecDepth 20000 in
theorem ggX10_turn_Jx4a65c_size_8abf5 : GoodIn wsX10_turn wsJx4a65c_size_8abf5 := goodIn_r _ [15, 16, 67, 68, 69] (by decide +kernel) (by decide +kernel)
set_option maxRecDepth 20000 in
theorem gX10_turn_Jx4a65c_size_8abf5 : GoodIn wsX10_turn (wsV RX10 75 RJx4a65c yJx4a65c_size_8abf5 wsJx4a65c_size_8abf5) := goodIn_app (goodIn_of _ (by decide +kernel)) ggX10_turn_Jx4a65c_size_8abf5
set_option maxRecDepth 20000 in
theorem ggX10_turn_Jx4a65c_get_915e3 : GoodIn wsX10_turn wsJx4a65c_get_915e3 := goodIn_r _ [20, 16, 21, 22, 23, 24, 25, 26, 27, 28, 29, 30, 31, 14, 32, 33, 67, 68, 69] (by decide +kernel) (by decide +kernel)
set_option maxRecDepth 20000 in
theorem gX10_turn_Jx4a65c_get_915e3 : GoodIn wsX10_turn (wsV RX10 176 RJx4a65c yJx4a65c_get_915e3 wsJx4a65c_get_915e3) := goodIn_app (goodIn_of _ (by decide +kernel)) ggX10_turn_Jx4a65c_get_915e3
theorem dX10_turn_0 : decode cX10_turn 0 = .ok (.aload_n 0, 1) := by decide +kernel
theorem dX10_turn_1 : decode cX10_turn 1 = .ok (.iload_n 1, 1) := by decide +kernel
theorem dX10_turn_2 : decode cX10_turn 2 = .ok (.invokevirtual 117, 3) := by decide +kernel
theorem dX10_turn_5 : decode cX10_turn 5 = .ok (.astore_n 3, 1) := by decide +kernel
theorem dX10_turn_6 : decode cX10_turn 6 = .ok (.aload_n 3, 1) := by decide +kernel
theorem dX10_turn_7 : decode cX10_turn 7 = .ok (.ifnull 18, 3) := by decide +kernel
theorem dX10_turn_10 : decode cX10_turn 10 = .ok (.iload_n 2, 1) := by decide +kernel
theorem dX10_turn_11 : decode cX10_turn 11 = .ok (.ifCond .lt 14, 3) := by decide +kernel
theorem dX10_turn_14 : decode cX10_turn 14 = .ok (.iload_n 2, 1) := by decide +kernel
theorem dX10_turn_15 : decode cX10_turn 15 = .ok (.aload_n 3, 1) := by decide +kernel
theorem dX10_turn_16 : decode cX10_turn 16 = .ok (.getfield 146, 3) := by decide +kernel
theorem dX10_turn_19 : decode cX10_turn 19 = .ok (.invokevirtual 75, 3) := by decide +kernel
theorem dX10_turn_22 : decode cX10_turn 22 = .ok (.if_icmp .lt 5, 3) := by decide +kernel
theorem dX10_turn_25 : decode cX10_turn 25 = .ok (.iconst (-1), 1) := by decide +kernel
theorem dX10_turn_26 : decode cX10_turn 26 = .ok (.ireturn, 1) := by decide +kernel
theorem dX10_turn_27 : decode cX10_turn 27 = .ok (.aload_n 3, 1) := by decide +kernel
theorem dX10_turn_28 : decode cX10_turn 28 = .ok (.getfield 146, 3) := by decide +kernel
theorem dX10_turn_31 : decode cX10_turn 31 = .ok (.iload_n 2, 1) := by decide +kernel
theorem dX10_turn_32 : decode cX10_turn 32 = .ok (.invokevirtual 176, 3) := by decide +kernel
theorem dX10_turn_35 : decode cX10_turn 35 = .ok (.checkcast 121, 3) := by decide +kernel
theorem dX10_turn_38 : decode cX10_turn 38 = .ok (.getfield 180, 3) := by decide +kernel
theorem dX10_turn_41 : decode cX10_turn 41 = .ok (.ireturn, 1) := by decide +kernel
set_option maxRecDepth 20000 in
theorem ggX10_dice_X10_fellowshipAt : GoodIn wsX10_dice wsX10_fellowshipAt := goodIn_r _ [7, 8, 9, 10, 11, 12, 13, 14, 15, 16, 17, 18, 19, 20, 21, 22, 23, 24, 25, 26, 27, 28, 29, 30, 31, 32, 46, 47, 48, 49, 50, 51, 52, 53, 54, 55, 56, 57, 58, 59, 60, 61] (by decide +kernel) (by decide +kernel)
set_option maxRecDepth 20000 in
theorem gX10_dice_X10_fellowshipAt : GoodIn wsX10_dice (wsV RX10 117 RX10 yX10_fellowshipAt wsX10_fellowshipAt) := goodIn_app (goodIn_of _ (by decide +kernel)) ggX10_dice_X10_fellowshipAt
set_option maxRecDepth 20000 in
theorem ggX10_dice_X10_within : GoodIn wsX10_dice wsX10_within := goodIn_r _ [35] (by decide +kernel) (by decide +kernel)
set_option maxRecDepth 20000 in
theorem gX10_dice_X10_within : GoodIn wsX10_dice (va_wsS RX10 71 yX10_within wsX10_within) := goodIn_app (goodIn_of _ (by decide +kernel)) ggX10_dice_X10_within
theorem dX10_dice_0 : decode cX10_dice 0 = .ok (.aload_n 0, 1) := by decide +kernel
theorem dX10_dice_1 : decode cX10_dice 1 = .ok (.iload_n 1, 1) := by decide +kernel
theorem dX10_dice_2 : decode cX10_dice 2 = .ok (.invokevirtual 117, 3) := by decide +kernel
theorem dX10_dice_5 : decode cX10_dice 5 = .ok (.astore 4, 2) := by decide +kernel
theorem dX10_dice_7 : decode cX10_dice 7 = .ok (.aload 4, 2) := by decide +kernel
theorem dX10_dice_9 : decode cX10_dice 9 = .ok (.ifnull 12, 3) := by decide +kernel
theorem dX10_dice_12 : decode cX10_dice 12 = .ok (.iload_n 2, 1) := by decide +kernel
theorem dX10_dice_13 : decode cX10_dice 13 = .ok (.iconst 0, 1) := by decide +kernel
theorem dX10_dice_14 : decode cX10_dice 14 = .ok (.iconst 1, 1) := by decide +kernel
theorem dX10_dice_15 : decode cX10_dice 15 = .ok (.invokestatic 71, 3) := by decide +kernel
theorem dX10_dice_18 : decode cX10_dice 18 = .ok (.ifCond .ne 5, 3) := by decide +kernel
theorem dX10_dice_21 : decode cX10_dice 21 = .ok (.iconst (-1), 1) := by decide +kernel
theorem dX10_dice_22 : decode cX10_dice 22 = .ok (.ireturn, 1) := by decide +kernel
theorem dX10_dice_23 : decode cX10_dice 23 = .ok (.aload 4, 2) := by decide +kernel
theorem dX10_dice_25 : decode cX10_dice 25 = .ok (.getfield 183, 3) := by decide +kernel
theorem dX10_dice_28 : decode cX10_dice 28 = .ok (.ifCond .eq 7, 3) := by decide +kernel
theorem dX10_dice_31 : decode cX10_dice 31 = .ok (.iconst 1, 1) := by decide +kernel
theorem dX10_dice_32 : decode cX10_dice 32 = .ok (.goto 4, 3) := by decide +kernel
theorem dX10_dice_35 : decode cX10_dice 35 = .ok (.iconst 0, 1) := by decide +kernel
theorem dX10_dice_36 : decode cX10_dice 36 = .ok (.istore 5, 2) := by decide +kernel
theorem dX10_dice_38 : decode cX10_dice 38 = .ok (.aload 4, 2) := by decide +kernel
theorem dX10_dice_40 : decode cX10_dice 40 = .ok (.iload_n 2, 1) := by decide +kernel
theorem dX10_dice_41 : decode cX10_dice 41 = .ok (.iconst 1, 1) := by decide +kernel
theorem dX10_dice_42 : decode cX10_dice 42 = .ok (.if_icmp .ne 7, 3) := by decide +kernel
theorem dX10_dice_45 : decode cX10_dice 45 = .ok (.iconst 1, 1) := by decide +kernel
theorem dX10_dice_46 : decode cX10_dice 46 = .ok (.goto 4, 3) := by decide +kernel
theorem dX10_dice_49 : decode cX10_dice 49 = .ok (.iconst 0, 1) := by decide +kernel
theorem dX10_dice_50 : decode cX10_dice 50 = .ok (.putfield 183, 3) := by decide +kernel
theorem dX10_dice_53 : decode cX10_dice 53 = .ok (.aload 4, 2) := by decide +kernel
theorem dX10_dice_55 : decode cX10_dice 55 = .ok (.getfield 183, 3) := by decide +kernel
theorem dX10_dice_58 : decode cX10_dice 58 = .ok (.ifCond .eq 9, 3) := by decide +kernel
theorem dX10_dice_61 : decode cX10_dice 61 = .ok (.aload 4, 2) := by decide +kernel
theorem dX10_dice_63 : decode cX10_dice 63 = .ok (.iload_n 3, 1) := by decide +kernel
theorem dX10_dice_64 : decode cX10_dice 64 = .ok (.putfield 186, 3) := by decide +kernel
theorem dX10_dice_67 : decode cX10_dice 67 = .ok (.iload 5, 2) := by decide +kernel
theorem dX10_dice_69 : decode cX10_dice 69 = .ok (.ireturn, 1) := by decide +kernel
set_option maxRecDepth 20000 in
theorem ggX10_feed_X8_addBytes : GoodIn wsX10_feed wsX8_addBytes := goodIn_r _ [7, 8, 9, 23, 24] (by decide +kernel) (by decide +kernel)
set_option maxRecDepth 20000 in
theorem gX10_feed_X8_addBytes : GoodIn wsX10_feed (wsV RX10 192 RX8 yX8_addBytes wsX8_addBytes) := goodIn_app (goodIn_of _ (by decide +kernel)) ggX10_feed_X8_addBytes
theorem dX10_feed_0 : decode cX10_feed 0 = .ok (.aload_n 0, 1) := by decide +kernel
theorem dX10_feed_1 : decode cX10_feed 1 = .ok (.getfield 47, 3) := by decide +kernel
theorem dX10_feed_4 : decode cX10_feed 4 = .ok (.getfield 189, 3) := by decide +kernel
theorem dX10_feed_7 : decode cX10_feed 7 = .ok (.bipush 20, 2) := by decide +kernel
theorem dX10_feed_9 : decode cX10_feed 9 = .ok (.iadd, 1) := by decide +kernel
theorem dX10_feed_10 : decode cX10_feed 10 = .ok (.sipush 200, 3) := by decide +kernel
theorem dX10_feed_13 : decode cX10_feed 13 = .ok (.if_icmp .le 6, 3) := by decide +kernel
theorem dX10_feed_16 : decode cX10_feed 16 = .ok (.bipush (-3), 2) := by decide +kernel
theorem dX10_feed_18 : decode cX10_feed 18 = .ok (.ireturn, 1) := by decide +kernel
theorem dX10_feed_19 : decode cX10_feed 19 = .ok (.aload_n 0, 1) := by decide +kernel
theorem dX10_feed_20 : decode cX10_feed 20 = .ok (.getfield 47, 3) := by decide +kernel
theorem dX10_feed_23 : decode cX10_feed 23 = .ok (.iload_n 1, 1) := by decide +kernel
theorem dX10_feed_24 : decode cX10_feed 24 = .ok (.invokevirtual 192, 3) := by decide +kernel
theorem dX10_feed_27 : decode cX10_feed 27 = .ok (.aload_n 0, 1) := by decide +kernel
theorem dX10_feed_28 : decode cX10_feed 28 = .ok (.getfield 47, 3) := by decide +kernel
theorem dX10_feed_31 : decode cX10_feed 31 = .ok (.iload_n 2, 1) := by decide +kernel
theorem dX10_feed_32 : decode cX10_feed 32 = .ok (.invokevirtual 192, 3) := by decide +kernel
theorem dX10_feed_35 : decode cX10_feed 35 = .ok (.aload_n 0, 1) := by decide +kernel
theorem dX10_feed_36 : decode cX10_feed 36 = .ok (.getfield 47, 3) := by decide +kernel
theorem dX10_feed_39 : decode cX10_feed 39 = .ok (.iload_n 3, 1) := by decide +kernel
theorem dX10_feed_40 : decode cX10_feed 40 = .ok (.invokevirtual 192, 3) := by decide +kernel
theorem dX10_feed_43 : decode cX10_feed 43 = .ok (.aload_n 0, 1) := by decide +kernel
theorem dX10_feed_44 : decode cX10_feed 44 = .ok (.getfield 47, 3) := by decide +kernel
theorem dX10_feed_47 : decode cX10_feed 47 = .ok (.iload 4, 2) := by decide +kernel
theorem dX10_feed_49 : decode cX10_feed 49 = .ok (.invokevirtual 192, 3) := by decide +kernel
theorem dX10_feed_52 : decode cX10_feed 52 = .ok (.aload_n 0, 1) := by decide +kernel
theorem dX10_feed_53 : decode cX10_feed 53 = .ok (.getfield 47, 3) := by decide +kernel
theorem dX10_feed_56 : decode cX10_feed 56 = .ok (.iload 5, 2) := by decide +kernel
theorem dX10_feed_58 : decode cX10_feed 58 = .ok (.invokevirtual 192, 3) := by decide +kernel
theorem dX10_feed_61 : decode cX10_feed 61 = .ok (.aload_n 0, 1) := by decide +kernel
theorem dX10_feed_62 : decode cX10_feed 62 = .ok (.getfield 47, 3) := by decide +kernel
theorem dX10_feed_65 : decode cX10_feed 65 = .ok (.getfield 189, 3) := by decide +kernel
theorem dX10_feed_68 : decode cX10_feed 68 = .ok (.ireturn, 1) := by decide +kernel
set_option maxRecDepth 20000 in
theorem ggX10_end_X10_within : GoodIn wsX10_end wsX10_within := goodIn_r _ [6] (by decide +kernel) (by decide +kernel)
set_option maxRecDepth 20000 in
theorem gX10_end_X10_within : GoodIn wsX10_end (va_wsS RX10 71 yX10_within wsX10_within) := goodIn_app (goodIn_of _ (by decide +kernel)) ggX10_end_X10_within
theorem dX10_end_0 : decode cX10_end 0 = .ok (.iload_n 1, 1) := by decide +kernel
theorem dX10_end_1 : decode cX10_end 1 = .ok (.iconst 0, 1) := by decide +kernel
theorem dX10_end_2 : decode cX10_end 2 = .ok (.aload_n 0, 1) := by decide +kernel
theorem dX10_end_3 : decode cX10_end 3 = .ok (.getfield 47, 3) := by decide +kernel
theorem dX10_end_6 : decode cX10_end 6 = .ok (.getfield 189, 3) := by decide +kernel
theorem dX10_end_9 : decode cX10_end 9 = .ok (.invokestatic 71, 3) := by decide +kernel
theorem dX10_end_12 : decode cX10_end 12 = .ok (.ifCond .ne 5, 3) := by decide +kernel
theorem dX10_end_15 : decode cX10_end 15 = .ok (.iconst (-1), 1) := by decide +kernel
theorem dX10_end_16 : decode cX10_end 16 = .ok (.ireturn, 1) := by decide +kernel
theorem dX10_end_17 : decode cX10_end 17 = .ok (.aload_n 0, 1) := by decide +kernel
theorem dX10_end_18 : decode cX10_end 18 = .ok (.getfield 47, 3) := by decide +kernel
theorem dX10_end_21 : decode cX10_end 21 = .ok (.iload_n 1, 1) := by decide +kernel
theorem dX10_end_22 : decode cX10_end 22 = .ok (.putfield 189, 3) := by decide +kernel
theorem dX10_end_25 : decode cX10_end 25 = .ok (.iload_n 1, 1) := by decide +kernel
theorem dX10_end_26 : decode cX10_end 26 = .ok (.ireturn, 1) := by decide +kernel
set_option maxRecDepth 20000 in
theorem ggX10_law_X10_fellowshipAt : GoodIn wsX10_law wsX10_fellowshipAt := goodIn_r _ [12, 13, 14, 15, 16, 17, 18, 19, 20, 21, 22, 23, 24, 25, 26, 27, 28, 29, 30, 31, 32, 33, 34, 35, 36, 37, 273, 274, 275, 276, 277, 278, 279, 280, 281, 282, 283, 284, 285, 294, 295, 296] (by decide +kernel) (by decide +kernel)
set_option maxRecDepth 20000 in
theorem gX10_law_X10_fellowshipAt : GoodIn wsX10_law (wsV RX10 117 RX10 yX10_fellowshipAt wsX10_fellowshipAt) := goodIn_app (goodIn_of _ (by decide +kernel)) ggX10_law_X10_fellowshipAt
set_option maxRecDepth 20000 in
theorem ggX10_law_X10_isUse : GoodIn wsX10_law wsX10_isUse := goodIn_r _ [40, 41, 42, 11, 43] (by decide +kernel) (by decide +kernel)
set_option maxRecDepth 20000 in
theorem gX10_law_X10_isUse : GoodIn wsX10_law (va_wsS RX10 195 yX10_isUse wsX10_isUse) := goodIn_app (goodIn_of _ (by decide +kernel)) ggX10_law_X10_isUse
set_option maxRecDepth 20000 in
theorem ggX10_law_X10_isDay : GoodIn wsX10_law wsX10_isDay := goodIn_r _ [46, 41, 42, 11, 43] (by decide +kernel) (by decide +kernel)
set_option maxRecDepth 20000 in
theorem gX10_law_X10_isDay : GoodIn wsX10_law (va_wsS RX10 198 yX10_isDay wsX10_isDay) := goodIn_app (goodIn_of _ (by decide +kernel)) ggX10_law_X10_isDay
set_option maxRecDepth 20000 in
theorem ggX10_law_Jx4a65c_size_8abf5 : GoodIn wsX10_law wsJx4a65c_size_8abf5 := goodIn_r _ [19, 20, 294, 295, 296] (by decide +kernel) (by decide +kernel)
set_option maxRecDepth 20000 in
theorem gX10_law_Jx4a65c_size_8abf5 : GoodIn wsX10_law (wsV RX10 75 RJx4a65c yJx4a65c_size_8abf5 wsJx4a65c_size_8abf5) := goodIn_app (goodIn_of _ (by decide +kernel)) ggX10_law_Jx4a65c_size_8abf5
set_option maxRecDepth 20000 in
theorem ggX10_law_X5_read : GoodIn wsX10_law wsX5_read := goodIn_r _ [51, 52, 53, 54, 55, 56, 57, 50, 58, 59, 60, 61, 62, 63, 64, 65, 66, 67, 68, 69, 70, 71, 72, 73, 74, 75, 76, 77, 78, 79, 80, 81, 82, 83, 84, 85, 86, 87, 88, 89, 90, 91, 92, 93, 94, 95, 96, 97, 98, 99, 100, 101, 102, 103, 104, 105, 106, 107, 108, 109, 110, 30, 31, 32, 111, 112, 113, 114, 115, 116, 117, 118, 119, 120, 121, 122, 123, 124, 125, 126, 127, 128, 129, 130, 131, 132, 133, 134, 135, 136, 137, 138, 139, 140, 141, 142, 143, 144, 145, 146, 147, 148, 149, 150, 151, 152, 153, 154, 155, 156, 157, 158, 159, 160, 161, 162, 163, 164, 165, 166, 167, 168, 169, 170, 171, 172, 173, 174, 175, 176, 177, 178, 179, 180, 181, 182, 183, 184, 185, 186, 297, 298, 299, 300, 301, 302, 286, 287] (by decide +kernel) (by decide +kernel)
set_option maxRecDepth 20000 in
theorem gX10_law_X5_read : GoodIn wsX10_law (wsV RX10 201 RX5 yX5_read wsX5_read) := goodIn_app (goodIn_of _ (by decide +kernel)) ggX10_law_X5_read
set_option maxRecDepth 20000 in
theorem ggX10_law_X10_today : GoodIn wsX10_law wsX10_today := goodIn_r _ [190, 191, 273, 274, 275, 276, 277, 278, 279, 280, 281, 282, 283, 284, 285] (by decide +kernel) (by decide +kernel)
set_option maxRecDepth 20000 in
theorem gX10_law_X10_today : GoodIn wsX10_law (wsV RX10 207 RX10 yX10_today wsX10_today) := goodIn_app (goodIn_of _ (by decide +kernel)) ggX10_law_X10_today
set_option maxRecDepth 20000 in
theorem ggX10_law_X5_stepsRead : GoodIn wsX10_law wsX5_stepsRead := goodIn_r _ [195, 53, 196, 197, 198, 199, 200, 201, 202, 165, 203, 204, 205, 206, 207, 208, 209, 210, 211, 212, 213, 214, 215, 216, 217, 218, 297, 298, 299, 300, 301, 302] (by decide +kernel) (by decide +kernel)
set_option maxRecDepth 20000 in
theorem gX10_law_X5_stepsRead : GoodIn wsX10_law (wsV RX10 210 RX5 yX5_stepsRead wsX5_stepsRead) := goodIn_app (goodIn_of _ (by decide +kernel)) ggX10_law_X5_stepsRead
set_option maxRecDepth 20000 in
theorem ggX10_law_X1_init : GoodIn wsX10_law wsX1_init := goodIn_r _ [221, 222, 223, 224, 225, 226, 227, 228, 229, 230, 288, 289, 290, 291, 292, 293] (by decide +kernel) (by decide +kernel)
set_option maxRecDepth 20000 in
theorem gX10_law_X1_init : GoodIn wsX10_law (wsX1_init) := ggX10_law_X1_init
set_option maxRecDepth 20000 in
theorem ggX10_law_Jx4a65c_add_9ea2d : GoodIn wsX10_law wsJx4a65c_add_9ea2d := goodIn_r _ [234, 235, 236, 37, 20, 237, 238, 239, 18, 240, 241, 242, 243, 244, 245, 246, 247, 248, 249, 250, 201, 198, 202, 251, 252, 253, 254, 255, 256, 257, 258, 259, 260, 261, 262, 205, 263, 264, 265, 266, 267, 268, 269, 270, 271, 272, 214, 197, 199, 215, 216, 217, 218, 294, 295, 296] (by decide +kernel) (by decide +kernel)
set_option maxRecDepth 20000 in
theorem gX10_law_Jx4a65c_add_9ea2d : GoodIn wsX10_law (wsV RX10 33 RJx4a65c yJx4a65c_add_9ea2d wsJx4a65c_add_9ea2d) := goodIn_app (goodIn_of _ (by decide +kernel)) ggX10_law_Jx4a65c_add_9ea2d
theorem dX10_law_0 : decode cX10_law 0 = .ok (.aload_n 0, 1) := by decide +kernel
theorem dX10_law_1 : decode cX10_law 1 = .ok (.iload_n 1, 1) := by decide +kernel
theorem dX10_law_2 : decode cX10_law 2 = .ok (.invokevirtual 117, 3) := by decide +kernel
theorem dX10_law_5 : decode cX10_law 5 = .ok (.ifnull 17, 3) := by decide +kernel
theorem dX10_law_8 : decode cX10_law 8 = .ok (.iload_n 2, 1) := by decide +kernel
theorem dX10_law_9 : decode cX10_law 9 = .ok (.invokestatic 195, 3) := by decide +kernel
theorem dX10_law_12 : decode cX10_law 12 = .ok (.ifCond .eq 10, 3) := by decide +kernel
theorem dX10_law_15 : decode cX10_law 15 = .ok (.iload_n 3, 1) := by decide +kernel
theorem dX10_law_16 : decode cX10_law 16 = .ok (.invokestatic 198, 3) := by decide +kernel
theorem dX10_law_19 : decode cX10_law 19 = .ok (.ifCond .ne 5, 3) := by decide +kernel
theorem dX10_law_22 : decode cX10_law 22 = .ok (.iconst (-1), 1) := by decide +kernel
theorem dX10_law_23 : decode cX10_law 23 = .ok (.ireturn, 1) := by decide +kernel
theorem dX10_law_24 : decode cX10_law 24 = .ok (.aload_n 0, 1) := by decide +kernel
theorem dX10_law_25 : decode cX10_law 25 = .ok (.getfield 22, 3) := by decide +kernel
theorem dX10_law_28 : decode cX10_law 28 = .ok (.invokevirtual 75, 3) := by decide +kernel
theorem dX10_law_31 : decode cX10_law 31 = .ok (.bipush 40, 2) := by decide +kernel
theorem dX10_law_33 : decode cX10_law 33 = .ok (.if_icmp .lt 6, 3) := by decide +kernel
theorem dX10_law_36 : decode cX10_law 36 = .ok (.bipush (-3), 2) := by decide +kernel
theorem dX10_law_38 : decode cX10_law 38 = .ok (.ireturn, 1) := by decide +kernel
theorem dX10_law_39 : decode cX10_law 39 = .ok (.aload_n 0, 1) := by decide +kernel
theorem dX10_law_40 : decode cX10_law 40 = .ok (.getfield 54, 3) := by decide +kernel
theorem dX10_law_43 : decode cX10_law 43 = .ok (.aload_n 0, 1) := by decide +kernel
theorem dX10_law_44 : decode cX10_law 44 = .ok (.getfield 47, 3) := by decide +kernel
theorem dX10_law_47 : decode cX10_law 47 = .ok (.invokevirtual 201, 3) := by decide +kernel
theorem dX10_law_50 : decode cX10_law 50 = .ok (.istore 4, 2) := by decide +kernel
theorem dX10_law_52 : decode cX10_law 52 = .ok (.aload_n 0, 1) := by decide +kernel
theorem dX10_law_53 : decode cX10_law 53 = .ok (.getfield 47, 3) := by decide +kernel
theorem dX10_law_56 : decode cX10_law 56 = .ok (.iconst 0, 1) := by decide +kernel
theorem dX10_law_57 : decode cX10_law 57 = .ok (.putfield 189, 3) := by decide +kernel
theorem dX10_law_60 : decode cX10_law 60 = .ok (.iload 4, 2) := by decide +kernel
theorem dX10_law_62 : decode cX10_law 62 = .ok (.ifCond .lt 9, 3) := by decide +kernel
theorem dX10_law_65 : decode cX10_law 65 = .ok (.bipush (-100), 2) := by decide +kernel
theorem dX10_law_67 : decode cX10_law 67 = .ok (.iload 4, 2) := by decide +kernel
theorem dX10_law_69 : decode cX10_law 69 = .ok (.isub, 1) := by decide +kernel
theorem dX10_law_70 : decode cX10_law 70 = .ok (.ireturn, 1) := by decide +kernel
theorem dX10_law_71 : decode cX10_law 71 = .ok (.aload_n 0, 1) := by decide +kernel
theorem dX10_law_72 : decode cX10_law 72 = .ok (.getfield 22, 3) := by decide +kernel
theorem dX10_law_75 : decode cX10_law 75 = .ok (.new 205, 3) := by decide +kernel
theorem dX10_law_78 : decode cX10_law 78 = .ok (.dup, 1) := by decide +kernel
theorem dX10_law_79 : decode cX10_law 79 = .ok (.aload_n 0, 1) := by decide +kernel
theorem dX10_law_80 : decode cX10_law 80 = .ok (.getfield 22, 3) := by decide +kernel
theorem dX10_law_83 : decode cX10_law 83 = .ok (.invokevirtual 75, 3) := by decide +kernel
theorem dX10_law_86 : decode cX10_law 86 = .ok (.iload_n 1, 1) := by decide +kernel
theorem dX10_law_87 : decode cX10_law 87 = .ok (.iload_n 2, 1) := by decide +kernel
theorem dX10_law_88 : decode cX10_law 88 = .ok (.aload_n 0, 1) := by decide +kernel
theorem dX10_law_89 : decode cX10_law 89 = .ok (.invokevirtual 207, 3) := by decide +kernel
theorem dX10_law_92 : decode cX10_law 92 = .ok (.iload_n 3, 1) := by decide +kernel
theorem dX10_law_93 : decode cX10_law 93 = .ok (.aload_n 0, 1) := by decide +kernel
theorem dX10_law_94 : decode cX10_law 94 = .ok (.getfield 54, 3) := by decide +kernel
theorem dX10_law_97 : decode cX10_law 97 = .ok (.invokevirtual 210, 3) := by decide +kernel
theorem dX10_law_100 : decode cX10_law 100 = .ok (.invokespecial 214, 3) := by decide +kernel
theorem dX10_law_103 : decode cX10_law 103 = .ok (.invokevirtual 33, 3) := by decide +kernel
theorem dX10_law_106 : decode cX10_law 106 = .ok (.pop, 1) := by decide +kernel
theorem dX10_law_107 : decode cX10_law 107 = .ok (.aload_n 0, 1) := by decide +kernel
theorem dX10_law_108 : decode cX10_law 108 = .ok (.getfield 22, 3) := by decide +kernel
theorem dX10_law_111 : decode cX10_law 111 = .ok (.invokevirtual 75, 3) := by decide +kernel
theorem dX10_law_114 : decode cX10_law 114 = .ok (.iconst 1, 1) := by decide +kernel
theorem dX10_law_115 : decode cX10_law 115 = .ok (.isub, 1) := by decide +kernel
theorem dX10_law_116 : decode cX10_law 116 = .ok (.ireturn, 1) := by decide +kernel
set_option maxRecDepth 20000 in
theorem ggX10_inForce_X10_fellowshipAt : GoodIn wsX10_inForce wsX10_fellowshipAt := goodIn_r _ [6, 7, 8, 9, 10, 11, 12, 13, 14, 15, 16, 17, 18, 19, 20, 21, 22, 23, 24, 25, 26, 27, 28, 29, 30, 31, 57, 58, 59, 60, 61, 62, 63, 64, 65, 66, 67, 68, 69, 70, 71, 72] (by decide +kernel) (by decide +kernel)
set_option maxRecDepth 20000 in
theorem gX10_inForce_X10_fellowshipAt : GoodIn wsX10_inForce (wsV RX10 117 RX10 yX10_fellowshipAt wsX10_fellowshipAt) := goodIn_app (goodIn_of _ (by decide +kernel)) ggX10_inForce_X10_fellowshipAt
set_option maxRecDepth 20000 in
theorem ggX10_inForce_X10_isUse : GoodIn wsX10_inForce wsX10_isUse := goodIn_r _ [34, 35, 36, 5, 37] (by decide +kernel) (by decide +kernel)
set_option maxRecDepth 20000 in
theorem gX10_inForce_X10_isUse : GoodIn wsX10_inForce (va_wsS RX10 195 yX10_isUse wsX10_isUse) := goodIn_app (goodIn_of _ (by decide +kernel)) ggX10_inForce_X10_isUse
set_option maxRecDepth 20000 in
theorem ggX10_inForce_X10_isDay : GoodIn wsX10_inForce wsX10_isDay := goodIn_r _ [40, 35, 36, 5, 37] (by decide +kernel) (by decide +kernel)
set_option maxRecDepth 20000 in
theorem gX10_inForce_X10_isDay : GoodIn wsX10_inForce (va_wsS RX10 198 yX10_isDay wsX10_isDay) := goodIn_app (goodIn_of _ (by decide +kernel)) ggX10_inForce_X10_isDay
set_option maxRecDepth 20000 in
theorem ggX10_inForce_X10_lawKnown : GoodIn wsX10_inForce wsX10_lawKnown := goodIn_r _ [44, 45, 46, 47, 48, 49, 50, 9, 10, 11, 12, 13, 14, 15, 16, 17, 18, 19, 20, 21, 22, 23, 24, 25, 26, 27, 28, 29, 30, 31, 57, 58, 59, 60, 61, 62, 63, 64, 65, 66, 67, 68, 69, 51, 52, 53, 54, 55, 56, 70, 71, 72] (by decide +kernel) (by decide +kernel)
set_option maxRecDepth 20000 in
theorem gX10_inForce_X10_lawKnown : GoodIn wsX10_inForce (wsV RX10 217 RX10 yX10_lawKnown wsX10_lawKnown) := goodIn_app (goodIn_of _ (by decide +kernel)) ggX10_inForce_X10_lawKnown
theorem dX10_inForce_0 : decode cX10_inForce 0 = .ok (.aload_n 0, 1) := by decide +kernel
theorem dX10_inForce_1 : decode cX10_inForce 1 = .ok (.iload_n 1, 1) := by decide +kernel
theorem dX10_inForce_2 : decode cX10_inForce 2 = .ok (.invokevirtual 117, 3) := by decide +kernel
theorem dX10_inForce_5 : decode cX10_inForce 5 = .ok (.ifnull 25, 3) := by decide +kernel
theorem dX10_inForce_8 : decode cX10_inForce 8 = .ok (.iload_n 2, 1) := by decide +kernel
theorem dX10_inForce_9 : decode cX10_inForce 9 = .ok (.invokestatic 195, 3) := by decide +kernel
theorem dX10_inForce_12 : decode cX10_inForce 12 = .ok (.ifCond .eq 18, 3) := by decide +kernel
theorem dX10_inForce_15 : decode cX10_inForce 15 = .ok (.iload_n 3, 1) := by decide +kernel
theorem dX10_inForce_16 : decode cX10_inForce 16 = .ok (.invokestatic 198, 3) := by decide +kernel
theorem dX10_inForce_19 : decode cX10_inForce 19 = .ok (.ifCond .eq 11, 3) := by decide +kernel
theorem dX10_inForce_22 : decode cX10_inForce 22 = .ok (.iload 4, 2) := by decide +kernel
theorem dX10_inForce_24 : decode cX10_inForce 24 = .ok (.invokestatic 198, 3) := by decide +kernel
theorem dX10_inForce_27 : decode cX10_inForce 27 = .ok (.ifCond .ne 5, 3) := by decide +kernel
theorem dX10_inForce_30 : decode cX10_inForce 30 = .ok (.iconst (-1), 1) := by decide +kernel
theorem dX10_inForce_31 : decode cX10_inForce 31 = .ok (.ireturn, 1) := by decide +kernel
theorem dX10_inForce_32 : decode cX10_inForce 32 = .ok (.aload_n 0, 1) := by decide +kernel
theorem dX10_inForce_33 : decode cX10_inForce 33 = .ok (.iload_n 1, 1) := by decide +kernel
theorem dX10_inForce_34 : decode cX10_inForce 34 = .ok (.iload_n 2, 1) := by decide +kernel
theorem dX10_inForce_35 : decode cX10_inForce 35 = .ok (.iload_n 3, 1) := by decide +kernel
theorem dX10_inForce_36 : decode cX10_inForce 36 = .ok (.iload 4, 2) := by decide +kernel
theorem dX10_inForce_38 : decode cX10_inForce 38 = .ok (.invokevirtual 217, 3) := by decide +kernel
theorem dX10_inForce_41 : decode cX10_inForce 41 = .ok (.astore 5, 2) := by decide +kernel
theorem dX10_inForce_43 : decode cX10_inForce 43 = .ok (.aload 5, 2) := by decide +kernel
theorem dX10_inForce_45 : decode cX10_inForce 45 = .ok (.ifnonnull 8, 3) := by decide +kernel
theorem dX10_inForce_48 : decode cX10_inForce 48 = .ok (.bipush (-2), 2) := by decide +kernel
theorem dX10_inForce_50 : decode cX10_inForce 50 = .ok (.goto 8, 3) := by decide +kernel
theorem dX10_inForce_53 : decode cX10_inForce 53 = .ok (.aload 5, 2) := by decide +kernel
theorem dX10_inForce_55 : decode cX10_inForce 55 = .ok (.getfield 221, 3) := by decide +kernel
theorem dX10_inForce_58 : decode cX10_inForce 58 = .ok (.ireturn, 1) := by decide +kernel
set_option maxRecDepth 20000 in
theorem ggX10_says_X10_loadAt : GoodIn wsX10_says wsX10_loadAt := goodIn_r _ [6, 7, 8, 9, 10, 11, 12, 13, 14, 15, 16, 17, 18, 19, 20, 21, 22, 23, 24, 25, 26, 27, 28, 29, 30, 31, 171, 172, 173, 174, 175, 176, 177, 178, 179, 180, 181, 182, 183, 184, 185, 186] (by decide +kernel) (by decide +kernel)
set_option maxRecDepth 20000 in
theorem gX10_says_X10_loadAt : GoodIn wsX10_says (wsV RX10 222 RX10 yX10_loadAt wsX10_loadAt) := goodIn_app (goodIn_of _ (by decide +kernel)) ggX10_says_X10_loadAt
set_option maxRecDepth 20000 in
theorem ggX10_says_X10_manAt : GoodIn wsX10_says wsX10_manAt := goodIn_r _ [35, 36, 37, 9, 10, 11, 12, 13, 14, 15, 16, 17, 18, 19, 20, 21, 22, 23, 24, 25, 26, 27, 28, 29, 30, 31, 171, 172, 173, 174, 175, 176, 177, 178, 179, 180, 181, 182, 183, 184, 185, 186] (by decide +kernel) (by decide +kernel)
set_option maxRecDepth 20000 in
theorem gX10_says_X10_manAt : GoodIn wsX10_says (wsV RX10 126 RX10 yX10_manAt wsX10_manAt) := goodIn_app (goodIn_of _ (by decide +kernel)) ggX10_says_X10_manAt
set_option maxRecDepth 20000 in
theorem ggX10_says_X10_fellowshipAt : GoodIn wsX10_says wsX10_fellowshipAt := goodIn_r _ [41, 42, 43, 9, 10, 11, 12, 13, 14, 15, 16, 17, 18, 19, 20, 21, 22, 23, 24, 25, 26, 27, 28, 29, 30, 31, 171, 172, 173, 174, 175, 176, 177, 178, 179, 180, 181, 182, 183, 184, 185, 186] (by decide +kernel) (by decide +kernel)
set_option maxRecDepth 20000 in
theorem gX10_says_X10_fellowshipAt : GoodIn wsX10_says (wsV RX10 117 RX10 yX10_fellowshipAt wsX10_fellowshipAt) := goodIn_app (goodIn_of _ (by decide +kernel)) ggX10_says_X10_fellowshipAt
set_option maxRecDepth 20000 in
theorem ggX10_says_X10_isUse : GoodIn wsX10_says wsX10_isUse := goodIn_r _ [46, 47, 48, 5, 49] (by decide +kernel) (by decide +kernel)
set_option maxRecDepth 20000 in
theorem gX10_says_X10_isUse : GoodIn wsX10_says (va_wsS RX10 195 yX10_isUse wsX10_isUse) := goodIn_app (goodIn_of _ (by decide +kernel)) ggX10_says_X10_isUse
set_option maxRecDepth 20000 in
theorem ggX10_says_X10_saying : GoodIn wsX10_says wsX10_saying := goodIn_r _ [53, 54, 55, 56, 57, 58, 59, 60, 61, 62, 63, 64, 65, 5, 66, 67, 68, 69, 70, 71, 72, 73, 74, 75, 76, 9, 10, 11, 12, 13, 14, 15, 16, 17, 18, 19, 20, 21, 22, 23, 24, 25, 26, 27, 28, 29, 30, 31, 77, 78, 79, 80, 81, 82, 83, 84, 85, 86, 87, 88, 89, 90, 91, 92, 93, 94, 95, 96, 97, 98, 99, 100, 101, 102, 36, 37, 103, 104, 105, 106, 107, 108, 109, 110, 111, 112, 113, 114, 115, 116, 117, 118, 119, 120, 121, 122, 123, 124, 125, 126, 127, 128, 129, 130, 131, 132, 133, 134, 135, 136, 137, 138, 139, 140, 141, 142, 143, 144, 145, 146, 147, 148, 149, 150, 151, 152, 153, 154, 155, 156, 157, 158, 159, 160, 161, 162, 163, 164, 165, 166, 167, 168, 169, 170, 171, 172, 173, 174, 175, 176, 177, 178, 179, 180, 181, 182, 183, 187, 188, 189, 190, 191, 192, 193, 194, 195, 196, 197, 198, 199, 200, 201, 202, 203, 204, 205, 206, 207, 208, 209, 210, 211, 184, 185, 186, 212, 213, 214, 215, 216, 217, 218, 219, 220, 221, 222, 223, 224, 225, 226, 227] (by decide +kernel) (by decide +kernel)
set_option maxRecDepth 20000 in
theorem gX10_says_X10_saying : GoodIn wsX10_says (wsV RX10 227 RX10 yX10_saying wsX10_saying) := goodIn_app (goodIn_of _ (by decide +kernel)) ggX10_says_X10_saying
theorem dX10_says_0 : decode cX10_says 0 = .ok (.aload_n 0, 1) := by decide +kernel
theorem dX10_says_1 : decode cX10_says 1 = .ok (.iload_n 3, 1) := by decide +kernel
theorem dX10_says_2 : decode cX10_says 2 = .ok (.invokevirtual 222, 3) := by decide +kernel
theorem dX10_says_5 : decode cX10_says 5 = .ok (.astore 5, 2) := by decide +kernel
theorem dX10_says_7 : decode cX10_says 7 = .ok (.aload_n 0, 1) := by decide +kernel
theorem dX10_says_8 : decode cX10_says 8 = .ok (.iload 4, 2) := by decide +kernel
theorem dX10_says_10 : decode cX10_says 10 = .ok (.invokevirtual 126, 3) := by decide +kernel
theorem dX10_says_13 : decode cX10_says 13 = .ok (.astore 6, 2) := by decide +kernel
theorem dX10_says_15 : decode cX10_says 15 = .ok (.aload_n 0, 1) := by decide +kernel
theorem dX10_says_16 : decode cX10_says 16 = .ok (.iload_n 1, 1) := by decide +kernel
theorem dX10_says_17 : decode cX10_says 17 = .ok (.invokevirtual 117, 3) := by decide +kernel
theorem dX10_says_20 : decode cX10_says 20 = .ok (.ifnull 31, 3) := by decide +kernel
theorem dX10_says_23 : decode cX10_says 23 = .ok (.iload_n 2, 1) := by decide +kernel
theorem dX10_says_24 : decode cX10_says 24 = .ok (.invokestatic 195, 3) := by decide +kernel
theorem dX10_says_27 : decode cX10_says 27 = .ok (.ifCond .eq 24, 3) := by decide +kernel
theorem dX10_says_30 : decode cX10_says 30 = .ok (.aload 5, 2) := by decide +kernel
theorem dX10_says_32 : decode cX10_says 32 = .ok (.ifnonnull 8, 3) := by decide +kernel
theorem dX10_says_35 : decode cX10_says 35 = .ok (.iload_n 3, 1) := by decide +kernel
theorem dX10_says_36 : decode cX10_says 36 = .ok (.iconst (-1), 1) := by decide +kernel
theorem dX10_says_37 : decode cX10_says 37 = .ok (.if_icmp .ne 14, 3) := by decide +kernel
theorem dX10_says_40 : decode cX10_says 40 = .ok (.aload 6, 2) := by decide +kernel
theorem dX10_says_42 : decode cX10_says 42 = .ok (.ifnonnull 12, 3) := by decide +kernel
theorem dX10_says_45 : decode cX10_says 45 = .ok (.iload 4, 2) := by decide +kernel
theorem dX10_says_47 : decode cX10_says 47 = .ok (.iconst (-1), 1) := by decide +kernel
theorem dX10_says_48 : decode cX10_says 48 = .ok (.if_icmp .eq 6, 3) := by decide +kernel
theorem dX10_says_51 : decode cX10_says 51 = .ok (.ldc 226, 2) := by decide +kernel
theorem dX10_says_53 : decode cX10_says 53 = .ok (.ireturn, 1) := by decide +kernel
theorem dX10_says_54 : decode cX10_says 54 = .ok (.aload_n 0, 1) := by decide +kernel
theorem dX10_says_55 : decode cX10_says 55 = .ok (.iload_n 1, 1) := by decide +kernel
theorem dX10_says_56 : decode cX10_says 56 = .ok (.iload_n 2, 1) := by decide +kernel
theorem dX10_says_57 : decode cX10_says 57 = .ok (.aload 5, 2) := by decide +kernel
theorem dX10_says_59 : decode cX10_says 59 = .ok (.aload 6, 2) := by decide +kernel
theorem dX10_says_61 : decode cX10_says 61 = .ok (.invokevirtual 227, 3) := by decide +kernel
theorem dX10_says_64 : decode cX10_says 64 = .ok (.ireturn, 1) := by decide +kernel
set_option maxRecDepth 20000 in
theorem ggX10_load_X10_placeAt : GoodIn wsX10_load wsX10_placeAt := goodIn_r _ [12, 13, 14, 15, 16, 17, 18, 19, 20, 21, 22, 23, 24, 25, 26, 27, 28, 29, 30, 31, 32, 33, 34, 35, 36, 37, 147, 148, 149, 150, 151, 152, 153, 154, 155, 156, 157, 158, 159, 179, 180, 181] (by decide +kernel) (by decide +kernel)
set_option maxRecDepth 20000 in
theorem gX10_load_X10_placeAt : GoodIn wsX10_load (wsV RX10 84 RX10 yX10_placeAt wsX10_placeAt) := goodIn_app (goodIn_of _ (by decide +kernel)) ggX10_load_X10_placeAt
set_option maxRecDepth 20000 in
theorem ggX10_load_X10_within : GoodIn wsX10_load wsX10_within := goodIn_r _ [40] (by decide +kernel) (by decide +kernel)
set_option maxRecDepth 20000 in
theorem gX10_load_X10_within : GoodIn wsX10_load (va_wsS RX10 71 yX10_within wsX10_within) := goodIn_app (goodIn_of _ (by decide +kernel)) ggX10_load_X10_within
set_option maxRecDepth 20000 in
theorem ggX10_load_Jx4a65c_size_8abf5 : GoodIn wsX10_load wsJx4a65c_size_8abf5 := goodIn_r _ [19, 20, 179, 180, 181] (by decide +kernel) (by decide +kernel)
set_option maxRecDepth 20000 in
theorem gX10_load_Jx4a65c_size_8abf5 : GoodIn wsX10_load (wsV RX10 75 RJx4a65c yJx4a65c_size_8abf5 wsJx4a65c_size_8abf5) := goodIn_app (goodIn_of _ (by decide +kernel)) ggX10_load_Jx4a65c_size_8abf5
set_option maxRecDepth 20000 in
theorem ggX10_load_X2_init : GoodIn wsX10_load wsX2_init := goodIn_r _ [43, 44, 45, 46, 47, 48, 18, 49, 50, 51, 52, 53, 54, 55, 56, 57, 58, 59, 60, 61, 62, 63, 64, 65, 37, 66, 67, 68, 69, 70, 71, 72, 73, 74, 75, 76, 77, 78, 79, 80, 81, 82, 83, 84, 85, 86, 87, 88, 89, 90, 179, 180, 181, 160, 161, 162, 163, 164, 165, 166, 167, 168, 169, 170, 171, 172, 173, 174, 175, 176, 177, 178, 142, 143, 144, 145, 146] (by decide +kernel) (by decide +kernel)
set_option maxRecDepth 20000 in
theorem gX10_load_X2_init : GoodIn wsX10_load (wsX2_init) := ggX10_load_X2_init
set_option maxRecDepth 20000 in
theorem ggX10_load_Jx4a65c_add_9ea2d : GoodIn wsX10_load wsJx4a65c_add_9ea2d := goodIn_r _ [94, 95, 96, 37, 20, 97, 98, 99, 18, 100, 101, 102, 103, 104, 105, 106, 107, 108, 65, 109, 110, 84, 111, 112, 113, 114, 115, 116, 117, 118, 119, 120, 121, 122, 123, 124, 125, 126, 127, 128, 129, 130, 131, 132, 133, 134, 135, 136, 137, 138, 139, 140, 141, 179, 180, 181] (by decide +kernel) (by decide +kernel)
set_option maxRecDepth 20000 in
theorem gX10_load_Jx4a65c_add_9ea2d : GoodIn wsX10_load (wsV RX10 33 RJx4a65c yJx4a65c_add_9ea2d wsJx4a65c_add_9ea2d) := goodIn_app (goodIn_of _ (by decide +kernel)) ggX10_load_Jx4a65c_add_9ea2d
theorem dX10_load_0 : decode cX10_load 0 = .ok (.aload_n 0, 1) := by decide +kernel
theorem dX10_load_1 : decode cX10_load 1 = .ok (.iload_n 2, 1) := by decide +kernel
theorem dX10_load_2 : decode cX10_load 2 = .ok (.bipush 100, 2) := by decide +kernel
theorem dX10_load_4 : decode cX10_load 4 = .ok (.idiv, 1) := by decide +kernel
theorem dX10_load_5 : decode cX10_load 5 = .ok (.invokevirtual 84, 3) := by decide +kernel
theorem dX10_load_8 : decode cX10_load 8 = .ok (.astore 5, 2) := by decide +kernel
theorem dX10_load_10 : decode cX10_load 10 = .ok (.aload_n 0, 1) := by decide +kernel
theorem dX10_load_11 : decode cX10_load 11 = .ok (.iload_n 2, 1) := by decide +kernel
theorem dX10_load_12 : decode cX10_load 12 = .ok (.bipush 100, 2) := by decide +kernel
theorem dX10_load_14 : decode cX10_load 14 = .ok (.irem, 1) := by decide +kernel
theorem dX10_load_15 : decode cX10_load 15 = .ok (.invokevirtual 84, 3) := by decide +kernel
theorem dX10_load_18 : decode cX10_load 18 = .ok (.astore 6, 2) := by decide +kernel
theorem dX10_load_20 : decode cX10_load 20 = .ok (.iload_n 1, 1) := by decide +kernel
theorem dX10_load_21 : decode cX10_load 21 = .ok (.ifCond .lt 69, 3) := by decide +kernel
theorem dX10_load_24 : decode cX10_load 24 = .ok (.iload_n 1, 1) := by decide +kernel
theorem dX10_load_25 : decode cX10_load 25 = .ok (.sipush 1000, 3) := by decide +kernel
theorem dX10_load_28 : decode cX10_load 28 = .ok (.idiv, 1) := by decide +kernel
theorem dX10_load_29 : decode cX10_load 29 = .ok (.iconst 4, 1) := by decide +kernel
theorem dX10_load_30 : decode cX10_load 30 = .ok (.if_icmp .gt 60, 3) := by decide +kernel
theorem dX10_load_33 : decode cX10_load 33 = .ok (.iload_n 1, 1) := by decide +kernel
theorem dX10_load_34 : decode cX10_load 34 = .ok (.sipush 1000, 3) := by decide +kernel
theorem dX10_load_37 : decode cX10_load 37 = .ok (.irem, 1) := by decide +kernel
theorem dX10_load_38 : decode cX10_load 38 = .ok (.ifCond .eq 52, 3) := by decide +kernel
theorem dX10_load_41 : decode cX10_load 41 = .ok (.iload_n 2, 1) := by decide +kernel
theorem dX10_load_42 : decode cX10_load 42 = .ok (.ifCond .lt 48, 3) := by decide +kernel
theorem dX10_load_45 : decode cX10_load 45 = .ok (.aload 5, 2) := by decide +kernel
theorem dX10_load_47 : decode cX10_load 47 = .ok (.ifnull 43, 3) := by decide +kernel
theorem dX10_load_50 : decode cX10_load 50 = .ok (.aload 6, 2) := by decide +kernel
theorem dX10_load_52 : decode cX10_load 52 = .ok (.ifnull 38, 3) := by decide +kernel
theorem dX10_load_55 : decode cX10_load 55 = .ok (.aload 5, 2) := by decide +kernel
theorem dX10_load_57 : decode cX10_load 57 = .ok (.getfield 231, 3) := by decide +kernel
theorem dX10_load_60 : decode cX10_load 60 = .ok (.aload 6, 2) := by decide +kernel
theorem dX10_load_62 : decode cX10_load 62 = .ok (.getfield 231, 3) := by decide +kernel
theorem dX10_load_65 : decode cX10_load 65 = .ok (.if_icmp .eq 25, 3) := by decide +kernel
theorem dX10_load_68 : decode cX10_load 68 = .ok (.iload_n 3, 1) := by decide +kernel
theorem dX10_load_69 : decode cX10_load 69 = .ok (.iconst 0, 1) := by decide +kernel
theorem dX10_load_70 : decode cX10_load 70 = .ok (.sipush 9999, 3) := by decide +kernel
theorem dX10_load_73 : decode cX10_load 73 = .ok (.invokestatic 71, 3) := by decide +kernel
theorem dX10_load_76 : decode cX10_load 76 = .ok (.ifCond .eq 14, 3) := by decide +kernel
theorem dX10_load_79 : decode cX10_load 79 = .ok (.iload 4, 2) := by decide +kernel
theorem dX10_load_81 : decode cX10_load 81 = .ok (.iconst 0, 1) := by decide +kernel
theorem dX10_load_82 : decode cX10_load 82 = .ok (.ldc 232, 2) := by decide +kernel
theorem dX10_load_84 : decode cX10_load 84 = .ok (.invokestatic 71, 3) := by decide +kernel
theorem dX10_load_87 : decode cX10_load 87 = .ok (.ifCond .ne 5, 3) := by decide +kernel
theorem dX10_load_90 : decode cX10_load 90 = .ok (.iconst (-1), 1) := by decide +kernel
theorem dX10_load_91 : decode cX10_load 91 = .ok (.ireturn, 1) := by decide +kernel
theorem dX10_load_92 : decode cX10_load 92 = .ok (.aload_n 0, 1) := by decide +kernel
theorem dX10_load_93 : decode cX10_load 93 = .ok (.getfield 19, 3) := by decide +kernel
theorem dX10_load_96 : decode cX10_load 96 = .ok (.invokevirtual 75, 3) := by decide +kernel
theorem dX10_load_99 : decode cX10_load 99 = .ok (.sipush 200, 3) := by decide +kernel
theorem dX10_load_102 : decode cX10_load 102 = .ok (.if_icmp .lt 6, 3) := by decide +kernel
theorem dX10_load_105 : decode cX10_load 105 = .ok (.bipush (-3), 2) := by decide +kernel
theorem dX10_load_107 : decode cX10_load 107 = .ok (.ireturn, 1) := by decide +kernel
theorem dX10_load_108 : decode cX10_load 108 = .ok (.aload_n 0, 1) := by decide +kernel
theorem dX10_load_109 : decode cX10_load 109 = .ok (.getfield 19, 3) := by decide +kernel
theorem dX10_load_112 : decode cX10_load 112 = .ok (.new 233, 3) := by decide +kernel
theorem dX10_load_115 : decode cX10_load 115 = .ok (.dup, 1) := by decide +kernel
theorem dX10_load_116 : decode cX10_load 116 = .ok (.aload_n 0, 1) := by decide +kernel
theorem dX10_load_117 : decode cX10_load 117 = .ok (.getfield 19, 3) := by decide +kernel
theorem dX10_load_120 : decode cX10_load 120 = .ok (.invokevirtual 75, 3) := by decide +kernel
theorem dX10_load_123 : decode cX10_load 123 = .ok (.iload_n 1, 1) := by decide +kernel
theorem dX10_load_124 : decode cX10_load 124 = .ok (.aload 5, 2) := by decide +kernel
theorem dX10_load_126 : decode cX10_load 126 = .ok (.aload 6, 2) := by decide +kernel
theorem dX10_load_128 : decode cX10_load 128 = .ok (.iload_n 3, 1) := by decide +kernel
theorem dX10_load_129 : decode cX10_load 129 = .ok (.iload 4, 2) := by decide +kernel
theorem dX10_load_131 : decode cX10_load 131 = .ok (.aload_n 0, 1) := by decide +kernel
theorem dX10_load_132 : decode cX10_load 132 = .ok (.getfield 95, 3) := by decide +kernel
theorem dX10_load_135 : decode cX10_load 135 = .ok (.invokespecial 235, 3) := by decide +kernel
theorem dX10_load_138 : decode cX10_load 138 = .ok (.invokevirtual 33, 3) := by decide +kernel
theorem dX10_load_141 : decode cX10_load 141 = .ok (.pop, 1) := by decide +kernel
theorem dX10_load_142 : decode cX10_load 142 = .ok (.aload_n 0, 1) := by decide +kernel
theorem dX10_load_143 : decode cX10_load 143 = .ok (.getfield 19, 3) := by decide +kernel
theorem dX10_load_146 : decode cX10_load 146 = .ok (.invokevirtual 75, 3) := by decide +kernel
theorem dX10_load_149 : decode cX10_load 149 = .ok (.iconst 1, 1) := by decide +kernel
theorem dX10_load_150 : decode cX10_load 150 = .ok (.isub, 1) := by decide +kernel
theorem dX10_load_151 : decode cX10_load 151 = .ok (.ireturn, 1) := by decide +kernel
set_option maxRecDepth 20000 in
theorem ggX10_whose_X10_loadAt : GoodIn wsX10_whose wsX10_loadAt := goodIn_r _ [5, 6, 7, 8, 9, 10, 11, 12, 13, 14, 15, 16, 17, 18, 19, 20, 21, 22, 23, 24, 25, 26, 27, 28, 29, 30, 158, 159, 160, 161, 162, 163, 164, 165, 166, 167, 168, 169, 170, 171, 172, 173] (by decide +kernel) (by decide +kernel)
set_option maxRecDepth 20000 in
theorem gX10_whose_X10_loadAt : GoodIn wsX10_whose (wsV RX10 222 RX10 yX10_loadAt wsX10_loadAt) := goodIn_app (goodIn_of _ (by decide +kernel)) ggX10_whose_X10_loadAt
set_option maxRecDepth 20000 in
theorem ggX10_whose_X10_ownerOf : GoodIn wsX10_whose wsX10_ownerOf := goodIn_r _ [34, 35, 36, 37, 4, 38, 39, 40, 41, 42, 43, 44, 45, 46, 47, 48, 49, 50, 51, 52, 53, 54, 55, 56, 57, 58, 59, 60, 61, 8, 9, 10, 11, 12, 13, 14, 15, 16, 17, 18, 19, 20, 21, 22, 23, 24, 25, 26, 27, 28, 29, 30, 62, 63, 64, 65, 66, 67, 68, 69, 70, 71, 72, 73, 74, 75, 76, 77, 78, 79, 80, 81, 82, 83, 84, 85, 86, 87, 88, 89, 90, 91, 92, 93, 94, 95, 96, 97, 98, 99, 100, 101, 102, 103, 104, 105, 106, 107, 108, 109, 110, 111, 112, 113, 114, 115, 116, 117, 118, 119, 120, 121, 122, 123, 124, 125, 126, 127, 128, 129, 130, 131, 132, 133, 134, 135, 136, 137, 138, 139, 140, 141, 142, 143, 144, 145, 146, 147, 148, 149, 150, 151, 152, 153, 154, 155, 156, 157, 158, 159, 160, 161, 162, 163, 164, 165, 166, 167, 168, 169, 170, 174, 175, 176, 177, 178, 179, 180, 181, 182, 183, 184, 185, 186, 187, 188, 189, 190, 191, 192, 193, 194, 195, 196, 197, 198, 171, 172, 173, 199, 200, 201, 202, 203, 204, 205, 206, 207, 208, 209, 210, 211, 212, 213, 214] (by decide +kernel) (by decide +kernel)
set_option maxRecDepth 20000 in
theorem gX10_whose_X10_ownerOf : GoodIn wsX10_whose (wsV RX10 238 RX10 yX10_ownerOf wsX10_ownerOf) := goodIn_app (goodIn_of _ (by decide +kernel)) ggX10_whose_X10_ownerOf
theorem dX10_whose_0 : decode cX10_whose 0 = .ok (.aload_n 0, 1) := by decide +kernel
theorem dX10_whose_1 : decode cX10_whose 1 = .ok (.iload_n 1, 1) := by decide +kernel
theorem dX10_whose_2 : decode cX10_whose 2 = .ok (.invokevirtual 222, 3) := by decide +kernel
theorem dX10_whose_5 : decode cX10_whose 5 = .ok (.astore_n 2, 1) := by decide +kernel
theorem dX10_whose_6 : decode cX10_whose 6 = .ok (.aload_n 2, 1) := by decide +kernel
theorem dX10_whose_7 : decode cX10_whose 7 = .ok (.ifnonnull 7, 3) := by decide +kernel
theorem dX10_whose_10 : decode cX10_whose 10 = .ok (.iconst (-1), 1) := by decide +kernel
theorem dX10_whose_11 : decode cX10_whose 11 = .ok (.goto 8, 3) := by decide +kernel
theorem dX10_whose_14 : decode cX10_whose 14 = .ok (.aload_n 0, 1) := by decide +kernel
theorem dX10_whose_15 : decode cX10_whose 15 = .ok (.aload_n 2, 1) := by decide +kernel
theorem dX10_whose_16 : decode cX10_whose 16 = .ok (.invokevirtual 238, 3) := by decide +kernel
theorem dX10_whose_19 : decode cX10_whose 19 = .ok (.ireturn, 1) := by decide +kernel
set_option maxRecDepth 20000 in
theorem ggX10_why_X10_fellowshipAt : GoodIn wsX10_why wsX10_fellowshipAt := goodIn_r _ [5, 6, 7, 8, 9, 10, 11, 12, 13, 14, 15, 16, 17, 18, 19, 20, 21, 22, 23, 24, 25, 26, 27, 28, 29, 30, 282, 283, 284, 285, 286, 287, 288, 289, 290, 291, 292, 293, 294, 295, 296, 297] (by decide +kernel) (by decide +kernel)
set_option maxRecDepth 20000 in
theorem gX10_why_X10_fellowshipAt : GoodIn wsX10_why (wsV RX10 117 RX10 yX10_fellowshipAt wsX10_fellowshipAt) := goodIn_app (goodIn_of _ (by decide +kernel)) ggX10_why_X10_fellowshipAt
set_option maxRecDepth 20000 in
theorem ggX10_why_X10_loadAt : GoodIn wsX10_why wsX10_loadAt := goodIn_r _ [34, 35, 36, 8, 9, 10, 11, 12, 13, 14, 15, 16, 17, 18, 19, 20, 21, 22, 23, 24, 25, 26, 27, 28, 29, 30, 282, 283, 284, 285, 286, 287, 288, 289, 290, 291, 292, 293, 294, 295, 296, 297] (by decide +kernel) (by decide +kernel)
set_option maxRecDepth 20000 in
theorem gX10_why_X10_loadAt : GoodIn wsX10_why (wsV RX10 222 RX10 yX10_loadAt wsX10_loadAt) := goodIn_app (goodIn_of _ (by decide +kernel)) ggX10_why_X10_loadAt
set_option maxRecDepth 20000 in
theorem ggX10_why_X10_hindrance : GoodIn wsX10_why wsX10_hindrance := goodIn_r _ [40, 41, 42, 43, 44, 45, 46, 47, 48, 49, 4, 50, 51, 52, 53, 54, 55, 56, 57, 58, 59, 60, 61, 62, 63, 64, 65, 66, 67, 68, 69, 70, 71, 72, 73, 74, 75, 8, 9, 10, 11, 12, 13, 14, 15, 16, 17, 18, 19, 20, 21, 22, 23, 24, 25, 26, 27, 28, 29, 30, 76, 77, 78, 79, 80, 81, 82, 83, 84, 85, 86, 87, 88, 89, 90, 91, 92, 93, 94, 95, 96, 97, 98, 99, 100, 101, 102, 103, 104, 105, 106, 107, 108, 109, 110, 111, 112, 113, 114, 115, 116, 117, 118, 119, 120, 121, 122, 123, 124, 125, 126, 127, 128, 129, 130, 131, 132, 133, 134, 135, 136, 137, 138, 139, 140, 141, 142, 143, 144, 145, 146, 147, 148, 149, 150, 151, 152, 153, 154, 155, 156, 157, 158, 159, 160, 161, 162, 163, 164, 165, 166, 167, 168, 169, 170, 171, 172, 173, 174, 175, 176, 177, 178, 298, 299, 300, 301, 302, 303, 304, 305, 306, 307, 308, 309, 310, 311, 312, 313, 314, 315, 316, 317, 318, 319, 320, 321, 322, 323, 324, 325, 326, 282, 283, 284, 285, 286, 287, 288, 289, 290, 291, 292, 293, 294, 327, 328, 329, 330, 331, 332, 295, 296, 297, 333, 334, 335, 336, 337, 338, 339, 340, 341, 342, 343, 344, 345, 346, 347, 348, 349, 350, 351, 352, 353] (by decide +kernel) (by decide +kernel)
set_option maxRecDepth 20000 in
theorem gX10_why_X10_hindrance : GoodIn wsX10_why (wsV RX10 242 RX10 yX10_hindrance wsX10_hindrance) := goodIn_app (goodIn_of _ (by decide +kernel)) ggX10_why_X10_hindrance
set_option maxRecDepth 20000 in
theorem ggX10_why_X10_chooseGang : GoodIn wsX10_why wsX10_chooseGang := goodIn_r _ [182, 42, 183, 169, 59, 170, 57, 58, 60, 43, 184, 185, 186, 187, 188, 189, 103, 190, 79, 191, 51, 52, 53, 4, 54, 55, 44, 46, 56, 61, 62, 63, 64, 65, 66, 67, 68, 69, 70, 71, 72, 73, 74, 75, 8, 9, 10, 11, 12, 13, 14, 15, 16, 17, 18, 19, 20, 21, 22, 23, 24, 25, 26, 27, 28, 29, 30, 76, 77, 78, 80, 81, 82, 83, 84, 85, 86, 87, 88, 89, 90, 91, 92, 93, 94, 95, 96, 97, 98, 99, 100, 101, 102, 104, 105, 106, 107, 108, 109, 110, 111, 112, 113, 114, 115, 116, 117, 118, 119, 120, 121, 122, 123, 124, 125, 126, 127, 128, 129, 130, 131, 132, 133, 134, 135, 136, 137, 138, 139, 140, 141, 142, 143, 144, 145, 146, 147, 148, 149, 150, 151, 152, 153, 154, 155, 156, 157, 158, 159, 160, 161, 162, 163, 164, 165, 166, 167, 168, 171, 192, 193, 194, 195, 196, 197, 198, 175, 199, 200, 201, 202, 203, 204, 205, 206, 207, 208, 209, 210, 211, 212, 213, 214, 215, 216, 217, 218, 219, 220, 221, 222, 223, 224, 225, 226, 227, 228, 229, 230, 231, 232, 233, 234, 235, 236, 237, 238, 239, 240, 241, 242, 243, 244, 245, 246, 247, 248, 249, 250, 251, 252, 253, 254, 255, 256, 257, 258, 259, 260, 261, 262, 263, 264, 265, 266, 267, 268, 269, 270, 271, 272, 273, 274, 275, 276, 277, 278, 279, 280, 281, 317, 318, 319, 320, 321, 322, 323, 324, 325, 326, 298, 299, 300, 301, 302, 303, 304, 305, 306, 307, 308, 309, 310, 311, 312, 313, 314, 315, 316, 282, 283, 284, 285, 286, 287, 288, 289, 290, 291, 292, 293, 294, 339, 340, 341, 342, 343, 344, 345, 346, 347, 348, 327, 328, 329, 330, 331, 332, 295, 296, 297, 333, 334, 335, 336, 337, 338, 349, 350, 351, 352, 353] (by decide +kernel) (by decide +kernel)
set_option maxRecDepth 20000 in
theorem gX10_why_X10_chooseGang : GoodIn wsX10_why (wsV RX10 246 RX10 yX10_chooseGang wsX10_chooseGang) := goodIn_app (goodIn_of _ (by decide +kernel)) ggX10_why_X10_chooseGang
theorem dX10_why_0 : decode cX10_why 0 = .ok (.aload_n 0, 1) := by decide +kernel
theorem dX10_why_1 : decode cX10_why 1 = .ok (.iload_n 1, 1) := by decide +kernel
theorem dX10_why_2 : decode cX10_why 2 = .ok (.invokevirtual 117, 3) := by decide +kernel
theorem dX10_why_5 : decode cX10_why 5 = .ok (.astore_n 3, 1) := by decide +kernel
theorem dX10_why_6 : decode cX10_why 6 = .ok (.aload_n 0, 1) := by decide +kernel
theorem dX10_why_7 : decode cX10_why 7 = .ok (.iload_n 2, 1) := by decide +kernel
theorem dX10_why_8 : decode cX10_why 8 = .ok (.invokevirtual 222, 3) := by decide +kernel
theorem dX10_why_11 : decode cX10_why 11 = .ok (.astore 4, 2) := by decide +kernel
theorem dX10_why_13 : decode cX10_why 13 = .ok (.aload_n 3, 1) := by decide +kernel
theorem dX10_why_14 : decode cX10_why 14 = .ok (.ifnull 8, 3) := by decide +kernel
theorem dX10_why_17 : decode cX10_why 17 = .ok (.aload 4, 2) := by decide +kernel
theorem dX10_why_19 : decode cX10_why 19 = .ok (.ifnonnull 5, 3) := by decide +kernel
theorem dX10_why_22 : decode cX10_why 22 = .ok (.iconst (-1), 1) := by decide +kernel
theorem dX10_why_23 : decode cX10_why 23 = .ok (.ireturn, 1) := by decide +kernel
theorem dX10_why_24 : decode cX10_why 24 = .ok (.aload_n 0, 1) := by decide +kernel
theorem dX10_why_25 : decode cX10_why 25 = .ok (.aload_n 3, 1) := by decide +kernel
theorem dX10_why_26 : decode cX10_why 26 = .ok (.aload 4, 2) := by decide +kernel
theorem dX10_why_28 : decode cX10_why 28 = .ok (.invokevirtual 242, 3) := by decide +kernel
theorem dX10_why_31 : decode cX10_why 31 = .ok (.istore 5, 2) := by decide +kernel
theorem dX10_why_33 : decode cX10_why 33 = .ok (.iload 5, 2) := by decide +kernel
theorem dX10_why_35 : decode cX10_why 35 = .ok (.ifCond .ne 18, 3) := by decide +kernel
theorem dX10_why_38 : decode cX10_why 38 = .ok (.aload_n 0, 1) := by decide +kernel
theorem dX10_why_39 : decode cX10_why 39 = .ok (.aload_n 3, 1) := by decide +kernel
theorem dX10_why_40 : decode cX10_why 40 = .ok (.aload 4, 2) := by decide +kernel
theorem dX10_why_42 : decode cX10_why 42 = .ok (.iconst 0, 1) := by decide +kernel
theorem dX10_why_43 : decode cX10_why 43 = .ok (.invokevirtual 246, 3) := by decide +kernel
theorem dX10_why_46 : decode cX10_why 46 = .ok (.ifCond .ne 7, 3) := by decide +kernel
theorem dX10_why_49 : decode cX10_why 49 = .ok (.bipush 6, 2) := by decide +kernel
theorem dX10_why_51 : decode cX10_why 51 = .ok (.istore 5, 2) := by decide +kernel
theorem dX10_why_53 : decode cX10_why 53 = .ok (.iload 5, 2) := by decide +kernel
theorem dX10_why_55 : decode cX10_why 55 = .ok (.ireturn, 1) := by decide +kernel
set_option maxRecDepth 20000 in
theorem ggX10_send_X10_fellowshipAt : GoodIn wsX10_send wsX10_fellowshipAt := goodIn_r _ [9, 10, 11, 12, 13, 14, 15, 16, 17, 18, 19, 20, 21, 22, 23, 24, 25, 26, 27, 28, 29, 30, 31, 32, 33, 34, 325, 326, 327, 328, 329, 330, 331, 332, 333, 334, 335, 336, 337, 357, 358, 359] (by decide +kernel) (by decide +kernel)
set_option maxRecDepth 20000 in
theorem gX10_send_X10_fellowshipAt : GoodIn wsX10_send (wsV RX10 117 RX10 yX10_fellowshipAt wsX10_fellowshipAt) := goodIn_app (goodIn_of _ (by decide +kernel)) ggX10_send_X10_fellowshipAt
set_option maxRecDepth 20000 in
theorem ggX10_send_X10_loadAt : GoodIn wsX10_send wsX10_loadAt := goodIn_r _ [38, 39, 40, 12, 13, 14, 15, 16, 17, 18, 19, 20, 21, 22, 23, 24, 25, 26, 27, 28, 29, 30, 31, 32, 33, 34, 325, 326, 327, 328, 329, 330, 331, 332, 333, 334, 335, 336, 337, 357, 358, 359] (by decide +kernel) (by decide +kernel)
set_option maxRecDepth 20000 in
theorem gX10_send_X10_loadAt : GoodIn wsX10_send (wsV RX10 222 RX10 yX10_loadAt wsX10_loadAt) := goodIn_app (goodIn_of _ (by decide +kernel)) ggX10_send_X10_loadAt
set_option maxRecDepth 20000 in
theorem ggX10_send_X10_hindrance : GoodIn wsX10_send wsX10_hindrance := goodIn_r _ [44, 45, 46, 47, 48, 49, 50, 51, 52, 53, 8, 54, 55, 56, 57, 58, 59, 60, 61, 62, 63, 64, 65, 66, 67, 68, 69, 70, 71, 72, 73, 74, 75, 76, 77, 78, 79, 12, 13, 14, 15, 16, 17, 18, 19, 20, 21, 22, 23, 24, 25, 26, 27, 28, 29, 30, 31, 32, 33, 34, 80, 81, 82, 83, 84, 85, 86, 87, 88, 89, 90, 91, 92, 93, 94, 95, 96, 97, 98, 99, 100, 101, 102, 103, 104, 105, 106, 107, 108, 109, 110, 111, 112, 113, 114, 115, 116, 117, 118, 119, 120, 121, 122, 123, 124, 125, 126, 127, 128, 129, 130, 131, 132, 133, 134, 135, 136, 137, 138, 139, 140, 141, 142, 143, 144, 145, 146, 147, 148, 149, 150, 151, 152, 153, 154, 155, 156, 157, 158, 159, 160, 161, 162, 163, 164, 165, 166, 167, 168, 169, 170, 171, 172, 173, 174, 175, 176, 177, 178, 179, 180, 181, 182, 338, 339, 340, 341, 342, 343, 344, 345, 346, 347, 348, 349, 350, 351, 352, 353, 354, 355, 356, 315, 316, 317, 318, 319, 320, 321, 322, 323, 324, 325, 326, 327, 328, 329, 330, 331, 332, 333, 334, 335, 336, 337, 360, 361, 362, 363, 364, 365, 357, 358, 359, 366, 367, 368, 369, 370, 371, 372, 373, 374, 375, 376, 377, 378, 379, 380, 381, 382, 383, 384, 385, 386] (by decide +kernel) (by decide +kernel)
set_option maxRecDepth 20000 in
theorem gX10_send_X10_hindrance : GoodIn wsX10_send (wsV RX10 242 RX10 yX10_hindrance wsX10_hindrance) := goodIn_app (goodIn_of _ (by decide +kernel)) ggX10_send_X10_hindrance
set_option maxRecDepth 20000 in
theorem ggX10_send_X10_chooseGang : GoodIn wsX10_send wsX10_chooseGang := goodIn_r _ [186, 46, 187, 173, 63, 174, 61, 62, 64, 47, 188, 189, 3, 2, 190, 191, 107, 192, 83, 193, 55, 56, 57, 8, 58, 59, 48, 50, 60, 65, 66, 67, 68, 69, 70, 71, 72, 73, 74, 75, 76, 77, 78, 79, 12, 13, 14, 15, 16, 17, 18, 19, 20, 21, 22, 23, 24, 25, 26, 27, 28, 29, 30, 31, 32, 33, 34, 80, 81, 82, 84, 85, 86, 87, 88, 89, 90, 91, 92, 93, 94, 95, 96, 97, 98, 99, 100, 101, 102, 103, 104, 105, 106, 108, 109, 110, 111, 112, 113, 114, 115, 116, 117, 118, 119, 120, 121, 122, 123, 124, 125, 126, 127, 128, 129, 130, 131, 132, 133, 134, 135, 136, 137, 138, 139, 140, 141, 142, 143, 144, 145, 146, 147, 148, 149, 150, 151, 152, 153, 154, 155, 156, 157, 158, 159, 160, 161, 162, 163, 164, 165, 166, 167, 168, 169, 170, 171, 172, 175, 194, 195, 196, 197, 198, 199, 200, 179, 201, 202, 203, 204, 205, 206, 207, 208, 209, 210, 211, 212, 213, 214, 215, 216, 217, 218, 219, 220, 221, 222, 223, 224, 225, 226, 227, 228, 229, 230, 231, 232, 233, 234, 235, 236, 237, 238, 239, 240, 241, 242, 243, 244, 245, 246, 247, 248, 249, 250, 251, 252, 253, 254, 255, 256, 257, 258, 259, 260, 261, 262, 263, 264, 265, 266, 267, 268, 269, 270, 271, 272, 273, 274, 275, 276, 277, 278, 279, 280, 281, 282, 283, 315, 316, 317, 318, 319, 320, 321, 322, 323, 324, 338, 339, 340, 341, 342, 343, 344, 345, 346, 347, 348, 349, 350, 351, 352, 353, 354, 355, 356, 325, 326, 327, 328, 329, 330, 331, 332, 333, 334, 335, 336, 337, 372, 373, 374, 375, 376, 377, 378, 379, 380, 381, 360, 361, 362, 363, 364, 365, 357, 358, 359, 366, 367, 368, 369, 370, 371, 382, 383, 384, 385, 386] (by decide +kernel) (by decide +kernel)
set_option maxRecDepth 20000 in
theorem gX10_send_X10_chooseGang : GoodIn wsX10_send (wsV RX10 246 RX10 yX10_chooseGang wsX10_chooseGang) := goodIn_app (goodIn_of _ (by decide +kernel)) ggX10_send_X10_chooseGang
set_option maxRecDepth 20000 in
theorem ggX10_send_X10_setOut : GoodIn wsX10_send wsX10_setOut := goodIn_r _ [287, 288, 46, 187, 173, 63, 174, 61, 62, 64, 289, 290, 47, 188, 45, 291, 48, 292, 293, 294, 189, 107, 295, 296, 297, 298, 299, 4, 55, 56, 57, 8, 58, 59, 50, 60, 65, 66, 67, 68, 69, 70, 71, 72, 73, 74, 75, 76, 77, 78, 79, 12, 13, 14, 15, 16, 17, 18, 19, 20, 21, 22, 23, 24, 25, 26, 27, 28, 29, 30, 31, 32, 33, 34, 80, 81, 82, 83, 84, 85, 86, 87, 88, 89, 90, 91, 92, 93, 94, 95, 96, 97, 98, 99, 100, 101, 102, 103, 104, 105, 106, 108, 109, 110, 111, 112, 113, 114, 115, 116, 117, 118, 119, 120, 121, 122, 123, 124, 125, 126, 127, 128, 129, 130, 131, 132, 133, 134, 135, 136, 137, 138, 139, 140, 141, 142, 143, 144, 145, 146, 147, 148, 149, 150, 151, 152, 153, 154, 155, 156, 157, 158, 159, 160, 161, 162, 163, 164, 165, 166, 167, 168, 169, 170, 171, 172, 175, 194, 195, 196, 197, 198, 199, 200, 179, 201, 202, 203, 204, 205, 206, 207, 208, 209, 210, 300, 301, 302, 303, 304, 305, 306, 307, 308, 309, 310, 311, 312, 313, 314, 276, 277, 278, 279, 280, 281, 282, 220, 221, 283, 272, 273, 274, 230, 231, 232, 233, 234, 235, 236, 237, 238, 239, 240, 241, 242, 243, 244, 245, 246, 247, 248, 249, 250, 251, 252, 253, 254, 255, 256, 257, 258, 259, 260, 261, 262, 263, 264, 265, 266, 267, 268, 269, 270, 271, 315, 316, 317, 318, 319, 320, 321, 322, 323, 324, 338, 339, 340, 341, 342, 343, 344, 345, 346, 347, 348, 349, 350, 351, 352, 353, 354, 355, 356, 325, 326, 327, 328, 329, 330, 331, 332, 333, 334, 335, 336, 337, 372, 373, 374, 375, 376, 377, 378, 379, 380, 381, 360, 361, 362, 363, 364, 365, 357, 358, 359, 366, 367, 368, 369, 370, 371, 382, 383, 384, 385, 386] (by decide +kernel) (by decide +kernel)
set_option maxRecDepth 20000 in
theorem gX10_send_X10_setOut : GoodIn wsX10_send (wsV RX10 253 RX10 yX10_setOut wsX10_setOut) := goodIn_app (goodIn_of _ (by decide +kernel)) ggX10_send_X10_setOut
set_option maxRecDepth 20000 in
theorem ggX10_send_Jx4a65c_size_8abf5 : GoodIn wsX10_send wsJx4a65c_size_8abf5 := goodIn_r _ [16, 17, 357, 358, 359] (by decide +kernel) (by decide +kernel)
set_option maxRecDepth 20000 in
theorem gX10_send_Jx4a65c_size_8abf5 : GoodIn wsX10_send (wsV RX10 75 RJx4a65c yJx4a65c_size_8abf5 wsJx4a65c_size_8abf5) := goodIn_app (goodIn_of _ (by decide +kernel)) ggX10_send_Jx4a65c_size_8abf5
theorem dX10_send_0 : decode cX10_send 0 = .ok (.aload_n 0, 1) := by decide +kernel
theorem dX10_send_1 : decode cX10_send 1 = .ok (.iload_n 1, 1) := by decide +kernel
theorem dX10_send_2 : decode cX10_send 2 = .ok (.invokevirtual 117, 3) := by decide +kernel
theorem dX10_send_5 : decode cX10_send 5 = .ok (.astore_n 3, 1) := by decide +kernel
theorem dX10_send_6 : decode cX10_send 6 = .ok (.aload_n 0, 1) := by decide +kernel
theorem dX10_send_7 : decode cX10_send 7 = .ok (.iload_n 2, 1) := by decide +kernel
theorem dX10_send_8 : decode cX10_send 8 = .ok (.invokevirtual 222, 3) := by decide +kernel
theorem dX10_send_11 : decode cX10_send 11 = .ok (.astore 4, 2) := by decide +kernel
theorem dX10_send_13 : decode cX10_send 13 = .ok (.aload_n 3, 1) := by decide +kernel
theorem dX10_send_14 : decode cX10_send 14 = .ok (.ifnull 8, 3) := by decide +kernel
theorem dX10_send_17 : decode cX10_send 17 = .ok (.aload 4, 2) := by decide +kernel
theorem dX10_send_19 : decode cX10_send 19 = .ok (.ifnonnull 5, 3) := by decide +kernel
theorem dX10_send_22 : decode cX10_send 22 = .ok (.iconst (-1), 1) := by decide +kernel
theorem dX10_send_23 : decode cX10_send 23 = .ok (.ireturn, 1) := by decide +kernel
theorem dX10_send_24 : decode cX10_send 24 = .ok (.aload_n 0, 1) := by decide +kernel
theorem dX10_send_25 : decode cX10_send 25 = .ok (.aload_n 3, 1) := by decide +kernel
theorem dX10_send_26 : decode cX10_send 26 = .ok (.aload 4, 2) := by decide +kernel
theorem dX10_send_28 : decode cX10_send 28 = .ok (.invokevirtual 242, 3) := by decide +kernel
theorem dX10_send_31 : decode cX10_send 31 = .ok (.istore 5, 2) := by decide +kernel
theorem dX10_send_33 : decode cX10_send 33 = .ok (.iload 5, 2) := by decide +kernel
theorem dX10_send_35 : decode cX10_send 35 = .ok (.ifCond .ne 21, 3) := by decide +kernel
theorem dX10_send_38 : decode cX10_send 38 = .ok (.aload_n 0, 1) := by decide +kernel
theorem dX10_send_39 : decode cX10_send 39 = .ok (.aload_n 3, 1) := by decide +kernel
theorem dX10_send_40 : decode cX10_send 40 = .ok (.aload 4, 2) := by decide +kernel
theorem dX10_send_42 : decode cX10_send 42 = .ok (.aload_n 3, 1) := by decide +kernel
theorem dX10_send_43 : decode cX10_send 43 = .ok (.getfield 183, 3) := by decide +kernel
theorem dX10_send_46 : decode cX10_send 46 = .ok (.invokevirtual 246, 3) := by decide +kernel
theorem dX10_send_49 : decode cX10_send 49 = .ok (.ifCond .ne 7, 3) := by decide +kernel
theorem dX10_send_52 : decode cX10_send 52 = .ok (.bipush 6, 2) := by decide +kernel
theorem dX10_send_54 : decode cX10_send 54 = .ok (.istore 5, 2) := by decide +kernel
theorem dX10_send_56 : decode cX10_send 56 = .ok (.iload 5, 2) := by decide +kernel
theorem dX10_send_58 : decode cX10_send 58 = .ok (.ifCond .eq 9, 3) := by decide +kernel
theorem dX10_send_61 : decode cX10_send 61 = .ok (.bipush (-10), 2) := by decide +kernel
theorem dX10_send_63 : decode cX10_send 63 = .ok (.iload 5, 2) := by decide +kernel
theorem dX10_send_65 : decode cX10_send 65 = .ok (.isub, 1) := by decide +kernel
theorem dX10_send_66 : decode cX10_send 66 = .ok (.ireturn, 1) := by decide +kernel
theorem dX10_send_67 : decode cX10_send 67 = .ok (.aload_n 3, 1) := by decide +kernel
theorem dX10_send_68 : decode cX10_send 68 = .ok (.aload_n 0, 1) := by decide +kernel
theorem dX10_send_69 : decode cX10_send 69 = .ok (.getfield 250, 3) := by decide +kernel
theorem dX10_send_72 : decode cX10_send 72 = .ok (.putfield 186, 3) := by decide +kernel
theorem dX10_send_75 : decode cX10_send 75 = .ok (.aload_n 0, 1) := by decide +kernel
theorem dX10_send_76 : decode cX10_send 76 = .ok (.aload_n 3, 1) := by decide +kernel
theorem dX10_send_77 : decode cX10_send 77 = .ok (.aload 4, 2) := by decide +kernel
theorem dX10_send_79 : decode cX10_send 79 = .ok (.invokevirtual 253, 3) := by decide +kernel
theorem dX10_send_82 : decode cX10_send 82 = .ok (.aload 4, 2) := by decide +kernel
theorem dX10_send_84 : decode cX10_send 84 = .ok (.getfield 257, 3) := by decide +kernel
theorem dX10_send_87 : decode cX10_send 87 = .ok (.invokevirtual 75, 3) := by decide +kernel
theorem dX10_send_90 : decode cX10_send 90 = .ok (.ireturn, 1) := by decide +kernel
set_option maxRecDepth 20000 in
theorem ggX10_off_X10_loadAt : GoodIn wsX10_off wsX10_loadAt := goodIn_r _ [8, 9, 10, 11, 12, 13, 14, 15, 16, 17, 18, 19, 20, 21, 22, 23, 24, 25, 26, 27, 28, 29, 30, 31, 32, 33, 53, 54, 55, 56, 57, 58, 59, 60, 61, 62, 63, 64, 65, 66, 67, 68] (by decide +kernel) (by decide +kernel)
set_option maxRecDepth 20000 in
theorem gX10_off_X10_loadAt : GoodIn wsX10_off (wsV RX10 222 RX10 yX10_loadAt wsX10_loadAt) := goodIn_app (goodIn_of _ (by decide +kernel)) ggX10_off_X10_loadAt
theorem dX10_off_0 : decode cX10_off 0 = .ok (.aload_n 0, 1) := by decide +kernel
theorem dX10_off_1 : decode cX10_off 1 = .ok (.iload_n 1, 1) := by decide +kernel
theorem dX10_off_2 : decode cX10_off 2 = .ok (.invokevirtual 222, 3) := by decide +kernel
theorem dX10_off_5 : decode cX10_off 5 = .ok (.astore_n 2, 1) := by decide +kernel
theorem dX10_off_6 : decode cX10_off 6 = .ok (.aload_n 2, 1) := by decide +kernel
theorem dX10_off_7 : decode cX10_off 7 = .ok (.ifnonnull 5, 3) := by decide +kernel
theorem dX10_off_10 : decode cX10_off 10 = .ok (.iconst (-1), 1) := by decide +kernel
theorem dX10_off_11 : decode cX10_off 11 = .ok (.ireturn, 1) := by decide +kernel
theorem dX10_off_12 : decode cX10_off 12 = .ok (.aload_n 2, 1) := by decide +kernel
theorem dX10_off_13 : decode cX10_off 13 = .ok (.getfield 260, 3) := by decide +kernel
theorem dX10_off_16 : decode cX10_off 16 = .ok (.ifCond .eq 6, 3) := by decide +kernel
theorem dX10_off_19 : decode cX10_off 19 = .ok (.bipush (-2), 2) := by decide +kernel
theorem dX10_off_21 : decode cX10_off 21 = .ok (.ireturn, 1) := by decide +kernel
theorem dX10_off_22 : decode cX10_off 22 = .ok (.aload_n 2, 1) := by decide +kernel
theorem dX10_off_23 : decode cX10_off 23 = .ok (.iconst 4, 1) := by decide +kernel
theorem dX10_off_24 : decode cX10_off 24 = .ok (.putfield 260, 3) := by decide +kernel
theorem dX10_off_27 : decode cX10_off 27 = .ok (.aload_n 2, 1) := by decide +kernel
theorem dX10_off_28 : decode cX10_off 28 = .ok (.aload_n 0, 1) := by decide +kernel
theorem dX10_off_29 : decode cX10_off 29 = .ok (.getfield 95, 3) := by decide +kernel
theorem dX10_off_32 : decode cX10_off 32 = .ok (.putfield 263, 3) := by decide +kernel
theorem dX10_off_35 : decode cX10_off 35 = .ok (.iconst 1, 1) := by decide +kernel
theorem dX10_off_36 : decode cX10_off 36 = .ok (.ireturn, 1) := by decide +kernel
set_option maxRecDepth 20000 in
theorem ggX10_fall_X10_loadAt : GoodIn wsX10_fall wsX10_loadAt := goodIn_r _ [8, 9, 10, 11, 12, 13, 14, 15, 16, 17, 18, 19, 20, 21, 22, 23, 24, 25, 26, 27, 28, 29, 30, 31, 32, 33, 221, 222, 223, 224, 225, 226, 227, 228, 229, 230, 231, 232, 233, 234, 235, 236] (by decide +kernel) (by decide +kernel)
set_option maxRecDepth 20000 in
theorem gX10_fall_X10_loadAt : GoodIn wsX10_fall (wsV RX10 222 RX10 yX10_loadAt wsX10_loadAt) := goodIn_app (goodIn_of _ (by decide +kernel)) ggX10_fall_X10_loadAt
set_option maxRecDepth 20000 in
theorem ggX10_fall_X2_carrier : GoodIn wsX10_fall wsX2_carrier := goodIn_r _ [38, 39, 40, 41, 42, 12, 13, 14, 15, 16, 43, 18, 19, 20, 21, 22, 23, 24, 25, 26, 27, 28, 29, 30, 31, 32, 33, 192, 193, 194, 195, 196, 197, 198, 199, 200, 201, 202, 203, 204, 205, 206, 207, 208, 209, 210, 211, 212, 213, 214, 215, 216, 217, 218, 219, 220, 234, 235, 236] (by decide +kernel) (by decide +kernel)
set_option maxRecDepth 20000 in
theorem gX10_fall_X2_carrier : GoodIn wsX10_fall (wsV RX10 266 RX2 yX2_carrier wsX2_carrier) := goodIn_app (goodIn_of _ (by decide +kernel)) ggX10_fall_X2_carrier
set_option maxRecDepth 20000 in
theorem ggX10_fall_X10_within : GoodIn wsX10_fall wsX10_within := goodIn_r _ [46] (by decide +kernel) (by decide +kernel)
set_option maxRecDepth 20000 in
theorem gX10_fall_X10_within : GoodIn wsX10_fall (va_wsS RX10 71 yX10_within wsX10_within) := goodIn_app (goodIn_of _ (by decide +kernel)) ggX10_fall_X10_within
set_option maxRecDepth 20000 in
theorem ggX10_fall_X10_takeFines : GoodIn wsX10_fall wsX10_takeFines := goodIn_r _ [50, 51, 52, 53, 54, 55, 56, 57, 58, 59, 60, 61, 62, 63, 64, 65, 7, 66, 67, 68, 11, 12, 13, 14, 15, 16, 17, 18, 19, 20, 21, 22, 23, 24, 25, 26, 27, 28, 29, 30, 31, 32, 33, 69, 70, 71, 72, 73, 74, 75, 76, 77, 78, 79, 80, 81, 82, 83, 84, 85, 86, 87, 88, 89, 90, 91, 92, 93, 94, 95, 96, 97, 98, 99, 100, 101, 102, 103, 104, 105, 106, 107, 108, 109, 110, 111, 112, 113, 114, 115, 116, 117, 118, 119, 120, 121, 122, 123, 124, 125, 126, 127, 128, 129, 130, 131, 132, 133, 134, 135, 136, 137, 138, 139, 140, 141, 142, 143, 144, 145, 146, 147, 148, 149, 150, 151, 152, 153, 154, 155, 156, 157, 158, 159, 160, 161, 162, 163, 164, 165, 166, 167, 168, 169, 170, 171, 172, 173, 174, 175, 176, 177, 178, 179, 180, 181, 182, 183, 184, 185, 186, 187, 188, 189, 190, 191, 192, 193, 194, 195, 196, 197, 198, 199, 200, 201, 202, 203, 204, 205, 206, 207, 208, 209, 210, 211, 212, 213, 214, 215, 216, 217, 218, 219, 220, 237, 238, 239, 240, 241, 242, 243, 244, 245, 246, 221, 222, 223, 224, 225, 226, 227, 228, 229, 230, 231, 232, 233, 234, 235, 236, 247, 248, 249, 250, 251, 252, 253, 254, 255, 256, 257, 258] (by decide +kernel) (by decide +kernel)
set_option maxRecDepth 20000 in
theorem gX10_fall_X10_takeFines : GoodIn wsX10_fall (wsV RX10 269 RX10 yX10_takeFines wsX10_takeFines) := goodIn_app (goodIn_of _ (by decide +kernel)) ggX10_fall_X10_takeFines
theorem dX10_fall_0 : decode cX10_fall 0 = .ok (.aload_n 0, 1) := by decide +kernel
theorem dX10_fall_1 : decode cX10_fall 1 = .ok (.iload_n 1, 1) := by decide +kernel
theorem dX10_fall_2 : decode cX10_fall 2 = .ok (.invokevirtual 222, 3) := by decide +kernel
theorem dX10_fall_5 : decode cX10_fall 5 = .ok (.astore 4, 2) := by decide +kernel
theorem dX10_fall_7 : decode cX10_fall 7 = .ok (.aload 4, 2) := by decide +kernel
theorem dX10_fall_9 : decode cX10_fall 9 = .ok (.ifnonnull 5, 3) := by decide +kernel
theorem dX10_fall_12 : decode cX10_fall 12 = .ok (.iconst (-1), 1) := by decide +kernel
theorem dX10_fall_13 : decode cX10_fall 13 = .ok (.ireturn, 1) := by decide +kernel
theorem dX10_fall_14 : decode cX10_fall 14 = .ok (.aload 4, 2) := by decide +kernel
theorem dX10_fall_16 : decode cX10_fall 16 = .ok (.iload_n 2, 1) := by decide +kernel
theorem dX10_fall_17 : decode cX10_fall 17 = .ok (.invokevirtual 266, 3) := by decide +kernel
theorem dX10_fall_20 : decode cX10_fall 20 = .ok (.astore 5, 2) := by decide +kernel
theorem dX10_fall_22 : decode cX10_fall 22 = .ok (.iload_n 2, 1) := by decide +kernel
theorem dX10_fall_23 : decode cX10_fall 23 = .ok (.iconst (-1), 1) := by decide +kernel
theorem dX10_fall_24 : decode cX10_fall 24 = .ok (.if_icmp .eq 20, 3) := by decide +kernel
theorem dX10_fall_27 : decode cX10_fall 27 = .ok (.aload 5, 2) := by decide +kernel
theorem dX10_fall_29 : decode cX10_fall 29 = .ok (.ifnull 13, 3) := by decide +kernel
theorem dX10_fall_32 : decode cX10_fall 32 = .ok (.iload_n 3, 1) := by decide +kernel
theorem dX10_fall_33 : decode cX10_fall 33 = .ok (.iconst 0, 1) := by decide +kernel
theorem dX10_fall_34 : decode cX10_fall 34 = .ok (.ldc 232, 2) := by decide +kernel
theorem dX10_fall_36 : decode cX10_fall 36 = .ok (.invokestatic 71, 3) := by decide +kernel
theorem dX10_fall_39 : decode cX10_fall 39 = .ok (.ifCond .ne 5, 3) := by decide +kernel
theorem dX10_fall_42 : decode cX10_fall 42 = .ok (.iconst (-1), 1) := by decide +kernel
theorem dX10_fall_43 : decode cX10_fall 43 = .ok (.ireturn, 1) := by decide +kernel
theorem dX10_fall_44 : decode cX10_fall 44 = .ok (.aload 4, 2) := by decide +kernel
theorem dX10_fall_46 : decode cX10_fall 46 = .ok (.getfield 260, 3) := by decide +kernel
theorem dX10_fall_49 : decode cX10_fall 49 = .ok (.iconst 1, 1) := by decide +kernel
theorem dX10_fall_50 : decode cX10_fall 50 = .ok (.if_icmp .eq 6, 3) := by decide +kernel
theorem dX10_fall_53 : decode cX10_fall 53 = .ok (.bipush (-2), 2) := by decide +kernel
theorem dX10_fall_55 : decode cX10_fall 55 = .ok (.ireturn, 1) := by decide +kernel
theorem dX10_fall_56 : decode cX10_fall 56 = .ok (.aload 4, 2) := by decide +kernel
theorem dX10_fall_58 : decode cX10_fall 58 = .ok (.iconst 3, 1) := by decide +kernel
theorem dX10_fall_59 : decode cX10_fall 59 = .ok (.putfield 260, 3) := by decide +kernel
theorem dX10_fall_62 : decode cX10_fall 62 = .ok (.aload 5, 2) := by decide +kernel
theorem dX10_fall_64 : decode cX10_fall 64 = .ok (.ifnull 9, 3) := by decide +kernel
theorem dX10_fall_67 : decode cX10_fall 67 = .ok (.aload 5, 2) := by decide +kernel
theorem dX10_fall_69 : decode cX10_fall 69 = .ok (.iload_n 3, 1) := by decide +kernel
theorem dX10_fall_70 : decode cX10_fall 70 = .ok (.putfield 170, 3) := by decide +kernel
theorem dX10_fall_73 : decode cX10_fall 73 = .ok (.aload_n 0, 1) := by decide +kernel
theorem dX10_fall_74 : decode cX10_fall 74 = .ok (.aload 4, 2) := by decide +kernel
theorem dX10_fall_76 : decode cX10_fall 76 = .ok (.invokevirtual 269, 3) := by decide +kernel
theorem dX10_fall_79 : decode cX10_fall 79 = .ok (.ireturn, 1) := by decide +kernel
set_option maxRecDepth 20000 in
theorem ggX10_told_X10_loadAt : GoodIn wsX10_told wsX10_loadAt := goodIn_r _ [19, 20, 21, 22, 23, 24, 25, 26, 27, 28, 29, 30, 31, 32, 33, 34, 35, 36, 37, 38, 39, 40, 41, 42, 43, 44, 77, 78, 79, 80, 81, 82, 83, 84, 85, 86, 87, 88, 89, 90, 91, 92] (by decide +kernel) (by decide +kernel)
set_option maxRecDepth 20000 in
theorem gX10_told_X10_loadAt : GoodIn wsX10_told (wsV RX10 222 RX10 yX10_loadAt wsX10_loadAt) := goodIn_app (goodIn_of _ (by decide +kernel)) ggX10_told_X10_loadAt
set_option maxRecDepth 20000 in
theorem ggX10_told_Jx4a65c_size_8abf5 : GoodIn wsX10_told wsJx4a65c_size_8abf5 := goodIn_r _ [26, 27, 90, 91, 92] (by decide +kernel) (by decide +kernel)
set_option maxRecDepth 20000 in
theorem gX10_told_Jx4a65c_size_8abf5 : GoodIn wsX10_told (wsV RX10 75 RJx4a65c yJx4a65c_size_8abf5 wsJx4a65c_size_8abf5) := goodIn_app (goodIn_of _ (by decide +kernel)) ggX10_told_Jx4a65c_size_8abf5
set_option maxRecDepth 20000 in
theorem ggX10_told_X2_waitedBy : GoodIn wsX10_told wsX2_waitedBy := goodIn_r _ [49, 50, 51, 52, 53, 54, 55, 56, 57, 58, 59, 60, 61, 62, 63, 64, 65, 66, 67, 68, 69, 70, 71] (by decide +kernel) (by decide +kernel)
set_option maxRecDepth 20000 in
theorem gX10_told_X2_waitedBy : GoodIn wsX10_told (wsV RX10 298 RX2 yX2_waitedBy wsX2_waitedBy) := goodIn_app (goodIn_of _ (by decide +kernel)) ggX10_told_X2_waitedBy
theorem dX10_told_0 : decode cX10_told 0 = .ok (.aload_n 0, 1) := by decide +kernel
theorem dX10_told_1 : decode cX10_told 1 = .ok (.iload_n 1, 1) := by decide +kernel
theorem dX10_told_2 : decode cX10_told 2 = .ok (.invokevirtual 222, 3) := by decide +kernel
theorem dX10_told_5 : decode cX10_told 5 = .ok (.astore_n 3, 1) := by decide +kernel
theorem dX10_told_6 : decode cX10_told 6 = .ok (.aload_n 3, 1) := by decide +kernel
theorem dX10_told_7 : decode cX10_told 7 = .ok (.ifnonnull 6, 3) := by decide +kernel
theorem dX10_told_10 : decode cX10_told 10 = .ok (.bipush (-2), 2) := by decide +kernel
theorem dX10_told_12 : decode cX10_told 12 = .ok (.ireturn, 1) := by decide +kernel
theorem dX10_told_13 : decode cX10_told 13 = .ok (.iload_n 2, 1) := by decide +kernel
theorem dX10_told_14 : decode cX10_told 14 = .ok (.tableswitch 164 0 12 #[66, 71, 76, 84, 92, 97, 102, 107, 112, 120, 125, 130, 139], 66) := by decide +kernel
theorem dX10_told_80 : decode cX10_told 80 = .ok (.aload_n 3, 1) := by decide +kernel
theorem dX10_told_81 : decode cX10_told 81 = .ok (.getfield 272, 3) := by decide +kernel
theorem dX10_told_84 : decode cX10_told 84 = .ok (.ireturn, 1) := by decide +kernel
theorem dX10_told_85 : decode cX10_told 85 = .ok (.aload_n 3, 1) := by decide +kernel
theorem dX10_told_86 : decode cX10_told 86 = .ok (.getfield 275, 3) := by decide +kernel
theorem dX10_told_89 : decode cX10_told 89 = .ok (.ireturn, 1) := by decide +kernel
theorem dX10_told_90 : decode cX10_told 90 = .ok (.aload_n 3, 1) := by decide +kernel
theorem dX10_told_91 : decode cX10_told 91 = .ok (.getfield 278, 3) := by decide +kernel
theorem dX10_told_94 : decode cX10_told 94 = .ok (.getfield 231, 3) := by decide +kernel
theorem dX10_told_97 : decode cX10_told 97 = .ok (.ireturn, 1) := by decide +kernel
theorem dX10_told_98 : decode cX10_told 98 = .ok (.aload_n 3, 1) := by decide +kernel
theorem dX10_told_99 : decode cX10_told 99 = .ok (.getfield 282, 3) := by decide +kernel
theorem dX10_told_102 : decode cX10_told 102 = .ok (.getfield 231, 3) := by decide +kernel
theorem dX10_told_105 : decode cX10_told 105 = .ok (.ireturn, 1) := by decide +kernel
theorem dX10_told_106 : decode cX10_told 106 = .ok (.aload_n 3, 1) := by decide +kernel
theorem dX10_told_107 : decode cX10_told 107 = .ok (.getfield 285, 3) := by decide +kernel
theorem dX10_told_110 : decode cX10_told 110 = .ok (.ireturn, 1) := by decide +kernel
theorem dX10_told_111 : decode cX10_told 111 = .ok (.aload_n 3, 1) := by decide +kernel
theorem dX10_told_112 : decode cX10_told 112 = .ok (.getfield 288, 3) := by decide +kernel
theorem dX10_told_115 : decode cX10_told 115 = .ok (.ireturn, 1) := by decide +kernel
theorem dX10_told_116 : decode cX10_told 116 = .ok (.aload_n 3, 1) := by decide +kernel
theorem dX10_told_117 : decode cX10_told 117 = .ok (.getfield 260, 3) := by decide +kernel
theorem dX10_told_120 : decode cX10_told 120 = .ok (.ireturn, 1) := by decide +kernel
theorem dX10_told_121 : decode cX10_told 121 = .ok (.aload_n 3, 1) := by decide +kernel
theorem dX10_told_122 : decode cX10_told 122 = .ok (.getfield 291, 3) := by decide +kernel
theorem dX10_told_125 : decode cX10_told 125 = .ok (.ireturn, 1) := by decide +kernel
theorem dX10_told_126 : decode cX10_told 126 = .ok (.aload_n 3, 1) := by decide +kernel
theorem dX10_told_127 : decode cX10_told 127 = .ok (.getfield 257, 3) := by decide +kernel
theorem dX10_told_130 : decode cX10_told 130 = .ok (.invokevirtual 75, 3) := by decide +kernel
theorem dX10_told_133 : decode cX10_told 133 = .ok (.ireturn, 1) := by decide +kernel
theorem dX10_told_134 : decode cX10_told 134 = .ok (.aload_n 3, 1) := by decide +kernel
theorem dX10_told_135 : decode cX10_told 135 = .ok (.getfield 292, 3) := by decide +kernel
theorem dX10_told_138 : decode cX10_told 138 = .ok (.ireturn, 1) := by decide +kernel
theorem dX10_told_139 : decode cX10_told 139 = .ok (.aload_n 3, 1) := by decide +kernel
theorem dX10_told_140 : decode cX10_told 140 = .ok (.getfield 295, 3) := by decide +kernel
theorem dX10_told_143 : decode cX10_told 143 = .ok (.ireturn, 1) := by decide +kernel
theorem dX10_told_144 : decode cX10_told 144 = .ok (.aload_n 3, 1) := by decide +kernel
theorem dX10_told_145 : decode cX10_told 145 = .ok (.aload_n 0, 1) := by decide +kernel
theorem dX10_told_146 : decode cX10_told 146 = .ok (.getfield 95, 3) := by decide +kernel
theorem dX10_told_149 : decode cX10_told 149 = .ok (.invokevirtual 298, 3) := by decide +kernel
theorem dX10_told_152 : decode cX10_told 152 = .ok (.ireturn, 1) := by decide +kernel
theorem dX10_told_153 : decode cX10_told 153 = .ok (.aload_n 3, 1) := by decide +kernel
theorem dX10_told_154 : decode cX10_told 154 = .ok (.getfield 260, 3) := by decide +kernel
theorem dX10_told_157 : decode cX10_told 157 = .ok (.iconst 1, 1) := by decide +kernel
theorem dX10_told_158 : decode cX10_told 158 = .ok (.if_icmp .eq 11, 3) := by decide +kernel
theorem dX10_told_161 : decode cX10_told 161 = .ok (.aload_n 3, 1) := by decide +kernel
theorem dX10_told_162 : decode cX10_told 162 = .ok (.getfield 260, 3) := by decide +kernel
theorem dX10_told_165 : decode cX10_told 165 = .ok (.iconst 2, 1) := by decide +kernel
theorem dX10_told_166 : decode cX10_told 166 = .ok (.if_icmp .ne 10, 3) := by decide +kernel
theorem dX10_told_169 : decode cX10_told 169 = .ok (.aload_n 3, 1) := by decide +kernel
theorem dX10_told_170 : decode cX10_told 170 = .ok (.getfield 301, 3) := by decide +kernel
theorem dX10_told_173 : decode cX10_told 173 = .ok (.goto 4, 3) := by decide +kernel
theorem dX10_told_176 : decode cX10_told 176 = .ok (.iconst (-1), 1) := by decide +kernel
theorem dX10_told_177 : decode cX10_told 177 = .ok (.ireturn, 1) := by decide +kernel
theorem dX10_told_178 : decode cX10_told 178 = .ok (.bipush (-2), 2) := by decide +kernel
theorem dX10_told_180 : decode cX10_told 180 = .ok (.ireturn, 1) := by decide +kernel
set_option maxRecDepth 20000 in
theorem ggX10_gang_X10_loadAt : GoodIn wsX10_gang wsX10_loadAt := goodIn_r _ [8, 9, 10, 11, 12, 13, 14, 15, 16, 17, 18, 19, 20, 21, 22, 23, 24, 25, 26, 27, 28, 29, 30, 31, 32, 33, 63, 64, 65, 66, 67, 68, 69, 70, 71, 72, 73, 74, 75, 76, 77, 78] (by decide +kernel) (by decide +kernel)
set_option maxRecDepth 20000 in
theorem gX10_gang_X10_loadAt : GoodIn wsX10_gang (wsV RX10 222 RX10 yX10_loadAt wsX10_loadAt) := goodIn_app (goodIn_of _ (by decide +kernel)) ggX10_gang_X10_loadAt
set_option maxRecDepth 20000 in
theorem ggX10_gang_Jx4a65c_size_8abf5 : GoodIn wsX10_gang wsJx4a65c_size_8abf5 := goodIn_r _ [15, 16, 76, 77, 78] (by decide +kernel) (by decide +kernel)
set_option maxRecDepth 20000 in
theorem gX10_gang_Jx4a65c_size_8abf5 : GoodIn wsX10_gang (wsV RX10 75 RJx4a65c yJx4a65c_size_8abf5 wsJx4a65c_size_8abf5) := goodIn_app (goodIn_of _ (by decide +kernel)) ggX10_gang_Jx4a65c_size_8abf5
set_option maxRecDepth 20000 in
theorem ggX10_gang_Jx4a65c_get_915e3 : GoodIn wsX10_gang wsJx4a65c_get_915e3 := goodIn_r _ [20, 16, 21, 22, 23, 24, 25, 26, 27, 28, 29, 30, 31, 14, 32, 33, 76, 77, 78] (by decide +kernel) (by decide +kernel)
set_option maxRecDepth 20000 in
theorem gX10_gang_Jx4a65c_get_915e3 : GoodIn wsX10_gang (wsV RX10 176 RJx4a65c yJx4a65c_get_915e3 wsJx4a65c_get_915e3) := goodIn_app (goodIn_of _ (by decide +kernel)) ggX10_gang_Jx4a65c_get_915e3
theorem dX10_gang_0 : decode cX10_gang 0 = .ok (.aload_n 0, 1) := by decide +kernel
theorem dX10_gang_1 : decode cX10_gang 1 = .ok (.iload_n 1, 1) := by decide +kernel
theorem dX10_gang_2 : decode cX10_gang 2 = .ok (.invokevirtual 222, 3) := by decide +kernel
theorem dX10_gang_5 : decode cX10_gang 5 = .ok (.astore_n 3, 1) := by decide +kernel
theorem dX10_gang_6 : decode cX10_gang 6 = .ok (.aload_n 3, 1) := by decide +kernel
theorem dX10_gang_7 : decode cX10_gang 7 = .ok (.ifnull 18, 3) := by decide +kernel
theorem dX10_gang_10 : decode cX10_gang 10 = .ok (.iload_n 2, 1) := by decide +kernel
theorem dX10_gang_11 : decode cX10_gang 11 = .ok (.ifCond .lt 14, 3) := by decide +kernel
theorem dX10_gang_14 : decode cX10_gang 14 = .ok (.iload_n 2, 1) := by decide +kernel
theorem dX10_gang_15 : decode cX10_gang 15 = .ok (.aload_n 3, 1) := by decide +kernel
theorem dX10_gang_16 : decode cX10_gang 16 = .ok (.getfield 257, 3) := by decide +kernel
theorem dX10_gang_19 : decode cX10_gang 19 = .ok (.invokevirtual 75, 3) := by decide +kernel
theorem dX10_gang_22 : decode cX10_gang 22 = .ok (.if_icmp .lt 5, 3) := by decide +kernel
theorem dX10_gang_25 : decode cX10_gang 25 = .ok (.iconst (-1), 1) := by decide +kernel
theorem dX10_gang_26 : decode cX10_gang 26 = .ok (.ireturn, 1) := by decide +kernel
theorem dX10_gang_27 : decode cX10_gang 27 = .ok (.aload_n 3, 1) := by decide +kernel
theorem dX10_gang_28 : decode cX10_gang 28 = .ok (.getfield 257, 3) := by decide +kernel
theorem dX10_gang_31 : decode cX10_gang 31 = .ok (.iload_n 2, 1) := by decide +kernel
theorem dX10_gang_32 : decode cX10_gang 32 = .ok (.invokevirtual 176, 3) := by decide +kernel
theorem dX10_gang_35 : decode cX10_gang 35 = .ok (.checkcast 121, 3) := by decide +kernel
theorem dX10_gang_38 : decode cX10_gang 38 = .ok (.getfield 180, 3) := by decide +kernel
theorem dX10_gang_41 : decode cX10_gang 41 = .ok (.ireturn, 1) := by decide +kernel
set_option maxRecDepth 20000 in
theorem ggX10_minutes_X10_within : GoodIn wsX10_minutes wsX10_within := goodIn_r _ [6] (by decide +kernel) (by decide +kernel)
set_option maxRecDepth 20000 in
theorem gX10_minutes_X10_within : GoodIn wsX10_minutes (va_wsS RX10 71 yX10_within wsX10_within) := goodIn_app (goodIn_of _ (by decide +kernel)) ggX10_minutes_X10_within
set_option maxRecDepth 20000 in
theorem ggX10_minutes_X10_nextStop : GoodIn wsX10_minutes wsX10_nextStop := goodIn_r _ [10, 11, 12, 13, 14, 15, 16, 17, 18, 19, 20, 21, 5, 22, 1, 23, 24, 25, 26, 27, 28, 29, 30, 31, 32, 33, 34, 35, 36, 37, 38, 39, 40, 41, 42, 43, 44, 45, 174, 175, 176, 177, 178, 179, 180, 181, 182, 183, 184, 185, 186, 187, 188, 189, 190, 191, 192, 193, 194, 195, 196, 197, 198, 199, 200, 201, 202, 203, 204, 205, 206, 207, 208] (by decide +kernel) (by decide +kernel)
set_option maxRecDepth 20000 in
theorem gX10_minutes_X10_nextStop : GoodIn wsX10_minutes (wsV RX10 305 RX10 yX10_nextStop wsX10_nextStop) := goodIn_app (goodIn_of _ (by decide +kernel)) ggX10_minutes_X10_nextStop
set_option maxRecDepth 20000 in
theorem ggX10_minutes_X10_beginDay : GoodIn wsX10_minutes wsX10_beginDay := goodIn_r _ [49, 50, 51, 52, 53, 54, 55, 56, 23, 24, 25, 26, 27, 28, 29, 30, 31, 32, 33, 34, 35, 36, 37, 38, 39, 40, 41, 42, 43, 44, 45, 57, 58, 59, 5, 60, 61, 62, 1, 63, 64, 65, 66, 67, 68, 69, 70, 71, 72, 73, 74, 75, 76, 77, 78, 79, 80, 81, 82, 83, 84, 85, 86, 87, 88, 89, 90, 91, 92, 174, 175, 176, 177, 178, 179, 180, 181, 182, 183, 184, 185, 186, 209, 210, 211, 212, 213, 214, 215, 216, 217, 218, 219, 220, 221, 222, 223, 224, 225, 226, 227, 228, 206, 207, 208] (by decide +kernel) (by decide +kernel)
set_option maxRecDepth 20000 in
theorem gX10_minutes_X10_beginDay : GoodIn wsX10_minutes (wsV RX10 308 RX10 yX10_beginDay wsX10_beginDay) := goodIn_app (goodIn_of _ (by decide +kernel)) ggX10_minutes_X10_beginDay
set_option maxRecDepth 20000 in
theorem ggX10_minutes_X10_bringIn : GoodIn wsX10_minutes wsX10_bringIn := goodIn_r _ [96, 15, 16, 97, 17, 18, 1, 98, 23, 24, 25, 26, 27, 28, 29, 30, 31, 32, 33, 34, 35, 36, 37, 38, 39, 40, 41, 42, 43, 44, 45, 99, 100, 101, 5, 102, 53, 54, 103, 104, 105, 106, 107, 108, 109, 110, 111, 51, 112, 113, 114, 115, 78, 116, 80, 117, 118, 119, 120, 121, 122, 123, 124, 125, 126, 127, 128, 129, 130, 131, 132, 133, 134, 135, 136, 137, 138, 139, 140, 141, 142, 143, 144, 13, 145, 146, 147, 148, 149, 150, 151, 152, 153, 154, 155, 156, 157, 158, 159, 160, 161, 162, 163, 164, 165, 166, 167, 168, 169, 12, 14, 170, 171, 172, 173, 174, 175, 176, 177, 178, 179, 180, 181, 182, 183, 184, 185, 186, 187, 188, 189, 190, 191, 192, 193, 194, 195, 196, 197, 198, 199, 200, 201, 202, 203, 204, 205, 206, 207, 208, 209, 210, 211, 212, 213, 214, 215, 216, 217, 218, 219, 220, 221, 222, 223, 224, 225, 226, 227, 228] (by decide +kernel) (by decide +kernel)
set_option maxRecDepth 20000 in
theorem gX10_minutes_X10_bringIn : GoodIn wsX10_minutes (wsV RX10 311 RX10 yX10_bringIn wsX10_bringIn) := goodIn_app (goodIn_of _ (by decide +kernel)) ggX10_minutes_X10_bringIn
theorem dX10_minutes_0 : decode cX10_minutes 0 = .ok (.iload_n 1, 1) := by decide +kernel
theorem dX10_minutes_1 : decode cX10_minutes 1 = .ok (.iconst 1, 1) := by decide +kernel
theorem dX10_minutes_2 : decode cX10_minutes 2 = .ok (.sipush 600, 3) := by decide +kernel
theorem dX10_minutes_5 : decode cX10_minutes 5 = .ok (.invokestatic 71, 3) := by decide +kernel
theorem dX10_minutes_8 : decode cX10_minutes 8 = .ok (.ifCond .eq 15, 3) := by decide +kernel
theorem dX10_minutes_11 : decode cX10_minutes 11 = .ok (.aload_n 0, 1) := by decide +kernel
theorem dX10_minutes_12 : decode cX10_minutes 12 = .ok (.getfield 95, 3) := by decide +kernel
theorem dX10_minutes_15 : decode cX10_minutes 15 = .ok (.iload_n 1, 1) := by decide +kernel
theorem dX10_minutes_16 : decode cX10_minutes 16 = .ok (.iadd, 1) := by decide +kernel
theorem dX10_minutes_17 : decode cX10_minutes 17 = .ok (.ldc_w 304, 3) := by decide +kernel
theorem dX10_minutes_20 : decode cX10_minutes 20 = .ok (.if_icmp .le 5, 3) := by decide +kernel
theorem dX10_minutes_23 : decode cX10_minutes 23 = .ok (.iconst (-1), 1) := by decide +kernel
theorem dX10_minutes_24 : decode cX10_minutes 24 = .ok (.ireturn, 1) := by decide +kernel
theorem dX10_minutes_25 : decode cX10_minutes 25 = .ok (.aload_n 0, 1) := by decide +kernel
theorem dX10_minutes_26 : decode cX10_minutes 26 = .ok (.getfield 95, 3) := by decide +kernel
theorem dX10_minutes_29 : decode cX10_minutes 29 = .ok (.iload_n 1, 1) := by decide +kernel
theorem dX10_minutes_30 : decode cX10_minutes 30 = .ok (.iadd, 1) := by decide +kernel
theorem dX10_minutes_31 : decode cX10_minutes 31 = .ok (.istore_n 2, 1) := by decide +kernel
theorem dX10_minutes_32 : decode cX10_minutes 32 = .ok (.iconst 0, 1) := by decide +kernel
theorem dX10_minutes_33 : decode cX10_minutes 33 = .ok (.istore_n 3, 1) := by decide +kernel
theorem dX10_minutes_34 : decode cX10_minutes 34 = .ok (.iload_n 3, 1) := by decide +kernel
theorem dX10_minutes_35 : decode cX10_minutes 35 = .ok (.iload_n 1, 1) := by decide +kernel
theorem dX10_minutes_36 : decode cX10_minutes 36 = .ok (.if_icmp .ge 45, 3) := by decide +kernel
theorem dX10_minutes_39 : decode cX10_minutes 39 = .ok (.aload_n 0, 1) := by decide +kernel
theorem dX10_minutes_40 : decode cX10_minutes 40 = .ok (.getfield 95, 3) := by decide +kernel
theorem dX10_minutes_43 : decode cX10_minutes 43 = .ok (.iload_n 2, 1) := by decide +kernel
theorem dX10_minutes_44 : decode cX10_minutes 44 = .ok (.if_icmp .ge 37, 3) := by decide +kernel
theorem dX10_minutes_47 : decode cX10_minutes 47 = .ok (.aload_n 0, 1) := by decide +kernel
theorem dX10_minutes_48 : decode cX10_minutes 48 = .ok (.aload_n 0, 1) := by decide +kernel
theorem dX10_minutes_49 : decode cX10_minutes 49 = .ok (.iload_n 2, 1) := by decide +kernel
theorem dX10_minutes_50 : decode cX10_minutes 50 = .ok (.invokevirtual 305, 3) := by decide +kernel
theorem dX10_minutes_53 : decode cX10_minutes 53 = .ok (.putfield 95, 3) := by decide +kernel
theorem dX10_minutes_56 : decode cX10_minutes 56 = .ok (.aload_n 0, 1) := by decide +kernel
theorem dX10_minutes_57 : decode cX10_minutes 57 = .ok (.getfield 95, 3) := by decide +kernel
theorem dX10_minutes_60 : decode cX10_minutes 60 = .ok (.sipush 600, 3) := by decide +kernel
theorem dX10_minutes_63 : decode cX10_minutes 63 = .ok (.irem, 1) := by decide +kernel
theorem dX10_minutes_64 : decode cX10_minutes 64 = .ok (.ifCond .ne 7, 3) := by decide +kernel
theorem dX10_minutes_67 : decode cX10_minutes 67 = .ok (.aload_n 0, 1) := by decide +kernel
theorem dX10_minutes_68 : decode cX10_minutes 68 = .ok (.invokevirtual 308, 3) := by decide +kernel
theorem dX10_minutes_71 : decode cX10_minutes 71 = .ok (.aload_n 0, 1) := by decide +kernel
theorem dX10_minutes_72 : decode cX10_minutes 72 = .ok (.invokevirtual 311, 3) := by decide +kernel
theorem dX10_minutes_75 : decode cX10_minutes 75 = .ok (.iinc 3 1, 3) := by decide +kernel
theorem dX10_minutes_78 : decode cX10_minutes 78 = .ok (.goto (-44), 3) := by decide +kernel
theorem dX10_minutes_81 : decode cX10_minutes 81 = .ok (.aload_n 0, 1) := by decide +kernel
theorem dX10_minutes_82 : decode cX10_minutes 82 = .ok (.getfield 95, 3) := by decide +kernel
theorem dX10_minutes_85 : decode cX10_minutes 85 = .ok (.ireturn, 1) := by decide +kernel
set_option maxRecDepth 20000 in
theorem ggX10_judged_X10_loadAt : GoodIn wsX10_judged wsX10_loadAt := goodIn_r _ [10, 11, 12, 13, 14, 15, 16, 17, 18, 19, 20, 21, 22, 23, 24, 25, 26, 27, 28, 29, 30, 31, 32, 33, 34, 35, 142, 143, 144, 145, 146, 147, 148, 149, 150, 151, 152, 153, 154, 161, 162, 163] (by decide +kernel) (by decide +kernel)
set_option maxRecDepth 20000 in
theorem gX10_judged_X10_loadAt : GoodIn wsX10_judged (wsV RX10 222 RX10 yX10_loadAt wsX10_loadAt) := goodIn_app (goodIn_of _ (by decide +kernel)) ggX10_judged_X10_loadAt
set_option maxRecDepth 20000 in
theorem ggX10_judged_X10_fellowshipAt : GoodIn wsX10_judged wsX10_fellowshipAt := goodIn_r _ [39, 40, 41, 13, 14, 15, 16, 17, 18, 19, 20, 21, 22, 23, 24, 25, 26, 27, 28, 29, 30, 31, 32, 33, 34, 35, 142, 143, 144, 145, 146, 147, 148, 149, 150, 151, 152, 153, 154, 161, 162, 163] (by decide +kernel) (by decide +kernel)
set_option maxRecDepth 20000 in
theorem gX10_judged_X10_fellowshipAt : GoodIn wsX10_judged (wsV RX10 117 RX10 yX10_fellowshipAt wsX10_fellowshipAt) := goodIn_app (goodIn_of _ (by decide +kernel)) ggX10_judged_X10_fellowshipAt
set_option maxRecDepth 20000 in
theorem ggX10_judged_X10_isDay : GoodIn wsX10_judged wsX10_isDay := goodIn_r _ [44, 45, 46, 9, 47] (by decide +kernel) (by decide +kernel)
set_option maxRecDepth 20000 in
theorem gX10_judged_X10_isDay : GoodIn wsX10_judged (va_wsS RX10 198 yX10_isDay wsX10_isDay) := goodIn_app (goodIn_of _ (by decide +kernel)) ggX10_judged_X10_isDay
set_option maxRecDepth 20000 in
theorem ggX10_judged_X10_lawKnown : GoodIn wsX10_judged wsX10_lawKnown := goodIn_r _ [51, 52, 53, 54, 55, 56, 57, 13, 14, 15, 16, 17, 18, 19, 20, 21, 22, 23, 24, 25, 26, 27, 28, 29, 30, 31, 32, 33, 34, 35, 142, 143, 144, 145, 146, 147, 148, 149, 150, 151, 152, 153, 154, 155, 156, 157, 158, 159, 160, 161, 162, 163] (by decide +kernel) (by decide +kernel)
set_option maxRecDepth 20000 in
theorem gX10_judged_X10_lawKnown : GoodIn wsX10_judged (wsV RX10 217 RX10 yX10_lawKnown wsX10_lawKnown) := goodIn_app (goodIn_of _ (by decide +kernel)) ggX10_judged_X10_lawKnown
set_option maxRecDepth 20000 in
theorem ggX10_judged_X7_rainsAt : GoodIn wsX10_judged wsX7_rainsAt := goodIn_r _ [62, 63, 64, 65, 164, 165, 166] (by decide +kernel) (by decide +kernel)
set_option maxRecDepth 20000 in
theorem gX10_judged_X7_rainsAt : GoodIn wsX10_judged (wsV RX10 317 RX7 yX7_rainsAt wsX7_rainsAt) := goodIn_app (goodIn_of _ (by decide +kernel)) ggX10_judged_X7_rainsAt
set_option maxRecDepth 20000 in
theorem ggX10_judged_X6_lookAtMinute : GoodIn wsX10_judged wsX6_lookAtMinute := goodIn_r _ [70, 71, 72, 73, 74, 75, 167, 168, 169] (by decide +kernel) (by decide +kernel)
set_option maxRecDepth 20000 in
theorem gX10_judged_X6_lookAtMinute : GoodIn wsX10_judged (wsV RX10 320 RX6 yX6_lookAtMinute wsX6_lookAtMinute) := goodIn_app (goodIn_of _ (by decide +kernel)) ggX10_judged_X6_lookAtMinute
set_option maxRecDepth 20000 in
theorem ggX10_judged_X6_lookAtLoad : GoodIn wsX10_judged wsX6_lookAtLoad := goodIn_r _ [79, 71, 80, 81, 82, 83, 84, 167, 168, 169, 123, 124, 125, 126, 127, 128, 129, 130, 131, 132, 133, 134, 135, 136, 137, 138, 139, 140, 141] (by decide +kernel) (by decide +kernel)
set_option maxRecDepth 20000 in
theorem gX10_judged_X6_lookAtLoad : GoodIn wsX10_judged (wsV RX10 324 RX6 yX6_lookAtLoad wsX6_lookAtLoad) := goodIn_app (goodIn_of _ (by decide +kernel)) ggX10_judged_X6_lookAtLoad
set_option maxRecDepth 20000 in
theorem ggX10_judged_X6_reckon : GoodIn wsX10_judged wsX6_reckon := goodIn_r _ [88, 89, 90, 91, 92, 93, 94, 95, 96, 69, 97, 98, 99, 100, 101, 102, 103, 104, 105, 71, 106, 107, 108, 109, 110, 111, 112, 113, 114, 115, 116, 117, 118, 119, 120, 121, 122, 167, 168, 169] (by decide +kernel) (by decide +kernel)
set_option maxRecDepth 20000 in
theorem gX10_judged_X6_reckon : GoodIn wsX10_judged (wsV RX10 332 RX6 yX6_reckon wsX6_reckon) := goodIn_app (goodIn_of _ (by decide +kernel)) ggX10_judged_X6_reckon
theorem dX10_judged_0 : decode cX10_judged 0 = .ok (.aload_n 0, 1) := by decide +kernel
theorem dX10_judged_1 : decode cX10_judged 1 = .ok (.iload_n 1, 1) := by decide +kernel
theorem dX10_judged_2 : decode cX10_judged 2 = .ok (.invokevirtual 222, 3) := by decide +kernel
theorem dX10_judged_5 : decode cX10_judged 5 = .ok (.astore 5, 2) := by decide +kernel
theorem dX10_judged_7 : decode cX10_judged 7 = .ok (.aload 5, 2) := by decide +kernel
theorem dX10_judged_9 : decode cX10_judged 9 = .ok (.ifnull 32, 3) := by decide +kernel
theorem dX10_judged_12 : decode cX10_judged 12 = .ok (.aload_n 0, 1) := by decide +kernel
theorem dX10_judged_13 : decode cX10_judged 13 = .ok (.iload_n 2, 1) := by decide +kernel
theorem dX10_judged_14 : decode cX10_judged 14 = .ok (.invokevirtual 117, 3) := by decide +kernel
theorem dX10_judged_17 : decode cX10_judged 17 = .ok (.ifnull 24, 3) := by decide +kernel
theorem dX10_judged_20 : decode cX10_judged 20 = .ok (.aload_n 0, 1) := by decide +kernel
theorem dX10_judged_21 : decode cX10_judged 21 = .ok (.iload_n 3, 1) := by decide +kernel
theorem dX10_judged_22 : decode cX10_judged 22 = .ok (.invokevirtual 117, 3) := by decide +kernel
theorem dX10_judged_25 : decode cX10_judged 25 = .ok (.ifnull 16, 3) := by decide +kernel
theorem dX10_judged_28 : decode cX10_judged 28 = .ok (.iload_n 2, 1) := by decide +kernel
theorem dX10_judged_29 : decode cX10_judged 29 = .ok (.iload_n 3, 1) := by decide +kernel
theorem dX10_judged_30 : decode cX10_judged 30 = .ok (.if_icmp .eq 11, 3) := by decide +kernel
theorem dX10_judged_33 : decode cX10_judged 33 = .ok (.iload 4, 2) := by decide +kernel
theorem dX10_judged_35 : decode cX10_judged 35 = .ok (.invokestatic 198, 3) := by decide +kernel
theorem dX10_judged_38 : decode cX10_judged 38 = .ok (.ifCond .ne 5, 3) := by decide +kernel
theorem dX10_judged_41 : decode cX10_judged 41 = .ok (.iconst (-1), 1) := by decide +kernel
theorem dX10_judged_42 : decode cX10_judged 42 = .ok (.ireturn, 1) := by decide +kernel
theorem dX10_judged_43 : decode cX10_judged 43 = .ok (.aload 5, 2) := by decide +kernel
theorem dX10_judged_45 : decode cX10_judged 45 = .ok (.getfield 314, 3) := by decide +kernel
theorem dX10_judged_48 : decode cX10_judged 48 = .ok (.sipush 600, 3) := by decide +kernel
theorem dX10_judged_51 : decode cX10_judged 51 = .ok (.idiv, 1) := by decide +kernel
theorem dX10_judged_52 : decode cX10_judged 52 = .ok (.istore 6, 2) := by decide +kernel
theorem dX10_judged_54 : decode cX10_judged 54 = .ok (.aload_n 0, 1) := by decide +kernel
theorem dX10_judged_55 : decode cX10_judged 55 = .ok (.iload_n 2, 1) := by decide +kernel
theorem dX10_judged_56 : decode cX10_judged 56 = .ok (.iconst 0, 1) := by decide +kernel
theorem dX10_judged_57 : decode cX10_judged 57 = .ok (.iload 6, 2) := by decide +kernel
theorem dX10_judged_59 : decode cX10_judged 59 = .ok (.iload 4, 2) := by decide +kernel
theorem dX10_judged_61 : decode cX10_judged 61 = .ok (.invokevirtual 217, 3) := by decide +kernel
theorem dX10_judged_64 : decode cX10_judged 64 = .ok (.astore 7, 2) := by decide +kernel
theorem dX10_judged_66 : decode cX10_judged 66 = .ok (.aload_n 0, 1) := by decide +kernel
theorem dX10_judged_67 : decode cX10_judged 67 = .ok (.iload_n 3, 1) := by decide +kernel
theorem dX10_judged_68 : decode cX10_judged 68 = .ok (.iconst 0, 1) := by decide +kernel
theorem dX10_judged_69 : decode cX10_judged 69 = .ok (.iload 6, 2) := by decide +kernel
theorem dX10_judged_71 : decode cX10_judged 71 = .ok (.iload 4, 2) := by decide +kernel
theorem dX10_judged_73 : decode cX10_judged 73 = .ok (.invokevirtual 217, 3) := by decide +kernel
theorem dX10_judged_76 : decode cX10_judged 76 = .ok (.astore 8, 2) := by decide +kernel
theorem dX10_judged_78 : decode cX10_judged 78 = .ok (.aload 7, 2) := by decide +kernel
theorem dX10_judged_80 : decode cX10_judged 80 = .ok (.ifnull 8, 3) := by decide +kernel
theorem dX10_judged_83 : decode cX10_judged 83 = .ok (.aload 8, 2) := by decide +kernel
theorem dX10_judged_85 : decode cX10_judged 85 = .ok (.ifnonnull 6, 3) := by decide +kernel
theorem dX10_judged_88 : decode cX10_judged 88 = .ok (.bipush (-2), 2) := by decide +kernel
theorem dX10_judged_90 : decode cX10_judged 90 = .ok (.ireturn, 1) := by decide +kernel
theorem dX10_judged_91 : decode cX10_judged 91 = .ok (.aload_n 0, 1) := by decide +kernel
theorem dX10_judged_92 : decode cX10_judged 92 = .ok (.getfield 61, 3) := by decide +kernel
theorem dX10_judged_95 : decode cX10_judged 95 = .ok (.aload 5, 2) := by decide +kernel
theorem dX10_judged_97 : decode cX10_judged 97 = .ok (.getfield 314, 3) := by decide +kernel
theorem dX10_judged_100 : decode cX10_judged 100 = .ok (.aload_n 0, 1) := by decide +kernel
theorem dX10_judged_101 : decode cX10_judged 101 = .ok (.getfield 40, 3) := by decide +kernel
theorem dX10_judged_104 : decode cX10_judged 104 = .ok (.aload 5, 2) := by decide +kernel
theorem dX10_judged_106 : decode cX10_judged 106 = .ok (.getfield 314, 3) := by decide +kernel
theorem dX10_judged_109 : decode cX10_judged 109 = .ok (.invokevirtual 317, 3) := by decide +kernel
theorem dX10_judged_112 : decode cX10_judged 112 = .ok (.invokevirtual 320, 3) := by decide +kernel
theorem dX10_judged_115 : decode cX10_judged 115 = .ok (.aload_n 0, 1) := by decide +kernel
theorem dX10_judged_116 : decode cX10_judged 116 = .ok (.getfield 61, 3) := by decide +kernel
theorem dX10_judged_119 : decode cX10_judged 119 = .ok (.aload 5, 2) := by decide +kernel
theorem dX10_judged_121 : decode cX10_judged 121 = .ok (.iconst 0, 1) := by decide +kernel
theorem dX10_judged_122 : decode cX10_judged 122 = .ok (.invokevirtual 324, 3) := by decide +kernel
theorem dX10_judged_125 : decode cX10_judged 125 = .ok (.aload_n 0, 1) := by decide +kernel
theorem dX10_judged_126 : decode cX10_judged 126 = .ok (.getfield 61, 3) := by decide +kernel
theorem dX10_judged_129 : decode cX10_judged 129 = .ok (.aload 7, 2) := by decide +kernel
theorem dX10_judged_131 : decode cX10_judged 131 = .ok (.getfield 328, 3) := by decide +kernel
theorem dX10_judged_134 : decode cX10_judged 134 = .ok (.invokevirtual 332, 3) := by decide +kernel
theorem dX10_judged_137 : decode cX10_judged 137 = .ok (.istore 9, 2) := by decide +kernel
theorem dX10_judged_139 : decode cX10_judged 139 = .ok (.aload_n 0, 1) := by decide +kernel
theorem dX10_judged_140 : decode cX10_judged 140 = .ok (.getfield 61, 3) := by decide +kernel
theorem dX10_judged_143 : decode cX10_judged 143 = .ok (.aload 8, 2) := by decide +kernel
theorem dX10_judged_145 : decode cX10_judged 145 = .ok (.getfield 328, 3) := by decide +kernel
theorem dX10_judged_148 : decode cX10_judged 148 = .ok (.invokevirtual 332, 3) := by decide +kernel
theorem dX10_judged_151 : decode cX10_judged 151 = .ok (.istore 10, 2) := by decide +kernel
theorem dX10_judged_153 : decode cX10_judged 153 = .ok (.iload 9, 2) := by decide +kernel
theorem dX10_judged_155 : decode cX10_judged 155 = .ok (.ifCond .eq 8, 3) := by decide +kernel
theorem dX10_judged_158 : decode cX10_judged 158 = .ok (.iload 10, 2) := by decide +kernel
theorem dX10_judged_160 : decode cX10_judged 160 = .ok (.ifCond .ne 6, 3) := by decide +kernel
theorem dX10_judged_163 : decode cX10_judged 163 = .ok (.bipush (-2), 2) := by decide +kernel
theorem dX10_judged_165 : decode cX10_judged 165 = .ok (.ireturn, 1) := by decide +kernel
theorem dX10_judged_166 : decode cX10_judged 166 = .ok (.iload 9, 2) := by decide +kernel
theorem dX10_judged_168 : decode cX10_judged 168 = .ok (.iload 10, 2) := by decide +kernel
theorem dX10_judged_170 : decode cX10_judged 170 = .ok (.if_icmp .eq 16, 3) := by decide +kernel
theorem dX10_judged_173 : decode cX10_judged 173 = .ok (.iload 9, 2) := by decide +kernel
theorem dX10_judged_175 : decode cX10_judged 175 = .ok (.iload 10, 2) := by decide +kernel
theorem dX10_judged_177 : decode cX10_judged 177 = .ok (.if_icmp .le 7, 3) := by decide +kernel
theorem dX10_judged_180 : decode cX10_judged 180 = .ok (.iload_n 2, 1) := by decide +kernel
theorem dX10_judged_181 : decode cX10_judged 181 = .ok (.goto 4, 3) := by decide +kernel
theorem dX10_judged_184 : decode cX10_judged 184 = .ok (.iload_n 3, 1) := by decide +kernel
theorem dX10_judged_185 : decode cX10_judged 185 = .ok (.ireturn, 1) := by decide +kernel
theorem dX10_judged_186 : decode cX10_judged 186 = .ok (.aload 7, 2) := by decide +kernel
theorem dX10_judged_188 : decode cX10_judged 188 = .ok (.getfield 221, 3) := by decide +kernel
theorem dX10_judged_191 : decode cX10_judged 191 = .ok (.aload 8, 2) := by decide +kernel
theorem dX10_judged_193 : decode cX10_judged 193 = .ok (.getfield 221, 3) := by decide +kernel
theorem dX10_judged_196 : decode cX10_judged 196 = .ok (.if_icmp .ge 7, 3) := by decide +kernel
theorem dX10_judged_199 : decode cX10_judged 199 = .ok (.iload_n 2, 1) := by decide +kernel
theorem dX10_judged_200 : decode cX10_judged 200 = .ok (.goto 4, 3) := by decide +kernel
theorem dX10_judged_203 : decode cX10_judged 203 = .ok (.iload_n 3, 1) := by decide +kernel
theorem dX10_judged_204 : decode cX10_judged 204 = .ok (.ireturn, 1) := by decide +kernel
set_option maxRecDepth 20000 in
theorem ggX10_rates_X10_fellowshipAt : GoodIn wsX10_rates wsX10_fellowshipAt := goodIn_r _ [7, 8, 9, 10, 11, 12, 13, 14, 15, 16, 17, 18, 19, 20, 21, 22, 23, 24, 25, 26, 27, 28, 29, 30, 31, 32, 46, 47, 48, 49, 50, 51, 52, 53, 54, 55, 56, 57, 58, 59, 60, 61] (by decide +kernel) (by decide +kernel)
set_option maxRecDepth 20000 in
theorem gX10_rates_X10_fellowshipAt : GoodIn wsX10_rates (wsV RX10 117 RX10 yX10_fellowshipAt wsX10_fellowshipAt) := goodIn_app (goodIn_of _ (by decide +kernel)) ggX10_rates_X10_fellowshipAt
set_option maxRecDepth 20000 in
theorem ggX10_rates_X10_within : GoodIn wsX10_rates wsX10_within := goodIn_r _ [35] (by decide +kernel) (by decide +kernel)
set_option maxRecDepth 20000 in
theorem gX10_rates_X10_within : GoodIn wsX10_rates (va_wsS RX10 71 yX10_within wsX10_within) := goodIn_app (goodIn_of _ (by decide +kernel)) ggX10_rates_X10_within
theorem dX10_rates_0 : decode cX10_rates 0 = .ok (.aload_n 0, 1) := by decide +kernel
theorem dX10_rates_1 : decode cX10_rates 1 = .ok (.iload_n 1, 1) := by decide +kernel
theorem dX10_rates_2 : decode cX10_rates 2 = .ok (.invokevirtual 117, 3) := by decide +kernel
theorem dX10_rates_5 : decode cX10_rates 5 = .ok (.astore 4, 2) := by decide +kernel
theorem dX10_rates_7 : decode cX10_rates 7 = .ok (.aload 4, 2) := by decide +kernel
theorem dX10_rates_9 : decode cX10_rates 9 = .ok (.ifnull 23, 3) := by decide +kernel
theorem dX10_rates_12 : decode cX10_rates 12 = .ok (.iload_n 2, 1) := by decide +kernel
theorem dX10_rates_13 : decode cX10_rates 13 = .ok (.iconst 0, 1) := by decide +kernel
theorem dX10_rates_14 : decode cX10_rates 14 = .ok (.bipush 99, 2) := by decide +kernel
theorem dX10_rates_16 : decode cX10_rates 16 = .ok (.invokestatic 71, 3) := by decide +kernel
theorem dX10_rates_19 : decode cX10_rates 19 = .ok (.ifCond .eq 13, 3) := by decide +kernel
theorem dX10_rates_22 : decode cX10_rates 22 = .ok (.iload_n 3, 1) := by decide +kernel
theorem dX10_rates_23 : decode cX10_rates 23 = .ok (.iconst 0, 1) := by decide +kernel
theorem dX10_rates_24 : decode cX10_rates 24 = .ok (.bipush 99, 2) := by decide +kernel
theorem dX10_rates_26 : decode cX10_rates 26 = .ok (.invokestatic 71, 3) := by decide +kernel
theorem dX10_rates_29 : decode cX10_rates 29 = .ok (.ifCond .ne 5, 3) := by decide +kernel
theorem dX10_rates_32 : decode cX10_rates 32 = .ok (.iconst (-1), 1) := by decide +kernel
