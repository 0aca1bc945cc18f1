theorem dX10_isLess_51 : decode cX10_isLess 51 = .ok (.iconst 3, 1) := by decide +kernel
theorem dX10_isLess_52 : decode cX10_isLess 52 = .ok (.if_icmp .ne 7, 3) := by decide +kernel
theorem dX10_isLess_55 : decode cX10_isLess 55 = .ok (.iconst 1, 1) := by decide +kernel
theorem dX10_isLess_56 : decode cX10_isLess 56 = .ok (.goto 4, 3) := by decide +kernel
theorem dX10_isLess_59 : decode cX10_isLess 59 = .ok (.iconst 0, 1) := by decide +kernel
theorem dX10_isLess_60 : decode cX10_isLess 60 = .ok (.istore 9, 2) := by decide +kernel
theorem dX10_isLess_62 : decode cX10_isLess 62 = .ok (.iload 9, 2) := by decide +kernel
theorem dX10_isLess_64 : decode cX10_isLess 64 = .ok (.ifCond .eq 34, 3) := by decide +kernel
theorem dX10_isLess_67 : decode cX10_isLess 67 = .ok (.iload_n 2, 1) := by decide +kernel
theorem dX10_isLess_68 : decode cX10_isLess 68 = .ok (.iload 4, 2) := by decide +kernel
theorem dX10_isLess_70 : decode cX10_isLess 70 = .ok (.if_icmp .eq 17, 3) := by decide +kernel
theorem dX10_isLess_73 : decode cX10_isLess 73 = .ok (.iload_n 2, 1) := by decide +kernel
theorem dX10_isLess_74 : decode cX10_isLess 74 = .ok (.iload 4, 2) := by decide +kernel
theorem dX10_isLess_76 : decode cX10_isLess 76 = .ok (.if_icmp .ge 7, 3) := by decide +kernel
theorem dX10_isLess_79 : decode cX10_isLess 79 = .ok (.iconst 1, 1) := by decide +kernel
theorem dX10_isLess_80 : decode cX10_isLess 80 = .ok (.goto 17, 3) := by decide +kernel
theorem dX10_isLess_83 : decode cX10_isLess 83 = .ok (.iconst 0, 1) := by decide +kernel
theorem dX10_isLess_84 : decode cX10_isLess 84 = .ok (.goto 13, 3) := by decide +kernel
theorem dX10_isLess_87 : decode cX10_isLess 87 = .ok (.iload_n 1, 1) := by decide +kernel
theorem dX10_isLess_88 : decode cX10_isLess 88 = .ok (.iload_n 3, 1) := by decide +kernel
theorem dX10_isLess_89 : decode cX10_isLess 89 = .ok (.if_icmp .ge 7, 3) := by decide +kernel
theorem dX10_isLess_92 : decode cX10_isLess 92 = .ok (.iconst 1, 1) := by decide +kernel
theorem dX10_isLess_93 : decode cX10_isLess 93 = .ok (.goto 4, 3) := by decide +kernel
theorem dX10_isLess_96 : decode cX10_isLess 96 = .ok (.iconst 0, 1) := by decide +kernel
theorem dX10_isLess_97 : decode cX10_isLess 97 = .ok (.ireturn, 1) := by decide +kernel
theorem dX10_isLess_98 : decode cX10_isLess 98 = .ok (.iload_n 1, 1) := by decide +kernel
theorem dX10_isLess_99 : decode cX10_isLess 99 = .ok (.iload_n 3, 1) := by decide +kernel
theorem dX10_isLess_100 : decode cX10_isLess 100 = .ok (.if_icmp .eq 16, 3) := by decide +kernel
theorem dX10_isLess_103 : decode cX10_isLess 103 = .ok (.iload_n 1, 1) := by decide +kernel
theorem dX10_isLess_104 : decode cX10_isLess 104 = .ok (.iload_n 3, 1) := by decide +kernel
theorem dX10_isLess_105 : decode cX10_isLess 105 = .ok (.if_icmp .ge 7, 3) := by decide +kernel
theorem dX10_isLess_108 : decode cX10_isLess 108 = .ok (.iconst 1, 1) := by decide +kernel
theorem dX10_isLess_109 : decode cX10_isLess 109 = .ok (.goto 18, 3) := by decide +kernel
theorem dX10_isLess_112 : decode cX10_isLess 112 = .ok (.iconst 0, 1) := by decide +kernel
theorem dX10_isLess_113 : decode cX10_isLess 113 = .ok (.goto 14, 3) := by decide +kernel
theorem dX10_isLess_116 : decode cX10_isLess 116 = .ok (.iload_n 2, 1) := by decide +kernel
theorem dX10_isLess_117 : decode cX10_isLess 117 = .ok (.iload 4, 2) := by decide +kernel
theorem dX10_isLess_119 : decode cX10_isLess 119 = .ok (.if_icmp .ge 7, 3) := by decide +kernel
theorem dX10_isLess_122 : decode cX10_isLess 122 = .ok (.iconst 1, 1) := by decide +kernel
theorem dX10_isLess_123 : decode cX10_isLess 123 = .ok (.goto 4, 3) := by decide +kernel
theorem dX10_isLess_126 : decode cX10_isLess 126 = .ok (.iconst 0, 1) := by decide +kernel
theorem dX10_isLess_127 : decode cX10_isLess 127 = .ok (.ireturn, 1) := by decide +kernel
set_option maxRecDepth 20000 in
theorem ggX11_init_X7_init : GoodIn wsX11_init wsX7_init := goodIn_r _ [36, 37, 2, 3, 38, 39, 40, 41, 42, 29, 43, 44, 150, 151, 152, 153, 154, 155, 156] (by decide +kernel) (by decide +kernel)
set_option maxRecDepth 20000 in
theorem gX11_init_X7_init_n11 : GoodIn wsX11_init (wsX7_init) := ggX11_init_X7_init
set_option maxRecDepth 20000 in
theorem ggX11_init_X2_init : GoodIn wsX11_init wsX2_init := goodIn_r _ [47, 48, 2, 3, 49, 50, 51, 52, 53, 54, 29, 55, 56, 57, 58, 9, 59, 60, 61, 18, 19, 62, 63, 64, 65, 66, 67, 68, 69, 70, 71, 72, 73, 22, 23, 74, 75, 76, 77, 78, 79, 80, 81, 82, 83, 84, 85, 86, 87, 88, 89, 90, 91, 92, 93, 94, 95, 96, 97, 98, 99, 100, 101, 102, 103, 104, 105, 106, 107, 108, 109, 110, 111, 112, 113, 114, 115, 116, 117, 118, 119, 120, 121, 122, 123, 124, 125, 126, 127, 197, 198, 199, 200, 201, 168, 169, 170, 171, 172, 173, 174, 175, 176, 177, 178, 179, 180, 181, 182, 183, 184, 185, 202, 203, 204, 205, 206, 207, 208, 186, 187, 188, 209, 210, 211, 212, 213, 214, 215, 216, 217, 218, 219, 220, 221, 222, 223] (by decide +kernel) (by decide +kernel)
set_option maxRecDepth 20000 in
theorem gX11_init_X2_init : GoodIn wsX11_init (wsX2_init) := ggX11_init_X2_init
set_option maxRecDepth 20000 in
theorem ggX11_init_X0_init : GoodIn wsX11_init wsX0_init := goodIn_r _ [71, 72, 2, 3, 73, 22, 23, 74, 75, 76, 77, 78, 79, 80, 81, 82, 29, 83, 84, 85, 86, 87, 88, 89, 90, 91, 92, 93, 94, 95, 96, 97, 98, 99, 100, 101, 102, 103, 104, 105, 106, 107, 108, 109, 110, 111, 112, 113, 114, 115, 116, 117, 118, 9, 119, 186, 187, 188, 177, 178, 179, 180, 181, 182, 183, 184, 185, 209, 210, 211, 212, 213, 214, 215, 216, 217, 218, 219, 220, 221, 222, 223] (by decide +kernel) (by decide +kernel)
set_option maxRecDepth 20000 in
theorem gX11_init_X0_init_n39 : GoodIn wsX11_init (wsX0_init) := ggX11_init_X0_init
set_option maxRecDepth 20000 in
theorem ggX11_init_X10_init : GoodIn wsX11_init wsX10_init := goodIn_r _ [94, 95, 2, 3, 96, 97, 186, 187, 188] (by decide +kernel) (by decide +kernel)
set_option maxRecDepth 20000 in
theorem gX11_init_X10_init_n46 : GoodIn wsX11_init (wsX10_init) := ggX11_init_X10_init
set_option maxRecDepth 20000 in
theorem ggX11_init_X5_init : GoodIn wsX11_init wsX5_init := goodIn_r _ [130, 131, 2, 3, 132, 133, 134, 135, 29, 136, 137, 138, 189, 190, 191, 192] (by decide +kernel) (by decide +kernel)
set_option maxRecDepth 20000 in
theorem gX11_init_X5_init : GoodIn wsX11_init (wsX5_init) := ggX11_init_X5_init
set_option maxRecDepth 20000 in
theorem ggX11_init_X8_init : GoodIn wsX11_init wsX8_init := goodIn_r _ [140, 141, 2, 3, 142, 143, 26, 27, 144, 145, 22, 23, 146, 147, 76, 77, 148, 149, 129, 130, 131, 132, 133, 134, 135, 29, 136, 137, 138, 93, 94, 95, 96, 97, 98, 99, 100, 101, 102, 103, 104, 193, 194, 195, 196, 189, 190, 191, 192, 186, 187, 188, 209, 210, 211, 212] (by decide +kernel) (by decide +kernel)
set_option maxRecDepth 20000 in
theorem gX11_init_X8_init_n70 : GoodIn wsX11_init (wsX8_init) := ggX11_init_X8_init
theorem dX11_init_0 : decode cX11_init 0 = .ok (.aload_n 0, 1) := by decide +kernel
theorem dX11_init_1 : decode cX11_init 1 = .ok (.invokespecial 3, 3) := by decide +kernel
theorem dX11_init_4 : decode cX11_init 4 = .ok (.aload_n 0, 1) := by decide +kernel
theorem dX11_init_5 : decode cX11_init 5 = .ok (.new 9, 3) := by decide +kernel
theorem dX11_init_8 : decode cX11_init 8 = .ok (.dup, 1) := by decide +kernel
theorem dX11_init_9 : decode cX11_init 9 = .ok (.invokespecial 11, 3) := by decide +kernel
theorem dX11_init_12 : decode cX11_init 12 = .ok (.putfield 12, 3) := by decide +kernel
theorem dX11_init_15 : decode cX11_init 15 = .ok (.aload_n 0, 1) := by decide +kernel
theorem dX11_init_16 : decode cX11_init 16 = .ok (.iconst 2, 1) := by decide +kernel
theorem dX11_init_17 : decode cX11_init 17 = .ok (.anewarray 9, 3) := by decide +kernel
theorem dX11_init_20 : decode cX11_init 20 = .ok (.putfield 16, 3) := by decide +kernel
theorem dX11_init_23 : decode cX11_init 23 = .ok (.aload_n 0, 1) := by decide +kernel
theorem dX11_init_24 : decode cX11_init 24 = .ok (.iconst 2, 1) := by decide +kernel
theorem dX11_init_25 : decode cX11_init 25 = .ok (.newarray .boolean, 2) := by decide +kernel
theorem dX11_init_27 : decode cX11_init 27 = .ok (.putfield 20, 3) := by decide +kernel
theorem dX11_init_30 : decode cX11_init 30 = .ok (.aload_n 0, 1) := by decide +kernel
theorem dX11_init_31 : decode cX11_init 31 = .ok (.iconst 4, 1) := by decide +kernel
theorem dX11_init_32 : decode cX11_init 32 = .ok (.anewarray 24, 3) := by decide +kernel
theorem dX11_init_35 : decode cX11_init 35 = .ok (.putfield 26, 3) := by decide +kernel
theorem dX11_init_38 : decode cX11_init 38 = .ok (.aload_n 0, 1) := by decide +kernel
theorem dX11_init_39 : decode cX11_init 39 = .ok (.new 30, 3) := by decide +kernel
theorem dX11_init_42 : decode cX11_init 42 = .ok (.dup, 1) := by decide +kernel
theorem dX11_init_43 : decode cX11_init 43 = .ok (.invokespecial 32, 3) := by decide +kernel
theorem dX11_init_46 : decode cX11_init 46 = .ok (.putfield 33, 3) := by decide +kernel
theorem dX11_init_49 : decode cX11_init 49 = .ok (.aload_n 0, 1) := by decide +kernel
theorem dX11_init_50 : decode cX11_init 50 = .ok (.new 37, 3) := by decide +kernel
theorem dX11_init_53 : decode cX11_init 53 = .ok (.dup, 1) := by decide +kernel
theorem dX11_init_54 : decode cX11_init 54 = .ok (.invokespecial 39, 3) := by decide +kernel
theorem dX11_init_57 : decode cX11_init 57 = .ok (.putfield 40, 3) := by decide +kernel
theorem dX11_init_60 : decode cX11_init 60 = .ok (.aload_n 0, 1) := by decide +kernel
theorem dX11_init_61 : decode cX11_init 61 = .ok (.new 44, 3) := by decide +kernel
theorem dX11_init_64 : decode cX11_init 64 = .ok (.dup, 1) := by decide +kernel
theorem dX11_init_65 : decode cX11_init 65 = .ok (.invokespecial 46, 3) := by decide +kernel
theorem dX11_init_68 : decode cX11_init 68 = .ok (.putfield 47, 3) := by decide +kernel
theorem dX11_init_71 : decode cX11_init 71 = .ok (.aload_n 0, 1) := by decide +kernel
theorem dX11_init_72 : decode cX11_init 72 = .ok (.new 51, 3) := by decide +kernel
theorem dX11_init_75 : decode cX11_init 75 = .ok (.dup, 1) := by decide +kernel
theorem dX11_init_76 : decode cX11_init 76 = .ok (.bipush 16, 2) := by decide +kernel
theorem dX11_init_78 : decode cX11_init 78 = .ok (.invokespecial 53, 3) := by decide +kernel
theorem dX11_init_81 : decode cX11_init 81 = .ok (.putfield 56, 3) := by decide +kernel
theorem dX11_init_84 : decode cX11_init 84 = .ok (.aload_n 0, 1) := by decide +kernel
theorem dX11_init_85 : decode cX11_init 85 = .ok (.bipush 9, 2) := by decide +kernel
theorem dX11_init_87 : decode cX11_init 87 = .ok (.newarray .int, 2) := by decide +kernel
theorem dX11_init_89 : decode cX11_init 89 = .ok (.putfield 60, 3) := by decide +kernel
theorem dX11_init_92 : decode cX11_init 92 = .ok (.aload_n 0, 1) := by decide +kernel
theorem dX11_init_93 : decode cX11_init 93 = .ok (.bipush 9, 2) := by decide +kernel
theorem dX11_init_95 : decode cX11_init 95 = .ok (.newarray .int, 2) := by decide +kernel
theorem dX11_init_97 : decode cX11_init 97 = .ok (.putfield 64, 3) := by decide +kernel
theorem dX11_init_100 : decode cX11_init 100 = .ok (.aload_n 0, 1) := by decide +kernel
theorem dX11_init_101 : decode cX11_init 101 = .ok (.bipush 9, 2) := by decide +kernel
theorem dX11_init_103 : decode cX11_init 103 = .ok (.newarray .int, 2) := by decide +kernel
theorem dX11_init_105 : decode cX11_init 105 = .ok (.putfield 67, 3) := by decide +kernel
theorem dX11_init_108 : decode cX11_init 108 = .ok (.iconst 0, 1) := by decide +kernel
theorem dX11_init_109 : decode cX11_init 109 = .ok (.istore_n 1, 1) := by decide +kernel
theorem dX11_init_110 : decode cX11_init 110 = .ok (.iload_n 1, 1) := by decide +kernel
theorem dX11_init_111 : decode cX11_init 111 = .ok (.iconst 2, 1) := by decide +kernel
theorem dX11_init_112 : decode cX11_init 112 = .ok (.if_icmp .ge 22, 3) := by decide +kernel
theorem dX11_init_115 : decode cX11_init 115 = .ok (.aload_n 0, 1) := by decide +kernel
theorem dX11_init_116 : decode cX11_init 116 = .ok (.getfield 16, 3) := by decide +kernel
theorem dX11_init_119 : decode cX11_init 119 = .ok (.iload_n 1, 1) := by decide +kernel
theorem dX11_init_120 : decode cX11_init 120 = .ok (.new 9, 3) := by decide +kernel
theorem dX11_init_123 : decode cX11_init 123 = .ok (.dup, 1) := by decide +kernel
theorem dX11_init_124 : decode cX11_init 124 = .ok (.invokespecial 11, 3) := by decide +kernel
theorem dX11_init_127 : decode cX11_init 127 = .ok (.aastore, 1) := by decide +kernel
theorem dX11_init_128 : decode cX11_init 128 = .ok (.iinc 1 1, 3) := by decide +kernel
theorem dX11_init_131 : decode cX11_init 131 = .ok (.goto (-21), 3) := by decide +kernel
theorem dX11_init_134 : decode cX11_init 134 = .ok (.iconst 0, 1) := by decide +kernel
theorem dX11_init_135 : decode cX11_init 135 = .ok (.istore_n 1, 1) := by decide +kernel
theorem dX11_init_136 : decode cX11_init 136 = .ok (.iload_n 1, 1) := by decide +kernel
theorem dX11_init_137 : decode cX11_init 137 = .ok (.iconst 4, 1) := by decide +kernel
theorem dX11_init_138 : decode cX11_init 138 = .ok (.if_icmp .ge 22, 3) := by decide +kernel
theorem dX11_init_141 : decode cX11_init 141 = .ok (.aload_n 0, 1) := by decide +kernel
theorem dX11_init_142 : decode cX11_init 142 = .ok (.getfield 26, 3) := by decide +kernel
theorem dX11_init_145 : decode cX11_init 145 = .ok (.iload_n 1, 1) := by decide +kernel
theorem dX11_init_146 : decode cX11_init 146 = .ok (.new 24, 3) := by decide +kernel
theorem dX11_init_149 : decode cX11_init 149 = .ok (.dup, 1) := by decide +kernel
theorem dX11_init_150 : decode cX11_init 150 = .ok (.invokespecial 70, 3) := by decide +kernel
theorem dX11_init_153 : decode cX11_init 153 = .ok (.aastore, 1) := by decide +kernel
theorem dX11_init_154 : decode cX11_init 154 = .ok (.iinc 1 1, 3) := by decide +kernel
theorem dX11_init_157 : decode cX11_init 157 = .ok (.goto (-21), 3) := by decide +kernel
theorem dX11_init_160 : decode cX11_init 160 = .ok (.return_, 1) := by decide +kernel
set_option maxRecDepth 20000 in
theorem ggX11_field_X11_isPrimeOfRange : GoodIn wsX11_field wsX11_isPrimeOfRange := goodIn_r _ [7, 8, 9, 6, 10] (by decide +kernel) (by decide +kernel)
set_option maxRecDepth 20000 in
theorem gX11_field_X11_isPrimeOfRange : GoodIn wsX11_field (va_wsS RX11 71 yX11_isPrimeOfRange wsX11_isPrimeOfRange) := goodIn_app (goodIn_of _ (by decide +kernel)) ggX11_field_X11_isPrimeOfRange
set_option maxRecDepth 20000 in
theorem ggX11_field_X7_moveToField : GoodIn wsX11_field wsX7_moveToField := goodIn_r _ [15, 16, 17, 18, 19, 6, 20, 65, 66, 67, 68, 69, 70, 71] (by decide +kernel) (by decide +kernel)
set_option maxRecDepth 20000 in
theorem gX11_field_X7_moveToField : GoodIn wsX11_field (wsV RX11 79 RX7 yX7_moveToField wsX7_moveToField) := goodIn_app (goodIn_of _ (by decide +kernel)) ggX11_field_X7_moveToField
set_option maxRecDepth 20000 in
theorem ggX11_field_X11_moveSlotsToField : GoodIn wsX11_field wsX11_moveSlotsToField := goodIn_r _ [24, 25, 26, 1, 2, 27, 28, 29, 30, 31, 32, 33, 34, 19, 6, 20, 35, 36, 37, 38, 39, 40, 41, 42, 43, 44, 45, 46, 47, 54, 55, 56, 57, 58, 59, 60, 61, 62, 63, 64, 72, 73, 74, 75, 65, 66, 67, 68, 69, 70, 71, 76, 77, 78, 79, 80, 81, 82, 83] (by decide +kernel) (by decide +kernel)
set_option maxRecDepth 20000 in
theorem gX11_field_X11_moveSlotsToField : GoodIn wsX11_field (wsV RX11 82 RX11 yX11_moveSlotsToField wsX11_moveSlotsToField) := goodIn_app (goodIn_of _ (by decide +kernel)) ggX11_field_X11_moveSlotsToField
set_option maxRecDepth 20000 in
theorem ggX11_field_X2_forget : GoodIn wsX11_field wsX2_forget := goodIn_r _ [52, 53, 84, 85, 86, 87, 88, 89, 90, 91, 92] (by decide +kernel) (by decide +kernel)
set_option maxRecDepth 20000 in
theorem gX11_field_X2_forget : GoodIn wsX11_field (wsV RX11 85 RX2 yX2_forget wsX2_forget) := goodIn_app (goodIn_of _ (by decide +kernel)) ggX11_field_X2_forget
theorem dX11_field_0 : decode cX11_field 0 = .ok (.iload_n 1, 1) := by decide +kernel
theorem dX11_field_1 : decode cX11_field 1 = .ok (.invokestatic 71, 3) := by decide +kernel
theorem dX11_field_4 : decode cX11_field 4 = .ok (.ifCond .ne 5, 3) := by decide +kernel
theorem dX11_field_7 : decode cX11_field 7 = .ok (.iconst (-1), 1) := by decide +kernel
theorem dX11_field_8 : decode cX11_field 8 = .ok (.ireturn, 1) := by decide +kernel
theorem dX11_field_9 : decode cX11_field 9 = .ok (.aload_n 0, 1) := by decide +kernel
theorem dX11_field_10 : decode cX11_field 10 = .ok (.getfield 12, 3) := by decide +kernel
theorem dX11_field_13 : decode cX11_field 13 = .ok (.getfield 75, 3) := by decide +kernel
theorem dX11_field_16 : decode cX11_field 16 = .ok (.istore_n 2, 1) := by decide +kernel
theorem dX11_field_17 : decode cX11_field 17 = .ok (.aload_n 0, 1) := by decide +kernel
theorem dX11_field_18 : decode cX11_field 18 = .ok (.getfield 12, 3) := by decide +kernel
theorem dX11_field_21 : decode cX11_field 21 = .ok (.iload_n 1, 1) := by decide +kernel
theorem dX11_field_22 : decode cX11_field 22 = .ok (.invokevirtual 79, 3) := by decide +kernel
theorem dX11_field_25 : decode cX11_field 25 = .ok (.aload_n 0, 1) := by decide +kernel
theorem dX11_field_26 : decode cX11_field 26 = .ok (.invokevirtual 82, 3) := by decide +kernel
theorem dX11_field_29 : decode cX11_field 29 = .ok (.aload_n 0, 1) := by decide +kernel
theorem dX11_field_30 : decode cX11_field 30 = .ok (.getfield 33, 3) := by decide +kernel
theorem dX11_field_33 : decode cX11_field 33 = .ok (.invokevirtual 85, 3) := by decide +kernel
theorem dX11_field_36 : decode cX11_field 36 = .ok (.iload_n 2, 1) := by decide +kernel
theorem dX11_field_37 : decode cX11_field 37 = .ok (.ireturn, 1) := by decide +kernel
set_option maxRecDepth 20000 in
theorem ggX11_system_X11_isWithin : GoodIn wsX11_system wsX11_isWithin := goodIn_r _ [6] (by decide +kernel) (by decide +kernel)
set_option maxRecDepth 20000 in
theorem gX11_system_X11_isWithin : GoodIn wsX11_system (va_wsS RX11 88 yX11_isWithin wsX11_isWithin) := goodIn_app (goodIn_of _ (by decide +kernel)) ggX11_system_X11_isWithin
set_option maxRecDepth 20000 in
theorem ggX11_system_X7_begin : GoodIn wsX11_system wsX7_begin := goodIn_r _ [11, 12, 13, 14, 15, 16, 5, 17, 39, 40, 41, 42, 43, 44, 45] (by decide +kernel) (by decide +kernel)
set_option maxRecDepth 20000 in
theorem gX11_system_X7_begin : GoodIn wsX11_system (wsV RX11 92 RX7 yX7_begin wsX7_begin) := goodIn_app (goodIn_of _ (by decide +kernel)) ggX11_system_X7_begin
set_option maxRecDepth 20000 in
theorem ggX11_system_X2_forget : GoodIn wsX11_system wsX2_forget := goodIn_r _ [22, 23, 46, 47, 48, 49, 50, 51, 52, 53, 54] (by decide +kernel) (by decide +kernel)
set_option maxRecDepth 20000 in
theorem gX11_system_X2_forget : GoodIn wsX11_system (wsV RX11 85 RX2 yX2_forget wsX2_forget) := goodIn_app (goodIn_of _ (by decide +kernel)) ggX11_system_X2_forget
set_option maxRecDepth 20000 in
theorem ggX11_system_X7_dimension : GoodIn wsX11_system wsX7_dimension := goodIn_r _ [27, 12, 13, 39, 40, 41, 42, 43, 44, 45] (by decide +kernel) (by decide +kernel)
set_option maxRecDepth 20000 in
theorem gX11_system_X7_dimension : GoodIn wsX11_system (wsV RX11 96 RX7 yX7_dimension wsX7_dimension) := goodIn_app (goodIn_of _ (by decide +kernel)) ggX11_system_X7_dimension
theorem dX11_system_0 : decode cX11_system 0 = .ok (.iload_n 1, 1) := by decide +kernel
theorem dX11_system_1 : decode cX11_system 1 = .ok (.iconst 1, 1) := by decide +kernel
theorem dX11_system_2 : decode cX11_system 2 = .ok (.iconst 3, 1) := by decide +kernel
theorem dX11_system_3 : decode cX11_system 3 = .ok (.invokestatic 88, 3) := by decide +kernel
theorem dX11_system_6 : decode cX11_system 6 = .ok (.ifCond .eq 12, 3) := by decide +kernel
theorem dX11_system_9 : decode cX11_system 9 = .ok (.iload_n 2, 1) := by decide +kernel
theorem dX11_system_10 : decode cX11_system 10 = .ok (.iconst 1, 1) := by decide +kernel
theorem dX11_system_11 : decode cX11_system 11 = .ok (.iconst 3, 1) := by decide +kernel
theorem dX11_system_12 : decode cX11_system 12 = .ok (.invokestatic 88, 3) := by decide +kernel
theorem dX11_system_15 : decode cX11_system 15 = .ok (.ifCond .ne 5, 3) := by decide +kernel
theorem dX11_system_18 : decode cX11_system 18 = .ok (.iconst (-1), 1) := by decide +kernel
theorem dX11_system_19 : decode cX11_system 19 = .ok (.ireturn, 1) := by decide +kernel
theorem dX11_system_20 : decode cX11_system 20 = .ok (.aload_n 0, 1) := by decide +kernel
theorem dX11_system_21 : decode cX11_system 21 = .ok (.getfield 12, 3) := by decide +kernel
theorem dX11_system_24 : decode cX11_system 24 = .ok (.iload_n 1, 1) := by decide +kernel
theorem dX11_system_25 : decode cX11_system 25 = .ok (.iload_n 2, 1) := by decide +kernel
theorem dX11_system_26 : decode cX11_system 26 = .ok (.invokevirtual 92, 3) := by decide +kernel
theorem dX11_system_29 : decode cX11_system 29 = .ok (.aload_n 0, 1) := by decide +kernel
theorem dX11_system_30 : decode cX11_system 30 = .ok (.getfield 33, 3) := by decide +kernel
theorem dX11_system_33 : decode cX11_system 33 = .ok (.invokevirtual 85, 3) := by decide +kernel
theorem dX11_system_36 : decode cX11_system 36 = .ok (.aload_n 0, 1) := by decide +kernel
theorem dX11_system_37 : decode cX11_system 37 = .ok (.getfield 12, 3) := by decide +kernel
theorem dX11_system_40 : decode cX11_system 40 = .ok (.invokevirtual 96, 3) := by decide +kernel
theorem dX11_system_43 : decode cX11_system 43 = .ok (.ireturn, 1) := by decide +kernel
set_option maxRecDepth 20000 in
theorem ggX11_put_X7_hasCoefficient : GoodIn wsX11_put wsX7_hasCoefficient := goodIn_r _ [7, 8, 9, 10, 11, 12, 13, 14, 15, 16, 6, 17, 18, 19, 57, 58, 59, 60, 61, 62, 63] (by decide +kernel) (by decide +kernel)
set_option maxRecDepth 20000 in
theorem gX11_put_X7_hasCoefficient : GoodIn wsX11_put (wsV RX11 100 RX7 yX7_hasCoefficient wsX7_hasCoefficient) := goodIn_app (goodIn_of _ (by decide +kernel)) ggX11_put_X7_hasCoefficient
set_option maxRecDepth 20000 in
theorem ggX11_put_X11_isNumber : GoodIn wsX11_put wsX11_isNumber := goodIn_r _ [23, 1, 24, 11, 12, 9, 13, 46, 47, 48, 49, 50, 51, 52, 53, 54, 55, 56, 57, 58, 59, 60, 61, 62, 63] (by decide +kernel) (by decide +kernel)
set_option maxRecDepth 20000 in
theorem gX11_put_X11_isNumber : GoodIn wsX11_put (wsV RX11 103 RX11 yX11_isNumber wsX11_isNumber) := goodIn_app (goodIn_of _ (by decide +kernel)) ggX11_put_X11_isNumber
set_option maxRecDepth 20000 in
theorem ggX11_put_X7_coefficient : GoodIn wsX11_put wsX7_coefficient := goodIn_r _ [28, 29, 4, 5, 6, 7, 8, 9, 10, 11, 12, 13, 14, 15, 16, 17, 18, 19, 30, 31, 32, 33, 34, 35, 57, 58, 59, 60, 61, 62, 63] (by decide +kernel) (by decide +kernel)
set_option maxRecDepth 20000 in
theorem gX11_put_X7_coefficient : GoodIn wsX11_put (wsV RX11 106 RX7 yX7_coefficient wsX7_coefficient) := goodIn_app (goodIn_of _ (by decide +kernel)) ggX11_put_X7_coefficient
set_option maxRecDepth 20000 in
theorem ggX11_put_X7_change : GoodIn wsX11_put wsX7_change := goodIn_r _ [39, 29, 4, 5, 6, 7, 8, 9, 10, 11, 12, 13, 14, 15, 16, 17, 18, 19, 30, 31, 32, 33, 34, 35, 57, 58, 59, 60, 61, 62, 63] (by decide +kernel) (by decide +kernel)
set_option maxRecDepth 20000 in
theorem gX11_put_X7_change : GoodIn wsX11_put (wsV RX11 110 RX7 yX7_change wsX7_change) := goodIn_app (goodIn_of _ (by decide +kernel)) ggX11_put_X7_change
set_option maxRecDepth 20000 in
theorem ggX11_put_X2_forget : GoodIn wsX11_put wsX2_forget := goodIn_r _ [44, 45, 64, 65, 66, 67, 68, 69, 70, 71, 72] (by decide +kernel) (by decide +kernel)
set_option maxRecDepth 20000 in
theorem gX11_put_X2_forget : GoodIn wsX11_put (wsV RX11 85 RX2 yX2_forget wsX2_forget) := goodIn_app (goodIn_of _ (by decide +kernel)) ggX11_put_X2_forget
theorem dX11_put_0 : decode cX11_put 0 = .ok (.aload_n 0, 1) := by decide +kernel
theorem dX11_put_1 : decode cX11_put 1 = .ok (.getfield 12, 3) := by decide +kernel
theorem dX11_put_4 : decode cX11_put 4 = .ok (.iload_n 1, 1) := by decide +kernel
theorem dX11_put_5 : decode cX11_put 5 = .ok (.iload_n 2, 1) := by decide +kernel
theorem dX11_put_6 : decode cX11_put 6 = .ok (.iload_n 3, 1) := by decide +kernel
theorem dX11_put_7 : decode cX11_put 7 = .ok (.invokevirtual 100, 3) := by decide +kernel
theorem dX11_put_10 : decode cX11_put 10 = .ok (.ifCond .eq 12, 3) := by decide +kernel
theorem dX11_put_13 : decode cX11_put 13 = .ok (.aload_n 0, 1) := by decide +kernel
theorem dX11_put_14 : decode cX11_put 14 = .ok (.iload 4, 2) := by decide +kernel
theorem dX11_put_16 : decode cX11_put 16 = .ok (.invokevirtual 103, 3) := by decide +kernel
theorem dX11_put_19 : decode cX11_put 19 = .ok (.ifCond .ne 5, 3) := by decide +kernel
theorem dX11_put_22 : decode cX11_put 22 = .ok (.iconst (-1), 1) := by decide +kernel
theorem dX11_put_23 : decode cX11_put 23 = .ok (.ireturn, 1) := by decide +kernel
theorem dX11_put_24 : decode cX11_put 24 = .ok (.aload_n 0, 1) := by decide +kernel
theorem dX11_put_25 : decode cX11_put 25 = .ok (.getfield 12, 3) := by decide +kernel
theorem dX11_put_28 : decode cX11_put 28 = .ok (.iload_n 1, 1) := by decide +kernel
theorem dX11_put_29 : decode cX11_put 29 = .ok (.iload_n 2, 1) := by decide +kernel
theorem dX11_put_30 : decode cX11_put 30 = .ok (.iload_n 3, 1) := by decide +kernel
theorem dX11_put_31 : decode cX11_put 31 = .ok (.invokevirtual 106, 3) := by decide +kernel
theorem dX11_put_34 : decode cX11_put 34 = .ok (.istore 5, 2) := by decide +kernel
theorem dX11_put_36 : decode cX11_put 36 = .ok (.aload_n 0, 1) := by decide +kernel
theorem dX11_put_37 : decode cX11_put 37 = .ok (.getfield 12, 3) := by decide +kernel
theorem dX11_put_40 : decode cX11_put 40 = .ok (.iload_n 1, 1) := by decide +kernel
theorem dX11_put_41 : decode cX11_put 41 = .ok (.iload_n 2, 1) := by decide +kernel
theorem dX11_put_42 : decode cX11_put 42 = .ok (.iload_n 3, 1) := by decide +kernel
theorem dX11_put_43 : decode cX11_put 43 = .ok (.iload 4, 2) := by decide +kernel
theorem dX11_put_45 : decode cX11_put 45 = .ok (.invokevirtual 110, 3) := by decide +kernel
theorem dX11_put_48 : decode cX11_put 48 = .ok (.aload_n 0, 1) := by decide +kernel
theorem dX11_put_49 : decode cX11_put 49 = .ok (.getfield 33, 3) := by decide +kernel
theorem dX11_put_52 : decode cX11_put 52 = .ok (.invokevirtual 85, 3) := by decide +kernel
theorem dX11_put_55 : decode cX11_put 55 = .ok (.iload 5, 2) := by decide +kernel
theorem dX11_put_57 : decode cX11_put 57 = .ok (.ireturn, 1) := by decide +kernel
set_option maxRecDepth 20000 in
theorem ggX11_get_X7_hasCoefficient : GoodIn wsX11_get wsX7_hasCoefficient := goodIn_r _ [6, 7, 8, 9, 10, 11, 12, 13, 14, 15, 5, 16, 17, 18, 41, 42, 43, 44, 45, 46, 47] (by decide +kernel) (by decide +kernel)
set_option maxRecDepth 20000 in
theorem gX11_get_X7_hasCoefficient : GoodIn wsX11_get (wsV RX11 100 RX7 yX7_hasCoefficient wsX7_hasCoefficient) := goodIn_app (goodIn_of _ (by decide +kernel)) ggX11_get_X7_hasCoefficient
set_option maxRecDepth 20000 in
theorem ggX11_get_X7_coefficient : GoodIn wsX11_get wsX7_coefficient := goodIn_r _ [22, 23, 3, 4, 5, 6, 7, 8, 9, 10, 11, 12, 13, 14, 15, 16, 17, 18, 24, 25, 26, 27, 28, 29, 41, 42, 43, 44, 45, 46, 47] (by decide +kernel) (by decide +kernel)
set_option maxRecDepth 20000 in
theorem gX11_get_X7_coefficient : GoodIn wsX11_get (wsV RX11 106 RX7 yX7_coefficient wsX7_coefficient) := goodIn_app (goodIn_of _ (by decide +kernel)) ggX11_get_X7_coefficient
theorem dX11_get_0 : decode cX11_get 0 = .ok (.aload_n 0, 1) := by decide +kernel
theorem dX11_get_1 : decode cX11_get 1 = .ok (.getfield 12, 3) := by decide +kernel
theorem dX11_get_4 : decode cX11_get 4 = .ok (.iload_n 1, 1) := by decide +kernel
theorem dX11_get_5 : decode cX11_get 5 = .ok (.iload_n 2, 1) := by decide +kernel
theorem dX11_get_6 : decode cX11_get 6 = .ok (.iload_n 3, 1) := by decide +kernel
theorem dX11_get_7 : decode cX11_get 7 = .ok (.invokevirtual 100, 3) := by decide +kernel
theorem dX11_get_10 : decode cX11_get 10 = .ok (.ifCond .ne 5, 3) := by decide +kernel
theorem dX11_get_13 : decode cX11_get 13 = .ok (.iconst (-1), 1) := by decide +kernel
theorem dX11_get_14 : decode cX11_get 14 = .ok (.ireturn, 1) := by decide +kernel
theorem dX11_get_15 : decode cX11_get 15 = .ok (.aload_n 0, 1) := by decide +kernel
theorem dX11_get_16 : decode cX11_get 16 = .ok (.getfield 12, 3) := by decide +kernel
theorem dX11_get_19 : decode cX11_get 19 = .ok (.iload_n 1, 1) := by decide +kernel
theorem dX11_get_20 : decode cX11_get 20 = .ok (.iload_n 2, 1) := by decide +kernel
theorem dX11_get_21 : decode cX11_get 21 = .ok (.iload_n 3, 1) := by decide +kernel
theorem dX11_get_22 : decode cX11_get 22 = .ok (.invokevirtual 106, 3) := by decide +kernel
theorem dX11_get_25 : decode cX11_get 25 = .ok (.ireturn, 1) := by decide +kernel
set_option maxRecDepth 20000 in
theorem ggX11_weights_X11_isWithin : GoodIn wsX11_weights wsX11_isWithin := goodIn_r _ [8] (by decide +kernel) (by decide +kernel)
set_option maxRecDepth 20000 in
theorem gX11_weights_X11_isWithin : GoodIn wsX11_weights (va_wsS RX11 88 yX11_isWithin wsX11_isWithin) := goodIn_app (goodIn_of _ (by decide +kernel)) ggX11_weights_X11_isWithin
set_option maxRecDepth 20000 in
theorem ggX11_weights_X2_forget : GoodIn wsX11_weights wsX2_forget := goodIn_r _ [13, 14, 33, 34, 35, 36, 37, 38, 39, 40, 41] (by decide +kernel) (by decide +kernel)
set_option maxRecDepth 20000 in
theorem gX11_weights_X2_forget : GoodIn wsX11_weights (wsV RX11 85 RX2 yX2_forget wsX2_forget) := goodIn_app (goodIn_of _ (by decide +kernel)) ggX11_weights_X2_forget
theorem dX11_weights_0 : decode cX11_weights 0 = .ok (.iload_n 1, 1) := by decide +kernel
theorem dX11_weights_1 : decode cX11_weights 1 = .ok (.iconst 1, 1) := by decide +kernel
theorem dX11_weights_2 : decode cX11_weights 2 = .ok (.bipush 9, 2) := by decide +kernel
theorem dX11_weights_4 : decode cX11_weights 4 = .ok (.invokestatic 88, 3) := by decide +kernel
theorem dX11_weights_7 : decode cX11_weights 7 = .ok (.ifCond .eq 13, 3) := by decide +kernel
theorem dX11_weights_10 : decode cX11_weights 10 = .ok (.iload_n 2, 1) := by decide +kernel
theorem dX11_weights_11 : decode cX11_weights 11 = .ok (.iconst 1, 1) := by decide +kernel
theorem dX11_weights_12 : decode cX11_weights 12 = .ok (.bipush 9, 2) := by decide +kernel
theorem dX11_weights_14 : decode cX11_weights 14 = .ok (.invokestatic 88, 3) := by decide +kernel
theorem dX11_weights_17 : decode cX11_weights 17 = .ok (.ifCond .ne 5, 3) := by decide +kernel
theorem dX11_weights_20 : decode cX11_weights 20 = .ok (.iconst (-1), 1) := by decide +kernel
theorem dX11_weights_21 : decode cX11_weights 21 = .ok (.ireturn, 1) := by decide +kernel
theorem dX11_weights_22 : decode cX11_weights 22 = .ok (.bipush 10, 2) := by decide +kernel
theorem dX11_weights_24 : decode cX11_weights 24 = .ok (.aload_n 0, 1) := by decide +kernel
theorem dX11_weights_25 : decode cX11_weights 25 = .ok (.getfield 12, 3) := by decide +kernel
theorem dX11_weights_28 : decode cX11_weights 28 = .ok (.getfield 114, 3) := by decide +kernel
theorem dX11_weights_31 : decode cX11_weights 31 = .ok (.imul, 1) := by decide +kernel
theorem dX11_weights_32 : decode cX11_weights 32 = .ok (.aload_n 0, 1) := by decide +kernel
theorem dX11_weights_33 : decode cX11_weights 33 = .ok (.getfield 12, 3) := by decide +kernel
theorem dX11_weights_36 : decode cX11_weights 36 = .ok (.getfield 117, 3) := by decide +kernel
theorem dX11_weights_39 : decode cX11_weights 39 = .ok (.iadd, 1) := by decide +kernel
theorem dX11_weights_40 : decode cX11_weights 40 = .ok (.istore_n 3, 1) := by decide +kernel
theorem dX11_weights_41 : decode cX11_weights 41 = .ok (.aload_n 0, 1) := by decide +kernel
theorem dX11_weights_42 : decode cX11_weights 42 = .ok (.getfield 12, 3) := by decide +kernel
theorem dX11_weights_45 : decode cX11_weights 45 = .ok (.iload_n 1, 1) := by decide +kernel
theorem dX11_weights_46 : decode cX11_weights 46 = .ok (.putfield 114, 3) := by decide +kernel
theorem dX11_weights_49 : decode cX11_weights 49 = .ok (.aload_n 0, 1) := by decide +kernel
theorem dX11_weights_50 : decode cX11_weights 50 = .ok (.getfield 12, 3) := by decide +kernel
theorem dX11_weights_53 : decode cX11_weights 53 = .ok (.iload_n 2, 1) := by decide +kernel
theorem dX11_weights_54 : decode cX11_weights 54 = .ok (.putfield 117, 3) := by decide +kernel
theorem dX11_weights_57 : decode cX11_weights 57 = .ok (.aload_n 0, 1) := by decide +kernel
theorem dX11_weights_58 : decode cX11_weights 58 = .ok (.getfield 33, 3) := by decide +kernel
theorem dX11_weights_61 : decode cX11_weights 61 = .ok (.invokevirtual 85, 3) := by decide +kernel
theorem dX11_weights_64 : decode cX11_weights 64 = .ok (.iload_n 3, 1) := by decide +kernel
theorem dX11_weights_65 : decode cX11_weights 65 = .ok (.ireturn, 1) := by decide +kernel
set_option maxRecDepth 20000 in
theorem ggX11_drift_X11_isWithin : GoodIn wsX11_drift wsX11_isWithin := goodIn_r _ [7] (by decide +kernel) (by decide +kernel)
set_option maxRecDepth 20000 in
theorem gX11_drift_X11_isWithin : GoodIn wsX11_drift (va_wsS RX11 88 yX11_isWithin wsX11_isWithin) := goodIn_app (goodIn_of _ (by decide +kernel)) ggX11_drift_X11_isWithin
set_option maxRecDepth 20000 in
theorem ggX11_drift_X7_scatter : GoodIn wsX11_drift wsX7_scatter := goodIn_r _ [12, 13, 14, 15, 16, 17, 18, 11, 19, 20, 21, 22, 6, 23, 24, 25, 26, 27, 28, 29, 30, 31, 32, 33, 4, 5, 7, 34, 35, 36, 37, 38, 39, 61, 62, 63, 64, 65, 66, 67] (by decide +kernel) (by decide +kernel)
set_option maxRecDepth 20000 in
theorem gX11_drift_X7_scatter : GoodIn wsX11_drift (wsV RX11 121 RX7 yX7_scatter wsX7_scatter) := goodIn_app (goodIn_of _ (by decide +kernel)) ggX11_drift_X7_scatter
set_option maxRecDepth 20000 in
theorem ggX11_drift_X2_forget : GoodIn wsX11_drift wsX2_forget := goodIn_r _ [44, 45, 68, 69, 70, 71, 72, 73, 74, 75, 76] (by decide +kernel) (by decide +kernel)
set_option maxRecDepth 20000 in
theorem gX11_drift_X2_forget : GoodIn wsX11_drift (wsV RX11 85 RX2 yX2_forget wsX2_forget) := goodIn_app (goodIn_of _ (by decide +kernel)) ggX11_drift_X2_forget
set_option maxRecDepth 20000 in
theorem ggX11_drift_X7_dimension : GoodIn wsX11_drift wsX7_dimension := goodIn_r _ [49, 20, 21, 61, 62, 63, 64, 65, 66, 67] (by decide +kernel) (by decide +kernel)
set_option maxRecDepth 20000 in
theorem gX11_drift_X7_dimension : GoodIn wsX11_drift (wsV RX11 96 RX7 yX7_dimension wsX7_dimension) := goodIn_app (goodIn_of _ (by decide +kernel)) ggX11_drift_X7_dimension
theorem dX11_drift_0 : decode cX11_drift 0 = .ok (.iload_n 1, 1) := by decide +kernel
theorem dX11_drift_1 : decode cX11_drift 1 = .ok (.iconst 1, 1) := by decide +kernel
theorem dX11_drift_2 : decode cX11_drift 2 = .ok (.ldc 120, 2) := by decide +kernel
theorem dX11_drift_4 : decode cX11_drift 4 = .ok (.invokestatic 88, 3) := by decide +kernel
theorem dX11_drift_7 : decode cX11_drift 7 = .ok (.ifCond .ne 5, 3) := by decide +kernel
theorem dX11_drift_10 : decode cX11_drift 10 = .ok (.iconst (-1), 1) := by decide +kernel
theorem dX11_drift_11 : decode cX11_drift 11 = .ok (.ireturn, 1) := by decide +kernel
theorem dX11_drift_12 : decode cX11_drift 12 = .ok (.aload_n 0, 1) := by decide +kernel
theorem dX11_drift_13 : decode cX11_drift 13 = .ok (.getfield 12, 3) := by decide +kernel
theorem dX11_drift_16 : decode cX11_drift 16 = .ok (.aload_n 0, 1) := by decide +kernel
theorem dX11_drift_17 : decode cX11_drift 17 = .ok (.getfield 12, 3) := by decide +kernel
theorem dX11_drift_20 : decode cX11_drift 20 = .ok (.iload_n 1, 1) := by decide +kernel
theorem dX11_drift_21 : decode cX11_drift 21 = .ok (.iconst 0, 1) := by decide +kernel
theorem dX11_drift_22 : decode cX11_drift 22 = .ok (.invokevirtual 121, 3) := by decide +kernel
theorem dX11_drift_25 : decode cX11_drift 25 = .ok (.iconst 1, 1) := by decide +kernel
theorem dX11_drift_26 : decode cX11_drift 26 = .ok (.invokevirtual 121, 3) := by decide +kernel
theorem dX11_drift_29 : decode cX11_drift 29 = .ok (.pop, 1) := by decide +kernel
theorem dX11_drift_30 : decode cX11_drift 30 = .ok (.aload_n 0, 1) := by decide +kernel
theorem dX11_drift_31 : decode cX11_drift 31 = .ok (.getfield 33, 3) := by decide +kernel
theorem dX11_drift_34 : decode cX11_drift 34 = .ok (.invokevirtual 85, 3) := by decide +kernel
theorem dX11_drift_37 : decode cX11_drift 37 = .ok (.aload_n 0, 1) := by decide +kernel
theorem dX11_drift_38 : decode cX11_drift 38 = .ok (.getfield 12, 3) := by decide +kernel
theorem dX11_drift_41 : decode cX11_drift 41 = .ok (.invokevirtual 96, 3) := by decide +kernel
theorem dX11_drift_44 : decode cX11_drift 44 = .ok (.ireturn, 1) := by decide +kernel
set_option maxRecDepth 20000 in
theorem ggX11_count_X7_dimension : GoodIn wsX11_count wsX7_dimension := goodIn_r _ [11, 12, 13, 265, 266, 267, 268, 269, 270, 271] (by decide +kernel) (by decide +kernel)
set_option maxRecDepth 20000 in
theorem gX11_count_X7_dimension : GoodIn wsX11_count (wsV RX11 96 RX7 yX7_dimension wsX7_dimension) := goodIn_app (goodIn_of _ (by decide +kernel)) ggX11_count_X7_dimension
set_option maxRecDepth 20000 in
theorem ggX11_count_X11_currentIdeal : GoodIn wsX11_count wsX11_currentIdeal := goodIn_r _ [18, 19, 1, 20, 21, 22, 23, 24, 25, 26, 27, 28, 29, 30, 31, 32, 33, 34, 35, 36, 37, 38, 39, 40, 41, 42, 43, 44, 45, 46, 47, 48, 49, 50, 51, 52, 53, 54, 55, 56, 57, 17, 58, 59, 60, 61, 62, 63, 64, 65, 10, 66, 67, 68, 69, 70, 71, 72, 12, 13, 73, 74, 75, 76, 77, 78, 79, 80, 81, 82, 83, 84, 85, 86, 87, 88, 89, 90, 91, 92, 93, 94, 95, 96, 97, 98, 99, 100, 101, 102, 103, 104, 105, 106, 107, 108, 109, 110, 111, 112, 113, 114, 115, 116, 117, 118, 119, 120, 121, 122, 123, 124, 125, 126, 127, 128, 129, 130, 131, 132, 133, 134, 135, 136, 137, 138, 139, 140, 141, 142, 143, 144, 145, 146, 147, 148, 149, 150, 151, 152, 153, 154, 155, 156, 157, 158, 159, 160, 161, 162, 163, 164, 165, 166, 167, 168, 169, 170, 171, 172, 173, 174, 175, 176, 177, 178, 179, 180, 181, 182, 183, 184, 185, 186, 187, 188, 189, 190, 191, 192, 193, 194, 195, 196, 197, 198, 254, 255, 256, 257, 258, 259, 260, 261, 262, 263, 264, 272, 273, 274, 275, 276, 277, 278, 279, 280, 265, 266, 267, 268, 269, 270, 271, 281, 282, 283, 284, 285, 286, 287, 288, 289, 290, 291, 292, 293, 294, 295, 296, 297, 298, 299, 300, 301, 302, 303, 304, 305, 306, 307, 308, 309, 310, 311, 312, 313, 314, 315, 316, 317, 318, 319] (by decide +kernel) (by decide +kernel)
set_option maxRecDepth 20000 in
theorem gX11_count_X11_currentIdeal : GoodIn wsX11_count (wsV RX11 131 RX11 yX11_currentIdeal wsX11_currentIdeal) := goodIn_app (goodIn_of _ (by decide +kernel)) ggX11_count_X11_currentIdeal
set_option maxRecDepth 20000 in
theorem ggX11_count_X2_isPlain : GoodIn wsX11_count wsX2_isPlain := goodIn_r _ [202, 28, 203, 204, 205, 32, 206, 272, 273, 274, 275, 276, 277, 278, 279, 280, 281, 282, 283, 284, 285, 286, 287, 288, 289, 308, 309, 310, 311, 312, 290, 291, 292, 293] (by decide +kernel) (by decide +kernel)
set_option maxRecDepth 20000 in
theorem gX11_count_X2_isPlain : GoodIn wsX11_count (wsV RX11 135 RX2 yX2_isPlain wsX2_isPlain) := goodIn_app (goodIn_of _ (by decide +kernel)) ggX11_count_X2_isPlain
set_option maxRecDepth 20000 in
theorem ggX11_count_X11_asAnswer : GoodIn wsX11_count wsX11_asAnswer := goodIn_r _ [209] (by decide +kernel) (by decide +kernel)
set_option maxRecDepth 20000 in
theorem gX11_count_X11_asAnswer : GoodIn wsX11_count (va_wsS RX11 139 yX11_asAnswer wsX11_asAnswer) := goodIn_app (goodIn_of _ (by decide +kernel)) ggX11_count_X11_asAnswer
set_option maxRecDepth 20000 in
theorem ggX11_count_X2_isRadical : GoodIn wsX11_count wsX2_isRadical := goodIn_r _ [213, 31, 214, 215, 216, 189, 217, 196, 218, 197, 219, 191, 73, 17, 74, 220, 221, 222, 193, 194, 195, 223, 224, 225, 226, 183, 184, 272, 273, 274, 275, 276, 277, 278, 279, 280, 313, 314, 315, 316, 317, 318, 319] (by decide +kernel) (by decide +kernel)
set_option maxRecDepth 20000 in
theorem gX11_count_X2_isRadical : GoodIn wsX11_count (wsV RX11 143 RX2 yX2_isRadical wsX2_isRadical) := goodIn_app (goodIn_of _ (by decide +kernel)) ggX11_count_X2_isRadical
set_option maxRecDepth 20000 in
theorem ggX11_count_X2_countRoots : GoodIn wsX11_count wsX2_countRoots := goodIn_r _ [230, 36, 34, 31, 231, 232, 233, 189, 234, 196, 197, 191, 73, 17, 74, 235, 236, 237, 23, 238, 239, 240, 241, 242, 243, 10, 244, 245, 246, 64, 65, 66, 67, 68, 247, 70, 71, 72, 12, 13, 272, 273, 274, 275, 276, 277, 278, 279, 280, 265, 266, 267, 268, 269, 270, 271, 313, 314, 315, 316, 317, 318, 319] (by decide +kernel) (by decide +kernel)
set_option maxRecDepth 20000 in
theorem gX11_count_X2_countRoots : GoodIn wsX11_count (wsV RX11 146 RX2 yX2_countRoots wsX2_countRoots) := goodIn_app (goodIn_of _ (by decide +kernel)) ggX11_count_X2_countRoots
set_option maxRecDepth 20000 in
theorem ggX11_count_X11_countSlots : GoodIn wsX11_count wsX11_countSlots := goodIn_r _ [251, 252, 253, 254, 255, 256, 257, 258, 259, 260, 261, 262, 263, 264, 320, 321, 322, 323] (by decide +kernel) (by decide +kernel)
set_option maxRecDepth 20000 in
theorem gX11_count_X11_countSlots : GoodIn wsX11_count (wsV RX11 150 RX11 yX11_countSlots wsX11_countSlots) := goodIn_app (goodIn_of _ (by decide +kernel)) ggX11_count_X11_countSlots
theorem dX11_count_0 : decode cX11_count 0 = .ok (.iload_n 1, 1) := by decide +kernel
theorem dX11_count_1 : decode cX11_count 1 = .ok (.tableswitch 153 0 10 #[59, 67, 75, 83, 91, 99, 107, 118, 129, 141, 147], 59) := by decide +kernel
theorem dX11_count_60 : decode cX11_count 60 = .ok (.aload_n 0, 1) := by decide +kernel
theorem dX11_count_61 : decode cX11_count 61 = .ok (.getfield 12, 3) := by decide +kernel
theorem dX11_count_64 : decode cX11_count 64 = .ok (.getfield 75, 3) := by decide +kernel
theorem dX11_count_67 : decode cX11_count 67 = .ok (.ireturn, 1) := by decide +kernel
theorem dX11_count_68 : decode cX11_count 68 = .ok (.aload_n 0, 1) := by decide +kernel
theorem dX11_count_69 : decode cX11_count 69 = .ok (.getfield 12, 3) := by decide +kernel
theorem dX11_count_72 : decode cX11_count 72 = .ok (.getfield 125, 3) := by decide +kernel
theorem dX11_count_75 : decode cX11_count 75 = .ok (.ireturn, 1) := by decide +kernel
theorem dX11_count_76 : decode cX11_count 76 = .ok (.aload_n 0, 1) := by decide +kernel
theorem dX11_count_77 : decode cX11_count 77 = .ok (.getfield 12, 3) := by decide +kernel
theorem dX11_count_80 : decode cX11_count 80 = .ok (.getfield 128, 3) := by decide +kernel
theorem dX11_count_83 : decode cX11_count 83 = .ok (.ireturn, 1) := by decide +kernel
theorem dX11_count_84 : decode cX11_count 84 = .ok (.aload_n 0, 1) := by decide +kernel
theorem dX11_count_85 : decode cX11_count 85 = .ok (.getfield 12, 3) := by decide +kernel
theorem dX11_count_88 : decode cX11_count 88 = .ok (.invokevirtual 96, 3) := by decide +kernel
theorem dX11_count_91 : decode cX11_count 91 = .ok (.ireturn, 1) := by decide +kernel
theorem dX11_count_92 : decode cX11_count 92 = .ok (.aload_n 0, 1) := by decide +kernel
theorem dX11_count_93 : decode cX11_count 93 = .ok (.getfield 12, 3) := by decide +kernel
theorem dX11_count_96 : decode cX11_count 96 = .ok (.getfield 114, 3) := by decide +kernel
theorem dX11_count_99 : decode cX11_count 99 = .ok (.ireturn, 1) := by decide +kernel
theorem dX11_count_100 : decode cX11_count 100 = .ok (.aload_n 0, 1) := by decide +kernel
theorem dX11_count_101 : decode cX11_count 101 = .ok (.getfield 12, 3) := by decide +kernel
theorem dX11_count_104 : decode cX11_count 104 = .ok (.getfield 117, 3) := by decide +kernel
theorem dX11_count_107 : decode cX11_count 107 = .ok (.ireturn, 1) := by decide +kernel
theorem dX11_count_108 : decode cX11_count 108 = .ok (.aload_n 0, 1) := by decide +kernel
theorem dX11_count_109 : decode cX11_count 109 = .ok (.invokevirtual 131, 3) := by decide +kernel
theorem dX11_count_112 : decode cX11_count 112 = .ok (.invokevirtual 135, 3) := by decide +kernel
theorem dX11_count_115 : decode cX11_count 115 = .ok (.invokestatic 139, 3) := by decide +kernel
theorem dX11_count_118 : decode cX11_count 118 = .ok (.ireturn, 1) := by decide +kernel
theorem dX11_count_119 : decode cX11_count 119 = .ok (.aload_n 0, 1) := by decide +kernel
theorem dX11_count_120 : decode cX11_count 120 = .ok (.invokevirtual 131, 3) := by decide +kernel
theorem dX11_count_123 : decode cX11_count 123 = .ok (.invokevirtual 143, 3) := by decide +kernel
theorem dX11_count_126 : decode cX11_count 126 = .ok (.invokestatic 139, 3) := by decide +kernel
theorem dX11_count_129 : decode cX11_count 129 = .ok (.ireturn, 1) := by decide +kernel
theorem dX11_count_130 : decode cX11_count 130 = .ok (.aload_n 0, 1) := by decide +kernel
theorem dX11_count_131 : decode cX11_count 131 = .ok (.invokevirtual 131, 3) := by decide +kernel
theorem dX11_count_134 : decode cX11_count 134 = .ok (.aload_n 0, 1) := by decide +kernel
theorem dX11_count_135 : decode cX11_count 135 = .ok (.getfield 12, 3) := by decide +kernel
theorem dX11_count_138 : decode cX11_count 138 = .ok (.invokevirtual 146, 3) := by decide +kernel
theorem dX11_count_141 : decode cX11_count 141 = .ok (.ireturn, 1) := by decide +kernel
theorem dX11_count_142 : decode cX11_count 142 = .ok (.aload_n 0, 1) := by decide +kernel
theorem dX11_count_143 : decode cX11_count 143 = .ok (.iconst 1, 1) := by decide +kernel
theorem dX11_count_144 : decode cX11_count 144 = .ok (.invokevirtual 150, 3) := by decide +kernel
theorem dX11_count_147 : decode cX11_count 147 = .ok (.ireturn, 1) := by decide +kernel
theorem dX11_count_148 : decode cX11_count 148 = .ok (.aload_n 0, 1) := by decide +kernel
theorem dX11_count_149 : decode cX11_count 149 = .ok (.iconst 2, 1) := by decide +kernel
theorem dX11_count_150 : decode cX11_count 150 = .ok (.invokevirtual 150, 3) := by decide +kernel
theorem dX11_count_153 : decode cX11_count 153 = .ok (.ireturn, 1) := by decide +kernel
theorem dX11_count_154 : decode cX11_count 154 = .ok (.iconst (-1), 1) := by decide +kernel
theorem dX11_count_155 : decode cX11_count 155 = .ok (.ireturn, 1) := by decide +kernel
set_option maxRecDepth 20000 in
theorem ggX11_base_X11_isOrder : GoodIn wsX11_base wsX11_isOrder := goodIn_r _ [6, 7, 8, 5, 9] (by decide +kernel) (by decide +kernel)
set_option maxRecDepth 20000 in
theorem gX11_base_X11_isOrder : GoodIn wsX11_base (va_wsS RX11 154 yX11_isOrder wsX11_isOrder) := goodIn_app (goodIn_of _ (by decide +kernel)) ggX11_base_X11_isOrder
set_option maxRecDepth 20000 in
theorem ggX11_base_X11_baseIn : GoodIn wsX11_base wsX11_baseIn := goodIn_r _ [13, 14, 15, 16, 17, 18, 19, 20, 21, 22, 23, 24, 25, 26, 27, 28, 29, 30, 31, 32, 33, 34, 35, 36, 37, 38, 39, 40, 41, 42, 43, 44, 45, 46, 47, 48, 49, 50, 51, 52, 53, 5, 54, 55, 56, 57, 58, 59, 60, 61, 62, 63, 64, 65, 66, 67, 68, 69, 70, 71, 72, 73, 74, 75, 76, 77, 78, 79, 80, 81, 82, 83, 84, 85, 86, 87, 88, 89, 90, 91, 92, 93, 94, 95, 96, 97, 98, 99, 100, 101, 102, 103, 104, 105, 106, 107, 108, 109, 110, 111, 112, 113, 114, 115, 116, 117, 118, 119, 120, 121, 122, 123, 124, 125, 126, 127, 128, 129, 130, 131, 132, 133, 134, 135, 136, 137, 138, 139, 140, 141, 142, 143, 144, 145, 146, 147, 148, 149, 150, 151, 152, 153, 154, 155, 156, 157, 158, 159, 160, 161, 162, 163, 164, 165, 166, 167, 168, 169, 170, 171, 172, 173, 174, 175, 176, 177, 178, 179, 180, 181, 182, 183, 184, 185, 186, 187, 188, 189, 190, 191, 192, 193, 194, 195, 196, 197, 198, 199, 200, 201, 4, 6, 7, 8, 9, 227, 228, 229, 230, 231, 232, 233, 234, 235, 236, 237, 238, 239, 240, 241, 242, 243, 244, 245, 246, 247, 248, 249, 250, 251, 252, 253, 214, 215, 216, 217, 218, 219, 220, 221, 222, 223, 224, 225, 226, 254, 255, 256, 257, 258, 259, 260, 261, 262, 263, 264, 265, 266, 267, 268, 269, 270, 271, 272, 273, 274, 275, 276, 277, 278, 279] (by decide +kernel) (by decide +kernel)
set_option maxRecDepth 20000 in
theorem gX11_base_X11_baseIn : GoodIn wsX11_base (wsV RX11 157 RX11 yX11_baseIn wsX11_baseIn) := goodIn_app (goodIn_of _ (by decide +kernel)) ggX11_base_X11_baseIn
set_option maxRecDepth 20000 in
theorem ggX11_base_X4_greatestSum : GoodIn wsX11_base wsX4_greatestSum := goodIn_r _ [205, 140, 141, 142, 206, 207, 193, 208, 223, 224, 225, 226] (by decide +kernel) (by decide +kernel)
set_option maxRecDepth 20000 in
theorem gX11_base_X4_greatestSum : GoodIn wsX11_base (wsV RX11 170 RX4 yX4_greatestSum wsX4_greatestSum) := goodIn_app (goodIn_of _ (by decide +kernel)) ggX11_base_X4_greatestSum
set_option maxRecDepth 20000 in
theorem ggX11_base_X0_greatestStairSum : GoodIn wsX11_base wsX0_greatestStairSum := goodIn_r _ [212, 84, 151, 153, 154, 213, 207, 193, 208, 214, 215, 216, 217, 218, 219, 220, 221, 222, 268, 269, 270, 271, 272] (by decide +kernel) (by decide +kernel)
set_option maxRecDepth 20000 in
theorem gX11_base_X0_greatestStairSum : GoodIn wsX11_base (wsV RX11 173 RX0 yX0_greatestStairSum wsX0_greatestStairSum) := goodIn_app (goodIn_of _ (by decide +kernel)) ggX11_base_X0_greatestStairSum
theorem dX11_base_0 : decode cX11_base 0 = .ok (.iload_n 1, 1) := by decide +kernel
theorem dX11_base_1 : decode cX11_base 1 = .ok (.invokestatic 154, 3) := by decide +kernel
theorem dX11_base_4 : decode cX11_base 4 = .ok (.ifCond .ne 5, 3) := by decide +kernel
theorem dX11_base_7 : decode cX11_base 7 = .ok (.iconst (-1), 1) := by decide +kernel
theorem dX11_base_8 : decode cX11_base 8 = .ok (.ireturn, 1) := by decide +kernel
theorem dX11_base_9 : decode cX11_base 9 = .ok (.aload_n 0, 1) := by decide +kernel
theorem dX11_base_10 : decode cX11_base 10 = .ok (.iload_n 1, 1) := by decide +kernel
theorem dX11_base_11 : decode cX11_base 11 = .ok (.invokevirtual 157, 3) := by decide +kernel
theorem dX11_base_14 : decode cX11_base 14 = .ok (.astore_n 3, 1) := by decide +kernel
theorem dX11_base_15 : decode cX11_base 15 = .ok (.iload_n 2, 1) := by decide +kernel
theorem dX11_base_16 : decode cX11_base 16 = .ok (.tableswitch 49 0 2 #[28, 36, 44], 28) := by decide +kernel
theorem dX11_base_44 : decode cX11_base 44 = .ok (.aload_n 3, 1) := by decide +kernel
theorem dX11_base_45 : decode cX11_base 45 = .ok (.getfield 161, 3) := by decide +kernel
theorem dX11_base_48 : decode cX11_base 48 = .ok (.getfield 165, 3) := by decide +kernel
theorem dX11_base_51 : decode cX11_base 51 = .ok (.ireturn, 1) := by decide +kernel
theorem dX11_base_52 : decode cX11_base 52 = .ok (.aload_n 3, 1) := by decide +kernel
theorem dX11_base_53 : decode cX11_base 53 = .ok (.getfield 161, 3) := by decide +kernel
theorem dX11_base_56 : decode cX11_base 56 = .ok (.invokevirtual 170, 3) := by decide +kernel
theorem dX11_base_59 : decode cX11_base 59 = .ok (.ireturn, 1) := by decide +kernel
theorem dX11_base_60 : decode cX11_base 60 = .ok (.aload_n 3, 1) := by decide +kernel
theorem dX11_base_61 : decode cX11_base 61 = .ok (.invokevirtual 173, 3) := by decide +kernel
theorem dX11_base_64 : decode cX11_base 64 = .ok (.ireturn, 1) := by decide +kernel
theorem dX11_base_65 : decode cX11_base 65 = .ok (.iconst (-1), 1) := by decide +kernel
theorem dX11_base_66 : decode cX11_base 66 = .ok (.ireturn, 1) := by decide +kernel
set_option maxRecDepth 20000 in
theorem ggX11_member_X11_isOrder : GoodIn wsX11_member wsX11_isOrder := goodIn_r _ [8, 9, 10, 7, 11] (by decide +kernel) (by decide +kernel)
set_option maxRecDepth 20000 in
theorem gX11_member_X11_isOrder : GoodIn wsX11_member (va_wsS RX11 154 yX11_isOrder wsX11_isOrder) := goodIn_app (goodIn_of _ (by decide +kernel)) ggX11_member_X11_isOrder
set_option maxRecDepth 20000 in
theorem ggX11_member_X11_baseIn : GoodIn wsX11_member wsX11_baseIn := goodIn_r _ [15, 16, 17, 18, 19, 20, 21, 22, 23, 24, 25, 26, 27, 28, 29, 30, 31, 32, 33, 34, 35, 36, 37, 38, 39, 40, 41, 42, 43, 44, 45, 46, 47, 48, 49, 50, 51, 52, 53, 54, 55, 7, 56, 57, 58, 59, 60, 61, 62, 63, 64, 65, 66, 67, 68, 69, 70, 71, 72, 73, 74, 75, 76, 77, 78, 79, 80, 81, 82, 83, 84, 85, 86, 87, 88, 89, 90, 91, 92, 93, 94, 95, 96, 97, 98, 99, 100, 101, 102, 103, 104, 105, 106, 107, 108, 109, 110, 111, 112, 113, 114, 115, 116, 117, 118, 119, 120, 121, 122, 123, 124, 125, 126, 127, 128, 129, 130, 131, 132, 133, 134, 135, 136, 137, 138, 139, 140, 141, 142, 143, 144, 145, 146, 147, 148, 149, 150, 151, 152, 153, 154, 155, 156, 157, 158, 159, 160, 161, 162, 163, 164, 165, 166, 167, 168, 169, 170, 171, 172, 173, 174, 175, 176, 177, 178, 179, 180, 181, 182, 183, 184, 185, 186, 187, 188, 189, 190, 191, 192, 193, 194, 195, 196, 197, 198, 199, 200, 201, 202, 203, 6, 8, 9, 10, 11, 221, 222, 223, 224, 225, 226, 227, 228, 229, 230, 231, 232, 233, 234, 235, 236, 237, 238, 239, 240, 241, 242, 243, 244, 245, 246, 247, 208, 209, 210, 211, 212, 213, 214, 215, 216, 217, 218, 219, 220, 248, 249, 250, 251, 252, 253, 254, 255, 256, 257, 258, 259, 260, 261, 262, 263, 264, 265, 266, 267, 268, 269, 270, 271, 272, 273] (by decide +kernel) (by decide +kernel)
set_option maxRecDepth 20000 in
theorem gX11_member_X11_baseIn : GoodIn wsX11_member (wsV RX11 157 RX11 yX11_baseIn wsX11_baseIn) := goodIn_app (goodIn_of _ (by decide +kernel)) ggX11_member_X11_baseIn
set_option maxRecDepth 20000 in
theorem ggX11_member_X4_countTerms : GoodIn wsX11_member wsX4_countTerms := goodIn_r _ [207, 179, 217, 218, 219, 220] (by decide +kernel) (by decide +kernel)
set_option maxRecDepth 20000 in
theorem gX11_member_X4_countTerms : GoodIn wsX11_member (wsV RX11 182 RX4 yX4_countTerms wsX4_countTerms) := goodIn_app (goodIn_of _ (by decide +kernel)) ggX11_member_X4_countTerms
theorem dX11_member_0 : decode cX11_member 0 = .ok (.iload_n 1, 1) := by decide +kernel
theorem dX11_member_1 : decode cX11_member 1 = .ok (.invokestatic 154, 3) := by decide +kernel
theorem dX11_member_4 : decode cX11_member 4 = .ok (.ifCond .eq 22, 3) := by decide +kernel
theorem dX11_member_7 : decode cX11_member 7 = .ok (.iload_n 2, 1) := by decide +kernel
theorem dX11_member_8 : decode cX11_member 8 = .ok (.ifCond .lt 18, 3) := by decide +kernel
theorem dX11_member_11 : decode cX11_member 11 = .ok (.iload_n 2, 1) := by decide +kernel
theorem dX11_member_12 : decode cX11_member 12 = .ok (.aload_n 0, 1) := by decide +kernel
theorem dX11_member_13 : decode cX11_member 13 = .ok (.iload_n 1, 1) := by decide +kernel
theorem dX11_member_14 : decode cX11_member 14 = .ok (.invokevirtual 157, 3) := by decide +kernel
theorem dX11_member_17 : decode cX11_member 17 = .ok (.getfield 161, 3) := by decide +kernel
theorem dX11_member_20 : decode cX11_member 20 = .ok (.getfield 165, 3) := by decide +kernel
theorem dX11_member_23 : decode cX11_member 23 = .ok (.if_icmp .lt 5, 3) := by decide +kernel
theorem dX11_member_26 : decode cX11_member 26 = .ok (.iconst (-1), 1) := by decide +kernel
theorem dX11_member_27 : decode cX11_member 27 = .ok (.ireturn, 1) := by decide +kernel
theorem dX11_member_28 : decode cX11_member 28 = .ok (.aload_n 0, 1) := by decide +kernel
theorem dX11_member_29 : decode cX11_member 29 = .ok (.iload_n 1, 1) := by decide +kernel
theorem dX11_member_30 : decode cX11_member 30 = .ok (.invokevirtual 157, 3) := by decide +kernel
theorem dX11_member_33 : decode cX11_member 33 = .ok (.getfield 161, 3) := by decide +kernel
theorem dX11_member_36 : decode cX11_member 36 = .ok (.astore 4, 2) := by decide +kernel
theorem dX11_member_38 : decode cX11_member 38 = .ok (.iload_n 3, 1) := by decide +kernel
theorem dX11_member_39 : decode cX11_member 39 = .ok (.tableswitch 48 0 2 #[25, 33, 41], 25) := by decide +kernel
theorem dX11_member_64 : decode cX11_member 64 = .ok (.aload 4, 2) := by decide +kernel
theorem dX11_member_66 : decode cX11_member 66 = .ok (.getfield 176, 3) := by decide +kernel
theorem dX11_member_69 : decode cX11_member 69 = .ok (.iload_n 2, 1) := by decide +kernel
theorem dX11_member_70 : decode cX11_member 70 = .ok (.iaload, 1) := by decide +kernel
theorem dX11_member_71 : decode cX11_member 71 = .ok (.ireturn, 1) := by decide +kernel
theorem dX11_member_72 : decode cX11_member 72 = .ok (.aload 4, 2) := by decide +kernel
theorem dX11_member_74 : decode cX11_member 74 = .ok (.getfield 179, 3) := by decide +kernel
theorem dX11_member_77 : decode cX11_member 77 = .ok (.iload_n 2, 1) := by decide +kernel
theorem dX11_member_78 : decode cX11_member 78 = .ok (.iaload, 1) := by decide +kernel
theorem dX11_member_79 : decode cX11_member 79 = .ok (.ireturn, 1) := by decide +kernel
theorem dX11_member_80 : decode cX11_member 80 = .ok (.aload 4, 2) := by decide +kernel
theorem dX11_member_82 : decode cX11_member 82 = .ok (.iload_n 2, 1) := by decide +kernel
theorem dX11_member_83 : decode cX11_member 83 = .ok (.invokevirtual 182, 3) := by decide +kernel
theorem dX11_member_86 : decode cX11_member 86 = .ok (.ireturn, 1) := by decide +kernel
theorem dX11_member_87 : decode cX11_member 87 = .ok (.iconst (-1), 1) := by decide +kernel
theorem dX11_member_88 : decode cX11_member 88 = .ok (.ireturn, 1) := by decide +kernel
set_option maxRecDepth 20000 in
theorem ggX11_tail_X11_isOrder : GoodIn wsX11_tail wsX11_isOrder := goodIn_r _ [7, 8, 9, 6, 10] (by decide +kernel) (by decide +kernel)
set_option maxRecDepth 20000 in
theorem gX11_tail_X11_isOrder : GoodIn wsX11_tail (va_wsS RX11 154 yX11_isOrder wsX11_isOrder) := goodIn_app (goodIn_of _ (by decide +kernel)) ggX11_tail_X11_isOrder
set_option maxRecDepth 20000 in
theorem ggX11_tail_X11_isStair : GoodIn wsX11_tail wsX11_isStair := goodIn_r _ [14, 15, 16, 17, 18, 19, 20, 21, 22, 8, 9, 6, 10, 224, 225, 226, 227, 228, 229, 230, 231, 232, 233, 234, 235, 236, 237, 238, 239, 240, 241] (by decide +kernel) (by decide +kernel)
set_option maxRecDepth 20000 in
theorem gX11_tail_X11_isStair : GoodIn wsX11_tail (wsV RX11 185 RX11 yX11_isStair wsX11_isStair) := goodIn_app (goodIn_of _ (by decide +kernel)) ggX11_tail_X11_isStair
set_option maxRecDepth 20000 in
theorem ggX11_tail_X11_baseIn : GoodIn wsX11_tail wsX11_baseIn := goodIn_r _ [26, 27, 15, 28, 29, 30, 31, 32, 33, 34, 35, 36, 37, 38, 39, 40, 41, 42, 43, 44, 45, 46, 47, 48, 49, 50, 51, 52, 53, 54, 55, 56, 57, 58, 59, 60, 61, 62, 63, 64, 65, 6, 66, 67, 68, 69, 70, 71, 72, 73, 19, 74, 75, 76, 77, 78, 79, 80, 21, 22, 81, 82, 83, 84, 85, 86, 87, 88, 89, 90, 91, 92, 93, 94, 95, 96, 97, 98, 99, 100, 101, 102, 103, 104, 105, 106, 107, 108, 109, 110, 111, 112, 113, 114, 115, 116, 117, 118, 119, 120, 121, 122, 123, 124, 125, 126, 127, 128, 129, 130, 131, 132, 133, 134, 135, 136, 137, 138, 139, 140, 141, 142, 143, 144, 145, 146, 147, 148, 149, 150, 151, 152, 153, 154, 155, 156, 157, 158, 159, 160, 161, 162, 163, 164, 165, 166, 167, 168, 169, 170, 171, 172, 173, 174, 175, 176, 177, 178, 179, 180, 181, 182, 183, 184, 185, 186, 187, 188, 189, 190, 191, 192, 193, 194, 195, 196, 197, 198, 199, 200, 201, 202, 203, 204, 205, 206, 207, 208, 209, 210, 5, 7, 8, 9, 10, 224, 225, 226, 227, 228, 229, 230, 231, 232, 233, 234, 242, 243, 244, 245, 246, 247, 248, 249, 250, 235, 236, 237, 238, 239, 240, 241, 211, 212, 213, 214, 215, 216, 217, 218, 219, 220, 221, 222, 223, 251, 252, 253, 254, 255, 256, 257, 258, 259, 260, 261, 262, 263, 264, 265, 266, 267, 268, 269, 270, 271, 272, 273, 274, 275, 276] (by decide +kernel) (by decide +kernel)
set_option maxRecDepth 20000 in
theorem gX11_tail_X11_baseIn : GoodIn wsX11_tail (wsV RX11 157 RX11 yX11_baseIn wsX11_baseIn) := goodIn_app (goodIn_of _ (by decide +kernel)) ggX11_tail_X11_baseIn
theorem dX11_tail_0 : decode cX11_tail 0 = .ok (.iload_n 1, 1) := by decide +kernel
theorem dX11_tail_1 : decode cX11_tail 1 = .ok (.invokestatic 154, 3) := by decide +kernel
theorem dX11_tail_4 : decode cX11_tail 4 = .ok (.ifCond .eq 30, 3) := by decide +kernel
theorem dX11_tail_7 : decode cX11_tail 7 = .ok (.aload_n 0, 1) := by decide +kernel
theorem dX11_tail_8 : decode cX11_tail 8 = .ok (.iload_n 3, 1) := by decide +kernel
theorem dX11_tail_9 : decode cX11_tail 9 = .ok (.invokevirtual 185, 3) := by decide +kernel
theorem dX11_tail_12 : decode cX11_tail 12 = .ok (.ifCond .eq 22, 3) := by decide +kernel
theorem dX11_tail_15 : decode cX11_tail 15 = .ok (.iload_n 2, 1) := by decide +kernel
theorem dX11_tail_16 : decode cX11_tail 16 = .ok (.ifCond .lt 18, 3) := by decide +kernel
theorem dX11_tail_19 : decode cX11_tail 19 = .ok (.iload_n 2, 1) := by decide +kernel
theorem dX11_tail_20 : decode cX11_tail 20 = .ok (.aload_n 0, 1) := by decide +kernel
theorem dX11_tail_21 : decode cX11_tail 21 = .ok (.iload_n 1, 1) := by decide +kernel
theorem dX11_tail_22 : decode cX11_tail 22 = .ok (.invokevirtual 157, 3) := by decide +kernel
theorem dX11_tail_25 : decode cX11_tail 25 = .ok (.getfield 161, 3) := by decide +kernel
theorem dX11_tail_28 : decode cX11_tail 28 = .ok (.getfield 165, 3) := by decide +kernel
theorem dX11_tail_31 : decode cX11_tail 31 = .ok (.if_icmp .lt 5, 3) := by decide +kernel
theorem dX11_tail_34 : decode cX11_tail 34 = .ok (.iconst (-1), 1) := by decide +kernel
theorem dX11_tail_35 : decode cX11_tail 35 = .ok (.ireturn, 1) := by decide +kernel
theorem dX11_tail_36 : decode cX11_tail 36 = .ok (.aload_n 0, 1) := by decide +kernel
theorem dX11_tail_37 : decode cX11_tail 37 = .ok (.iload_n 1, 1) := by decide +kernel
theorem dX11_tail_38 : decode cX11_tail 38 = .ok (.invokevirtual 157, 3) := by decide +kernel
theorem dX11_tail_41 : decode cX11_tail 41 = .ok (.getfield 161, 3) := by decide +kernel
theorem dX11_tail_44 : decode cX11_tail 44 = .ok (.getfield 188, 3) := by decide +kernel
theorem dX11_tail_47 : decode cX11_tail 47 = .ok (.iload_n 2, 1) := by decide +kernel
theorem dX11_tail_48 : decode cX11_tail 48 = .ok (.aaload, 1) := by decide +kernel
theorem dX11_tail_49 : decode cX11_tail 49 = .ok (.iload_n 3, 1) := by decide +kernel
theorem dX11_tail_50 : decode cX11_tail 50 = .ok (.iaload, 1) := by decide +kernel
theorem dX11_tail_51 : decode cX11_tail 51 = .ok (.ireturn, 1) := by decide +kernel
set_option maxRecDepth 20000 in
theorem ggX11_stair_X11_isOrder : GoodIn wsX11_stair wsX11_isOrder := goodIn_r _ [6, 7, 8, 5, 9] (by decide +kernel) (by decide +kernel)
set_option maxRecDepth 20000 in
theorem gX11_stair_X11_isOrder : GoodIn wsX11_stair (va_wsS RX11 154 yX11_isOrder wsX11_isOrder) := goodIn_app (goodIn_of _ (by decide +kernel)) ggX11_stair_X11_isOrder
set_option maxRecDepth 20000 in
theorem ggX11_stair_X11_isStair : GoodIn wsX11_stair wsX11_isStair := goodIn_r _ [13, 14, 15, 16, 17, 18, 19, 20, 21, 7, 8, 5, 9, 222, 223, 224, 225, 226, 227, 228, 229, 230, 231, 232, 233, 234, 235, 236, 237, 238, 239] (by decide +kernel) (by decide +kernel)
set_option maxRecDepth 20000 in
theorem gX11_stair_X11_isStair : GoodIn wsX11_stair (wsV RX11 185 RX11 yX11_isStair wsX11_isStair) := goodIn_app (goodIn_of _ (by decide +kernel)) ggX11_stair_X11_isStair
set_option maxRecDepth 20000 in
theorem ggX11_stair_X11_isUnknown : GoodIn wsX11_stair wsX11_isUnknown := goodIn_r _ [24, 7, 8, 5, 9] (by decide +kernel) (by decide +kernel)
set_option maxRecDepth 20000 in
theorem gX11_stair_X11_isUnknown : GoodIn wsX11_stair (va_wsS RX11 192 yX11_isUnknown wsX11_isUnknown) := goodIn_app (goodIn_of _ (by decide +kernel)) ggX11_stair_X11_isUnknown
set_option maxRecDepth 20000 in
theorem ggX11_stair_X11_baseIn : GoodIn wsX11_stair wsX11_baseIn := goodIn_r _ [28, 29, 14, 30, 31, 32, 33, 34, 35, 36, 37, 38, 39, 40, 41, 42, 43, 44, 45, 46, 47, 48, 49, 50, 51, 52, 53, 54, 55, 56, 57, 58, 59, 60, 61, 62, 63, 64, 65, 66, 67, 5, 68, 69, 70, 71, 72, 73, 74, 75, 18, 76, 77, 78, 79, 80, 81, 82, 20, 21, 83, 84, 85, 86, 87, 88, 89, 90, 91, 92, 93, 94, 95, 96, 97, 98, 99, 100, 101, 102, 103, 104, 105, 106, 107, 108, 109, 110, 111, 112, 113, 114, 115, 116, 117, 118, 119, 120, 121, 122, 123, 124, 125, 126, 127, 128, 129, 130, 131, 132, 133, 134, 135, 136, 137, 138, 139, 140, 141, 142, 143, 144, 145, 146, 147, 148, 149, 150, 151, 152, 153, 154, 155, 156, 157, 158, 159, 160, 161, 162, 163, 164, 165, 166, 167, 168, 169, 170, 171, 172, 173, 174, 175, 176, 177, 178, 179, 180, 181, 182, 183, 184, 185, 186, 187, 188, 189, 190, 191, 192, 193, 194, 195, 196, 197, 198, 199, 200, 201, 202, 203, 204, 205, 206, 207, 208, 209, 210, 211, 212, 4, 6, 7, 8, 9, 222, 223, 224, 225, 226, 227, 228, 229, 230, 231, 232, 240, 241, 242, 243, 244, 245, 246, 247, 248, 233, 234, 235, 236, 237, 238, 239, 213, 214, 215, 216, 217, 218, 219, 220, 221, 249, 250, 251, 252, 253, 254, 255, 256, 257, 258, 259, 260, 261, 262, 263, 264, 265, 266, 267, 268, 269, 270, 271, 272, 273, 274, 275, 276, 277, 278] (by decide +kernel) (by decide +kernel)
set_option maxRecDepth 20000 in
theorem gX11_stair_X11_baseIn : GoodIn wsX11_stair (wsV RX11 157 RX11 yX11_baseIn wsX11_baseIn) := goodIn_app (goodIn_of _ (by decide +kernel)) ggX11_stair_X11_baseIn
theorem dX11_stair_0 : decode cX11_stair 0 = .ok (.iload_n 1, 1) := by decide +kernel
theorem dX11_stair_1 : decode cX11_stair 1 = .ok (.invokestatic 154, 3) := by decide +kernel
theorem dX11_stair_4 : decode cX11_stair 4 = .ok (.ifCond .eq 18, 3) := by decide +kernel
theorem dX11_stair_7 : decode cX11_stair 7 = .ok (.aload_n 0, 1) := by decide +kernel
theorem dX11_stair_8 : decode cX11_stair 8 = .ok (.iload_n 2, 1) := by decide +kernel
theorem dX11_stair_9 : decode cX11_stair 9 = .ok (.invokevirtual 185, 3) := by decide +kernel
theorem dX11_stair_12 : decode cX11_stair 12 = .ok (.ifCond .eq 10, 3) := by decide +kernel
theorem dX11_stair_15 : decode cX11_stair 15 = .ok (.iload_n 3, 1) := by decide +kernel
theorem dX11_stair_16 : decode cX11_stair 16 = .ok (.invokestatic 192, 3) := by decide +kernel
theorem dX11_stair_19 : decode cX11_stair 19 = .ok (.ifCond .ne 5, 3) := by decide +kernel
theorem dX11_stair_22 : decode cX11_stair 22 = .ok (.iconst (-1), 1) := by decide +kernel
theorem dX11_stair_23 : decode cX11_stair 23 = .ok (.ireturn, 1) := by decide +kernel
theorem dX11_stair_24 : decode cX11_stair 24 = .ok (.aload_n 0, 1) := by decide +kernel
theorem dX11_stair_25 : decode cX11_stair 25 = .ok (.iload_n 1, 1) := by decide +kernel
theorem dX11_stair_26 : decode cX11_stair 26 = .ok (.invokevirtual 157, 3) := by decide +kernel
theorem dX11_stair_29 : decode cX11_stair 29 = .ok (.astore 4, 2) := by decide +kernel
theorem dX11_stair_31 : decode cX11_stair 31 = .ok (.iload_n 3, 1) := by decide +kernel
theorem dX11_stair_32 : decode cX11_stair 32 = .ok (.ifCond .ne 13, 3) := by decide +kernel
theorem dX11_stair_35 : decode cX11_stair 35 = .ok (.aload 4, 2) := by decide +kernel
theorem dX11_stair_37 : decode cX11_stair 37 = .ok (.getfield 195, 3) := by decide +kernel
theorem dX11_stair_40 : decode cX11_stair 40 = .ok (.iload_n 2, 1) := by decide +kernel
theorem dX11_stair_41 : decode cX11_stair 41 = .ok (.iaload, 1) := by decide +kernel
theorem dX11_stair_42 : decode cX11_stair 42 = .ok (.goto 10, 3) := by decide +kernel
theorem dX11_stair_45 : decode cX11_stair 45 = .ok (.aload 4, 2) := by decide +kernel
theorem dX11_stair_47 : decode cX11_stair 47 = .ok (.getfield 198, 3) := by decide +kernel
theorem dX11_stair_50 : decode cX11_stair 50 = .ok (.iload_n 2, 1) := by decide +kernel
theorem dX11_stair_51 : decode cX11_stair 51 = .ok (.iaload, 1) := by decide +kernel
theorem dX11_stair_52 : decode cX11_stair 52 = .ok (.ireturn, 1) := by decide +kernel
set_option maxRecDepth 20000 in
theorem ggX11_normal_X11_isOrder : GoodIn wsX11_normal wsX11_isOrder := goodIn_r _ [7, 8, 9, 6, 10] (by decide +kernel) (by decide +kernel)
set_option maxRecDepth 20000 in
theorem gX11_normal_X11_isOrder : GoodIn wsX11_normal (va_wsS RX11 154 yX11_isOrder wsX11_isOrder) := goodIn_app (goodIn_of _ (by decide +kernel)) ggX11_normal_X11_isOrder
set_option maxRecDepth 20000 in
theorem ggX11_normal_X11_isStair : GoodIn wsX11_normal wsX11_isStair := goodIn_r _ [14, 15, 16, 17, 18, 19, 20, 21, 22, 8, 9, 6, 10, 245, 246, 247, 248, 249, 250, 251, 252, 253, 254, 255, 265, 266, 267, 268, 269, 270, 271] (by decide +kernel) (by decide +kernel)
set_option maxRecDepth 20000 in
theorem gX11_normal_X11_isStair : GoodIn wsX11_normal (wsV RX11 185 RX11 yX11_isStair wsX11_isStair) := goodIn_app (goodIn_of _ (by decide +kernel)) ggX11_normal_X11_isStair
set_option maxRecDepth 20000 in
theorem ggX11_normal_X11_currentIdeal : GoodIn wsX11_normal wsX11_currentIdeal := goodIn_r _ [26, 27, 15, 28, 29, 30, 31, 32, 33, 34, 35, 36, 37, 38, 39, 40, 41, 42, 43, 44, 45, 46, 47, 48, 49, 50, 51, 52, 53, 54, 55, 56, 57, 58, 59, 60, 61, 62, 63, 64, 65, 6, 66, 67, 68, 69, 70, 71, 72, 73, 19, 74, 75, 76, 77, 78, 79, 80, 21, 22, 81, 82, 83, 84, 85, 86, 87, 88, 89, 90, 91, 92, 93, 94, 95, 96, 97, 98, 99, 100, 101, 102, 103, 104, 105, 106, 107, 108, 109, 110, 111, 112, 113, 114, 115, 116, 117, 118, 119, 120, 121, 122, 123, 124, 125, 126, 127, 128, 129, 130, 131, 132, 133, 134, 135, 136, 137, 138, 139, 140, 141, 142, 143, 144, 145, 146, 147, 148, 149, 150, 151, 152, 153, 154, 155, 156, 157, 158, 159, 160, 161, 162, 163, 164, 165, 166, 167, 168, 169, 170, 171, 172, 173, 174, 175, 176, 177, 178, 179, 180, 181, 182, 183, 184, 185, 186, 187, 188, 189, 190, 191, 192, 193, 194, 195, 196, 197, 198, 199, 200, 201, 202, 203, 204, 205, 206, 245, 246, 247, 248, 249, 250, 251, 252, 253, 254, 255, 272, 273, 274, 275, 276, 277, 278, 279, 280, 265, 266, 267, 268, 269, 270, 271, 256, 257, 258, 259, 260, 261, 262, 263, 264, 281, 282, 283, 284, 285, 286, 287, 288, 289, 290, 291, 292, 293, 294, 295, 296, 297, 298, 299, 300, 301, 302, 303, 304, 305, 306, 307, 308, 309, 310] (by decide +kernel) (by decide +kernel)
set_option maxRecDepth 20000 in
theorem gX11_normal_X11_currentIdeal : GoodIn wsX11_normal (wsV RX11 131 RX11 yX11_currentIdeal wsX11_currentIdeal) := goodIn_app (goodIn_of _ (by decide +kernel)) ggX11_normal_X11_currentIdeal
set_option maxRecDepth 20000 in
theorem ggX11_normal_X2_vectorOfTerm : GoodIn wsX11_normal wsX2_vectorOfTerm := goodIn_r _ [210, 39, 34, 211, 212, 213, 214, 215, 197, 216, 217, 65, 6, 66, 218, 219, 220, 221, 222, 204, 199, 205, 81, 82, 223, 224, 225, 226, 227, 165, 166, 48, 167, 228, 229, 230, 231, 51, 232, 233, 234, 201, 202, 203, 235, 169, 170, 171, 172, 55, 53, 60, 61, 62, 63, 64, 83, 84, 272, 273, 274, 275, 276, 277, 278, 279, 280, 304, 305, 306, 307, 308, 309, 310, 285, 286, 287, 288, 289] (by decide +kernel) (by decide +kernel)
set_option maxRecDepth 20000 in
theorem gX11_normal_X2_vectorOfTerm : GoodIn wsX11_normal (wsV RX11 201 RX2 yX2_vectorOfTerm wsX2_vectorOfTerm) := goodIn_app (goodIn_of _ (by decide +kernel)) ggX11_normal_X2_vectorOfTerm
set_option maxRecDepth 20000 in
theorem ggX11_normal_X11_baseIn : GoodIn wsX11_normal wsX11_baseIn := goodIn_r _ [239, 27, 15, 28, 29, 30, 31, 32, 33, 34, 35, 36, 37, 38, 39, 40, 41, 42, 43, 44, 45, 46, 47, 48, 49, 50, 51, 52, 53, 54, 55, 56, 57, 58, 59, 60, 61, 62, 63, 64, 65, 6, 66, 67, 68, 69, 70, 71, 72, 73, 19, 74, 75, 76, 77, 78, 79, 80, 21, 22, 81, 82, 83, 84, 85, 86, 87, 88, 89, 90, 91, 92, 93, 94, 95, 96, 97, 98, 99, 100, 101, 102, 103, 104, 105, 106, 107, 108, 109, 110, 111, 112, 113, 114, 115, 116, 117, 118, 119, 120, 121, 122, 123, 124, 125, 126, 127, 128, 129, 130, 131, 132, 133, 134, 135, 136, 137, 138, 139, 140, 141, 142, 143, 144, 145, 146, 147, 148, 149, 150, 151, 152, 153, 154, 155, 156, 157, 158, 159, 160, 161, 162, 163, 164, 165, 166, 167, 168, 169, 170, 171, 172, 173, 174, 175, 176, 177, 178, 179, 180, 181, 182, 183, 184, 185, 186, 187, 188, 189, 190, 191, 192, 193, 194, 195, 196, 197, 198, 199, 200, 201, 202, 203, 204, 205, 206, 240, 241, 242, 243, 5, 7, 8, 9, 10, 245, 246, 247, 248, 249, 250, 251, 252, 253, 254, 255, 272, 273, 274, 275, 276, 277, 278, 279, 280, 265, 266, 267, 268, 269, 270, 271, 256, 257, 258, 259, 260, 261, 262, 263, 264, 281, 282, 283, 284, 285, 286, 287, 288, 289, 290, 291, 292, 293, 294, 295, 296, 297, 298, 299, 300, 301, 302, 303, 304, 305, 306, 307, 308, 309, 310] (by decide +kernel) (by decide +kernel)
set_option maxRecDepth 20000 in
theorem gX11_normal_X11_baseIn : GoodIn wsX11_normal (wsV RX11 157 RX11 yX11_baseIn wsX11_baseIn) := goodIn_app (goodIn_of _ (by decide +kernel)) ggX11_normal_X11_baseIn
set_option maxRecDepth 20000 in
theorem ggX11_normal_X9_express : GoodIn wsX11_normal wsX9_express := goodIn_r _ [176, 111, 177, 178, 112, 179, 65, 6, 66, 83, 84, 299, 300, 301, 302, 303] (by decide +kernel) (by decide +kernel)
set_option maxRecDepth 20000 in
theorem gX11_normal_X9_express : GoodIn wsX11_normal (wsV RX11 209 RX9 yX9_express wsX9_express) := goodIn_app (goodIn_of _ (by decide +kernel)) ggX11_normal_X9_express
theorem dX11_normal_0 : decode cX11_normal 0 = .ok (.iload_n 1, 1) := by decide +kernel
theorem dX11_normal_1 : decode cX11_normal 1 = .ok (.invokestatic 154, 3) := by decide +kernel
theorem dX11_normal_4 : decode cX11_normal 4 = .ok (.ifCond .eq 20, 3) := by decide +kernel
theorem dX11_normal_7 : decode cX11_normal 7 = .ok (.iload_n 2, 1) := by decide +kernel
theorem dX11_normal_8 : decode cX11_normal 8 = .ok (.ifCond .lt 16, 3) := by decide +kernel
theorem dX11_normal_11 : decode cX11_normal 11 = .ok (.iload_n 3, 1) := by decide +kernel
theorem dX11_normal_12 : decode cX11_normal 12 = .ok (.ifCond .lt 12, 3) := by decide +kernel
theorem dX11_normal_15 : decode cX11_normal 15 = .ok (.aload_n 0, 1) := by decide +kernel
theorem dX11_normal_16 : decode cX11_normal 16 = .ok (.iload 4, 2) := by decide +kernel
theorem dX11_normal_18 : decode cX11_normal 18 = .ok (.invokevirtual 185, 3) := by decide +kernel
theorem dX11_normal_21 : decode cX11_normal 21 = .ok (.ifCond .ne 5, 3) := by decide +kernel
theorem dX11_normal_24 : decode cX11_normal 24 = .ok (.iconst (-1), 1) := by decide +kernel
theorem dX11_normal_25 : decode cX11_normal 25 = .ok (.ireturn, 1) := by decide +kernel
theorem dX11_normal_26 : decode cX11_normal 26 = .ok (.aload_n 0, 1) := by decide +kernel
theorem dX11_normal_27 : decode cX11_normal 27 = .ok (.invokevirtual 131, 3) := by decide +kernel
theorem dX11_normal_30 : decode cX11_normal 30 = .ok (.iload_n 2, 1) := by decide +kernel
theorem dX11_normal_31 : decode cX11_normal 31 = .ok (.iload_n 3, 1) := by decide +kernel
theorem dX11_normal_32 : decode cX11_normal 32 = .ok (.aload_n 0, 1) := by decide +kernel
theorem dX11_normal_33 : decode cX11_normal 33 = .ok (.getfield 60, 3) := by decide +kernel
theorem dX11_normal_36 : decode cX11_normal 36 = .ok (.invokevirtual 201, 3) := by decide +kernel
theorem dX11_normal_39 : decode cX11_normal 39 = .ok (.aload_n 0, 1) := by decide +kernel
theorem dX11_normal_40 : decode cX11_normal 40 = .ok (.iload_n 1, 1) := by decide +kernel
theorem dX11_normal_41 : decode cX11_normal 41 = .ok (.invokevirtual 157, 3) := by decide +kernel
theorem dX11_normal_44 : decode cX11_normal 44 = .ok (.getfield 205, 3) := by decide +kernel
theorem dX11_normal_47 : decode cX11_normal 47 = .ok (.aload_n 0, 1) := by decide +kernel
theorem dX11_normal_48 : decode cX11_normal 48 = .ok (.getfield 60, 3) := by decide +kernel
theorem dX11_normal_51 : decode cX11_normal 51 = .ok (.aload_n 0, 1) := by decide +kernel
theorem dX11_normal_52 : decode cX11_normal 52 = .ok (.getfield 67, 3) := by decide +kernel
theorem dX11_normal_55 : decode cX11_normal 55 = .ok (.invokevirtual 209, 3) := by decide +kernel
theorem dX11_normal_58 : decode cX11_normal 58 = .ok (.aload_n 0, 1) := by decide +kernel
theorem dX11_normal_59 : decode cX11_normal 59 = .ok (.getfield 67, 3) := by decide +kernel
theorem dX11_normal_62 : decode cX11_normal 62 = .ok (.iload 4, 2) := by decide +kernel
theorem dX11_normal_64 : decode cX11_normal 64 = .ok (.iaload, 1) := by decide +kernel
theorem dX11_normal_65 : decode cX11_normal 65 = .ok (.ireturn, 1) := by decide +kernel
set_option maxRecDepth 20000 in
theorem ggX11_table_X11_isOrder : GoodIn wsX11_table wsX11_isOrder := goodIn_r _ [10, 11, 12, 9, 13] (by decide +kernel) (by decide +kernel)
set_option maxRecDepth 20000 in
theorem gX11_table_X11_isOrder : GoodIn wsX11_table (va_wsS RX11 154 yX11_isOrder wsX11_isOrder) := goodIn_app (goodIn_of _ (by decide +kernel)) ggX11_table_X11_isOrder
set_option maxRecDepth 20000 in
theorem ggX11_table_X11_isUnknown : GoodIn wsX11_table wsX11_isUnknown := goodIn_r _ [16, 11, 12, 9, 13] (by decide +kernel) (by decide +kernel)
set_option maxRecDepth 20000 in
theorem gX11_table_X11_isUnknown : GoodIn wsX11_table (va_wsS RX11 192 yX11_isUnknown wsX11_isUnknown) := goodIn_app (goodIn_of _ (by decide +kernel)) ggX11_table_X11_isUnknown
set_option maxRecDepth 20000 in
theorem ggX11_table_X11_isStair : GoodIn wsX11_table wsX11_isStair := goodIn_r _ [20, 21, 22, 23, 24, 25, 26, 27, 28, 11, 12, 9, 13, 218, 219, 220, 221, 222, 223, 224, 225, 226, 227, 228, 247, 248, 249, 250, 251, 252, 253] (by decide +kernel) (by decide +kernel)
set_option maxRecDepth 20000 in
theorem gX11_table_X11_isStair : GoodIn wsX11_table (wsV RX11 185 RX11 yX11_isStair wsX11_isStair) := goodIn_app (goodIn_of _ (by decide +kernel)) ggX11_table_X11_isStair
set_option maxRecDepth 20000 in
theorem ggX11_table_X11_baseIn : GoodIn wsX11_table wsX11_baseIn := goodIn_r _ [32, 1, 21, 33, 34, 35, 36, 37, 38, 39, 40, 41, 42, 43, 44, 45, 46, 47, 48, 49, 50, 51, 52, 53, 54, 55, 56, 57, 58, 59, 60, 61, 62, 63, 64, 65, 66, 67, 68, 69, 70, 9, 71, 72, 73, 74, 75, 76, 77, 78, 25, 79, 80, 81, 82, 83, 84, 85, 27, 28, 86, 87, 88, 89, 90, 91, 92, 93, 94, 95, 96, 97, 98, 99, 100, 101, 102, 103, 104, 105, 106, 107, 108, 109, 110, 111, 112, 113, 114, 115, 116, 117, 118, 119, 120, 121, 122, 123, 124, 125, 126, 127, 128, 129, 130, 131, 132, 133, 134, 135, 136, 137, 138, 139, 140, 141, 142, 143, 144, 145, 146, 147, 148, 149, 150, 151, 152, 153, 154, 155, 156, 157, 158, 159, 160, 161, 162, 163, 164, 165, 166, 167, 168, 169, 170, 171, 172, 173, 174, 175, 176, 177, 178, 179, 180, 181, 182, 183, 184, 185, 186, 187, 188, 189, 190, 191, 192, 193, 194, 195, 196, 197, 198, 199, 200, 201, 202, 203, 204, 205, 206, 207, 208, 209, 210, 211, 212, 213, 214, 215, 8, 10, 11, 12, 13, 218, 219, 220, 221, 222, 223, 224, 225, 226, 227, 228, 229, 230, 231, 232, 233, 234, 235, 236, 237, 247, 248, 249, 250, 251, 252, 253, 238, 239, 240, 241, 242, 243, 244, 245, 246, 254, 255, 256, 257, 258, 259, 260, 261, 262, 263, 264, 265, 266, 267, 268, 269, 270, 271, 272, 273, 274, 275, 276, 277, 278, 279, 280, 281, 282, 283] (by decide +kernel) (by decide +kernel)
set_option maxRecDepth 20000 in
theorem gX11_table_X11_baseIn : GoodIn wsX11_table (wsV RX11 157 RX11 yX11_baseIn wsX11_baseIn) := goodIn_app (goodIn_of _ (by decide +kernel)) ggX11_table_X11_baseIn
set_option maxRecDepth 20000 in
theorem ggX11_table_X6_multiply : GoodIn wsX11_table wsX6_multiply := goodIn_r _ [176, 177, 60, 58, 56, 70, 9, 71, 65, 66, 67, 53, 68, 69, 88, 89, 258, 259, 260, 261, 262] (by decide +kernel) (by decide +kernel)
set_option maxRecDepth 20000 in
theorem gX11_table_X6_multiply : GoodIn wsX11_table (wsV RX11 222 RX6 yX6_multiply wsX6_multiply) := goodIn_app (goodIn_of _ (by decide +kernel)) ggX11_table_X6_multiply
set_option maxRecDepth 20000 in
theorem ggX11_table_X9_express : GoodIn wsX11_table wsX9_express := goodIn_r _ [181, 116, 182, 183, 117, 184, 70, 9, 71, 88, 89, 272, 273, 274, 275, 276] (by decide +kernel) (by decide +kernel)
set_option maxRecDepth 20000 in
theorem gX11_table_X9_express : GoodIn wsX11_table (wsV RX11 209 RX9 yX9_express wsX9_express) := goodIn_app (goodIn_of _ (by decide +kernel)) ggX11_table_X9_express
theorem dX11_table_0 : decode cX11_table 0 = .ok (.iload_n 1, 1) := by decide +kernel
theorem dX11_table_1 : decode cX11_table 1 = .ok (.invokestatic 154, 3) := by decide +kernel
theorem dX11_table_4 : decode cX11_table 4 = .ok (.ifCond .eq 27, 3) := by decide +kernel
theorem dX11_table_7 : decode cX11_table 7 = .ok (.iload_n 2, 1) := by decide +kernel
theorem dX11_table_8 : decode cX11_table 8 = .ok (.invokestatic 192, 3) := by decide +kernel
theorem dX11_table_11 : decode cX11_table 11 = .ok (.ifCond .eq 20, 3) := by decide +kernel
theorem dX11_table_14 : decode cX11_table 14 = .ok (.aload_n 0, 1) := by decide +kernel
theorem dX11_table_15 : decode cX11_table 15 = .ok (.iload_n 3, 1) := by decide +kernel
theorem dX11_table_16 : decode cX11_table 16 = .ok (.invokevirtual 185, 3) := by decide +kernel
theorem dX11_table_19 : decode cX11_table 19 = .ok (.ifCond .eq 12, 3) := by decide +kernel
theorem dX11_table_22 : decode cX11_table 22 = .ok (.aload_n 0, 1) := by decide +kernel
theorem dX11_table_23 : decode cX11_table 23 = .ok (.iload 4, 2) := by decide +kernel
theorem dX11_table_25 : decode cX11_table 25 = .ok (.invokevirtual 185, 3) := by decide +kernel
theorem dX11_table_28 : decode cX11_table 28 = .ok (.ifCond .ne 5, 3) := by decide +kernel
theorem dX11_table_31 : decode cX11_table 31 = .ok (.iconst (-1), 1) := by decide +kernel
theorem dX11_table_32 : decode cX11_table 32 = .ok (.ireturn, 1) := by decide +kernel
theorem dX11_table_33 : decode cX11_table 33 = .ok (.aload_n 0, 1) := by decide +kernel
theorem dX11_table_34 : decode cX11_table 34 = .ok (.iload_n 1, 1) := by decide +kernel
theorem dX11_table_35 : decode cX11_table 35 = .ok (.invokevirtual 157, 3) := by decide +kernel
theorem dX11_table_38 : decode cX11_table 38 = .ok (.astore 5, 2) := by decide +kernel
theorem dX11_table_40 : decode cX11_table 40 = .ok (.aload_n 0, 1) := by decide +kernel
theorem dX11_table_41 : decode cX11_table 41 = .ok (.getfield 33, 3) := by decide +kernel
theorem dX11_table_44 : decode cX11_table 44 = .ok (.getfield 215, 3) := by decide +kernel
theorem dX11_table_47 : decode cX11_table 47 = .ok (.iload_n 2, 1) := by decide +kernel
theorem dX11_table_48 : decode cX11_table 48 = .ok (.aload 5, 2) := by decide +kernel
theorem dX11_table_50 : decode cX11_table 50 = .ok (.getfield 219, 3) := by decide +kernel
theorem dX11_table_53 : decode cX11_table 53 = .ok (.iload_n 3, 1) := by decide +kernel
theorem dX11_table_54 : decode cX11_table 54 = .ok (.aaload, 1) := by decide +kernel
theorem dX11_table_55 : decode cX11_table 55 = .ok (.aload_n 0, 1) := by decide +kernel
theorem dX11_table_56 : decode cX11_table 56 = .ok (.getfield 60, 3) := by decide +kernel
theorem dX11_table_59 : decode cX11_table 59 = .ok (.invokevirtual 222, 3) := by decide +kernel
theorem dX11_table_62 : decode cX11_table 62 = .ok (.aload 5, 2) := by decide +kernel
theorem dX11_table_64 : decode cX11_table 64 = .ok (.getfield 205, 3) := by decide +kernel
theorem dX11_table_67 : decode cX11_table 67 = .ok (.aload_n 0, 1) := by decide +kernel
theorem dX11_table_68 : decode cX11_table 68 = .ok (.getfield 60, 3) := by decide +kernel
theorem dX11_table_71 : decode cX11_table 71 = .ok (.aload_n 0, 1) := by decide +kernel
theorem dX11_table_72 : decode cX11_table 72 = .ok (.getfield 67, 3) := by decide +kernel
theorem dX11_table_75 : decode cX11_table 75 = .ok (.invokevirtual 209, 3) := by decide +kernel
theorem dX11_table_78 : decode cX11_table 78 = .ok (.aload_n 0, 1) := by decide +kernel
theorem dX11_table_79 : decode cX11_table 79 = .ok (.getfield 67, 3) := by decide +kernel
theorem dX11_table_82 : decode cX11_table 82 = .ok (.iload 4, 2) := by decide +kernel
theorem dX11_table_84 : decode cX11_table 84 = .ok (.iaload, 1) := by decide +kernel
theorem dX11_table_85 : decode cX11_table 85 = .ok (.ireturn, 1) := by decide +kernel
set_option maxRecDepth 20000 in
theorem ggX11_place_X11_isOrder : GoodIn wsX11_place wsX11_isOrder := goodIn_r _ [4, 5, 6, 3, 7] (by decide +kernel) (by decide +kernel)
set_option maxRecDepth 20000 in
theorem gX11_place_X11_isOrder : GoodIn wsX11_place (va_wsS RX11 154 yX11_isOrder wsX11_isOrder) := goodIn_app (goodIn_of _ (by decide +kernel)) ggX11_place_X11_isOrder
set_option maxRecDepth 20000 in
theorem ggX11_place_X11_baseIn : GoodIn wsX11_place wsX11_baseIn := goodIn_r _ [11, 12, 13, 14, 15, 16, 17, 18, 19, 20, 21, 22, 23, 24, 25, 26, 27, 28, 29, 30, 31, 32, 33, 34, 35, 36, 37, 38, 39, 40, 41, 42, 43, 44, 45, 46, 47, 48, 49, 50, 51, 3, 52, 53, 54, 55, 56, 57, 58, 59, 60, 61, 62, 63, 64, 65, 66, 67, 68, 69, 70, 71, 72, 73, 74, 75, 76, 77, 78, 79, 80, 81, 82, 83, 84, 85, 86, 87, 88, 89, 90, 91, 92, 93, 94, 95, 96, 97, 98, 99, 100, 101, 102, 103, 104, 105, 106, 107, 108, 109, 110, 111, 112, 113, 114, 115, 116, 117, 118, 119, 120, 121, 122, 123, 124, 125, 126, 127, 128, 129, 130, 131, 132, 133, 134, 135, 136, 137, 138, 139, 140, 141, 142, 143, 144, 145, 146, 147, 148, 149, 150, 151, 152, 153, 154, 155, 156, 157, 158, 159, 160, 161, 162, 163, 164, 165, 166, 167, 168, 169, 170, 171, 172, 173, 174, 175, 176, 177, 178, 179, 180, 181, 182, 183, 184, 185, 186, 187, 188, 189, 190, 191, 192, 193, 194, 195, 196, 197, 198, 199, 2, 4, 5, 6, 7, 204, 205, 206, 207, 208, 209, 210, 211, 212, 213, 214, 215, 216, 217, 218, 219, 220, 221, 222, 223, 224, 225, 226, 227, 228, 229, 230, 231, 232, 233, 234, 235, 236, 237, 238, 239, 240, 241, 242, 243, 244, 245, 246, 247, 248, 249, 250, 251, 252, 253, 254, 255, 256, 257, 258, 259, 260, 261, 262, 263, 264, 265, 266, 267, 268, 269] (by decide +kernel) (by decide +kernel)
set_option maxRecDepth 20000 in
theorem gX11_place_X11_baseIn : GoodIn wsX11_place (wsV RX11 157 RX11 yX11_baseIn wsX11_baseIn) := goodIn_app (goodIn_of _ (by decide +kernel)) ggX11_place_X11_baseIn
set_option maxRecDepth 20000 in
theorem ggX11_place_X0_stairAt : GoodIn wsX11_place wsX0_stairAt := goodIn_r _ [203, 82, 149, 151, 152, 231, 232, 233, 234, 235, 236, 237, 238, 239, 258, 259, 260, 261, 262] (by decide +kernel) (by decide +kernel)
set_option maxRecDepth 20000 in
theorem gX11_place_X0_stairAt : GoodIn wsX11_place (wsV RX11 228 RX0 yX0_stairAt wsX0_stairAt) := goodIn_app (goodIn_of _ (by decide +kernel)) ggX11_place_X0_stairAt
theorem dX11_place_0 : decode cX11_place 0 = .ok (.iload_n 1, 1) := by decide +kernel
theorem dX11_place_1 : decode cX11_place 1 = .ok (.invokestatic 154, 3) := by decide +kernel
theorem dX11_place_4 : decode cX11_place 4 = .ok (.ifCond .eq 11, 3) := by decide +kernel
theorem dX11_place_7 : decode cX11_place 7 = .ok (.iload_n 2, 1) := by decide +kernel
theorem dX11_place_8 : decode cX11_place 8 = .ok (.ifCond .lt 7, 3) := by decide +kernel
theorem dX11_place_11 : decode cX11_place 11 = .ok (.iload_n 3, 1) := by decide +kernel
theorem dX11_place_12 : decode cX11_place 12 = .ok (.ifCond .ge 5, 3) := by decide +kernel
theorem dX11_place_15 : decode cX11_place 15 = .ok (.iconst (-1), 1) := by decide +kernel
theorem dX11_place_16 : decode cX11_place 16 = .ok (.ireturn, 1) := by decide +kernel
theorem dX11_place_17 : decode cX11_place 17 = .ok (.aload_n 0, 1) := by decide +kernel
theorem dX11_place_18 : decode cX11_place 18 = .ok (.iload_n 1, 1) := by decide +kernel
theorem dX11_place_19 : decode cX11_place 19 = .ok (.invokevirtual 157, 3) := by decide +kernel
theorem dX11_place_22 : decode cX11_place 22 = .ok (.iload_n 2, 1) := by decide +kernel
theorem dX11_place_23 : decode cX11_place 23 = .ok (.iload_n 3, 1) := by decide +kernel
theorem dX11_place_24 : decode cX11_place 24 = .ok (.invokevirtual 228, 3) := by decide +kernel
theorem dX11_place_27 : decode cX11_place 27 = .ok (.ireturn, 1) := by decide +kernel
set_option maxRecDepth 20000 in
theorem ggX11_least_X11_isUnknown : GoodIn wsX11_least wsX11_isUnknown := goodIn_r _ [7, 8, 9, 6, 10] (by decide +kernel) (by decide +kernel)
set_option maxRecDepth 20000 in
theorem gX11_least_X11_isUnknown : GoodIn wsX11_least (va_wsS RX11 192 yX11_isUnknown wsX11_isUnknown) := goodIn_app (goodIn_of _ (by decide +kernel)) ggX11_least_X11_isUnknown
set_option maxRecDepth 20000 in
theorem ggX11_least_X11_currentIdeal : GoodIn wsX11_least wsX11_currentIdeal := goodIn_r _ [14, 15, 16, 17, 18, 19, 20, 21, 22, 23, 24, 25, 26, 27, 28, 29, 30, 31, 32, 33, 34, 35, 36, 37, 38, 39, 40, 41, 42, 43, 44, 45, 46, 47, 48, 49, 50, 51, 52, 53, 54, 6, 55, 56, 57, 58, 59, 60, 61, 62, 63, 64, 65, 66, 67, 68, 69, 70, 71, 72, 73, 74, 75, 76, 77, 78, 79, 80, 81, 82, 83, 84, 85, 86, 87, 88, 89, 90, 91, 92, 93, 94, 95, 96, 97, 98, 99, 100, 101, 102, 103, 104, 105, 106, 107, 108, 109, 110, 111, 112, 113, 114, 115, 116, 117, 118, 119, 120, 121, 122, 123, 124, 125, 126, 127, 128, 129, 130, 131, 132, 133, 134, 135, 136, 137, 138, 139, 140, 141, 142, 143, 144, 145, 146, 147, 148, 149, 150, 151, 152, 153, 154, 155, 156, 157, 158, 159, 160, 161, 162, 163, 164, 165, 166, 167, 168, 169, 170, 171, 172, 173, 174, 175, 176, 177, 178, 179, 180, 181, 182, 183, 184, 185, 186, 187, 188, 189, 190, 191, 192, 193, 194, 195, 196, 197, 198, 215, 216, 217, 218, 219, 220, 221, 222, 223, 224, 225, 199, 200, 201, 202, 203, 204, 205, 206, 207, 226, 227, 228, 229, 230, 231, 232, 233, 234, 235, 236, 237, 238, 239, 240, 241, 242, 243, 244, 245, 246, 247, 248, 249, 250, 251, 252, 253, 254, 255, 256, 257, 258, 259, 260, 261, 262, 263, 264, 208, 209, 210, 211, 212, 213, 214] (by decide +kernel) (by decide +kernel)
set_option maxRecDepth 20000 in
theorem gX11_least_X11_currentIdeal : GoodIn wsX11_least (wsV RX11 131 RX11 yX11_currentIdeal wsX11_currentIdeal) := goodIn_app (goodIn_of _ (by decide +kernel)) ggX11_least_X11_currentIdeal
theorem dX11_least_0 : decode cX11_least 0 = .ok (.iload_n 1, 1) := by decide +kernel
theorem dX11_least_1 : decode cX11_least 1 = .ok (.invokestatic 192, 3) := by decide +kernel
theorem dX11_least_4 : decode cX11_least 4 = .ok (.ifCond .eq 8, 3) := by decide +kernel
theorem dX11_least_7 : decode cX11_least 7 = .ok (.iload_n 2, 1) := by decide +kernel
theorem dX11_least_8 : decode cX11_least 8 = .ok (.iconst (-1), 1) := by decide +kernel
theorem dX11_least_9 : decode cX11_least 9 = .ok (.if_icmp .ge 5, 3) := by decide +kernel
theorem dX11_least_12 : decode cX11_least 12 = .ok (.iconst (-1), 1) := by decide +kernel
theorem dX11_least_13 : decode cX11_least 13 = .ok (.ireturn, 1) := by decide +kernel
theorem dX11_least_14 : decode cX11_least 14 = .ok (.aload_n 0, 1) := by decide +kernel
theorem dX11_least_15 : decode cX11_least 15 = .ok (.invokevirtual 131, 3) := by decide +kernel
theorem dX11_least_18 : decode cX11_least 18 = .ok (.getfield 231, 3) := by decide +kernel
theorem dX11_least_21 : decode cX11_least 21 = .ok (.iload_n 1, 1) := by decide +kernel
theorem dX11_least_22 : decode cX11_least 22 = .ok (.aaload, 1) := by decide +kernel
theorem dX11_least_23 : decode cX11_least 23 = .ok (.astore_n 3, 1) := by decide +kernel
theorem dX11_least_24 : decode cX11_least 24 = .ok (.iload_n 2, 1) := by decide +kernel
theorem dX11_least_25 : decode cX11_least 25 = .ok (.aload_n 3, 1) := by decide +kernel
theorem dX11_least_26 : decode cX11_least 26 = .ok (.getfield 235, 3) := by decide +kernel
theorem dX11_least_29 : decode cX11_least 29 = .ok (.if_icmp .le 5, 3) := by decide +kernel
theorem dX11_least_32 : decode cX11_least 32 = .ok (.iconst (-1), 1) := by decide +kernel
theorem dX11_least_33 : decode cX11_least 33 = .ok (.ireturn, 1) := by decide +kernel
theorem dX11_least_34 : decode cX11_least 34 = .ok (.iload_n 2, 1) := by decide +kernel
theorem dX11_least_35 : decode cX11_least 35 = .ok (.iconst (-1), 1) := by decide +kernel
theorem dX11_least_36 : decode cX11_least 36 = .ok (.if_icmp .ne 10, 3) := by decide +kernel
theorem dX11_least_39 : decode cX11_least 39 = .ok (.aload_n 3, 1) := by decide +kernel
theorem dX11_least_40 : decode cX11_least 40 = .ok (.getfield 235, 3) := by decide +kernel
theorem dX11_least_43 : decode cX11_least 43 = .ok (.goto 9, 3) := by decide +kernel
theorem dX11_least_46 : decode cX11_least 46 = .ok (.aload_n 3, 1) := by decide +kernel
theorem dX11_least_47 : decode cX11_least 47 = .ok (.getfield 240, 3) := by decide +kernel
theorem dX11_least_50 : decode cX11_least 50 = .ok (.iload_n 2, 1) := by decide +kernel
theorem dX11_least_51 : decode cX11_least 51 = .ok (.iaload, 1) := by decide +kernel
theorem dX11_least_52 : decode cX11_least 52 = .ok (.ireturn, 1) := by decide +kernel
set_option maxRecDepth 20000 in
theorem ggX11_root_X11_isUnknown : GoodIn wsX11_root wsX11_isUnknown := goodIn_r _ [8, 9, 10, 7, 11] (by decide +kernel) (by decide +kernel)
set_option maxRecDepth 20000 in
theorem gX11_root_X11_isUnknown : GoodIn wsX11_root (va_wsS RX11 192 yX11_isUnknown wsX11_isUnknown) := goodIn_app (goodIn_of _ (by decide +kernel)) ggX11_root_X11_isUnknown
set_option maxRecDepth 20000 in
theorem ggX11_root_X11_currentIdeal : GoodIn wsX11_root wsX11_currentIdeal := goodIn_r _ [15, 2, 1, 16, 17, 18, 19, 20, 21, 22, 23, 24, 25, 26, 27, 28, 29, 30, 31, 32, 33, 34, 35, 36, 37, 38, 39, 40, 41, 42, 43, 44, 45, 46, 47, 48, 49, 50, 51, 52, 53, 7, 54, 55, 56, 57, 58, 59, 60, 61, 62, 63, 64, 65, 66, 67, 68, 69, 70, 71, 72, 73, 74, 75, 76, 77, 78, 79, 80, 81, 82, 83, 84, 85, 86, 87, 88, 89, 90, 91, 92, 93, 94, 95, 96, 97, 98, 99, 100, 101, 102, 103, 104, 105, 106, 107, 108, 109, 110, 111, 112, 113, 114, 115, 116, 117, 118, 119, 120, 121, 122, 123, 124, 125, 126, 127, 128, 129, 130, 131, 132, 133, 134, 135, 136, 137, 138, 139, 140, 141, 142, 143, 144, 145, 146, 147, 148, 149, 150, 151, 152, 153, 154, 155, 156, 157, 158, 159, 160, 161, 162, 163, 164, 165, 166, 167, 168, 169, 170, 171, 172, 173, 174, 175, 176, 177, 178, 179, 180, 181, 182, 183, 184, 185, 186, 187, 188, 189, 190, 191, 192, 193, 194, 195, 196, 197, 219, 220, 221, 222, 223, 224, 225, 226, 227, 228, 229, 230, 231, 232, 233, 234, 235, 236, 237, 238, 239, 240, 241, 242, 243, 244, 245, 246, 247, 248, 249, 250, 251, 252, 253, 254, 255, 256, 257, 258, 259, 260, 261, 262, 263, 264, 265, 266, 267, 268, 269, 270, 271, 272, 273, 274, 275, 276, 277, 278, 279, 280, 281, 282, 283, 284] (by decide +kernel) (by decide +kernel)
set_option maxRecDepth 20000 in
theorem gX11_root_X11_currentIdeal : GoodIn wsX11_root (wsV RX11 131 RX11 yX11_currentIdeal wsX11_currentIdeal) := goodIn_app (goodIn_of _ (by decide +kernel)) ggX11_root_X11_currentIdeal
set_option maxRecDepth 20000 in
theorem ggX11_root_X2_countRoots : GoodIn wsX11_root wsX2_countRoots := goodIn_r _ [201, 32, 30, 27, 202, 203, 204, 188, 205, 195, 196, 190, 72, 7, 73, 206, 207, 208, 19, 209, 210, 211, 212, 213, 214, 62, 215, 216, 217, 60, 61, 63, 64, 65, 218, 67, 68, 69, 70, 71, 230, 231, 232, 233, 234, 235, 236, 237, 238, 239, 240, 241, 242, 243, 244, 245, 278, 279, 280, 281, 282, 283, 284] (by decide +kernel) (by decide +kernel)
set_option maxRecDepth 20000 in
theorem gX11_root_X2_countRoots : GoodIn wsX11_root (wsV RX11 146 RX2 yX2_countRoots wsX2_countRoots) := goodIn_app (goodIn_of _ (by decide +kernel)) ggX11_root_X2_countRoots
theorem dX11_root_0 : decode cX11_root 0 = .ok (.iload_n 1, 1) := by decide +kernel
theorem dX11_root_1 : decode cX11_root 1 = .ok (.ifCond .lt 10, 3) := by decide +kernel
theorem dX11_root_4 : decode cX11_root 4 = .ok (.iload_n 2, 1) := by decide +kernel
theorem dX11_root_5 : decode cX11_root 5 = .ok (.invokestatic 192, 3) := by decide +kernel
theorem dX11_root_8 : decode cX11_root 8 = .ok (.ifCond .ne 5, 3) := by decide +kernel
theorem dX11_root_11 : decode cX11_root 11 = .ok (.iconst (-1), 1) := by decide +kernel
theorem dX11_root_12 : decode cX11_root 12 = .ok (.ireturn, 1) := by decide +kernel
theorem dX11_root_13 : decode cX11_root 13 = .ok (.iload_n 1, 1) := by decide +kernel
theorem dX11_root_14 : decode cX11_root 14 = .ok (.aload_n 0, 1) := by decide +kernel
theorem dX11_root_15 : decode cX11_root 15 = .ok (.invokevirtual 131, 3) := by decide +kernel
theorem dX11_root_18 : decode cX11_root 18 = .ok (.aload_n 0, 1) := by decide +kernel
theorem dX11_root_19 : decode cX11_root 19 = .ok (.getfield 12, 3) := by decide +kernel
theorem dX11_root_22 : decode cX11_root 22 = .ok (.invokevirtual 146, 3) := by decide +kernel
theorem dX11_root_25 : decode cX11_root 25 = .ok (.if_icmp .lt 6, 3) := by decide +kernel
theorem dX11_root_28 : decode cX11_root 28 = .ok (.bipush (-4), 2) := by decide +kernel
theorem dX11_root_30 : decode cX11_root 30 = .ok (.ireturn, 1) := by decide +kernel
theorem dX11_root_31 : decode cX11_root 31 = .ok (.iload_n 2, 1) := by decide +kernel
theorem dX11_root_32 : decode cX11_root 32 = .ok (.ifCond .ne 15, 3) := by decide +kernel
theorem dX11_root_35 : decode cX11_root 35 = .ok (.aload_n 0, 1) := by decide +kernel
theorem dX11_root_36 : decode cX11_root 36 = .ok (.getfield 33, 3) := by decide +kernel
theorem dX11_root_39 : decode cX11_root 39 = .ok (.getfield 243, 3) := by decide +kernel
theorem dX11_root_42 : decode cX11_root 42 = .ok (.iload_n 1, 1) := by decide +kernel
theorem dX11_root_43 : decode cX11_root 43 = .ok (.iaload, 1) := by decide +kernel
theorem dX11_root_44 : decode cX11_root 44 = .ok (.goto 12, 3) := by decide +kernel
theorem dX11_root_47 : decode cX11_root 47 = .ok (.aload_n 0, 1) := by decide +kernel
theorem dX11_root_48 : decode cX11_root 48 = .ok (.getfield 33, 3) := by decide +kernel
theorem dX11_root_51 : decode cX11_root 51 = .ok (.getfield 246, 3) := by decide +kernel
theorem dX11_root_54 : decode cX11_root 54 = .ok (.iload_n 1, 1) := by decide +kernel
theorem dX11_root_55 : decode cX11_root 55 = .ok (.iaload, 1) := by decide +kernel
theorem dX11_root_56 : decode cX11_root 56 = .ok (.ireturn, 1) := by decide +kernel
set_option maxRecDepth 20000 in
theorem ggX11_poly_X11_isSlot : GoodIn wsX11_poly wsX11_isSlot := goodIn_r _ [7, 8, 9, 6, 10] (by decide +kernel) (by decide +kernel)
set_option maxRecDepth 20000 in
theorem gX11_poly_X11_isSlot : GoodIn wsX11_poly (va_wsS RX11 249 yX11_isSlot wsX11_isSlot) := goodIn_app (goodIn_of _ (by decide +kernel)) ggX11_poly_X11_isSlot
set_option maxRecDepth 20000 in
theorem ggX11_poly_X5_empty : GoodIn wsX11_poly wsX5_empty := goodIn_r _ [15, 16, 32, 33, 34, 35] (by decide +kernel) (by decide +kernel)
set_option maxRecDepth 20000 in
theorem gX11_poly_X5_empty : GoodIn wsX11_poly (wsV RX11 258 RX5 yX5_empty wsX5_empty) := goodIn_app (goodIn_of _ (by decide +kernel)) ggX11_poly_X5_empty
theorem dX11_poly_0 : decode cX11_poly 0 = .ok (.iload_n 1, 1) := by decide +kernel
theorem dX11_poly_1 : decode cX11_poly 1 = .ok (.invokestatic 249, 3) := by decide +kernel
theorem dX11_poly_4 : decode cX11_poly 4 = .ok (.ifCond .ne 5, 3) := by decide +kernel
theorem dX11_poly_7 : decode cX11_poly 7 = .ok (.iconst (-1), 1) := by decide +kernel
theorem dX11_poly_8 : decode cX11_poly 8 = .ok (.ireturn, 1) := by decide +kernel
theorem dX11_poly_9 : decode cX11_poly 9 = .ok (.aload_n 0, 1) := by decide +kernel
theorem dX11_poly_10 : decode cX11_poly 10 = .ok (.getfield 26, 3) := by decide +kernel
theorem dX11_poly_13 : decode cX11_poly 13 = .ok (.iload_n 1, 1) := by decide +kernel
theorem dX11_poly_14 : decode cX11_poly 14 = .ok (.aaload, 1) := by decide +kernel
theorem dX11_poly_15 : decode cX11_poly 15 = .ok (.getfield 252, 3) := by decide +kernel
theorem dX11_poly_18 : decode cX11_poly 18 = .ok (.istore_n 2, 1) := by decide +kernel
theorem dX11_poly_19 : decode cX11_poly 19 = .ok (.aload_n 0, 1) := by decide +kernel
theorem dX11_poly_20 : decode cX11_poly 20 = .ok (.getfield 26, 3) := by decide +kernel
theorem dX11_poly_23 : decode cX11_poly 23 = .ok (.iload_n 1, 1) := by decide +kernel
theorem dX11_poly_24 : decode cX11_poly 24 = .ok (.aaload, 1) := by decide +kernel
theorem dX11_poly_25 : decode cX11_poly 25 = .ok (.getfield 255, 3) := by decide +kernel
theorem dX11_poly_28 : decode cX11_poly 28 = .ok (.invokevirtual 258, 3) := by decide +kernel
theorem dX11_poly_31 : decode cX11_poly 31 = .ok (.aload_n 0, 1) := by decide +kernel
theorem dX11_poly_32 : decode cX11_poly 32 = .ok (.getfield 26, 3) := by decide +kernel
theorem dX11_poly_35 : decode cX11_poly 35 = .ok (.iload_n 1, 1) := by decide +kernel
theorem dX11_poly_36 : decode cX11_poly 36 = .ok (.aaload, 1) := by decide +kernel
theorem dX11_poly_37 : decode cX11_poly 37 = .ok (.iconst 1, 1) := by decide +kernel
theorem dX11_poly_38 : decode cX11_poly 38 = .ok (.putfield 252, 3) := by decide +kernel
theorem dX11_poly_41 : decode cX11_poly 41 = .ok (.iload_n 2, 1) := by decide +kernel
theorem dX11_poly_42 : decode cX11_poly 42 = .ok (.ireturn, 1) := by decide +kernel
set_option maxRecDepth 20000 in
theorem ggX11_keepBase_X11_isSlot : GoodIn wsX11_keepBase wsX11_isSlot := goodIn_r _ [7, 8, 9, 6, 10] (by decide +kernel) (by decide +kernel)
set_option maxRecDepth 20000 in
theorem gX11_keepBase_X11_isSlot : GoodIn wsX11_keepBase (va_wsS RX11 249 yX11_isSlot wsX11_isSlot) := goodIn_app (goodIn_of _ (by decide +kernel)) ggX11_keepBase_X11_isSlot
set_option maxRecDepth 20000 in
theorem ggX11_keepBase_X11_isOrder : GoodIn wsX11_keepBase wsX11_isOrder := goodIn_r _ [13, 8, 9, 6, 10] (by decide +kernel) (by decide +kernel)
set_option maxRecDepth 20000 in
theorem gX11_keepBase_X11_isOrder : GoodIn wsX11_keepBase (va_wsS RX11 154 yX11_isOrder wsX11_isOrder) := goodIn_app (goodIn_of _ (by decide +kernel)) ggX11_keepBase_X11_isOrder
set_option maxRecDepth 20000 in
theorem ggX11_keepBase_X11_baseIn : GoodIn wsX11_keepBase wsX11_baseIn := goodIn_r _ [17, 18, 19, 20, 21, 22, 23, 24, 25, 26, 27, 28, 29, 30, 31, 32, 33, 34, 35, 36, 37, 38, 39, 40, 41, 42, 43, 44, 45, 46, 47, 48, 49, 50, 51, 52, 53, 54, 55, 56, 57, 6, 58, 59, 60, 61, 62, 63, 64, 65, 66, 67, 68, 69, 70, 71, 72, 73, 74, 75, 76, 77, 78, 79, 80, 81, 82, 83, 84, 85, 86, 87, 88, 89, 90, 91, 92, 93, 94, 95, 96, 97, 98, 99, 100, 101, 102, 103, 104, 105, 106, 107, 108, 109, 110, 111, 112, 113, 114, 115, 116, 117, 118, 119, 120, 121, 122, 123, 124, 125, 126, 127, 128, 129, 130, 131, 132, 133, 134, 135, 136, 137, 138, 139, 140, 141, 142, 143, 144, 145, 146, 147, 148, 149, 150, 151, 152, 153, 154, 155, 156, 157, 158, 159, 160, 161, 162, 163, 164, 165, 166, 167, 168, 169, 170, 171, 172, 173, 174, 175, 176, 177, 178, 179, 180, 181, 182, 183, 184, 185, 186, 187, 188, 189, 190, 191, 192, 193, 194, 195, 196, 197, 198, 199, 200, 201, 202, 203, 204, 205, 12, 13, 8, 9, 10, 224, 225, 226, 227, 228, 229, 230, 231, 232, 233, 234, 243, 244, 245, 246, 247, 248, 249, 250, 251, 252, 253, 254, 255, 256, 257, 258, 259, 260, 261, 262, 263, 264, 265, 266, 267, 239, 240, 241, 242, 268, 269, 270, 271, 272, 273, 274, 275, 276, 277, 278, 279, 280, 281, 282, 283, 284, 285, 286, 287, 288, 289, 290, 291, 292, 293] (by decide +kernel) (by decide +kernel)
set_option maxRecDepth 20000 in
theorem gX11_keepBase_X11_baseIn : GoodIn wsX11_keepBase (wsV RX11 157 RX11 yX11_baseIn wsX11_baseIn) := goodIn_app (goodIn_of _ (by decide +kernel)) ggX11_keepBase_X11_baseIn
set_option maxRecDepth 20000 in
theorem ggX11_keepBase_X8_hold : GoodIn wsX11_keepBase wsX8_hold := goodIn_r _ [210, 211, 212, 213, 214, 215, 216, 217, 218, 219, 94, 95, 96, 97, 98, 99, 100, 220, 221, 222, 142, 223, 144, 145, 146, 181, 235, 236, 237, 238, 259, 260, 261, 262, 263, 264, 265, 266, 267, 279, 280, 281, 239, 240, 241, 242] (by decide +kernel) (by decide +kernel)
set_option maxRecDepth 20000 in
theorem gX11_keepBase_X8_hold : GoodIn wsX11_keepBase (wsV RX11 261 RX8 yX8_hold wsX8_hold) := goodIn_app (goodIn_of _ (by decide +kernel)) ggX11_keepBase_X8_hold
theorem dX11_keepBase_0 : decode cX11_keepBase 0 = .ok (.iload_n 1, 1) := by decide +kernel
theorem dX11_keepBase_1 : decode cX11_keepBase 1 = .ok (.invokestatic 249, 3) := by decide +kernel
theorem dX11_keepBase_4 : decode cX11_keepBase 4 = .ok (.ifCond .eq 10, 3) := by decide +kernel
theorem dX11_keepBase_7 : decode cX11_keepBase 7 = .ok (.iload_n 2, 1) := by decide +kernel
theorem dX11_keepBase_8 : decode cX11_keepBase 8 = .ok (.invokestatic 154, 3) := by decide +kernel
theorem dX11_keepBase_11 : decode cX11_keepBase 11 = .ok (.ifCond .ne 5, 3) := by decide +kernel
theorem dX11_keepBase_14 : decode cX11_keepBase 14 = .ok (.iconst (-1), 1) := by decide +kernel
theorem dX11_keepBase_15 : decode cX11_keepBase 15 = .ok (.ireturn, 1) := by decide +kernel
theorem dX11_keepBase_16 : decode cX11_keepBase 16 = .ok (.aload_n 0, 1) := by decide +kernel
theorem dX11_keepBase_17 : decode cX11_keepBase 17 = .ok (.getfield 26, 3) := by decide +kernel
theorem dX11_keepBase_20 : decode cX11_keepBase 20 = .ok (.iload_n 1, 1) := by decide +kernel
theorem dX11_keepBase_21 : decode cX11_keepBase 21 = .ok (.aaload, 1) := by decide +kernel
theorem dX11_keepBase_22 : decode cX11_keepBase 22 = .ok (.aload_n 0, 1) := by decide +kernel
theorem dX11_keepBase_23 : decode cX11_keepBase 23 = .ok (.iload_n 2, 1) := by decide +kernel
theorem dX11_keepBase_24 : decode cX11_keepBase 24 = .ok (.invokevirtual 157, 3) := by decide +kernel
theorem dX11_keepBase_27 : decode cX11_keepBase 27 = .ok (.invokevirtual 261, 3) := by decide +kernel
theorem dX11_keepBase_30 : decode cX11_keepBase 30 = .ok (.aload_n 0, 1) := by decide +kernel
theorem dX11_keepBase_31 : decode cX11_keepBase 31 = .ok (.getfield 26, 3) := by decide +kernel
theorem dX11_keepBase_34 : decode cX11_keepBase 34 = .ok (.iload_n 1, 1) := by decide +kernel
theorem dX11_keepBase_35 : decode cX11_keepBase 35 = .ok (.aaload, 1) := by decide +kernel
theorem dX11_keepBase_36 : decode cX11_keepBase 36 = .ok (.getfield 265, 3) := by decide +kernel
theorem dX11_keepBase_39 : decode cX11_keepBase 39 = .ok (.getfield 165, 3) := by decide +kernel
theorem dX11_keepBase_42 : decode cX11_keepBase 42 = .ok (.ireturn, 1) := by decide +kernel
set_option maxRecDepth 20000 in
theorem ggX11_drop_X11_isSlot : GoodIn wsX11_drop wsX11_isSlot := goodIn_r _ [6, 7, 8, 5, 9] (by decide +kernel) (by decide +kernel)
set_option maxRecDepth 20000 in
theorem gX11_drop_X11_isSlot : GoodIn wsX11_drop (va_wsS RX11 249 yX11_isSlot wsX11_isSlot) := goodIn_app (goodIn_of _ (by decide +kernel)) ggX11_drop_X11_isSlot
theorem dX11_drop_0 : decode cX11_drop 0 = .ok (.iload_n 1, 1) := by decide +kernel
theorem dX11_drop_1 : decode cX11_drop 1 = .ok (.invokestatic 249, 3) := by decide +kernel
theorem dX11_drop_4 : decode cX11_drop 4 = .ok (.ifCond .ne 5, 3) := by decide +kernel
theorem dX11_drop_7 : decode cX11_drop 7 = .ok (.iconst (-1), 1) := by decide +kernel
theorem dX11_drop_8 : decode cX11_drop 8 = .ok (.ireturn, 1) := by decide +kernel
theorem dX11_drop_9 : decode cX11_drop 9 = .ok (.aload_n 0, 1) := by decide +kernel
theorem dX11_drop_10 : decode cX11_drop 10 = .ok (.getfield 26, 3) := by decide +kernel
theorem dX11_drop_13 : decode cX11_drop 13 = .ok (.iload_n 1, 1) := by decide +kernel
theorem dX11_drop_14 : decode cX11_drop 14 = .ok (.aaload, 1) := by decide +kernel
theorem dX11_drop_15 : decode cX11_drop 15 = .ok (.getfield 252, 3) := by decide +kernel
theorem dX11_drop_18 : decode cX11_drop 18 = .ok (.istore_n 2, 1) := by decide +kernel
theorem dX11_drop_19 : decode cX11_drop 19 = .ok (.aload_n 0, 1) := by decide +kernel
theorem dX11_drop_20 : decode cX11_drop 20 = .ok (.getfield 26, 3) := by decide +kernel
theorem dX11_drop_23 : decode cX11_drop 23 = .ok (.iload_n 1, 1) := by decide +kernel
theorem dX11_drop_24 : decode cX11_drop 24 = .ok (.aaload, 1) := by decide +kernel
theorem dX11_drop_25 : decode cX11_drop 25 = .ok (.iconst 0, 1) := by decide +kernel
theorem dX11_drop_26 : decode cX11_drop 26 = .ok (.putfield 252, 3) := by decide +kernel
theorem dX11_drop_29 : decode cX11_drop 29 = .ok (.iload_n 2, 1) := by decide +kernel
theorem dX11_drop_30 : decode cX11_drop 30 = .ok (.ireturn, 1) := by decide +kernel
set_option maxRecDepth 20000 in
theorem ggX11_add_X11_isSlot : GoodIn wsX11_add wsX11_isSlot := goodIn_r _ [9, 10, 11, 8, 12] (by decide +kernel) (by decide +kernel)
set_option maxRecDepth 20000 in
theorem gX11_add_X11_isSlot : GoodIn wsX11_add (va_wsS RX11 249 yX11_isSlot wsX11_isSlot) := goodIn_app (goodIn_of _ (by decide +kernel)) ggX11_add_X11_isSlot
set_option maxRecDepth 20000 in
theorem ggX11_add_X11_isNumber : GoodIn wsX11_add wsX11_isNumber := goodIn_r _ [16, 4, 5, 10, 11, 8, 12, 55, 56, 57, 58, 59, 60, 61, 62, 63, 64, 65, 70, 71, 72, 73, 74, 75, 76] (by decide +kernel) (by decide +kernel)
set_option maxRecDepth 20000 in
theorem gX11_add_X11_isNumber : GoodIn wsX11_add (wsV RX11 103 RX11 yX11_isNumber wsX11_isNumber) := goodIn_app (goodIn_of _ (by decide +kernel)) ggX11_add_X11_isNumber
set_option maxRecDepth 20000 in
theorem ggX11_add_X8_findWanting : GoodIn wsX11_add wsX8_findWanting := goodIn_r _ [21, 22, 66, 67, 68, 69] (by decide +kernel) (by decide +kernel)
set_option maxRecDepth 20000 in
theorem gX11_add_X8_findWanting : GoodIn wsX11_add (wsV RX11 266 RX8 yX8_findWanting wsX8_findWanting) := goodIn_app (goodIn_of _ (by decide +kernel)) ggX11_add_X8_findWanting
set_option maxRecDepth 20000 in
theorem ggX11_add_X5_copyFrom : GoodIn wsX11_add wsX5_copyFrom := goodIn_r _ [27, 28, 29, 30, 31, 32, 33, 34, 35, 77, 78, 79, 80] (by decide +kernel) (by decide +kernel)
set_option maxRecDepth 20000 in
theorem gX11_add_X5_copyFrom : GoodIn wsX11_add (wsV RX11 269 RX5 yX5_copyFrom wsX5_copyFrom) := goodIn_app (goodIn_of _ (by decide +kernel)) ggX11_add_X5_copyFrom
set_option maxRecDepth 20000 in
theorem ggX11_add_X5_bring : GoodIn wsX11_add wsX5_bring := goodIn_r _ [39, 28, 34, 35, 29, 40, 8, 41, 42, 43, 44, 26, 45, 46, 47, 48, 49, 77, 78, 79, 80] (by decide +kernel) (by decide +kernel)
set_option maxRecDepth 20000 in
theorem gX11_add_X5_bring : GoodIn wsX11_add (wsV RX11 273 RX5 yX5_bring wsX5_bring) := goodIn_app (goodIn_of _ (by decide +kernel)) ggX11_add_X5_bring
set_option maxRecDepth 20000 in
theorem ggX11_add_X11_settle : GoodIn wsX11_add wsX11_settle := goodIn_r _ [53, 2, 54, 1, 3, 23, 24, 25, 26, 27, 28, 29, 30, 31, 32, 33, 34, 35, 55, 56, 57, 58, 59, 60, 61, 62, 63, 64, 65, 77, 78, 79, 80, 66, 67, 68, 69] (by decide +kernel) (by decide +kernel)
set_option maxRecDepth 20000 in
theorem gX11_add_X11_settle : GoodIn wsX11_add (wsV RX11 276 RX11 yX11_settle wsX11_settle) := goodIn_app (goodIn_of _ (by decide +kernel)) ggX11_add_X11_settle
theorem dX11_add_0 : decode cX11_add 0 = .ok (.iload_n 1, 1) := by decide +kernel
theorem dX11_add_1 : decode cX11_add 1 = .ok (.invokestatic 249, 3) := by decide +kernel
theorem dX11_add_4 : decode cX11_add 4 = .ok (.ifCond .eq 20, 3) := by decide +kernel
theorem dX11_add_7 : decode cX11_add 7 = .ok (.aload_n 0, 1) := by decide +kernel
theorem dX11_add_8 : decode cX11_add 8 = .ok (.iload_n 2, 1) := by decide +kernel
theorem dX11_add_9 : decode cX11_add 9 = .ok (.invokevirtual 103, 3) := by decide +kernel
theorem dX11_add_12 : decode cX11_add 12 = .ok (.ifCond .eq 12, 3) := by decide +kernel
theorem dX11_add_15 : decode cX11_add 15 = .ok (.iload_n 3, 1) := by decide +kernel
theorem dX11_add_16 : decode cX11_add 16 = .ok (.ifCond .lt 8, 3) := by decide +kernel
theorem dX11_add_19 : decode cX11_add 19 = .ok (.iload 4, 2) := by decide +kernel
theorem dX11_add_21 : decode cX11_add 21 = .ok (.ifCond .ge 5, 3) := by decide +kernel
theorem dX11_add_24 : decode cX11_add 24 = .ok (.iconst (-1), 1) := by decide +kernel
theorem dX11_add_25 : decode cX11_add 25 = .ok (.ireturn, 1) := by decide +kernel
theorem dX11_add_26 : decode cX11_add 26 = .ok (.aload_n 0, 1) := by decide +kernel
theorem dX11_add_27 : decode cX11_add 27 = .ok (.getfield 26, 3) := by decide +kernel
theorem dX11_add_30 : decode cX11_add 30 = .ok (.iload_n 1, 1) := by decide +kernel
theorem dX11_add_31 : decode cX11_add 31 = .ok (.aaload, 1) := by decide +kernel
theorem dX11_add_32 : decode cX11_add 32 = .ok (.iconst 1, 1) := by decide +kernel
theorem dX11_add_33 : decode cX11_add 33 = .ok (.invokevirtual 266, 3) := by decide +kernel
theorem dX11_add_36 : decode cX11_add 36 = .ok (.istore 5, 2) := by decide +kernel
theorem dX11_add_38 : decode cX11_add 38 = .ok (.iload 5, 2) := by decide +kernel
theorem dX11_add_40 : decode cX11_add 40 = .ok (.ifCond .eq 6, 3) := by decide +kernel
theorem dX11_add_43 : decode cX11_add 43 = .ok (.iload 5, 2) := by decide +kernel
theorem dX11_add_45 : decode cX11_add 45 = .ok (.ireturn, 1) := by decide +kernel
theorem dX11_add_46 : decode cX11_add 46 = .ok (.aload_n 0, 1) := by decide +kernel
theorem dX11_add_47 : decode cX11_add 47 = .ok (.getfield 56, 3) := by decide +kernel
theorem dX11_add_50 : decode cX11_add 50 = .ok (.aload_n 0, 1) := by decide +kernel
theorem dX11_add_51 : decode cX11_add 51 = .ok (.getfield 26, 3) := by decide +kernel
theorem dX11_add_54 : decode cX11_add 54 = .ok (.iload_n 1, 1) := by decide +kernel
theorem dX11_add_55 : decode cX11_add 55 = .ok (.aaload, 1) := by decide +kernel
theorem dX11_add_56 : decode cX11_add 56 = .ok (.getfield 255, 3) := by decide +kernel
theorem dX11_add_59 : decode cX11_add 59 = .ok (.invokevirtual 269, 3) := by decide +kernel
theorem dX11_add_62 : decode cX11_add 62 = .ok (.aload_n 0, 1) := by decide +kernel
theorem dX11_add_63 : decode cX11_add 63 = .ok (.getfield 56, 3) := by decide +kernel
theorem dX11_add_66 : decode cX11_add 66 = .ok (.iload_n 2, 1) := by decide +kernel
theorem dX11_add_67 : decode cX11_add 67 = .ok (.iload_n 3, 1) := by decide +kernel
theorem dX11_add_68 : decode cX11_add 68 = .ok (.iload 4, 2) := by decide +kernel
theorem dX11_add_70 : decode cX11_add 70 = .ok (.aload_n 0, 1) := by decide +kernel
theorem dX11_add_71 : decode cX11_add 71 = .ok (.getfield 12, 3) := by decide +kernel
theorem dX11_add_74 : decode cX11_add 74 = .ok (.getfield 75, 3) := by decide +kernel
theorem dX11_add_77 : decode cX11_add 77 = .ok (.invokevirtual 273, 3) := by decide +kernel
theorem dX11_add_80 : decode cX11_add 80 = .ok (.aload_n 0, 1) := by decide +kernel
theorem dX11_add_81 : decode cX11_add 81 = .ok (.iload_n 1, 1) := by decide +kernel
theorem dX11_add_82 : decode cX11_add 82 = .ok (.invokevirtual 276, 3) := by decide +kernel
theorem dX11_add_85 : decode cX11_add 85 = .ok (.ireturn, 1) := by decide +kernel
set_option maxRecDepth 20000 in
theorem ggX11_term_X11_isSlot : GoodIn wsX11_term wsX11_isSlot := goodIn_r _ [10, 11, 12, 9, 13] (by decide +kernel) (by decide +kernel)
set_option maxRecDepth 20000 in
theorem gX11_term_X11_isSlot : GoodIn wsX11_term (va_wsS RX11 249 yX11_isSlot wsX11_isSlot) := goodIn_app (goodIn_of _ (by decide +kernel)) ggX11_term_X11_isSlot
set_option maxRecDepth 20000 in
theorem ggX11_term_X11_isWithin : GoodIn wsX11_term wsX11_isWithin := goodIn_r _ [13] (by decide +kernel) (by decide +kernel)
set_option maxRecDepth 20000 in
theorem gX11_term_X11_isWithin : GoodIn wsX11_term (va_wsS RX11 88 yX11_isWithin wsX11_isWithin) := goodIn_app (goodIn_of _ (by decide +kernel)) ggX11_term_X11_isWithin
set_option maxRecDepth 20000 in
theorem ggX11_term_X8_findWanting : GoodIn wsX11_term wsX8_findWanting := goodIn_r _ [18, 19, 31, 32, 33, 34] (by decide +kernel) (by decide +kernel)
set_option maxRecDepth 20000 in
theorem gX11_term_X8_findWanting : GoodIn wsX11_term (wsV RX11 266 RX8 yX8_findWanting wsX8_findWanting) := goodIn_app (goodIn_of _ (by decide +kernel)) ggX11_term_X8_findWanting
theorem dX11_term_0 : decode cX11_term 0 = .ok (.iload_n 1, 1) := by decide +kernel
theorem dX11_term_1 : decode cX11_term 1 = .ok (.invokestatic 249, 3) := by decide +kernel
theorem dX11_term_4 : decode cX11_term 4 = .ok (.ifCond .eq 16, 3) := by decide +kernel
theorem dX11_term_7 : decode cX11_term 7 = .ok (.iload_n 2, 1) := by decide +kernel
theorem dX11_term_8 : decode cX11_term 8 = .ok (.ifCond .lt 12, 3) := by decide +kernel
theorem dX11_term_11 : decode cX11_term 11 = .ok (.iload_n 3, 1) := by decide +kernel
theorem dX11_term_12 : decode cX11_term 12 = .ok (.iconst 0, 1) := by decide +kernel
theorem dX11_term_13 : decode cX11_term 13 = .ok (.iconst 2, 1) := by decide +kernel
theorem dX11_term_14 : decode cX11_term 14 = .ok (.invokestatic 88, 3) := by decide +kernel
theorem dX11_term_17 : decode cX11_term 17 = .ok (.ifCond .ne 5, 3) := by decide +kernel
theorem dX11_term_20 : decode cX11_term 20 = .ok (.iconst (-1), 1) := by decide +kernel
theorem dX11_term_21 : decode cX11_term 21 = .ok (.ireturn, 1) := by decide +kernel
theorem dX11_term_22 : decode cX11_term 22 = .ok (.aload_n 0, 1) := by decide +kernel
theorem dX11_term_23 : decode cX11_term 23 = .ok (.getfield 26, 3) := by decide +kernel
theorem dX11_term_26 : decode cX11_term 26 = .ok (.iload_n 1, 1) := by decide +kernel
theorem dX11_term_27 : decode cX11_term 27 = .ok (.aaload, 1) := by decide +kernel
theorem dX11_term_28 : decode cX11_term 28 = .ok (.iconst 1, 1) := by decide +kernel
theorem dX11_term_29 : decode cX11_term 29 = .ok (.invokevirtual 266, 3) := by decide +kernel
theorem dX11_term_32 : decode cX11_term 32 = .ok (.istore 4, 2) := by decide +kernel
theorem dX11_term_34 : decode cX11_term 34 = .ok (.iload 4, 2) := by decide +kernel
theorem dX11_term_36 : decode cX11_term 36 = .ok (.ifCond .eq 6, 3) := by decide +kernel
theorem dX11_term_39 : decode cX11_term 39 = .ok (.iload 4, 2) := by decide +kernel
theorem dX11_term_41 : decode cX11_term 41 = .ok (.ireturn, 1) := by decide +kernel
theorem dX11_term_42 : decode cX11_term 42 = .ok (.aload_n 0, 1) := by decide +kernel
theorem dX11_term_43 : decode cX11_term 43 = .ok (.getfield 26, 3) := by decide +kernel
theorem dX11_term_46 : decode cX11_term 46 = .ok (.iload_n 1, 1) := by decide +kernel
theorem dX11_term_47 : decode cX11_term 47 = .ok (.aaload, 1) := by decide +kernel
theorem dX11_term_48 : decode cX11_term 48 = .ok (.getfield 255, 3) := by decide +kernel
theorem dX11_term_51 : decode cX11_term 51 = .ok (.astore 5, 2) := by decide +kernel
theorem dX11_term_53 : decode cX11_term 53 = .ok (.iload_n 2, 1) := by decide +kernel
theorem dX11_term_54 : decode cX11_term 54 = .ok (.aload 5, 2) := by decide +kernel
theorem dX11_term_56 : decode cX11_term 56 = .ok (.getfield 279, 3) := by decide +kernel
theorem dX11_term_59 : decode cX11_term 59 = .ok (.if_icmp .lt 6, 3) := by decide +kernel
theorem dX11_term_62 : decode cX11_term 62 = .ok (.bipush (-4), 2) := by decide +kernel
theorem dX11_term_64 : decode cX11_term 64 = .ok (.ireturn, 1) := by decide +kernel
theorem dX11_term_65 : decode cX11_term 65 = .ok (.iload_n 3, 1) := by decide +kernel
theorem dX11_term_66 : decode cX11_term 66 = .ok (.ifCond .ne 13, 3) := by decide +kernel
theorem dX11_term_69 : decode cX11_term 69 = .ok (.aload 5, 2) := by decide +kernel
theorem dX11_term_71 : decode cX11_term 71 = .ok (.getfield 280, 3) := by decide +kernel
theorem dX11_term_74 : decode cX11_term 74 = .ok (.iload_n 2, 1) := by decide +kernel
theorem dX11_term_75 : decode cX11_term 75 = .ok (.iaload, 1) := by decide +kernel
theorem dX11_term_76 : decode cX11_term 76 = .ok (.goto 25, 3) := by decide +kernel
theorem dX11_term_79 : decode cX11_term 79 = .ok (.iload_n 3, 1) := by decide +kernel
theorem dX11_term_80 : decode cX11_term 80 = .ok (.iconst 1, 1) := by decide +kernel
theorem dX11_term_81 : decode cX11_term 81 = .ok (.if_icmp .ne 13, 3) := by decide +kernel
theorem dX11_term_84 : decode cX11_term 84 = .ok (.aload 5, 2) := by decide +kernel
theorem dX11_term_86 : decode cX11_term 86 = .ok (.getfield 281, 3) := by decide +kernel
theorem dX11_term_89 : decode cX11_term 89 = .ok (.iload_n 2, 1) := by decide +kernel
theorem dX11_term_90 : decode cX11_term 90 = .ok (.iaload, 1) := by decide +kernel
theorem dX11_term_91 : decode cX11_term 91 = .ok (.goto 10, 3) := by decide +kernel
theorem dX11_term_94 : decode cX11_term 94 = .ok (.aload 5, 2) := by decide +kernel
theorem dX11_term_96 : decode cX11_term 96 = .ok (.getfield 282, 3) := by decide +kernel
theorem dX11_term_99 : decode cX11_term 99 = .ok (.iload_n 2, 1) := by decide +kernel
theorem dX11_term_100 : decode cX11_term 100 = .ok (.iaload, 1) := by decide +kernel
theorem dX11_term_101 : decode cX11_term 101 = .ok (.ireturn, 1) := by decide +kernel
set_option maxRecDepth 20000 in
theorem ggX11_size_X11_isSlot : GoodIn wsX11_size wsX11_isSlot := goodIn_r _ [10, 11, 12, 9, 13] (by decide +kernel) (by decide +kernel)
set_option maxRecDepth 20000 in
theorem gX11_size_X11_isSlot : GoodIn wsX11_size (va_wsS RX11 249 yX11_isSlot wsX11_isSlot) := goodIn_app (goodIn_of _ (by decide +kernel)) ggX11_size_X11_isSlot
theorem dX11_size_0 : decode cX11_size 0 = .ok (.iload_n 1, 1) := by decide +kernel
theorem dX11_size_1 : decode cX11_size 1 = .ok (.invokestatic 249, 3) := by decide +kernel
theorem dX11_size_4 : decode cX11_size 4 = .ok (.ifCond .ne 5, 3) := by decide +kernel
theorem dX11_size_7 : decode cX11_size 7 = .ok (.iconst (-1), 1) := by decide +kernel
theorem dX11_size_8 : decode cX11_size 8 = .ok (.ireturn, 1) := by decide +kernel
theorem dX11_size_9 : decode cX11_size 9 = .ok (.aload_n 0, 1) := by decide +kernel
theorem dX11_size_10 : decode cX11_size 10 = .ok (.getfield 26, 3) := by decide +kernel
theorem dX11_size_13 : decode cX11_size 13 = .ok (.iload_n 1, 1) := by decide +kernel
theorem dX11_size_14 : decode cX11_size 14 = .ok (.aaload, 1) := by decide +kernel
theorem dX11_size_15 : decode cX11_size 15 = .ok (.getfield 252, 3) := by decide +kernel
theorem dX11_size_18 : decode cX11_size 18 = .ok (.ifCond .ne 6, 3) := by decide +kernel
theorem dX11_size_21 : decode cX11_size 21 = .ok (.bipush (-11), 2) := by decide +kernel
theorem dX11_size_23 : decode cX11_size 23 = .ok (.ireturn, 1) := by decide +kernel
theorem dX11_size_24 : decode cX11_size 24 = .ok (.aload_n 0, 1) := by decide +kernel
theorem dX11_size_25 : decode cX11_size 25 = .ok (.getfield 26, 3) := by decide +kernel
theorem dX11_size_28 : decode cX11_size 28 = .ok (.iload_n 1, 1) := by decide +kernel
theorem dX11_size_29 : decode cX11_size 29 = .ok (.aaload, 1) := by decide +kernel
theorem dX11_size_30 : decode cX11_size 30 = .ok (.getfield 252, 3) := by decide +kernel
theorem dX11_size_33 : decode cX11_size 33 = .ok (.iconst 2, 1) := by decide +kernel
theorem dX11_size_34 : decode cX11_size 34 = .ok (.if_icmp .ne 18, 3) := by decide +kernel
theorem dX11_size_37 : decode cX11_size 37 = .ok (.aload_n 0, 1) := by decide +kernel
theorem dX11_size_38 : decode cX11_size 38 = .ok (.getfield 26, 3) := by decide +kernel
theorem dX11_size_41 : decode cX11_size 41 = .ok (.iload_n 1, 1) := by decide +kernel
theorem dX11_size_42 : decode cX11_size 42 = .ok (.aaload, 1) := by decide +kernel
theorem dX11_size_43 : decode cX11_size 43 = .ok (.getfield 265, 3) := by decide +kernel
theorem dX11_size_46 : decode cX11_size 46 = .ok (.getfield 165, 3) := by decide +kernel
theorem dX11_size_49 : decode cX11_size 49 = .ok (.goto 15, 3) := by decide +kernel
theorem dX11_size_52 : decode cX11_size 52 = .ok (.aload_n 0, 1) := by decide +kernel
theorem dX11_size_53 : decode cX11_size 53 = .ok (.getfield 26, 3) := by decide +kernel
theorem dX11_size_56 : decode cX11_size 56 = .ok (.iload_n 1, 1) := by decide +kernel
theorem dX11_size_57 : decode cX11_size 57 = .ok (.aaload, 1) := by decide +kernel
theorem dX11_size_58 : decode cX11_size 58 = .ok (.getfield 255, 3) := by decide +kernel
theorem dX11_size_61 : decode cX11_size 61 = .ok (.getfield 279, 3) := by decide +kernel
theorem dX11_size_64 : decode cX11_size 64 = .ok (.ireturn, 1) := by decide +kernel
set_option maxRecDepth 20000 in
theorem ggX11_times_X11_isSlot : GoodIn wsX11_times wsX11_isSlot := goodIn_r _ [7, 8, 9, 6, 10] (by decide +kernel) (by decide +kernel)
set_option maxRecDepth 20000 in
theorem gX11_times_X11_isSlot : GoodIn wsX11_times (va_wsS RX11 249 yX11_isSlot wsX11_isSlot) := goodIn_app (goodIn_of _ (by decide +kernel)) ggX11_times_X11_isSlot
set_option maxRecDepth 20000 in
theorem ggX11_times_X8_findWanting : GoodIn wsX11_times wsX8_findWanting := goodIn_r _ [15, 16, 41, 42, 43, 44] (by decide +kernel) (by decide +kernel)
set_option maxRecDepth 20000 in
theorem gX11_times_X8_findWanting : GoodIn wsX11_times (wsV RX11 266 RX8 yX8_findWanting wsX8_findWanting) := goodIn_app (goodIn_of _ (by decide +kernel)) ggX11_times_X8_findWanting
set_option maxRecDepth 20000 in
theorem ggX11_times_X5_canRise : GoodIn wsX11_times wsX5_canRise := goodIn_r _ [21, 22, 23, 24, 25, 45, 46, 47, 48] (by decide +kernel) (by decide +kernel)
set_option maxRecDepth 20000 in
theorem gX11_times_X5_canRise : GoodIn wsX11_times (wsV RX11 283 RX5 yX5_canRise wsX5_canRise) := goodIn_app (goodIn_of _ (by decide +kernel)) ggX11_times_X5_canRise
set_option maxRecDepth 20000 in
theorem ggX11_times_X5_rise : GoodIn wsX11_times wsX5_rise := goodIn_r _ [29, 22, 23, 25, 45, 46, 47, 48] (by decide +kernel) (by decide +kernel)
set_option maxRecDepth 20000 in
theorem gX11_times_X5_rise : GoodIn wsX11_times (wsV RX11 287 RX5 yX5_rise wsX5_rise) := goodIn_app (goodIn_of _ (by decide +kernel)) ggX11_times_X5_rise
theorem dX11_times_0 : decode cX11_times 0 = .ok (.iload_n 1, 1) := by decide +kernel
theorem dX11_times_1 : decode cX11_times 1 = .ok (.invokestatic 249, 3) := by decide +kernel
theorem dX11_times_4 : decode cX11_times 4 = .ok (.ifCond .eq 11, 3) := by decide +kernel
theorem dX11_times_7 : decode cX11_times 7 = .ok (.iload_n 2, 1) := by decide +kernel
theorem dX11_times_8 : decode cX11_times 8 = .ok (.ifCond .lt 7, 3) := by decide +kernel
theorem dX11_times_11 : decode cX11_times 11 = .ok (.iload_n 3, 1) := by decide +kernel
theorem dX11_times_12 : decode cX11_times 12 = .ok (.ifCond .ge 5, 3) := by decide +kernel
theorem dX11_times_15 : decode cX11_times 15 = .ok (.iconst (-1), 1) := by decide +kernel
theorem dX11_times_16 : decode cX11_times 16 = .ok (.ireturn, 1) := by decide +kernel
theorem dX11_times_17 : decode cX11_times 17 = .ok (.aload_n 0, 1) := by decide +kernel
theorem dX11_times_18 : decode cX11_times 18 = .ok (.getfield 26, 3) := by decide +kernel
theorem dX11_times_21 : decode cX11_times 21 = .ok (.iload_n 1, 1) := by decide +kernel
theorem dX11_times_22 : decode cX11_times 22 = .ok (.aaload, 1) := by decide +kernel
theorem dX11_times_23 : decode cX11_times 23 = .ok (.iconst 1, 1) := by decide +kernel
theorem dX11_times_24 : decode cX11_times 24 = .ok (.invokevirtual 266, 3) := by decide +kernel
theorem dX11_times_27 : decode cX11_times 27 = .ok (.istore 4, 2) := by decide +kernel
theorem dX11_times_29 : decode cX11_times 29 = .ok (.iload 4, 2) := by decide +kernel
theorem dX11_times_31 : decode cX11_times 31 = .ok (.ifCond .eq 6, 3) := by decide +kernel
theorem dX11_times_34 : decode cX11_times 34 = .ok (.iload 4, 2) := by decide +kernel
theorem dX11_times_36 : decode cX11_times 36 = .ok (.ireturn, 1) := by decide +kernel
theorem dX11_times_37 : decode cX11_times 37 = .ok (.aload_n 0, 1) := by decide +kernel
theorem dX11_times_38 : decode cX11_times 38 = .ok (.getfield 26, 3) := by decide +kernel
theorem dX11_times_41 : decode cX11_times 41 = .ok (.iload_n 1, 1) := by decide +kernel
theorem dX11_times_42 : decode cX11_times 42 = .ok (.aaload, 1) := by decide +kernel
theorem dX11_times_43 : decode cX11_times 43 = .ok (.getfield 255, 3) := by decide +kernel
theorem dX11_times_46 : decode cX11_times 46 = .ok (.astore 5, 2) := by decide +kernel
theorem dX11_times_48 : decode cX11_times 48 = .ok (.aload 5, 2) := by decide +kernel
theorem dX11_times_50 : decode cX11_times 50 = .ok (.iload_n 2, 1) := by decide +kernel
theorem dX11_times_51 : decode cX11_times 51 = .ok (.iload_n 3, 1) := by decide +kernel
theorem dX11_times_52 : decode cX11_times 52 = .ok (.invokevirtual 283, 3) := by decide +kernel
theorem dX11_times_55 : decode cX11_times 55 = .ok (.ifCond .ne 6, 3) := by decide +kernel
theorem dX11_times_58 : decode cX11_times 58 = .ok (.bipush (-13), 2) := by decide +kernel
theorem dX11_times_60 : decode cX11_times 60 = .ok (.ireturn, 1) := by decide +kernel
theorem dX11_times_61 : decode cX11_times 61 = .ok (.aload 5, 2) := by decide +kernel
theorem dX11_times_63 : decode cX11_times 63 = .ok (.iload_n 2, 1) := by decide +kernel
theorem dX11_times_64 : decode cX11_times 64 = .ok (.iload_n 3, 1) := by decide +kernel
theorem dX11_times_65 : decode cX11_times 65 = .ok (.invokevirtual 287, 3) := by decide +kernel
theorem dX11_times_68 : decode cX11_times 68 = .ok (.aload 5, 2) := by decide +kernel
theorem dX11_times_70 : decode cX11_times 70 = .ok (.getfield 279, 3) := by decide +kernel
theorem dX11_times_73 : decode cX11_times 73 = .ok (.ireturn, 1) := by decide +kernel
set_option maxRecDepth 20000 in
theorem ggX11_plus_X11_isSlot : GoodIn wsX11_plus wsX11_isSlot := goodIn_r _ [10, 11, 12, 9, 13] (by decide +kernel) (by decide +kernel)
set_option maxRecDepth 20000 in
theorem gX11_plus_X11_isSlot : GoodIn wsX11_plus (va_wsS RX11 249 yX11_isSlot wsX11_isSlot) := goodIn_app (goodIn_of _ (by decide +kernel)) ggX11_plus_X11_isSlot
set_option maxRecDepth 20000 in
theorem ggX11_plus_X11_isNumber : GoodIn wsX11_plus wsX11_isNumber := goodIn_r _ [17, 5, 6, 11, 12, 9, 13, 54, 55, 56, 57, 58, 59, 60, 61, 62, 63, 64, 69, 70, 71, 72, 73, 74, 75] (by decide +kernel) (by decide +kernel)
set_option maxRecDepth 20000 in
theorem gX11_plus_X11_isNumber : GoodIn wsX11_plus (wsV RX11 103 RX11 yX11_isNumber wsX11_isNumber) := goodIn_app (goodIn_of _ (by decide +kernel)) ggX11_plus_X11_isNumber
set_option maxRecDepth 20000 in
theorem ggX11_plus_X5_copyFrom : GoodIn wsX11_plus wsX5_copyFrom := goodIn_r _ [22, 23, 24, 25, 26, 27, 28, 29, 30, 76, 77, 78, 79] (by decide +kernel) (by decide +kernel)
set_option maxRecDepth 20000 in
theorem gX11_plus_X5_copyFrom : GoodIn wsX11_plus (wsV RX11 269 RX5 yX5_copyFrom wsX5_copyFrom) := goodIn_app (goodIn_of _ (by decide +kernel)) ggX11_plus_X5_copyFrom
set_option maxRecDepth 20000 in
theorem ggX11_plus_X5_bringAll : GoodIn wsX11_plus wsX5_bringAll := goodIn_r _ [34, 23, 24, 29, 30, 35, 9, 36, 37, 38, 39, 21, 40, 41, 42, 43, 44, 45, 46, 47, 48, 76, 77, 78, 79] (by decide +kernel) (by decide +kernel)
set_option maxRecDepth 20000 in
theorem gX11_plus_X5_bringAll : GoodIn wsX11_plus (wsV RX11 290 RX5 yX5_bringAll wsX5_bringAll) := goodIn_app (goodIn_of _ (by decide +kernel)) ggX11_plus_X5_bringAll
set_option maxRecDepth 20000 in
theorem ggX11_plus_X11_settle : GoodIn wsX11_plus wsX11_settle := goodIn_r _ [52, 3, 53, 1, 4, 18, 19, 20, 21, 22, 23, 24, 25, 26, 27, 28, 29, 30, 54, 55, 56, 57, 58, 59, 60, 61, 62, 63, 64, 76, 77, 78, 79, 65, 66, 67, 68] (by decide +kernel) (by decide +kernel)
set_option maxRecDepth 20000 in
theorem gX11_plus_X11_settle : GoodIn wsX11_plus (wsV RX11 276 RX11 yX11_settle wsX11_settle) := goodIn_app (goodIn_of _ (by decide +kernel)) ggX11_plus_X11_settle
theorem dX11_plus_0 : decode cX11_plus 0 = .ok (.iload_n 1, 1) := by decide +kernel
theorem dX11_plus_1 : decode cX11_plus 1 = .ok (.invokestatic 249, 3) := by decide +kernel
theorem dX11_plus_4 : decode cX11_plus 4 = .ok (.ifCond .eq 18, 3) := by decide +kernel
theorem dX11_plus_7 : decode cX11_plus 7 = .ok (.iload_n 2, 1) := by decide +kernel
theorem dX11_plus_8 : decode cX11_plus 8 = .ok (.invokestatic 249, 3) := by decide +kernel
theorem dX11_plus_11 : decode cX11_plus 11 = .ok (.ifCond .eq 11, 3) := by decide +kernel
theorem dX11_plus_14 : decode cX11_plus 14 = .ok (.aload_n 0, 1) := by decide +kernel
theorem dX11_plus_15 : decode cX11_plus 15 = .ok (.iload_n 3, 1) := by decide +kernel
theorem dX11_plus_16 : decode cX11_plus 16 = .ok (.invokevirtual 103, 3) := by decide +kernel
theorem dX11_plus_19 : decode cX11_plus 19 = .ok (.ifCond .ne 5, 3) := by decide +kernel
theorem dX11_plus_22 : decode cX11_plus 22 = .ok (.iconst (-1), 1) := by decide +kernel
theorem dX11_plus_23 : decode cX11_plus 23 = .ok (.ireturn, 1) := by decide +kernel
theorem dX11_plus_24 : decode cX11_plus 24 = .ok (.aload_n 0, 1) := by decide +kernel
theorem dX11_plus_25 : decode cX11_plus 25 = .ok (.getfield 26, 3) := by decide +kernel
