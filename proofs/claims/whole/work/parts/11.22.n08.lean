theorem dX11_plus_28 : decode cX11_plus 28 = .ok (.iload_n 1, 1) := by decide +kernel
theorem dX11_plus_29 : decode cX11_plus 29 = .ok (.aaload, 1) := by decide +kernel
theorem dX11_plus_30 : decode cX11_plus 30 = .ok (.getfield 252, 3) := by decide +kernel
theorem dX11_plus_33 : decode cX11_plus 33 = .ok (.ifCond .eq 15, 3) := by decide +kernel
theorem dX11_plus_36 : decode cX11_plus 36 = .ok (.aload_n 0, 1) := by decide +kernel
theorem dX11_plus_37 : decode cX11_plus 37 = .ok (.getfield 26, 3) := by decide +kernel
theorem dX11_plus_40 : decode cX11_plus 40 = .ok (.iload_n 2, 1) := by decide +kernel
theorem dX11_plus_41 : decode cX11_plus 41 = .ok (.aaload, 1) := by decide +kernel
theorem dX11_plus_42 : decode cX11_plus 42 = .ok (.getfield 252, 3) := by decide +kernel
theorem dX11_plus_45 : decode cX11_plus 45 = .ok (.ifCond .ne 6, 3) := by decide +kernel
theorem dX11_plus_48 : decode cX11_plus 48 = .ok (.bipush (-11), 2) := by decide +kernel
theorem dX11_plus_50 : decode cX11_plus 50 = .ok (.ireturn, 1) := by decide +kernel
theorem dX11_plus_51 : decode cX11_plus 51 = .ok (.aload_n 0, 1) := by decide +kernel
theorem dX11_plus_52 : decode cX11_plus 52 = .ok (.getfield 26, 3) := by decide +kernel
theorem dX11_plus_55 : decode cX11_plus 55 = .ok (.iload_n 1, 1) := by decide +kernel
theorem dX11_plus_56 : decode cX11_plus 56 = .ok (.aaload, 1) := by decide +kernel
theorem dX11_plus_57 : decode cX11_plus 57 = .ok (.getfield 252, 3) := by decide +kernel
theorem dX11_plus_60 : decode cX11_plus 60 = .ok (.iconst 1, 1) := by decide +kernel
theorem dX11_plus_61 : decode cX11_plus 61 = .ok (.if_icmp .ne 16, 3) := by decide +kernel
theorem dX11_plus_64 : decode cX11_plus 64 = .ok (.aload_n 0, 1) := by decide +kernel
theorem dX11_plus_65 : decode cX11_plus 65 = .ok (.getfield 26, 3) := by decide +kernel
theorem dX11_plus_68 : decode cX11_plus 68 = .ok (.iload_n 2, 1) := by decide +kernel
theorem dX11_plus_69 : decode cX11_plus 69 = .ok (.aaload, 1) := by decide +kernel
theorem dX11_plus_70 : decode cX11_plus 70 = .ok (.getfield 252, 3) := by decide +kernel
theorem dX11_plus_73 : decode cX11_plus 73 = .ok (.iconst 1, 1) := by decide +kernel
theorem dX11_plus_74 : decode cX11_plus 74 = .ok (.if_icmp .eq 6, 3) := by decide +kernel
theorem dX11_plus_77 : decode cX11_plus 77 = .ok (.bipush (-12), 2) := by decide +kernel
theorem dX11_plus_79 : decode cX11_plus 79 = .ok (.ireturn, 1) := by decide +kernel
theorem dX11_plus_80 : decode cX11_plus 80 = .ok (.aload_n 0, 1) := by decide +kernel
theorem dX11_plus_81 : decode cX11_plus 81 = .ok (.getfield 56, 3) := by decide +kernel
theorem dX11_plus_84 : decode cX11_plus 84 = .ok (.aload_n 0, 1) := by decide +kernel
theorem dX11_plus_85 : decode cX11_plus 85 = .ok (.getfield 26, 3) := by decide +kernel
theorem dX11_plus_88 : decode cX11_plus 88 = .ok (.iload_n 1, 1) := by decide +kernel
theorem dX11_plus_89 : decode cX11_plus 89 = .ok (.aaload, 1) := by decide +kernel
theorem dX11_plus_90 : decode cX11_plus 90 = .ok (.getfield 255, 3) := by decide +kernel
theorem dX11_plus_93 : decode cX11_plus 93 = .ok (.invokevirtual 269, 3) := by decide +kernel
theorem dX11_plus_96 : decode cX11_plus 96 = .ok (.aload_n 0, 1) := by decide +kernel
theorem dX11_plus_97 : decode cX11_plus 97 = .ok (.getfield 56, 3) := by decide +kernel
theorem dX11_plus_100 : decode cX11_plus 100 = .ok (.aload_n 0, 1) := by decide +kernel
theorem dX11_plus_101 : decode cX11_plus 101 = .ok (.getfield 26, 3) := by decide +kernel
theorem dX11_plus_104 : decode cX11_plus 104 = .ok (.iload_n 2, 1) := by decide +kernel
theorem dX11_plus_105 : decode cX11_plus 105 = .ok (.aaload, 1) := by decide +kernel
theorem dX11_plus_106 : decode cX11_plus 106 = .ok (.getfield 255, 3) := by decide +kernel
theorem dX11_plus_109 : decode cX11_plus 109 = .ok (.iload_n 3, 1) := by decide +kernel
theorem dX11_plus_110 : decode cX11_plus 110 = .ok (.aload_n 0, 1) := by decide +kernel
theorem dX11_plus_111 : decode cX11_plus 111 = .ok (.getfield 12, 3) := by decide +kernel
theorem dX11_plus_114 : decode cX11_plus 114 = .ok (.getfield 75, 3) := by decide +kernel
theorem dX11_plus_117 : decode cX11_plus 117 = .ok (.invokevirtual 290, 3) := by decide +kernel
theorem dX11_plus_120 : decode cX11_plus 120 = .ok (.aload_n 0, 1) := by decide +kernel
theorem dX11_plus_121 : decode cX11_plus 121 = .ok (.iload_n 1, 1) := by decide +kernel
theorem dX11_plus_122 : decode cX11_plus 122 = .ok (.invokevirtual 276, 3) := by decide +kernel
theorem dX11_plus_125 : decode cX11_plus 125 = .ok (.ireturn, 1) := by decide +kernel
set_option maxRecDepth 20000 in
theorem ggX11_degree_X11_isSlot : GoodIn wsX11_degree wsX11_isSlot := goodIn_r _ [8, 9, 10, 7, 11] rfl (by decide +kernel)
set_option maxRecDepth 20000 in
theorem gX11_degree_X11_isSlot : GoodIn wsX11_degree (va_wsS RX11 249 yX11_isSlot wsX11_isSlot) := goodIn_app (goodIn_of _ (by decide +kernel)) ggX11_degree_X11_isSlot
set_option maxRecDepth 20000 in
theorem ggX11_degree_X8_findWanting : GoodIn wsX11_degree wsX8_findWanting := goodIn_r _ [16, 17, 41, 42, 43, 44] rfl (by decide +kernel)
set_option maxRecDepth 20000 in
theorem gX11_degree_X8_findWanting : GoodIn wsX11_degree (wsV RX11 266 RX8 yX8_findWanting wsX8_findWanting) := goodIn_app (goodIn_of _ (by decide +kernel)) ggX11_degree_X8_findWanting
set_option maxRecDepth 20000 in
theorem ggX11_degree_X5_greatestSum : GoodIn wsX11_degree wsX5_greatestSum := goodIn_r _ [22, 23, 24, 25, 26, 27, 28, 29, 45, 46, 47, 48] rfl (by decide +kernel)
set_option maxRecDepth 20000 in
theorem gX11_degree_X5_greatestSum : GoodIn wsX11_degree (wsV RX11 294 RX5 yX5_greatestSum wsX5_greatestSum) := goodIn_app (goodIn_of _ (by decide +kernel)) ggX11_degree_X5_greatestSum
theorem dX11_degree_0 : decode cX11_degree 0 = .ok (.iload_n 1, 1) := by decide +kernel
theorem dX11_degree_1 : decode cX11_degree 1 = .ok (.invokestatic 249, 3) := by decide +kernel
theorem dX11_degree_4 : decode cX11_degree 4 = .ok (.ifCond .ne 5, 3) := by decide +kernel
theorem dX11_degree_7 : decode cX11_degree 7 = .ok (.iconst (-1), 1) := by decide +kernel
theorem dX11_degree_8 : decode cX11_degree 8 = .ok (.ireturn, 1) := by decide +kernel
theorem dX11_degree_9 : decode cX11_degree 9 = .ok (.aload_n 0, 1) := by decide +kernel
theorem dX11_degree_10 : decode cX11_degree 10 = .ok (.getfield 26, 3) := by decide +kernel
theorem dX11_degree_13 : decode cX11_degree 13 = .ok (.iload_n 1, 1) := by decide +kernel
theorem dX11_degree_14 : decode cX11_degree 14 = .ok (.aaload, 1) := by decide +kernel
theorem dX11_degree_15 : decode cX11_degree 15 = .ok (.iconst 1, 1) := by decide +kernel
theorem dX11_degree_16 : decode cX11_degree 16 = .ok (.invokevirtual 266, 3) := by decide +kernel
theorem dX11_degree_19 : decode cX11_degree 19 = .ok (.istore_n 2, 1) := by decide +kernel
theorem dX11_degree_20 : decode cX11_degree 20 = .ok (.iload_n 2, 1) := by decide +kernel
theorem dX11_degree_21 : decode cX11_degree 21 = .ok (.ifCond .eq 5, 3) := by decide +kernel
theorem dX11_degree_24 : decode cX11_degree 24 = .ok (.iload_n 2, 1) := by decide +kernel
theorem dX11_degree_25 : decode cX11_degree 25 = .ok (.ireturn, 1) := by decide +kernel
theorem dX11_degree_26 : decode cX11_degree 26 = .ok (.aload_n 0, 1) := by decide +kernel
theorem dX11_degree_27 : decode cX11_degree 27 = .ok (.getfield 26, 3) := by decide +kernel
theorem dX11_degree_30 : decode cX11_degree 30 = .ok (.iload_n 1, 1) := by decide +kernel
theorem dX11_degree_31 : decode cX11_degree 31 = .ok (.aaload, 1) := by decide +kernel
theorem dX11_degree_32 : decode cX11_degree 32 = .ok (.getfield 255, 3) := by decide +kernel
theorem dX11_degree_35 : decode cX11_degree 35 = .ok (.astore_n 3, 1) := by decide +kernel
theorem dX11_degree_36 : decode cX11_degree 36 = .ok (.aload_n 3, 1) := by decide +kernel
theorem dX11_degree_37 : decode cX11_degree 37 = .ok (.getfield 279, 3) := by decide +kernel
theorem dX11_degree_40 : decode cX11_degree 40 = .ok (.ifCond .ne 6, 3) := by decide +kernel
theorem dX11_degree_43 : decode cX11_degree 43 = .ok (.bipush (-4), 2) := by decide +kernel
theorem dX11_degree_45 : decode cX11_degree 45 = .ok (.ireturn, 1) := by decide +kernel
theorem dX11_degree_46 : decode cX11_degree 46 = .ok (.aload_n 3, 1) := by decide +kernel
theorem dX11_degree_47 : decode cX11_degree 47 = .ok (.invokevirtual 294, 3) := by decide +kernel
theorem dX11_degree_50 : decode cX11_degree 50 = .ok (.lstore 4, 2) := by decide +kernel
theorem dX11_degree_52 : decode cX11_degree 52 = .ok (.lload 4, 2) := by decide +kernel
theorem dX11_degree_54 : decode cX11_degree 54 = .ok (.ldc2_w 297, 3) := by decide +kernel
theorem dX11_degree_57 : decode cX11_degree 57 = .ok (.lcmp, 1) := by decide +kernel
theorem dX11_degree_58 : decode cX11_degree 58 = .ok (.ifCond .le 8, 3) := by decide +kernel
theorem dX11_degree_61 : decode cX11_degree 61 = .ok (.bipush (-13), 2) := by decide +kernel
theorem dX11_degree_63 : decode cX11_degree 63 = .ok (.goto 6, 3) := by decide +kernel
theorem dX11_degree_66 : decode cX11_degree 66 = .ok (.lload 4, 2) := by decide +kernel
theorem dX11_degree_68 : decode cX11_degree 68 = .ok (.l2i, 1) := by decide +kernel
theorem dX11_degree_69 : decode cX11_degree 69 = .ok (.ireturn, 1) := by decide +kernel
set_option maxRecDepth 20000 in
theorem ggX11_leads_X11_isSlot : GoodIn wsX11_leads wsX11_isSlot := goodIn_r _ [11, 12, 13, 10, 14] rfl (by decide +kernel)
set_option maxRecDepth 20000 in
theorem gX11_leads_X11_isSlot : GoodIn wsX11_leads (va_wsS RX11 249 yX11_isSlot wsX11_isSlot) := goodIn_app (goodIn_of _ (by decide +kernel)) ggX11_leads_X11_isSlot
set_option maxRecDepth 20000 in
theorem ggX11_leads_X11_isOrder : GoodIn wsX11_leads wsX11_isOrder := goodIn_r _ [17, 12, 13, 10, 14] rfl (by decide +kernel)
set_option maxRecDepth 20000 in
theorem gX11_leads_X11_isOrder : GoodIn wsX11_leads (va_wsS RX11 154 yX11_isOrder wsX11_isOrder) := goodIn_app (goodIn_of _ (by decide +kernel)) ggX11_leads_X11_isOrder
set_option maxRecDepth 20000 in
theorem ggX11_leads_X8_findWanting : GoodIn wsX11_leads wsX8_findWanting := goodIn_r _ [22, 23, 65, 66, 67, 68] rfl (by decide +kernel)
set_option maxRecDepth 20000 in
theorem gX11_leads_X8_findWanting : GoodIn wsX11_leads (wsV RX11 266 RX8 yX8_findWanting wsX8_findWanting) := goodIn_app (goodIn_of _ (by decide +kernel)) ggX11_leads_X8_findWanting
set_option maxRecDepth 20000 in
theorem ggX11_leads_X10_become : GoodIn wsX11_leads wsX10_become := goodIn_r _ [28, 29, 30, 31, 80, 81, 82] rfl (by decide +kernel)
set_option maxRecDepth 20000 in
theorem gX11_leads_X10_become : GoodIn wsX11_leads (wsV RX11 299 RX10 yX10_become wsX10_become) := goodIn_app (goodIn_of _ (by decide +kernel)) ggX11_leads_X10_become
set_option maxRecDepth 20000 in
theorem ggX11_leads_X5_canCompare : GoodIn wsX11_leads wsX5_canCompare := goodIn_r _ [36, 37, 38, 39, 40, 41, 42, 43, 27, 44, 29, 30, 31, 69, 70, 71, 72, 80, 81, 82] rfl (by decide +kernel)
set_option maxRecDepth 20000 in
theorem gX11_leads_X5_canCompare : GoodIn wsX11_leads (wsV RX11 303 RX5 yX5_canCompare wsX5_canCompare) := goodIn_app (goodIn_of _ (by decide +kernel)) ggX11_leads_X5_canCompare
set_option maxRecDepth 20000 in
theorem ggX11_leads_X5_greatestIn : GoodIn wsX11_leads wsX5_greatestIn := goodIn_r _ [48, 37, 38, 39, 49, 50, 51, 27, 52, 29, 53, 42, 43, 44, 30, 31, 69, 70, 71, 72, 80, 81, 82] rfl (by decide +kernel)
set_option maxRecDepth 20000 in
theorem gX11_leads_X5_greatestIn : GoodIn wsX11_leads (wsV RX11 307 RX5 yX5_greatestIn wsX5_greatestIn) := goodIn_app (goodIn_of _ (by decide +kernel)) ggX11_leads_X5_greatestIn
theorem dX11_leads_0 : decode cX11_leads 0 = .ok (.iload_n 1, 1) := by decide +kernel
theorem dX11_leads_1 : decode cX11_leads 1 = .ok (.invokestatic 249, 3) := by decide +kernel
theorem dX11_leads_4 : decode cX11_leads 4 = .ok (.ifCond .eq 10, 3) := by decide +kernel
theorem dX11_leads_7 : decode cX11_leads 7 = .ok (.iload_n 2, 1) := by decide +kernel
theorem dX11_leads_8 : decode cX11_leads 8 = .ok (.invokestatic 154, 3) := by decide +kernel
theorem dX11_leads_11 : decode cX11_leads 11 = .ok (.ifCond .ne 5, 3) := by decide +kernel
theorem dX11_leads_14 : decode cX11_leads 14 = .ok (.iconst (-1), 1) := by decide +kernel
theorem dX11_leads_15 : decode cX11_leads 15 = .ok (.ireturn, 1) := by decide +kernel
theorem dX11_leads_16 : decode cX11_leads 16 = .ok (.aload_n 0, 1) := by decide +kernel
theorem dX11_leads_17 : decode cX11_leads 17 = .ok (.getfield 26, 3) := by decide +kernel
theorem dX11_leads_20 : decode cX11_leads 20 = .ok (.iload_n 1, 1) := by decide +kernel
theorem dX11_leads_21 : decode cX11_leads 21 = .ok (.aaload, 1) := by decide +kernel
theorem dX11_leads_22 : decode cX11_leads 22 = .ok (.iconst 1, 1) := by decide +kernel
theorem dX11_leads_23 : decode cX11_leads 23 = .ok (.invokevirtual 266, 3) := by decide +kernel
theorem dX11_leads_26 : decode cX11_leads 26 = .ok (.istore_n 3, 1) := by decide +kernel
theorem dX11_leads_27 : decode cX11_leads 27 = .ok (.iload_n 3, 1) := by decide +kernel
theorem dX11_leads_28 : decode cX11_leads 28 = .ok (.ifCond .eq 5, 3) := by decide +kernel
theorem dX11_leads_31 : decode cX11_leads 31 = .ok (.iload_n 3, 1) := by decide +kernel
theorem dX11_leads_32 : decode cX11_leads 32 = .ok (.ireturn, 1) := by decide +kernel
theorem dX11_leads_33 : decode cX11_leads 33 = .ok (.aload_n 0, 1) := by decide +kernel
theorem dX11_leads_34 : decode cX11_leads 34 = .ok (.getfield 26, 3) := by decide +kernel
theorem dX11_leads_37 : decode cX11_leads 37 = .ok (.iload_n 1, 1) := by decide +kernel
theorem dX11_leads_38 : decode cX11_leads 38 = .ok (.aaload, 1) := by decide +kernel
theorem dX11_leads_39 : decode cX11_leads 39 = .ok (.getfield 255, 3) := by decide +kernel
theorem dX11_leads_42 : decode cX11_leads 42 = .ok (.astore 4, 2) := by decide +kernel
theorem dX11_leads_44 : decode cX11_leads 44 = .ok (.aload 4, 2) := by decide +kernel
theorem dX11_leads_46 : decode cX11_leads 46 = .ok (.getfield 279, 3) := by decide +kernel
theorem dX11_leads_49 : decode cX11_leads 49 = .ok (.ifCond .ne 6, 3) := by decide +kernel
theorem dX11_leads_52 : decode cX11_leads 52 = .ok (.bipush (-4), 2) := by decide +kernel
theorem dX11_leads_54 : decode cX11_leads 54 = .ok (.ireturn, 1) := by decide +kernel
theorem dX11_leads_55 : decode cX11_leads 55 = .ok (.aload_n 0, 1) := by decide +kernel
theorem dX11_leads_56 : decode cX11_leads 56 = .ok (.getfield 47, 3) := by decide +kernel
theorem dX11_leads_59 : decode cX11_leads 59 = .ok (.iload_n 2, 1) := by decide +kernel
theorem dX11_leads_60 : decode cX11_leads 60 = .ok (.aload_n 0, 1) := by decide +kernel
theorem dX11_leads_61 : decode cX11_leads 61 = .ok (.getfield 12, 3) := by decide +kernel
theorem dX11_leads_64 : decode cX11_leads 64 = .ok (.getfield 114, 3) := by decide +kernel
theorem dX11_leads_67 : decode cX11_leads 67 = .ok (.aload_n 0, 1) := by decide +kernel
theorem dX11_leads_68 : decode cX11_leads 68 = .ok (.getfield 12, 3) := by decide +kernel
theorem dX11_leads_71 : decode cX11_leads 71 = .ok (.getfield 117, 3) := by decide +kernel
theorem dX11_leads_74 : decode cX11_leads 74 = .ok (.invokevirtual 299, 3) := by decide +kernel
theorem dX11_leads_77 : decode cX11_leads 77 = .ok (.aload 4, 2) := by decide +kernel
theorem dX11_leads_79 : decode cX11_leads 79 = .ok (.aload_n 0, 1) := by decide +kernel
theorem dX11_leads_80 : decode cX11_leads 80 = .ok (.getfield 47, 3) := by decide +kernel
theorem dX11_leads_83 : decode cX11_leads 83 = .ok (.invokevirtual 303, 3) := by decide +kernel
theorem dX11_leads_86 : decode cX11_leads 86 = .ok (.ifCond .eq 15, 3) := by decide +kernel
theorem dX11_leads_89 : decode cX11_leads 89 = .ok (.aload 4, 2) := by decide +kernel
theorem dX11_leads_91 : decode cX11_leads 91 = .ok (.aload_n 0, 1) := by decide +kernel
theorem dX11_leads_92 : decode cX11_leads 92 = .ok (.getfield 47, 3) := by decide +kernel
theorem dX11_leads_95 : decode cX11_leads 95 = .ok (.invokevirtual 307, 3) := by decide +kernel
theorem dX11_leads_98 : decode cX11_leads 98 = .ok (.goto 5, 3) := by decide +kernel
theorem dX11_leads_101 : decode cX11_leads 101 = .ok (.bipush (-13), 2) := by decide +kernel
theorem dX11_leads_103 : decode cX11_leads 103 = .ok (.ireturn, 1) := by decide +kernel
set_option maxRecDepth 20000 in
theorem ggX11_reduce_X11_isSlot : GoodIn wsX11_reduce wsX11_isSlot := goodIn_r _ [15, 16, 17, 14, 18] rfl (by decide +kernel)
set_option maxRecDepth 20000 in
theorem gX11_reduce_X11_isSlot : GoodIn wsX11_reduce (va_wsS RX11 249 yX11_isSlot wsX11_isSlot) := goodIn_app (goodIn_of _ (by decide +kernel)) ggX11_reduce_X11_isSlot
set_option maxRecDepth 20000 in
theorem ggX11_reduce_X11_isOrder : GoodIn wsX11_reduce wsX11_isOrder := goodIn_r _ [21, 16, 17, 14, 18] rfl (by decide +kernel)
set_option maxRecDepth 20000 in
theorem gX11_reduce_X11_isOrder : GoodIn wsX11_reduce (va_wsS RX11 154 yX11_isOrder wsX11_isOrder) := goodIn_app (goodIn_of _ (by decide +kernel)) ggX11_reduce_X11_isOrder
set_option maxRecDepth 20000 in
theorem ggX11_reduce_X8_findWanting : GoodIn wsX11_reduce wsX8_findWanting := goodIn_r _ [26, 27, 301, 302, 303, 304] rfl (by decide +kernel)
set_option maxRecDepth 20000 in
theorem gX11_reduce_X8_findWanting : GoodIn wsX11_reduce (wsV RX11 266 RX8 yX8_findWanting wsX8_findWanting) := goodIn_app (goodIn_of _ (by decide +kernel)) ggX11_reduce_X8_findWanting
set_option maxRecDepth 20000 in
theorem ggX11_reduce_X11_sumVectors : GoodIn wsX11_reduce wsX11_sumVectors := goodIn_r _ [31, 32, 10, 4, 33, 34, 35, 36, 37, 11, 38, 39, 40, 41, 42, 43, 44, 45, 46, 47, 48, 49, 50, 51, 52, 53, 54, 55, 56, 57, 58, 59, 60, 61, 62, 63, 64, 65, 66, 67, 68, 69, 70, 71, 72, 73, 74, 75, 14, 76, 77, 78, 79, 80, 81, 82, 83, 84, 85, 86, 87, 88, 89, 90, 91, 92, 93, 94, 95, 96, 97, 98, 99, 100, 101, 102, 103, 104, 105, 106, 107, 108, 109, 110, 111, 112, 113, 114, 115, 116, 117, 118, 119, 120, 121, 122, 123, 124, 125, 126, 127, 128, 129, 130, 131, 132, 133, 134, 135, 136, 137, 138, 139, 140, 141, 142, 143, 144, 145, 146, 147, 148, 149, 150, 151, 152, 153, 154, 155, 156, 157, 158, 159, 160, 161, 162, 163, 164, 165, 166, 167, 168, 169, 170, 171, 172, 173, 174, 175, 176, 177, 178, 179, 180, 181, 182, 183, 184, 185, 186, 187, 188, 189, 190, 191, 192, 193, 194, 195, 196, 197, 198, 199, 200, 201, 202, 203, 204, 205, 206, 207, 208, 209, 210, 211, 212, 213, 214, 215, 216, 217, 218, 219, 220, 221, 222, 223, 224, 225, 226, 227, 228, 229, 230, 231, 232, 233, 234, 235, 236, 237, 238, 239, 240, 241, 242, 243, 244, 245, 246, 247, 248, 249, 250, 290, 291, 292, 293, 294, 295, 296, 297, 298, 299, 300, 326, 327, 328, 329, 319, 320, 321, 322, 323, 324, 325, 330, 331, 332, 333, 334, 335, 336, 337, 338, 305, 306, 307, 308, 309, 310, 311, 312, 313, 339, 340, 341, 342, 343, 344, 345, 346, 347, 348, 349, 350, 351, 352, 353, 354, 355, 356, 314, 315, 316, 317, 318, 357, 358, 359, 360, 361, 362, 363] rfl (by decide +kernel)
set_option maxRecDepth 20000 in
theorem gX11_reduce_X11_sumVectors : GoodIn wsX11_reduce (wsV RX11 311 RX11 yX11_sumVectors wsX11_sumVectors) := goodIn_app (goodIn_of _ (by decide +kernel)) ggX11_reduce_X11_sumVectors
set_option maxRecDepth 20000 in
theorem ggX11_reduce_X11_baseIn : GoodIn wsX11_reduce wsX11_baseIn := goodIn_r _ [254, 32, 10, 38, 39, 40, 41, 42, 43, 44, 45, 46, 47, 48, 49, 50, 51, 52, 53, 54, 55, 56, 57, 58, 59, 60, 61, 62, 63, 64, 65, 66, 67, 68, 69, 70, 71, 72, 73, 74, 75, 14, 76, 77, 78, 79, 80, 81, 82, 83, 84, 85, 86, 87, 88, 89, 90, 91, 92, 93, 94, 95, 96, 97, 98, 99, 100, 101, 102, 103, 104, 105, 106, 107, 108, 109, 110, 111, 112, 113, 114, 115, 116, 117, 118, 119, 120, 121, 122, 123, 124, 125, 126, 127, 128, 129, 130, 131, 132, 133, 134, 135, 136, 137, 138, 139, 140, 141, 142, 143, 144, 145, 146, 147, 148, 149, 150, 151, 152, 153, 154, 155, 156, 157, 158, 159, 160, 161, 162, 163, 164, 165, 166, 167, 168, 169, 170, 171, 172, 173, 174, 175, 176, 177, 178, 179, 180, 181, 182, 183, 184, 185, 186, 187, 188, 189, 190, 191, 192, 193, 194, 195, 196, 197, 198, 199, 200, 201, 202, 203, 204, 205, 206, 207, 208, 209, 210, 211, 212, 213, 214, 215, 216, 217, 218, 219, 255, 256, 257, 258, 20, 21, 16, 17, 18, 290, 291, 292, 293, 294, 295, 296, 297, 298, 299, 300, 330, 331, 332, 333, 334, 335, 336, 337, 338, 319, 320, 321, 322, 323, 324, 325, 305, 306, 307, 308, 309, 310, 311, 312, 313, 339, 340, 341, 342, 343, 344, 345, 346, 347, 348, 349, 350, 351, 352, 353, 354, 355, 356, 314, 315, 316, 317, 318, 357, 358, 359, 360, 361, 362, 363] rfl (by decide +kernel)
set_option maxRecDepth 20000 in
theorem gX11_reduce_X11_baseIn : GoodIn wsX11_reduce (wsV RX11 157 RX11 yX11_baseIn wsX11_baseIn) := goodIn_app (goodIn_of _ (by decide +kernel)) ggX11_reduce_X11_baseIn
set_option maxRecDepth 20000 in
theorem ggX11_reduce_X9_express : GoodIn wsX11_reduce wsX9_express := goodIn_r _ [189, 124, 190, 191, 125, 192, 75, 14, 76, 96, 97, 314, 315, 316, 317, 318] rfl (by decide +kernel)
set_option maxRecDepth 20000 in
theorem gX11_reduce_X9_express : GoodIn wsX11_reduce (wsV RX11 209 RX9 yX9_express wsX9_express) := goodIn_app (goodIn_of _ (by decide +kernel)) ggX11_reduce_X9_express
set_option maxRecDepth 20000 in
theorem ggX11_reduce_X5_empty : GoodIn wsX11_reduce wsX5_empty := goodIn_r _ [264, 265, 326, 327, 328, 329] rfl (by decide +kernel)
set_option maxRecDepth 20000 in
theorem gX11_reduce_X5_empty : GoodIn wsX11_reduce (wsV RX11 258 RX5 yX5_empty wsX5_empty) := goodIn_app (goodIn_of _ (by decide +kernel)) ggX11_reduce_X5_empty
set_option maxRecDepth 20000 in
theorem ggX11_reduce_X5_bring : GoodIn wsX11_reduce wsX5_bring := goodIn_r _ [269, 265, 270, 271, 272, 94, 14, 95, 273, 274, 275, 263, 276, 277, 278, 279, 280, 326, 327, 328, 329] rfl (by decide +kernel)
set_option maxRecDepth 20000 in
theorem gX11_reduce_X5_bring : GoodIn wsX11_reduce (wsV RX11 273 RX5 yX5_bring wsX5_bring) := goodIn_app (goodIn_of _ (by decide +kernel)) ggX11_reduce_X5_bring
set_option maxRecDepth 20000 in
theorem ggX11_reduce_X11_settle : GoodIn wsX11_reduce wsX11_settle := goodIn_r _ [284, 6, 33, 1, 2, 285, 286, 287, 263, 288, 265, 272, 289, 214, 215, 216, 270, 271, 290, 291, 292, 293, 294, 295, 296, 297, 298, 299, 300, 326, 327, 328, 329, 301, 302, 303, 304] rfl (by decide +kernel)
set_option maxRecDepth 20000 in
theorem gX11_reduce_X11_settle : GoodIn wsX11_reduce (wsV RX11 276 RX11 yX11_settle wsX11_settle) := goodIn_app (goodIn_of _ (by decide +kernel)) ggX11_reduce_X11_settle
theorem dX11_reduce_0 : decode cX11_reduce 0 = .ok (.iload_n 1, 1) := by decide +kernel
theorem dX11_reduce_1 : decode cX11_reduce 1 = .ok (.invokestatic 249, 3) := by decide +kernel
theorem dX11_reduce_4 : decode cX11_reduce 4 = .ok (.ifCond .eq 10, 3) := by decide +kernel
theorem dX11_reduce_7 : decode cX11_reduce 7 = .ok (.iload_n 2, 1) := by decide +kernel
theorem dX11_reduce_8 : decode cX11_reduce 8 = .ok (.invokestatic 154, 3) := by decide +kernel
theorem dX11_reduce_11 : decode cX11_reduce 11 = .ok (.ifCond .ne 5, 3) := by decide +kernel
theorem dX11_reduce_14 : decode cX11_reduce 14 = .ok (.iconst (-1), 1) := by decide +kernel
theorem dX11_reduce_15 : decode cX11_reduce 15 = .ok (.ireturn, 1) := by decide +kernel
theorem dX11_reduce_16 : decode cX11_reduce 16 = .ok (.aload_n 0, 1) := by decide +kernel
theorem dX11_reduce_17 : decode cX11_reduce 17 = .ok (.getfield 26, 3) := by decide +kernel
theorem dX11_reduce_20 : decode cX11_reduce 20 = .ok (.iload_n 1, 1) := by decide +kernel
theorem dX11_reduce_21 : decode cX11_reduce 21 = .ok (.aaload, 1) := by decide +kernel
theorem dX11_reduce_22 : decode cX11_reduce 22 = .ok (.iconst 1, 1) := by decide +kernel
theorem dX11_reduce_23 : decode cX11_reduce 23 = .ok (.invokevirtual 266, 3) := by decide +kernel
theorem dX11_reduce_26 : decode cX11_reduce 26 = .ok (.istore_n 3, 1) := by decide +kernel
theorem dX11_reduce_27 : decode cX11_reduce 27 = .ok (.iload_n 3, 1) := by decide +kernel
theorem dX11_reduce_28 : decode cX11_reduce 28 = .ok (.ifCond .eq 5, 3) := by decide +kernel
theorem dX11_reduce_31 : decode cX11_reduce 31 = .ok (.iload_n 3, 1) := by decide +kernel
theorem dX11_reduce_32 : decode cX11_reduce 32 = .ok (.ireturn, 1) := by decide +kernel
theorem dX11_reduce_33 : decode cX11_reduce 33 = .ok (.aload_n 0, 1) := by decide +kernel
theorem dX11_reduce_34 : decode cX11_reduce 34 = .ok (.aload_n 0, 1) := by decide +kernel
theorem dX11_reduce_35 : decode cX11_reduce 35 = .ok (.getfield 26, 3) := by decide +kernel
theorem dX11_reduce_38 : decode cX11_reduce 38 = .ok (.iload_n 1, 1) := by decide +kernel
theorem dX11_reduce_39 : decode cX11_reduce 39 = .ok (.aaload, 1) := by decide +kernel
theorem dX11_reduce_40 : decode cX11_reduce 40 = .ok (.getfield 255, 3) := by decide +kernel
theorem dX11_reduce_43 : decode cX11_reduce 43 = .ok (.invokevirtual 311, 3) := by decide +kernel
theorem dX11_reduce_46 : decode cX11_reduce 46 = .ok (.aload_n 0, 1) := by decide +kernel
theorem dX11_reduce_47 : decode cX11_reduce 47 = .ok (.iload_n 2, 1) := by decide +kernel
theorem dX11_reduce_48 : decode cX11_reduce 48 = .ok (.invokevirtual 157, 3) := by decide +kernel
theorem dX11_reduce_51 : decode cX11_reduce 51 = .ok (.astore 4, 2) := by decide +kernel
theorem dX11_reduce_53 : decode cX11_reduce 53 = .ok (.aload 4, 2) := by decide +kernel
theorem dX11_reduce_55 : decode cX11_reduce 55 = .ok (.getfield 205, 3) := by decide +kernel
theorem dX11_reduce_58 : decode cX11_reduce 58 = .ok (.aload_n 0, 1) := by decide +kernel
theorem dX11_reduce_59 : decode cX11_reduce 59 = .ok (.getfield 64, 3) := by decide +kernel
theorem dX11_reduce_62 : decode cX11_reduce 62 = .ok (.aload_n 0, 1) := by decide +kernel
theorem dX11_reduce_63 : decode cX11_reduce 63 = .ok (.getfield 67, 3) := by decide +kernel
theorem dX11_reduce_66 : decode cX11_reduce 66 = .ok (.invokevirtual 209, 3) := by decide +kernel
theorem dX11_reduce_69 : decode cX11_reduce 69 = .ok (.aload_n 0, 1) := by decide +kernel
theorem dX11_reduce_70 : decode cX11_reduce 70 = .ok (.getfield 56, 3) := by decide +kernel
theorem dX11_reduce_73 : decode cX11_reduce 73 = .ok (.invokevirtual 258, 3) := by decide +kernel
theorem dX11_reduce_76 : decode cX11_reduce 76 = .ok (.iconst 0, 1) := by decide +kernel
theorem dX11_reduce_77 : decode cX11_reduce 77 = .ok (.istore 5, 2) := by decide +kernel
theorem dX11_reduce_79 : decode cX11_reduce 79 = .ok (.iload 5, 2) := by decide +kernel
theorem dX11_reduce_81 : decode cX11_reduce 81 = .ok (.aload 4, 2) := by decide +kernel
theorem dX11_reduce_83 : decode cX11_reduce 83 = .ok (.getfield 205, 3) := by decide +kernel
theorem dX11_reduce_86 : decode cX11_reduce 86 = .ok (.getfield 314, 3) := by decide +kernel
theorem dX11_reduce_89 : decode cX11_reduce 89 = .ok (.if_icmp .ge 46, 3) := by decide +kernel
theorem dX11_reduce_92 : decode cX11_reduce 92 = .ok (.aload_n 0, 1) := by decide +kernel
theorem dX11_reduce_93 : decode cX11_reduce 93 = .ok (.getfield 56, 3) := by decide +kernel
theorem dX11_reduce_96 : decode cX11_reduce 96 = .ok (.aload_n 0, 1) := by decide +kernel
theorem dX11_reduce_97 : decode cX11_reduce 97 = .ok (.getfield 67, 3) := by decide +kernel
theorem dX11_reduce_100 : decode cX11_reduce 100 = .ok (.iload 5, 2) := by decide +kernel
theorem dX11_reduce_102 : decode cX11_reduce 102 = .ok (.iaload, 1) := by decide +kernel
theorem dX11_reduce_103 : decode cX11_reduce 103 = .ok (.aload 4, 2) := by decide +kernel
theorem dX11_reduce_105 : decode cX11_reduce 105 = .ok (.getfield 195, 3) := by decide +kernel
theorem dX11_reduce_108 : decode cX11_reduce 108 = .ok (.iload 5, 2) := by decide +kernel
theorem dX11_reduce_110 : decode cX11_reduce 110 = .ok (.iaload, 1) := by decide +kernel
theorem dX11_reduce_111 : decode cX11_reduce 111 = .ok (.aload 4, 2) := by decide +kernel
theorem dX11_reduce_113 : decode cX11_reduce 113 = .ok (.getfield 198, 3) := by decide +kernel
theorem dX11_reduce_116 : decode cX11_reduce 116 = .ok (.iload 5, 2) := by decide +kernel
theorem dX11_reduce_118 : decode cX11_reduce 118 = .ok (.iaload, 1) := by decide +kernel
theorem dX11_reduce_119 : decode cX11_reduce 119 = .ok (.aload_n 0, 1) := by decide +kernel
theorem dX11_reduce_120 : decode cX11_reduce 120 = .ok (.getfield 12, 3) := by decide +kernel
theorem dX11_reduce_123 : decode cX11_reduce 123 = .ok (.getfield 75, 3) := by decide +kernel
theorem dX11_reduce_126 : decode cX11_reduce 126 = .ok (.invokevirtual 273, 3) := by decide +kernel
theorem dX11_reduce_129 : decode cX11_reduce 129 = .ok (.iinc 5 1, 3) := by decide +kernel
theorem dX11_reduce_132 : decode cX11_reduce 132 = .ok (.goto (-53), 3) := by decide +kernel
theorem dX11_reduce_135 : decode cX11_reduce 135 = .ok (.aload_n 0, 1) := by decide +kernel
theorem dX11_reduce_136 : decode cX11_reduce 136 = .ok (.iload_n 1, 1) := by decide +kernel
theorem dX11_reduce_137 : decode cX11_reduce 137 = .ok (.invokevirtual 276, 3) := by decide +kernel
theorem dX11_reduce_140 : decode cX11_reduce 140 = .ok (.ireturn, 1) := by decide +kernel
set_option maxRecDepth 20000 in
theorem ggX11_belongs_X11_isSlot : GoodIn wsX11_belongs wsX11_isSlot := goodIn_r _ [7, 8, 9, 6, 10] rfl (by decide +kernel)
set_option maxRecDepth 20000 in
theorem gX11_belongs_X11_isSlot : GoodIn wsX11_belongs (va_wsS RX11 249 yX11_isSlot wsX11_isSlot) := goodIn_app (goodIn_of _ (by decide +kernel)) ggX11_belongs_X11_isSlot
set_option maxRecDepth 20000 in
theorem ggX11_belongs_X8_findWanting : GoodIn wsX11_belongs wsX8_findWanting := goodIn_r _ [15, 16, 257, 258, 259, 260] rfl (by decide +kernel)
set_option maxRecDepth 20000 in
theorem gX11_belongs_X8_findWanting : GoodIn wsX11_belongs (wsV RX11 266 RX8 yX8_findWanting wsX8_findWanting) := goodIn_app (goodIn_of _ (by decide +kernel)) ggX11_belongs_X8_findWanting
set_option maxRecDepth 20000 in
theorem ggX11_belongs_X11_sumVectors : GoodIn wsX11_belongs wsX11_sumVectors := goodIn_r _ [20, 21, 22, 3, 23, 24, 25, 26, 27, 28, 29, 30, 31, 32, 33, 34, 35, 36, 37, 38, 39, 40, 41, 42, 43, 44, 45, 46, 47, 48, 49, 50, 51, 52, 53, 54, 55, 56, 57, 58, 59, 60, 61, 62, 63, 64, 65, 66, 6, 67, 68, 69, 70, 71, 72, 73, 74, 75, 76, 77, 78, 79, 80, 81, 82, 83, 84, 85, 86, 87, 88, 89, 90, 91, 92, 93, 94, 95, 96, 97, 98, 99, 100, 101, 102, 103, 104, 105, 106, 107, 108, 109, 110, 111, 112, 113, 114, 115, 116, 117, 118, 119, 120, 121, 122, 123, 124, 125, 126, 127, 128, 129, 130, 131, 132, 133, 134, 135, 136, 137, 138, 139, 140, 141, 142, 143, 144, 145, 146, 147, 148, 149, 150, 151, 152, 153, 154, 155, 156, 157, 158, 159, 160, 161, 162, 163, 164, 165, 166, 167, 168, 169, 170, 171, 172, 173, 174, 175, 176, 177, 178, 179, 180, 181, 182, 183, 184, 185, 186, 187, 188, 189, 190, 191, 192, 193, 194, 195, 196, 197, 198, 199, 200, 201, 202, 203, 204, 205, 206, 207, 208, 209, 210, 211, 212, 213, 214, 215, 216, 217, 218, 219, 220, 221, 222, 223, 224, 225, 226, 227, 228, 229, 230, 231, 232, 233, 234, 235, 236, 237, 238, 239, 240, 241, 246, 247, 248, 249, 250, 251, 252, 253, 254, 255, 256, 261, 262, 263, 264, 265, 266, 267, 268, 269, 270, 271, 272, 273, 274, 275, 276, 277, 278, 279, 280, 281, 282, 283, 284, 285, 286, 287, 288, 289, 290, 291, 292, 293, 294, 295, 296, 297, 298, 299, 300, 301, 302, 303, 304, 305, 306, 307, 308, 309, 310, 311, 312, 313, 314, 315, 316, 317, 318, 319] rfl (by decide +kernel)
set_option maxRecDepth 20000 in
theorem gX11_belongs_X11_sumVectors : GoodIn wsX11_belongs (wsV RX11 311 RX11 yX11_sumVectors wsX11_sumVectors) := goodIn_app (goodIn_of _ (by decide +kernel)) ggX11_belongs_X11_sumVectors
set_option maxRecDepth 20000 in
theorem ggX11_belongs_X11_firstNotZero : GoodIn wsX11_belongs wsX11_firstNotZero := goodIn_r _ [185] rfl (by decide +kernel)
set_option maxRecDepth 20000 in
theorem gX11_belongs_X11_firstNotZero : GoodIn wsX11_belongs (va_wsS RX11 315 yX11_firstNotZero wsX11_firstNotZero) := goodIn_app (goodIn_of _ (by decide +kernel)) ggX11_belongs_X11_firstNotZero
set_option maxRecDepth 20000 in
theorem ggX11_belongs_X11_asAnswer : GoodIn wsX11_belongs wsX11_asAnswer := goodIn_r _ [245] rfl (by decide +kernel)
set_option maxRecDepth 20000 in
theorem gX11_belongs_X11_asAnswer : GoodIn wsX11_belongs (va_wsS RX11 139 yX11_asAnswer wsX11_asAnswer) := goodIn_app (goodIn_of _ (by decide +kernel)) ggX11_belongs_X11_asAnswer
theorem dX11_belongs_0 : decode cX11_belongs 0 = .ok (.iload_n 1, 1) := by decide +kernel
theorem dX11_belongs_1 : decode cX11_belongs 1 = .ok (.invokestatic 249, 3) := by decide +kernel
theorem dX11_belongs_4 : decode cX11_belongs 4 = .ok (.ifCond .ne 5, 3) := by decide +kernel
theorem dX11_belongs_7 : decode cX11_belongs 7 = .ok (.iconst (-1), 1) := by decide +kernel
theorem dX11_belongs_8 : decode cX11_belongs 8 = .ok (.ireturn, 1) := by decide +kernel
theorem dX11_belongs_9 : decode cX11_belongs 9 = .ok (.aload_n 0, 1) := by decide +kernel
theorem dX11_belongs_10 : decode cX11_belongs 10 = .ok (.getfield 26, 3) := by decide +kernel
theorem dX11_belongs_13 : decode cX11_belongs 13 = .ok (.iload_n 1, 1) := by decide +kernel
theorem dX11_belongs_14 : decode cX11_belongs 14 = .ok (.aaload, 1) := by decide +kernel
theorem dX11_belongs_15 : decode cX11_belongs 15 = .ok (.iconst 1, 1) := by decide +kernel
theorem dX11_belongs_16 : decode cX11_belongs 16 = .ok (.invokevirtual 266, 3) := by decide +kernel
theorem dX11_belongs_19 : decode cX11_belongs 19 = .ok (.istore_n 2, 1) := by decide +kernel
theorem dX11_belongs_20 : decode cX11_belongs 20 = .ok (.iload_n 2, 1) := by decide +kernel
theorem dX11_belongs_21 : decode cX11_belongs 21 = .ok (.ifCond .eq 5, 3) := by decide +kernel
theorem dX11_belongs_24 : decode cX11_belongs 24 = .ok (.iload_n 2, 1) := by decide +kernel
theorem dX11_belongs_25 : decode cX11_belongs 25 = .ok (.ireturn, 1) := by decide +kernel
theorem dX11_belongs_26 : decode cX11_belongs 26 = .ok (.aload_n 0, 1) := by decide +kernel
theorem dX11_belongs_27 : decode cX11_belongs 27 = .ok (.aload_n 0, 1) := by decide +kernel
theorem dX11_belongs_28 : decode cX11_belongs 28 = .ok (.getfield 26, 3) := by decide +kernel
theorem dX11_belongs_31 : decode cX11_belongs 31 = .ok (.iload_n 1, 1) := by decide +kernel
theorem dX11_belongs_32 : decode cX11_belongs 32 = .ok (.aaload, 1) := by decide +kernel
theorem dX11_belongs_33 : decode cX11_belongs 33 = .ok (.getfield 255, 3) := by decide +kernel
theorem dX11_belongs_36 : decode cX11_belongs 36 = .ok (.invokevirtual 311, 3) := by decide +kernel
theorem dX11_belongs_39 : decode cX11_belongs 39 = .ok (.aload_n 0, 1) := by decide +kernel
theorem dX11_belongs_40 : decode cX11_belongs 40 = .ok (.getfield 64, 3) := by decide +kernel
theorem dX11_belongs_43 : decode cX11_belongs 43 = .ok (.invokestatic 315, 3) := by decide +kernel
theorem dX11_belongs_46 : decode cX11_belongs 46 = .ok (.ifCond .ge 7, 3) := by decide +kernel
theorem dX11_belongs_49 : decode cX11_belongs 49 = .ok (.iconst 1, 1) := by decide +kernel
theorem dX11_belongs_50 : decode cX11_belongs 50 = .ok (.goto 4, 3) := by decide +kernel
theorem dX11_belongs_53 : decode cX11_belongs 53 = .ok (.iconst 0, 1) := by decide +kernel
theorem dX11_belongs_54 : decode cX11_belongs 54 = .ok (.invokestatic 139, 3) := by decide +kernel
theorem dX11_belongs_57 : decode cX11_belongs 57 = .ok (.ireturn, 1) := by decide +kernel
set_option maxRecDepth 20000 in
theorem ggX11_stands_X11_isSlot : GoodIn wsX11_stands wsX11_isSlot := goodIn_r _ [13, 14, 15, 12, 16] rfl (by decide +kernel)
set_option maxRecDepth 20000 in
theorem gX11_stands_X11_isSlot : GoodIn wsX11_stands (va_wsS RX11 249 yX11_isSlot wsX11_isSlot) := goodIn_app (goodIn_of _ (by decide +kernel)) ggX11_stands_X11_isSlot
set_option maxRecDepth 20000 in
theorem ggX11_stands_X8_findWanting : GoodIn wsX11_stands wsX8_findWanting := goodIn_r _ [21, 22, 234, 235, 236, 237] rfl (by decide +kernel)
set_option maxRecDepth 20000 in
theorem gX11_stands_X8_findWanting : GoodIn wsX11_stands (wsV RX11 266 RX8 yX8_findWanting wsX8_findWanting) := goodIn_app (goodIn_of _ (by decide +kernel)) ggX11_stands_X8_findWanting
set_option maxRecDepth 20000 in
theorem ggX11_stands_X11_currentIdeal : GoodIn wsX11_stands wsX11_currentIdeal := goodIn_r _ [26, 27, 28, 29, 30, 31, 32, 33, 34, 35, 36, 37, 38, 39, 40, 41, 42, 43, 44, 45, 46, 47, 48, 49, 50, 51, 52, 53, 54, 55, 56, 57, 58, 59, 60, 61, 62, 63, 64, 65, 66, 12, 67, 68, 69, 70, 71, 72, 73, 74, 75, 76, 77, 78, 79, 80, 81, 82, 83, 84, 85, 86, 87, 88, 89, 90, 91, 92, 93, 94, 95, 96, 97, 98, 99, 100, 101, 102, 103, 104, 105, 106, 107, 108, 109, 110, 111, 112, 113, 114, 115, 116, 117, 118, 119, 120, 121, 122, 123, 124, 125, 126, 127, 128, 129, 130, 131, 132, 133, 134, 135, 136, 137, 138, 139, 140, 141, 142, 143, 144, 145, 146, 147, 148, 149, 150, 151, 152, 153, 154, 155, 156, 157, 158, 159, 160, 161, 162, 163, 164, 165, 166, 167, 168, 169, 170, 171, 172, 173, 174, 175, 176, 177, 178, 179, 180, 181, 182, 183, 184, 185, 186, 187, 188, 189, 190, 191, 192, 193, 194, 195, 196, 197, 198, 199, 200, 201, 202, 203, 204, 205, 206, 207, 208, 209, 210, 223, 224, 225, 226, 227, 228, 229, 230, 231, 232, 233, 238, 239, 240, 241, 242, 243, 244, 245, 246, 259, 260, 261, 262, 263, 264, 265, 250, 251, 252, 253, 254, 255, 256, 257, 258, 266, 267, 268, 269, 270, 271, 272, 273, 274, 275, 276, 277, 278, 279, 280, 247, 248, 249, 281, 282, 283, 284, 285, 286, 287, 288, 289, 290, 291, 292] rfl (by decide +kernel)
set_option maxRecDepth 20000 in
theorem gX11_stands_X11_currentIdeal : GoodIn wsX11_stands (wsV RX11 131 RX11 yX11_currentIdeal wsX11_currentIdeal) := goodIn_app (goodIn_of _ (by decide +kernel)) ggX11_stands_X11_currentIdeal
set_option maxRecDepth 20000 in
theorem ggX11_stands_X0_walk : GoodIn wsX11_stands wsX0_walk := goodIn_r _ [93, 94, 95, 96, 97, 98, 99, 100, 101, 102, 103, 104, 105, 106, 107, 108, 109, 110, 111, 112, 113, 114, 115, 116, 117, 118, 119, 120, 121, 122, 123, 124, 125, 126, 127, 128, 129, 130, 131, 132, 133, 134, 135, 136, 137, 138, 139, 140, 141, 142, 143, 144, 145, 146, 147, 148, 149, 150, 151, 152, 153, 154, 155, 156, 157, 158, 92, 159, 160, 161, 162, 163, 164, 165, 166, 167, 168, 169, 170, 49, 171, 66, 12, 67, 172, 173, 174, 175, 176, 56, 54, 52, 61, 62, 63, 64, 65, 87, 88, 177, 178, 179, 180, 181, 182, 183, 184, 185, 186, 187, 188, 189, 190, 191, 192, 193, 194, 195, 196, 197, 250, 251, 252, 253, 254, 255, 256, 257, 258, 266, 267, 268, 269, 270, 271, 272, 273, 274, 275, 276, 277, 278, 279, 280, 247, 248, 249, 281, 282, 283, 284, 285] rfl (by decide +kernel)
set_option maxRecDepth 20000 in
theorem gX11_stands_X0_walk : GoodIn wsX11_stands (wsV RX11 327 RX0 yX0_walk wsX0_walk) := goodIn_app (goodIn_of _ (by decide +kernel)) ggX11_stands_X0_walk
set_option maxRecDepth 20000 in
theorem ggX11_stands_X4_isAs : GoodIn wsX11_stands wsX4_isAs := goodIn_r _ [215, 153, 154, 155, 190, 216, 217, 218, 151, 219, 266, 267, 268, 269] rfl (by decide +kernel)
set_option maxRecDepth 20000 in
theorem gX11_stands_X4_isAs : GoodIn wsX11_stands (wsV RX11 331 RX4 yX4_isAs wsX4_isAs) := goodIn_app (goodIn_of _ (by decide +kernel)) ggX11_stands_X4_isAs
set_option maxRecDepth 20000 in
theorem ggX11_stands_X11_asAnswer : GoodIn wsX11_stands wsX11_asAnswer := goodIn_r _ [222] rfl (by decide +kernel)
set_option maxRecDepth 20000 in
theorem gX11_stands_X11_asAnswer : GoodIn wsX11_stands (va_wsS RX11 139 yX11_asAnswer wsX11_asAnswer) := goodIn_app (goodIn_of _ (by decide +kernel)) ggX11_stands_X11_asAnswer
theorem dX11_stands_0 : decode cX11_stands 0 = .ok (.iload_n 1, 1) := by decide +kernel
theorem dX11_stands_1 : decode cX11_stands 1 = .ok (.invokestatic 249, 3) := by decide +kernel
theorem dX11_stands_4 : decode cX11_stands 4 = .ok (.ifCond .ne 5, 3) := by decide +kernel
theorem dX11_stands_7 : decode cX11_stands 7 = .ok (.iconst (-1), 1) := by decide +kernel
theorem dX11_stands_8 : decode cX11_stands 8 = .ok (.ireturn, 1) := by decide +kernel
theorem dX11_stands_9 : decode cX11_stands 9 = .ok (.aload_n 0, 1) := by decide +kernel
theorem dX11_stands_10 : decode cX11_stands 10 = .ok (.getfield 26, 3) := by decide +kernel
theorem dX11_stands_13 : decode cX11_stands 13 = .ok (.iload_n 1, 1) := by decide +kernel
theorem dX11_stands_14 : decode cX11_stands 14 = .ok (.aaload, 1) := by decide +kernel
theorem dX11_stands_15 : decode cX11_stands 15 = .ok (.iconst 2, 1) := by decide +kernel
theorem dX11_stands_16 : decode cX11_stands 16 = .ok (.invokevirtual 266, 3) := by decide +kernel
theorem dX11_stands_19 : decode cX11_stands 19 = .ok (.istore_n 2, 1) := by decide +kernel
theorem dX11_stands_20 : decode cX11_stands 20 = .ok (.iload_n 2, 1) := by decide +kernel
theorem dX11_stands_21 : decode cX11_stands 21 = .ok (.ifCond .eq 5, 3) := by decide +kernel
theorem dX11_stands_24 : decode cX11_stands 24 = .ok (.iload_n 2, 1) := by decide +kernel
theorem dX11_stands_25 : decode cX11_stands 25 = .ok (.ireturn, 1) := by decide +kernel
theorem dX11_stands_26 : decode cX11_stands 26 = .ok (.aload_n 0, 1) := by decide +kernel
theorem dX11_stands_27 : decode cX11_stands 27 = .ok (.getfield 26, 3) := by decide +kernel
theorem dX11_stands_30 : decode cX11_stands 30 = .ok (.iload_n 1, 1) := by decide +kernel
theorem dX11_stands_31 : decode cX11_stands 31 = .ok (.aaload, 1) := by decide +kernel
theorem dX11_stands_32 : decode cX11_stands 32 = .ok (.getfield 319, 3) := by decide +kernel
theorem dX11_stands_35 : decode cX11_stands 35 = .ok (.astore_n 3, 1) := by decide +kernel
theorem dX11_stands_36 : decode cX11_stands 36 = .ok (.aload_n 0, 1) := by decide +kernel
theorem dX11_stands_37 : decode cX11_stands 37 = .ok (.getfield 40, 3) := by decide +kernel
theorem dX11_stands_40 : decode cX11_stands 40 = .ok (.aload_n 0, 1) := by decide +kernel
theorem dX11_stands_41 : decode cX11_stands 41 = .ok (.invokevirtual 131, 3) := by decide +kernel
theorem dX11_stands_44 : decode cX11_stands 44 = .ok (.getfield 215, 3) := by decide +kernel
theorem dX11_stands_47 : decode cX11_stands 47 = .ok (.aload_n 3, 1) := by decide +kernel
theorem dX11_stands_48 : decode cX11_stands 48 = .ok (.getfield 322, 3) := by decide +kernel
theorem dX11_stands_51 : decode cX11_stands 51 = .ok (.aload_n 3, 1) := by decide +kernel
theorem dX11_stands_52 : decode cX11_stands 52 = .ok (.getfield 325, 3) := by decide +kernel
theorem dX11_stands_55 : decode cX11_stands 55 = .ok (.aload_n 3, 1) := by decide +kernel
theorem dX11_stands_56 : decode cX11_stands 56 = .ok (.getfield 326, 3) := by decide +kernel
theorem dX11_stands_59 : decode cX11_stands 59 = .ok (.invokevirtual 327, 3) := by decide +kernel
theorem dX11_stands_62 : decode cX11_stands 62 = .ok (.aload_n 0, 1) := by decide +kernel
theorem dX11_stands_63 : decode cX11_stands 63 = .ok (.getfield 40, 3) := by decide +kernel
theorem dX11_stands_66 : decode cX11_stands 66 = .ok (.getfield 161, 3) := by decide +kernel
theorem dX11_stands_69 : decode cX11_stands 69 = .ok (.aload_n 0, 1) := by decide +kernel
theorem dX11_stands_70 : decode cX11_stands 70 = .ok (.getfield 26, 3) := by decide +kernel
theorem dX11_stands_73 : decode cX11_stands 73 = .ok (.iload_n 1, 1) := by decide +kernel
theorem dX11_stands_74 : decode cX11_stands 74 = .ok (.aaload, 1) := by decide +kernel
theorem dX11_stands_75 : decode cX11_stands 75 = .ok (.getfield 265, 3) := by decide +kernel
theorem dX11_stands_78 : decode cX11_stands 78 = .ok (.invokevirtual 331, 3) := by decide +kernel
theorem dX11_stands_81 : decode cX11_stands 81 = .ok (.invokestatic 139, 3) := by decide +kernel
theorem dX11_stands_84 : decode cX11_stands 84 = .ok (.ireturn, 1) := by decide +kernel
set_option maxRecDepth 20000 in
theorem ggX11_kept_X11_isSlot : GoodIn wsX11_kept wsX11_isSlot := goodIn_r _ [9, 10, 11, 8, 12] rfl (by decide +kernel)
set_option maxRecDepth 20000 in
theorem gX11_kept_X11_isSlot : GoodIn wsX11_kept (va_wsS RX11 249 yX11_isSlot wsX11_isSlot) := goodIn_app (goodIn_of _ (by decide +kernel)) ggX11_kept_X11_isSlot
set_option maxRecDepth 20000 in
theorem ggX11_kept_X11_isWithin : GoodIn wsX11_kept wsX11_isWithin := goodIn_r _ [12] rfl (by decide +kernel)
set_option maxRecDepth 20000 in
theorem gX11_kept_X11_isWithin : GoodIn wsX11_kept (va_wsS RX11 88 yX11_isWithin wsX11_isWithin) := goodIn_app (goodIn_of _ (by decide +kernel)) ggX11_kept_X11_isWithin
set_option maxRecDepth 20000 in
theorem ggX11_kept_X8_findWanting : GoodIn wsX11_kept wsX8_findWanting := goodIn_r _ [17, 18, 30, 31, 32, 33] rfl (by decide +kernel)
set_option maxRecDepth 20000 in
theorem gX11_kept_X8_findWanting : GoodIn wsX11_kept (wsV RX11 266 RX8 yX8_findWanting wsX8_findWanting) := goodIn_app (goodIn_of _ (by decide +kernel)) ggX11_kept_X8_findWanting
theorem dX11_kept_0 : decode cX11_kept 0 = .ok (.iload_n 1, 1) := by decide +kernel
theorem dX11_kept_1 : decode cX11_kept 1 = .ok (.invokestatic 249, 3) := by decide +kernel
theorem dX11_kept_4 : decode cX11_kept 4 = .ok (.ifCond .eq 12, 3) := by decide +kernel
theorem dX11_kept_7 : decode cX11_kept 7 = .ok (.iload_n 2, 1) := by decide +kernel
theorem dX11_kept_8 : decode cX11_kept 8 = .ok (.iconst 0, 1) := by decide +kernel
theorem dX11_kept_9 : decode cX11_kept 9 = .ok (.iconst 1, 1) := by decide +kernel
theorem dX11_kept_10 : decode cX11_kept 10 = .ok (.invokestatic 88, 3) := by decide +kernel
theorem dX11_kept_13 : decode cX11_kept 13 = .ok (.ifCond .ne 5, 3) := by decide +kernel
theorem dX11_kept_16 : decode cX11_kept 16 = .ok (.iconst (-1), 1) := by decide +kernel
theorem dX11_kept_17 : decode cX11_kept 17 = .ok (.ireturn, 1) := by decide +kernel
theorem dX11_kept_18 : decode cX11_kept 18 = .ok (.aload_n 0, 1) := by decide +kernel
theorem dX11_kept_19 : decode cX11_kept 19 = .ok (.getfield 26, 3) := by decide +kernel
theorem dX11_kept_22 : decode cX11_kept 22 = .ok (.iload_n 1, 1) := by decide +kernel
theorem dX11_kept_23 : decode cX11_kept 23 = .ok (.aaload, 1) := by decide +kernel
theorem dX11_kept_24 : decode cX11_kept 24 = .ok (.iconst 2, 1) := by decide +kernel
theorem dX11_kept_25 : decode cX11_kept 25 = .ok (.invokevirtual 266, 3) := by decide +kernel
theorem dX11_kept_28 : decode cX11_kept 28 = .ok (.istore_n 3, 1) := by decide +kernel
theorem dX11_kept_29 : decode cX11_kept 29 = .ok (.iload_n 3, 1) := by decide +kernel
theorem dX11_kept_30 : decode cX11_kept 30 = .ok (.ifCond .eq 5, 3) := by decide +kernel
theorem dX11_kept_33 : decode cX11_kept 33 = .ok (.iload_n 3, 1) := by decide +kernel
theorem dX11_kept_34 : decode cX11_kept 34 = .ok (.ireturn, 1) := by decide +kernel
theorem dX11_kept_35 : decode cX11_kept 35 = .ok (.aload_n 0, 1) := by decide +kernel
theorem dX11_kept_36 : decode cX11_kept 36 = .ok (.getfield 26, 3) := by decide +kernel
theorem dX11_kept_39 : decode cX11_kept 39 = .ok (.iload_n 1, 1) := by decide +kernel
theorem dX11_kept_40 : decode cX11_kept 40 = .ok (.aaload, 1) := by decide +kernel
theorem dX11_kept_41 : decode cX11_kept 41 = .ok (.getfield 319, 3) := by decide +kernel
theorem dX11_kept_44 : decode cX11_kept 44 = .ok (.astore 4, 2) := by decide +kernel
theorem dX11_kept_46 : decode cX11_kept 46 = .ok (.iload_n 2, 1) := by decide +kernel
theorem dX11_kept_47 : decode cX11_kept 47 = .ok (.ifCond .ne 11, 3) := by decide +kernel
theorem dX11_kept_50 : decode cX11_kept 50 = .ok (.aload 4, 2) := by decide +kernel
theorem dX11_kept_52 : decode cX11_kept 52 = .ok (.getfield 322, 3) := by decide +kernel
theorem dX11_kept_55 : decode cX11_kept 55 = .ok (.goto 17, 3) := by decide +kernel
theorem dX11_kept_58 : decode cX11_kept 58 = .ok (.bipush 10, 2) := by decide +kernel
theorem dX11_kept_60 : decode cX11_kept 60 = .ok (.aload 4, 2) := by decide +kernel
theorem dX11_kept_62 : decode cX11_kept 62 = .ok (.getfield 325, 3) := by decide +kernel
theorem dX11_kept_65 : decode cX11_kept 65 = .ok (.imul, 1) := by decide +kernel
theorem dX11_kept_66 : decode cX11_kept 66 = .ok (.aload 4, 2) := by decide +kernel
theorem dX11_kept_68 : decode cX11_kept 68 = .ok (.getfield 326, 3) := by decide +kernel
theorem dX11_kept_71 : decode cX11_kept 71 = .ok (.iadd, 1) := by decide +kernel
theorem dX11_kept_72 : decode cX11_kept 72 = .ok (.ireturn, 1) := by decide +kernel
set_option maxRecDepth 20000 in
theorem ggX11_image_X11_isWithin : GoodIn wsX11_image wsX11_isWithin := goodIn_r _ [7] rfl (by decide +kernel)
set_option maxRecDepth 20000 in
theorem gX11_image_X11_isWithin : GoodIn wsX11_image (va_wsS RX11 88 yX11_isWithin wsX11_isWithin) := goodIn_app (goodIn_of _ (by decide +kernel)) ggX11_image_X11_isWithin
set_option maxRecDepth 20000 in
theorem ggX11_image_X7_copyFrom : GoodIn wsX11_image wsX7_copyFrom := goodIn_r _ [12, 13, 14, 15, 16, 17, 18, 19, 35, 36, 37, 38, 39, 40, 41] rfl (by decide +kernel)
set_option maxRecDepth 20000 in
theorem gX11_image_X7_copyFrom : GoodIn wsX11_image (wsV RX11 335 RX7 yX7_copyFrom wsX7_copyFrom) := goodIn_app (goodIn_of _ (by decide +kernel)) ggX11_image_X7_copyFrom
set_option maxRecDepth 20000 in
theorem ggX11_image_X7_dimension : GoodIn wsX11_image wsX7_dimension := goodIn_r _ [23, 14, 15, 35, 36, 37, 38, 39, 40, 41] rfl (by decide +kernel)
set_option maxRecDepth 20000 in
theorem gX11_image_X7_dimension : GoodIn wsX11_image (wsV RX11 96 RX7 yX7_dimension wsX7_dimension) := goodIn_app (goodIn_of _ (by decide +kernel)) ggX11_image_X7_dimension
theorem dX11_image_0 : decode cX11_image 0 = .ok (.iload_n 1, 1) := by decide +kernel
theorem dX11_image_1 : decode cX11_image 1 = .ok (.iconst 0, 1) := by decide +kernel
theorem dX11_image_2 : decode cX11_image 2 = .ok (.iconst 1, 1) := by decide +kernel
theorem dX11_image_3 : decode cX11_image 3 = .ok (.invokestatic 88, 3) := by decide +kernel
theorem dX11_image_6 : decode cX11_image 6 = .ok (.ifCond .ne 5, 3) := by decide +kernel
theorem dX11_image_9 : decode cX11_image 9 = .ok (.iconst (-1), 1) := by decide +kernel
theorem dX11_image_10 : decode cX11_image 10 = .ok (.ireturn, 1) := by decide +kernel
theorem dX11_image_11 : decode cX11_image 11 = .ok (.aload_n 0, 1) := by decide +kernel
theorem dX11_image_12 : decode cX11_image 12 = .ok (.getfield 16, 3) := by decide +kernel
theorem dX11_image_15 : decode cX11_image 15 = .ok (.iload_n 1, 1) := by decide +kernel
theorem dX11_image_16 : decode cX11_image 16 = .ok (.aaload, 1) := by decide +kernel
theorem dX11_image_17 : decode cX11_image 17 = .ok (.aload_n 0, 1) := by decide +kernel
theorem dX11_image_18 : decode cX11_image 18 = .ok (.getfield 12, 3) := by decide +kernel
theorem dX11_image_21 : decode cX11_image 21 = .ok (.invokevirtual 335, 3) := by decide +kernel
theorem dX11_image_24 : decode cX11_image 24 = .ok (.aload_n 0, 1) := by decide +kernel
theorem dX11_image_25 : decode cX11_image 25 = .ok (.getfield 20, 3) := by decide +kernel
theorem dX11_image_28 : decode cX11_image 28 = .ok (.iload_n 1, 1) := by decide +kernel
theorem dX11_image_29 : decode cX11_image 29 = .ok (.iconst 1, 1) := by decide +kernel
theorem dX11_image_30 : decode cX11_image 30 = .ok (.bastore, 1) := by decide +kernel
theorem dX11_image_31 : decode cX11_image 31 = .ok (.aload_n 0, 1) := by decide +kernel
theorem dX11_image_32 : decode cX11_image 32 = .ok (.getfield 12, 3) := by decide +kernel
theorem dX11_image_35 : decode cX11_image 35 = .ok (.invokevirtual 96, 3) := by decide +kernel
theorem dX11_image_38 : decode cX11_image 38 = .ok (.ireturn, 1) := by decide +kernel
set_option maxRecDepth 20000 in
theorem ggX11_goBack_X11_isWithin : GoodIn wsX11_goBack wsX11_isWithin := goodIn_r _ [8] rfl (by decide +kernel)
set_option maxRecDepth 20000 in
theorem gX11_goBack_X11_isWithin : GoodIn wsX11_goBack (va_wsS RX11 88 yX11_isWithin wsX11_isWithin) := goodIn_app (goodIn_of _ (by decide +kernel)) ggX11_goBack_X11_isWithin
set_option maxRecDepth 20000 in
theorem ggX11_goBack_X7_copyFrom : GoodIn wsX11_goBack wsX7_copyFrom := goodIn_r _ [13, 14, 15, 16, 17, 18, 19, 20, 72, 73, 74, 75, 76, 77, 78] rfl (by decide +kernel)
set_option maxRecDepth 20000 in
theorem gX11_goBack_X7_copyFrom : GoodIn wsX11_goBack (wsV RX11 335 RX7 yX7_copyFrom wsX7_copyFrom) := goodIn_app (goodIn_of _ (by decide +kernel)) ggX11_goBack_X7_copyFrom
set_option maxRecDepth 20000 in
theorem ggX11_goBack_X11_moveSlotsToField : GoodIn wsX11_goBack wsX11_moveSlotsToField := goodIn_r _ [24, 25, 26, 2, 27, 28, 29, 30, 31, 32, 33, 34, 35, 36, 7, 37, 38, 39, 40, 41, 42, 43, 44, 45, 46, 47, 48, 49, 50, 61, 62, 63, 64, 65, 66, 67, 68, 69, 70, 71, 79, 80, 81, 82, 72, 73, 74, 75, 76, 77, 78, 83, 84, 85, 86, 87, 88, 89, 90] rfl (by decide +kernel)
set_option maxRecDepth 20000 in
theorem gX11_goBack_X11_moveSlotsToField : GoodIn wsX11_goBack (wsV RX11 82 RX11 yX11_moveSlotsToField wsX11_moveSlotsToField) := goodIn_app (goodIn_of _ (by decide +kernel)) ggX11_goBack_X11_moveSlotsToField
set_option maxRecDepth 20000 in
theorem ggX11_goBack_X2_forget : GoodIn wsX11_goBack wsX2_forget := goodIn_r _ [55, 56, 91, 92, 93, 94, 95, 96, 97, 98, 99] rfl (by decide +kernel)
set_option maxRecDepth 20000 in
theorem gX11_goBack_X2_forget : GoodIn wsX11_goBack (wsV RX11 85 RX2 yX2_forget wsX2_forget) := goodIn_app (goodIn_of _ (by decide +kernel)) ggX11_goBack_X2_forget
set_option maxRecDepth 20000 in
theorem ggX11_goBack_X7_dimension : GoodIn wsX11_goBack wsX7_dimension := goodIn_r _ [60, 15, 16, 72, 73, 74, 75, 76, 77, 78] rfl (by decide +kernel)
set_option maxRecDepth 20000 in
theorem gX11_goBack_X7_dimension : GoodIn wsX11_goBack (wsV RX11 96 RX7 yX7_dimension wsX7_dimension) := goodIn_app (goodIn_of _ (by decide +kernel)) ggX11_goBack_X7_dimension
theorem dX11_goBack_0 : decode cX11_goBack 0 = .ok (.iload_n 1, 1) := by decide +kernel
theorem dX11_goBack_1 : decode cX11_goBack 1 = .ok (.iconst 0, 1) := by decide +kernel
theorem dX11_goBack_2 : decode cX11_goBack 2 = .ok (.iconst 1, 1) := by decide +kernel
theorem dX11_goBack_3 : decode cX11_goBack 3 = .ok (.invokestatic 88, 3) := by decide +kernel
theorem dX11_goBack_6 : decode cX11_goBack 6 = .ok (.ifCond .ne 5, 3) := by decide +kernel
theorem dX11_goBack_9 : decode cX11_goBack 9 = .ok (.iconst (-1), 1) := by decide +kernel
theorem dX11_goBack_10 : decode cX11_goBack 10 = .ok (.ireturn, 1) := by decide +kernel
theorem dX11_goBack_11 : decode cX11_goBack 11 = .ok (.aload_n 0, 1) := by decide +kernel
theorem dX11_goBack_12 : decode cX11_goBack 12 = .ok (.getfield 20, 3) := by decide +kernel
theorem dX11_goBack_15 : decode cX11_goBack 15 = .ok (.iload_n 1, 1) := by decide +kernel
theorem dX11_goBack_16 : decode cX11_goBack 16 = .ok (.baload, 1) := by decide +kernel
theorem dX11_goBack_17 : decode cX11_goBack 17 = .ok (.ifCond .ne 6, 3) := by decide +kernel
theorem dX11_goBack_20 : decode cX11_goBack 20 = .ok (.bipush (-2), 2) := by decide +kernel
theorem dX11_goBack_22 : decode cX11_goBack 22 = .ok (.ireturn, 1) := by decide +kernel
theorem dX11_goBack_23 : decode cX11_goBack 23 = .ok (.aload_n 0, 1) := by decide +kernel
theorem dX11_goBack_24 : decode cX11_goBack 24 = .ok (.getfield 12, 3) := by decide +kernel
theorem dX11_goBack_27 : decode cX11_goBack 27 = .ok (.aload_n 0, 1) := by decide +kernel
theorem dX11_goBack_28 : decode cX11_goBack 28 = .ok (.getfield 16, 3) := by decide +kernel
theorem dX11_goBack_31 : decode cX11_goBack 31 = .ok (.iload_n 1, 1) := by decide +kernel
theorem dX11_goBack_32 : decode cX11_goBack 32 = .ok (.aaload, 1) := by decide +kernel
theorem dX11_goBack_33 : decode cX11_goBack 33 = .ok (.invokevirtual 335, 3) := by decide +kernel
theorem dX11_goBack_36 : decode cX11_goBack 36 = .ok (.aload_n 0, 1) := by decide +kernel
theorem dX11_goBack_37 : decode cX11_goBack 37 = .ok (.invokevirtual 82, 3) := by decide +kernel
theorem dX11_goBack_40 : decode cX11_goBack 40 = .ok (.aload_n 0, 1) := by decide +kernel
theorem dX11_goBack_41 : decode cX11_goBack 41 = .ok (.getfield 33, 3) := by decide +kernel
theorem dX11_goBack_44 : decode cX11_goBack 44 = .ok (.invokevirtual 85, 3) := by decide +kernel
theorem dX11_goBack_47 : decode cX11_goBack 47 = .ok (.aload_n 0, 1) := by decide +kernel
theorem dX11_goBack_48 : decode cX11_goBack 48 = .ok (.getfield 12, 3) := by decide +kernel
theorem dX11_goBack_51 : decode cX11_goBack 51 = .ok (.invokevirtual 96, 3) := by decide +kernel
theorem dX11_goBack_54 : decode cX11_goBack 54 = .ok (.ireturn, 1) := by decide +kernel
set_option maxRecDepth 20000 in
theorem ggX11_currentIdeal_X2_bringUpToDate : GoodIn wsX11_currentIdeal wsX2_bringUpToDate := goodIn_r _ [7, 8, 9, 10, 11, 12, 13, 14, 15, 16, 17, 18, 19, 20, 21, 22, 23, 24, 25, 26, 27, 28, 29, 30, 31, 32, 33, 34, 35, 36, 37, 38, 39, 40, 41, 42, 43, 44, 45, 46, 47, 48, 49, 50, 51, 52, 53, 54, 55, 56, 57, 58, 59, 60, 61, 62, 63, 64, 65, 66, 67, 68, 69, 70, 71, 72, 73, 74, 75, 76, 77, 78, 79, 80, 81, 82, 83, 84, 85, 86, 87, 88, 89, 90, 91, 92, 93, 94, 95, 96, 97, 98, 99, 100, 101, 102, 103, 104, 105, 106, 107, 108, 109, 110, 111, 112, 113, 114, 115, 116, 117, 118, 119, 120, 121, 122, 123, 124, 125, 126, 127, 128, 129, 130, 131, 132, 133, 134, 135, 136, 137, 138, 139, 140, 141, 142, 143, 144, 145, 146, 147, 148, 149, 150, 151, 152, 153, 154, 155, 156, 157, 158, 159, 160, 161, 162, 163, 164, 165, 166, 167, 168, 169, 170, 171, 172, 173, 174, 175, 176, 177, 178, 179, 180, 181, 182, 183, 184, 185, 197, 198, 199, 200, 201, 202, 203, 204, 205, 206, 207, 208, 209, 210, 211, 212, 213, 214, 215, 216, 217, 218, 219, 220, 221, 222, 223, 224, 225, 226, 227, 228, 229, 230, 231, 232, 233, 234, 235, 236, 237, 238, 239, 240, 241, 242, 243, 244, 245, 246, 247, 248, 249, 250, 251] rfl (by decide +kernel)
set_option maxRecDepth 20000 in
theorem gX11_currentIdeal_X2_bringUpToDate : GoodIn wsX11_currentIdeal (wsV RX11 338 RX2 yX2_bringUpToDate wsX2_bringUpToDate) := goodIn_app (goodIn_of _ (by decide +kernel)) ggX11_currentIdeal_X2_bringUpToDate
theorem dX11_currentIdeal_0 : decode cX11_currentIdeal 0 = .ok (.aload_n 0, 1) := by decide +kernel
theorem dX11_currentIdeal_1 : decode cX11_currentIdeal 1 = .ok (.getfield 33, 3) := by decide +kernel
theorem dX11_currentIdeal_4 : decode cX11_currentIdeal 4 = .ok (.aload_n 0, 1) := by decide +kernel
theorem dX11_currentIdeal_5 : decode cX11_currentIdeal 5 = .ok (.getfield 12, 3) := by decide +kernel
theorem dX11_currentIdeal_8 : decode cX11_currentIdeal 8 = .ok (.invokevirtual 338, 3) := by decide +kernel
theorem dX11_currentIdeal_11 : decode cX11_currentIdeal 11 = .ok (.aload_n 0, 1) := by decide +kernel
theorem dX11_currentIdeal_12 : decode cX11_currentIdeal 12 = .ok (.getfield 33, 3) := by decide +kernel
theorem dX11_currentIdeal_15 : decode cX11_currentIdeal 15 = .ok (.areturn, 1) := by decide +kernel
set_option maxRecDepth 20000 in
theorem ggX11_baseIn_X2_bringUpToDate : GoodIn wsX11_baseIn wsX2_bringUpToDate := goodIn_r _ [7, 8, 9, 10, 11, 12, 13, 14, 15, 16, 17, 18, 19, 20, 21, 22, 23, 24, 25, 26, 27, 28, 29, 30, 31, 32, 33, 34, 35, 36, 37, 38, 39, 40, 41, 42, 43, 44, 45, 46, 47, 48, 49, 50, 51, 52, 53, 54, 55, 56, 57, 58, 59, 60, 61, 62, 63, 64, 65, 66, 67, 68, 69, 70, 71, 72, 73, 74, 75, 76, 77, 78, 79, 80, 81, 82, 83, 84, 85, 86, 87, 88, 89, 90, 91, 92, 93, 94, 95, 96, 97, 98, 99, 100, 101, 102, 103, 104, 105, 106, 107, 108, 109, 110, 111, 112, 113, 114, 115, 116, 117, 118, 119, 120, 121, 122, 123, 124, 125, 126, 127, 128, 129, 130, 131, 132, 133, 134, 135, 136, 137, 138, 139, 140, 141, 142, 143, 144, 145, 146, 147, 148, 149, 150, 151, 152, 153, 154, 155, 156, 157, 158, 159, 160, 161, 162, 163, 164, 165, 166, 167, 168, 169, 170, 171, 172, 173, 174, 175, 176, 177, 178, 179, 180, 181, 182, 183, 184, 185, 206, 207, 208, 209, 210, 211, 212, 213, 214, 215, 216, 217, 218, 219, 220, 221, 222, 223, 224, 225, 226, 227, 228, 229, 230, 231, 232, 233, 234, 235, 236, 237, 238, 239, 240, 241, 242, 243, 244, 245, 246, 247, 248, 249, 250, 251, 252, 253, 254, 255, 256, 257, 258, 259, 260] rfl (by decide +kernel)
set_option maxRecDepth 20000 in
theorem gX11_baseIn_X2_bringUpToDate : GoodIn wsX11_baseIn (wsV RX11 338 RX2 yX2_bringUpToDate wsX2_bringUpToDate) := goodIn_app (goodIn_of _ (by decide +kernel)) ggX11_baseIn_X2_bringUpToDate
set_option maxRecDepth 20000 in
theorem ggX11_baseIn_X2_baseOf : GoodIn wsX11_baseIn wsX2_baseOf := goodIn_r _ [189, 11, 10, 9, 12, 13, 190, 41, 191, 192, 193, 194, 64, 65, 66, 67, 68, 69, 70, 71, 72, 73, 74, 75, 76, 77, 78, 79, 80, 81, 82, 83, 84, 85, 86, 87, 88, 89, 90, 91, 92, 93, 94, 95, 96, 97, 98, 99, 100, 101, 102, 103, 104, 105, 106, 107, 108, 109, 110, 111, 112, 113, 114, 115, 116, 117, 118, 119, 120, 121, 122, 123, 124, 125, 126, 127, 128, 129, 130, 131, 132, 133, 134, 135, 136, 137, 138, 139, 140, 141, 142, 143, 144, 145, 23, 146, 40, 42, 147, 148, 149, 150, 151, 30, 28, 26, 35, 36, 37, 38, 39, 62, 63, 152, 153, 154, 155, 156, 157, 158, 159, 160, 161, 162, 163, 164, 165, 166, 167, 168, 169, 170, 171, 172, 206, 207, 208, 209, 210, 211, 212, 213, 214, 215, 216, 217, 218, 219, 220, 221, 222, 223, 224, 225, 226, 227, 228, 229, 230, 231, 232, 233, 234, 235, 236, 237, 238, 239, 240, 241, 242, 243, 244, 245, 246, 247, 248, 249, 250, 251, 252, 253] rfl (by decide +kernel)
set_option maxRecDepth 20000 in
theorem gX11_baseIn_X2_baseOf : GoodIn wsX11_baseIn (wsV RX11 341 RX2 yX2_baseOf wsX2_baseOf) := goodIn_app (goodIn_of _ (by decide +kernel)) ggX11_baseIn_X2_baseOf
theorem dX11_baseIn_0 : decode cX11_baseIn 0 = .ok (.aload_n 0, 1) := by decide +kernel
theorem dX11_baseIn_1 : decode cX11_baseIn 1 = .ok (.getfield 33, 3) := by decide +kernel
theorem dX11_baseIn_4 : decode cX11_baseIn 4 = .ok (.aload_n 0, 1) := by decide +kernel
theorem dX11_baseIn_5 : decode cX11_baseIn 5 = .ok (.getfield 12, 3) := by decide +kernel
theorem dX11_baseIn_8 : decode cX11_baseIn 8 = .ok (.invokevirtual 338, 3) := by decide +kernel
theorem dX11_baseIn_11 : decode cX11_baseIn 11 = .ok (.aload_n 0, 1) := by decide +kernel
theorem dX11_baseIn_12 : decode cX11_baseIn 12 = .ok (.getfield 33, 3) := by decide +kernel
theorem dX11_baseIn_15 : decode cX11_baseIn 15 = .ok (.iload_n 1, 1) := by decide +kernel
theorem dX11_baseIn_16 : decode cX11_baseIn 16 = .ok (.aload_n 0, 1) := by decide +kernel
theorem dX11_baseIn_17 : decode cX11_baseIn 17 = .ok (.getfield 12, 3) := by decide +kernel
theorem dX11_baseIn_20 : decode cX11_baseIn 20 = .ok (.invokevirtual 341, 3) := by decide +kernel
theorem dX11_baseIn_23 : decode cX11_baseIn 23 = .ok (.areturn, 1) := by decide +kernel
set_option maxRecDepth 20000 in
theorem ggX11_moveSlotsToField_X5_moveToField : GoodIn wsX11_moveSlotsToField wsX5_moveToField := goodIn_r _ [10, 11, 12, 13, 14, 15, 16, 17, 18, 9, 19, 20, 21, 51, 52, 53, 54] rfl (by decide +kernel)
set_option maxRecDepth 20000 in
theorem gX11_moveSlotsToField_X5_moveToField : GoodIn wsX11_moveSlotsToField (wsV RX11 345 RX5 yX5_moveToField wsX5_moveToField) := goodIn_app (goodIn_of _ (by decide +kernel)) ggX11_moveSlotsToField_X5_moveToField
set_option maxRecDepth 20000 in
theorem ggX11_moveSlotsToField_X4_moveToField : GoodIn wsX11_moveSlotsToField wsX4_moveToField := goodIn_r _ [26, 27, 28, 13, 14, 15, 55, 56, 57, 58] rfl (by decide +kernel)
set_option maxRecDepth 20000 in
theorem gX11_moveSlotsToField_X4_moveToField : GoodIn wsX11_moveSlotsToField (wsV RX11 346 RX4 yX4_moveToField wsX4_moveToField) := goodIn_app (goodIn_of _ (by decide +kernel)) ggX11_moveSlotsToField_X4_moveToField
theorem dX11_moveSlotsToField_0 : decode cX11_moveSlotsToField 0 = .ok (.iconst 0, 1) := by decide +kernel
theorem dX11_moveSlotsToField_1 : decode cX11_moveSlotsToField 1 = .ok (.istore_n 1, 1) := by decide +kernel
theorem dX11_moveSlotsToField_2 : decode cX11_moveSlotsToField 2 = .ok (.iload_n 1, 1) := by decide +kernel
theorem dX11_moveSlotsToField_3 : decode cX11_moveSlotsToField 3 = .ok (.iconst 4, 1) := by decide +kernel
theorem dX11_moveSlotsToField_4 : decode cX11_moveSlotsToField 4 = .ok (.if_icmp .ge 47, 3) := by decide +kernel
theorem dX11_moveSlotsToField_7 : decode cX11_moveSlotsToField 7 = .ok (.aload_n 0, 1) := by decide +kernel
theorem dX11_moveSlotsToField_8 : decode cX11_moveSlotsToField 8 = .ok (.getfield 26, 3) := by decide +kernel
theorem dX11_moveSlotsToField_11 : decode cX11_moveSlotsToField 11 = .ok (.iload_n 1, 1) := by decide +kernel
theorem dX11_moveSlotsToField_12 : decode cX11_moveSlotsToField 12 = .ok (.aaload, 1) := by decide +kernel
theorem dX11_moveSlotsToField_13 : decode cX11_moveSlotsToField 13 = .ok (.getfield 255, 3) := by decide +kernel
theorem dX11_moveSlotsToField_16 : decode cX11_moveSlotsToField 16 = .ok (.aload_n 0, 1) := by decide +kernel
theorem dX11_moveSlotsToField_17 : decode cX11_moveSlotsToField 17 = .ok (.getfield 12, 3) := by decide +kernel
theorem dX11_moveSlotsToField_20 : decode cX11_moveSlotsToField 20 = .ok (.getfield 75, 3) := by decide +kernel
theorem dX11_moveSlotsToField_23 : decode cX11_moveSlotsToField 23 = .ok (.invokevirtual 345, 3) := by decide +kernel
theorem dX11_moveSlotsToField_26 : decode cX11_moveSlotsToField 26 = .ok (.aload_n 0, 1) := by decide +kernel
theorem dX11_moveSlotsToField_27 : decode cX11_moveSlotsToField 27 = .ok (.getfield 26, 3) := by decide +kernel
theorem dX11_moveSlotsToField_30 : decode cX11_moveSlotsToField 30 = .ok (.iload_n 1, 1) := by decide +kernel
theorem dX11_moveSlotsToField_31 : decode cX11_moveSlotsToField 31 = .ok (.aaload, 1) := by decide +kernel
theorem dX11_moveSlotsToField_32 : decode cX11_moveSlotsToField 32 = .ok (.getfield 265, 3) := by decide +kernel
theorem dX11_moveSlotsToField_35 : decode cX11_moveSlotsToField 35 = .ok (.aload_n 0, 1) := by decide +kernel
theorem dX11_moveSlotsToField_36 : decode cX11_moveSlotsToField 36 = .ok (.getfield 12, 3) := by decide +kernel
theorem dX11_moveSlotsToField_39 : decode cX11_moveSlotsToField 39 = .ok (.getfield 75, 3) := by decide +kernel
theorem dX11_moveSlotsToField_42 : decode cX11_moveSlotsToField 42 = .ok (.invokevirtual 346, 3) := by decide +kernel
theorem dX11_moveSlotsToField_45 : decode cX11_moveSlotsToField 45 = .ok (.iinc 1 1, 3) := by decide +kernel
theorem dX11_moveSlotsToField_48 : decode cX11_moveSlotsToField 48 = .ok (.goto (-46), 3) := by decide +kernel
theorem dX11_moveSlotsToField_51 : decode cX11_moveSlotsToField 51 = .ok (.return_, 1) := by decide +kernel
theorem dX11_countSlots_0 : decode cX11_countSlots 0 = .ok (.iconst 0, 1) := by decide +kernel
theorem dX11_countSlots_1 : decode cX11_countSlots 1 = .ok (.istore_n 2, 1) := by decide +kernel
theorem dX11_countSlots_2 : decode cX11_countSlots 2 = .ok (.iconst 0, 1) := by decide +kernel
theorem dX11_countSlots_3 : decode cX11_countSlots 3 = .ok (.istore_n 3, 1) := by decide +kernel
theorem dX11_countSlots_4 : decode cX11_countSlots 4 = .ok (.iload_n 3, 1) := by decide +kernel
theorem dX11_countSlots_5 : decode cX11_countSlots 5 = .ok (.iconst 4, 1) := by decide +kernel
theorem dX11_countSlots_6 : decode cX11_countSlots 6 = .ok (.if_icmp .ge 25, 3) := by decide +kernel
theorem dX11_countSlots_9 : decode cX11_countSlots 9 = .ok (.aload_n 0, 1) := by decide +kernel
theorem dX11_countSlots_10 : decode cX11_countSlots 10 = .ok (.getfield 26, 3) := by decide +kernel
theorem dX11_countSlots_13 : decode cX11_countSlots 13 = .ok (.iload_n 3, 1) := by decide +kernel
theorem dX11_countSlots_14 : decode cX11_countSlots 14 = .ok (.aaload, 1) := by decide +kernel
theorem dX11_countSlots_15 : decode cX11_countSlots 15 = .ok (.getfield 252, 3) := by decide +kernel
theorem dX11_countSlots_18 : decode cX11_countSlots 18 = .ok (.iload_n 1, 1) := by decide +kernel
theorem dX11_countSlots_19 : decode cX11_countSlots 19 = .ok (.if_icmp .ne 6, 3) := by decide +kernel
theorem dX11_countSlots_22 : decode cX11_countSlots 22 = .ok (.iinc 2 1, 3) := by decide +kernel
theorem dX11_countSlots_25 : decode cX11_countSlots 25 = .ok (.iinc 3 1, 3) := by decide +kernel
theorem dX11_countSlots_28 : decode cX11_countSlots 28 = .ok (.goto (-24), 3) := by decide +kernel
theorem dX11_countSlots_31 : decode cX11_countSlots 31 = .ok (.iload_n 2, 1) := by decide +kernel
theorem dX11_countSlots_32 : decode cX11_countSlots 32 = .ok (.ireturn, 1) := by decide +kernel
set_option maxRecDepth 20000 in
theorem ggX11_settle_X5_copyFrom : GoodIn wsX11_settle wsX5_copyFrom := goodIn_r _ [9, 10, 11, 12, 13, 14, 15, 16, 17, 29, 30, 31, 32] rfl (by decide +kernel)
set_option maxRecDepth 20000 in
theorem gX11_settle_X5_copyFrom : GoodIn wsX11_settle (wsV RX11 269 RX5 yX5_copyFrom wsX5_copyFrom) := goodIn_app (goodIn_of _ (by decide +kernel)) ggX11_settle_X5_copyFrom
theorem dX11_settle_0 : decode cX11_settle 0 = .ok (.aload_n 0, 1) := by decide +kernel
theorem dX11_settle_1 : decode cX11_settle 1 = .ok (.getfield 56, 3) := by decide +kernel
theorem dX11_settle_4 : decode cX11_settle 4 = .ok (.getfield 279, 3) := by decide +kernel
theorem dX11_settle_7 : decode cX11_settle 7 = .ok (.bipush 8, 2) := by decide +kernel
theorem dX11_settle_9 : decode cX11_settle 9 = .ok (.if_icmp .le 6, 3) := by decide +kernel
theorem dX11_settle_12 : decode cX11_settle 12 = .ok (.bipush (-3), 2) := by decide +kernel
theorem dX11_settle_14 : decode cX11_settle 14 = .ok (.ireturn, 1) := by decide +kernel
theorem dX11_settle_15 : decode cX11_settle 15 = .ok (.aload_n 0, 1) := by decide +kernel
theorem dX11_settle_16 : decode cX11_settle 16 = .ok (.getfield 26, 3) := by decide +kernel
theorem dX11_settle_19 : decode cX11_settle 19 = .ok (.iload_n 1, 1) := by decide +kernel
theorem dX11_settle_20 : decode cX11_settle 20 = .ok (.aaload, 1) := by decide +kernel
theorem dX11_settle_21 : decode cX11_settle 21 = .ok (.getfield 255, 3) := by decide +kernel
theorem dX11_settle_24 : decode cX11_settle 24 = .ok (.aload_n 0, 1) := by decide +kernel
theorem dX11_settle_25 : decode cX11_settle 25 = .ok (.getfield 56, 3) := by decide +kernel
theorem dX11_settle_28 : decode cX11_settle 28 = .ok (.invokevirtual 269, 3) := by decide +kernel
theorem dX11_settle_31 : decode cX11_settle 31 = .ok (.aload_n 0, 1) := by decide +kernel
theorem dX11_settle_32 : decode cX11_settle 32 = .ok (.getfield 56, 3) := by decide +kernel
theorem dX11_settle_35 : decode cX11_settle 35 = .ok (.getfield 279, 3) := by decide +kernel
theorem dX11_settle_38 : decode cX11_settle 38 = .ok (.ireturn, 1) := by decide +kernel
set_option maxRecDepth 20000 in
theorem ggX11_sumVectors_X2_bringUpToDate : GoodIn wsX11_sumVectors wsX2_bringUpToDate := goodIn_r _ [14, 15, 16, 17, 18, 19, 20, 21, 22, 23, 24, 25, 26, 27, 28, 29, 30, 31, 32, 33, 34, 35, 36, 37, 38, 39, 40, 41, 42, 43, 44, 45, 46, 47, 48, 49, 50, 51, 52, 53, 54, 55, 56, 57, 58, 59, 60, 61, 62, 63, 64, 65, 66, 67, 68, 69, 70, 71, 72, 73, 74, 75, 76, 77, 78, 79, 80, 81, 82, 83, 84, 85, 86, 87, 88, 89, 90, 91, 92, 93, 94, 95, 96, 97, 98, 99, 100, 101, 102, 103, 104, 105, 106, 107, 108, 109, 110, 111, 112, 113, 114, 115, 116, 117, 118, 119, 120, 121, 122, 123, 124, 125, 126, 127, 128, 129, 130, 131, 132, 133, 134, 135, 136, 137, 138, 139, 140, 141, 142, 143, 144, 145, 146, 147, 148, 149, 150, 151, 152, 153, 154, 155, 156, 157, 158, 159, 160, 161, 162, 163, 164, 165, 166, 167, 168, 169, 170, 171, 172, 173, 174, 175, 176, 177, 178, 179, 180, 181, 182, 183, 184, 185, 186, 187, 188, 189, 190, 191, 192, 246, 247, 248, 249, 250, 251, 252, 253, 254, 239, 240, 241, 242, 243, 244, 245, 255, 256, 257, 258, 259, 260, 261, 262, 263, 264, 265, 266, 267, 268, 269, 270, 271, 272, 273, 274, 275, 276, 277, 278, 279, 280, 281, 282, 283, 284, 285, 286, 287, 288, 289, 290, 291, 292, 293] rfl (by decide +kernel)
set_option maxRecDepth 20000 in
theorem gX11_sumVectors_X2_bringUpToDate : GoodIn wsX11_sumVectors (wsV RX11 338 RX2 yX2_bringUpToDate wsX2_bringUpToDate) := goodIn_app (goodIn_of _ (by decide +kernel)) ggX11_sumVectors_X2_bringUpToDate
set_option maxRecDepth 20000 in
theorem ggX11_sumVectors_X11_clear : GoodIn wsX11_sumVectors wsX11_clear := goodIn_r _ [49] rfl (by decide +kernel)
set_option maxRecDepth 20000 in
theorem gX11_sumVectors_X11_clear : GoodIn wsX11_sumVectors (va_wsS RX11 347 yX11_clear wsX11_clear) := goodIn_app (goodIn_of _ (by decide +kernel)) ggX11_sumVectors_X11_clear
set_option maxRecDepth 20000 in
theorem ggX11_sumVectors_X2_vectorOfTerm : GoodIn wsX11_sumVectors wsX2_vectorOfTerm := goodIn_r _ [197, 21, 16, 198, 199, 200, 201, 202, 183, 203, 204, 47, 48, 49, 205, 206, 207, 208, 209, 190, 185, 191, 67, 68, 210, 211, 212, 213, 214, 151, 152, 30, 153, 215, 216, 217, 218, 33, 219, 220, 221, 187, 188, 189, 222, 155, 156, 157, 158, 37, 35, 42, 43, 44, 45, 46, 69, 70, 246, 247, 248, 249, 250, 251, 252, 253, 254, 287, 288, 289, 290, 291, 292, 293, 268, 269, 270, 271, 272] rfl (by decide +kernel)
set_option maxRecDepth 20000 in
theorem gX11_sumVectors_X2_vectorOfTerm : GoodIn wsX11_sumVectors (wsV RX11 201 RX2 yX2_vectorOfTerm wsX2_vectorOfTerm) := goodIn_app (goodIn_of _ (by decide +kernel)) ggX11_sumVectors_X2_vectorOfTerm
set_option maxRecDepth 20000 in
theorem ggX11_sumVectors_X11_bringMultiple : GoodIn wsX11_sumVectors wsX11_bringMultiple := goodIn_r _ [70] rfl (by decide +kernel)
set_option maxRecDepth 20000 in
theorem gX11_sumVectors_X11_bringMultiple : GoodIn wsX11_sumVectors (va_wsS RX11 351 yX11_bringMultiple wsX11_bringMultiple) := goodIn_app (goodIn_of _ (by decide +kernel)) ggX11_sumVectors_X11_bringMultiple
theorem dX11_sumVectors_0 : decode cX11_sumVectors 0 = .ok (.aload_n 0, 1) := by decide +kernel
theorem dX11_sumVectors_1 : decode cX11_sumVectors 1 = .ok (.getfield 33, 3) := by decide +kernel
theorem dX11_sumVectors_4 : decode cX11_sumVectors 4 = .ok (.aload_n 0, 1) := by decide +kernel
theorem dX11_sumVectors_5 : decode cX11_sumVectors 5 = .ok (.getfield 12, 3) := by decide +kernel
theorem dX11_sumVectors_8 : decode cX11_sumVectors 8 = .ok (.invokevirtual 338, 3) := by decide +kernel
theorem dX11_sumVectors_11 : decode cX11_sumVectors 11 = .ok (.aload_n 0, 1) := by decide +kernel
theorem dX11_sumVectors_12 : decode cX11_sumVectors 12 = .ok (.getfield 64, 3) := by decide +kernel
theorem dX11_sumVectors_15 : decode cX11_sumVectors 15 = .ok (.invokestatic 347, 3) := by decide +kernel
theorem dX11_sumVectors_18 : decode cX11_sumVectors 18 = .ok (.iconst 0, 1) := by decide +kernel
theorem dX11_sumVectors_19 : decode cX11_sumVectors 19 = .ok (.istore_n 2, 1) := by decide +kernel
theorem dX11_sumVectors_20 : decode cX11_sumVectors 20 = .ok (.iload_n 2, 1) := by decide +kernel
theorem dX11_sumVectors_21 : decode cX11_sumVectors 21 = .ok (.aload_n 1, 1) := by decide +kernel
theorem dX11_sumVectors_22 : decode cX11_sumVectors 22 = .ok (.getfield 279, 3) := by decide +kernel
theorem dX11_sumVectors_25 : decode cX11_sumVectors 25 = .ok (.if_icmp .ge 56, 3) := by decide +kernel
theorem dX11_sumVectors_28 : decode cX11_sumVectors 28 = .ok (.aload_n 0, 1) := by decide +kernel
theorem dX11_sumVectors_29 : decode cX11_sumVectors 29 = .ok (.getfield 33, 3) := by decide +kernel
theorem dX11_sumVectors_32 : decode cX11_sumVectors 32 = .ok (.aload_n 1, 1) := by decide +kernel
theorem dX11_sumVectors_33 : decode cX11_sumVectors 33 = .ok (.getfield 281, 3) := by decide +kernel
theorem dX11_sumVectors_36 : decode cX11_sumVectors 36 = .ok (.iload_n 2, 1) := by decide +kernel
theorem dX11_sumVectors_37 : decode cX11_sumVectors 37 = .ok (.iaload, 1) := by decide +kernel
theorem dX11_sumVectors_38 : decode cX11_sumVectors 38 = .ok (.aload_n 1, 1) := by decide +kernel
theorem dX11_sumVectors_39 : decode cX11_sumVectors 39 = .ok (.getfield 282, 3) := by decide +kernel
theorem dX11_sumVectors_42 : decode cX11_sumVectors 42 = .ok (.iload_n 2, 1) := by decide +kernel
theorem dX11_sumVectors_43 : decode cX11_sumVectors 43 = .ok (.iaload, 1) := by decide +kernel
theorem dX11_sumVectors_44 : decode cX11_sumVectors 44 = .ok (.aload_n 0, 1) := by decide +kernel
theorem dX11_sumVectors_45 : decode cX11_sumVectors 45 = .ok (.getfield 60, 3) := by decide +kernel
theorem dX11_sumVectors_48 : decode cX11_sumVectors 48 = .ok (.invokevirtual 201, 3) := by decide +kernel
theorem dX11_sumVectors_51 : decode cX11_sumVectors 51 = .ok (.aload_n 0, 1) := by decide +kernel
theorem dX11_sumVectors_52 : decode cX11_sumVectors 52 = .ok (.getfield 64, 3) := by decide +kernel
theorem dX11_sumVectors_55 : decode cX11_sumVectors 55 = .ok (.aload_n 0, 1) := by decide +kernel
theorem dX11_sumVectors_56 : decode cX11_sumVectors 56 = .ok (.getfield 60, 3) := by decide +kernel
theorem dX11_sumVectors_59 : decode cX11_sumVectors 59 = .ok (.aload_n 1, 1) := by decide +kernel
theorem dX11_sumVectors_60 : decode cX11_sumVectors 60 = .ok (.getfield 280, 3) := by decide +kernel
theorem dX11_sumVectors_63 : decode cX11_sumVectors 63 = .ok (.iload_n 2, 1) := by decide +kernel
theorem dX11_sumVectors_64 : decode cX11_sumVectors 64 = .ok (.iaload, 1) := by decide +kernel
theorem dX11_sumVectors_65 : decode cX11_sumVectors 65 = .ok (.aload_n 0, 1) := by decide +kernel
theorem dX11_sumVectors_66 : decode cX11_sumVectors 66 = .ok (.getfield 12, 3) := by decide +kernel
theorem dX11_sumVectors_69 : decode cX11_sumVectors 69 = .ok (.getfield 75, 3) := by decide +kernel
theorem dX11_sumVectors_72 : decode cX11_sumVectors 72 = .ok (.invokestatic 351, 3) := by decide +kernel
theorem dX11_sumVectors_75 : decode cX11_sumVectors 75 = .ok (.iinc 2 1, 3) := by decide +kernel
theorem dX11_sumVectors_78 : decode cX11_sumVectors 78 = .ok (.goto (-58), 3) := by decide +kernel
theorem dX11_sumVectors_81 : decode cX11_sumVectors 81 = .ok (.return_, 1) := by decide +kernel
set_option maxRecDepth 20000 in
theorem ggX11_isNumber_X11_isWithin : GoodIn wsX11_isNumber wsX11_isWithin := goodIn_r _ [6] rfl (by decide +kernel)
set_option maxRecDepth 20000 in
theorem gX11_isNumber_X11_isWithin : GoodIn wsX11_isNumber (va_wsS RX11 88 yX11_isWithin wsX11_isWithin) := goodIn_app (goodIn_of _ (by decide +kernel)) ggX11_isNumber_X11_isWithin
theorem dX11_isNumber_0 : decode cX11_isNumber 0 = .ok (.iload_n 1, 1) := by decide +kernel
theorem dX11_isNumber_1 : decode cX11_isNumber 1 = .ok (.iconst 0, 1) := by decide +kernel
theorem dX11_isNumber_2 : decode cX11_isNumber 2 = .ok (.aload_n 0, 1) := by decide +kernel
theorem dX11_isNumber_3 : decode cX11_isNumber 3 = .ok (.getfield 12, 3) := by decide +kernel
theorem dX11_isNumber_6 : decode cX11_isNumber 6 = .ok (.getfield 75, 3) := by decide +kernel
theorem dX11_isNumber_9 : decode cX11_isNumber 9 = .ok (.iconst 1, 1) := by decide +kernel
theorem dX11_isNumber_10 : decode cX11_isNumber 10 = .ok (.isub, 1) := by decide +kernel
theorem dX11_isNumber_11 : decode cX11_isNumber 11 = .ok (.invokestatic 88, 3) := by decide +kernel
theorem dX11_isNumber_14 : decode cX11_isNumber 14 = .ok (.ireturn, 1) := by decide +kernel
set_option maxRecDepth 20000 in
theorem ggX11_isStair_X7_dimension : GoodIn wsX11_isStair wsX7_dimension := goodIn_r _ [6, 7, 8, 24, 25, 26, 27, 28, 29, 30] rfl (by decide +kernel)
set_option maxRecDepth 20000 in
theorem gX11_isStair_X7_dimension : GoodIn wsX11_isStair (wsV RX11 96 RX7 yX7_dimension wsX7_dimension) := goodIn_app (goodIn_of _ (by decide +kernel)) ggX11_isStair_X7_dimension
set_option maxRecDepth 20000 in
theorem ggX11_isStair_X11_isWithin : GoodIn wsX11_isStair wsX11_isWithin := goodIn_r _ [12] rfl (by decide +kernel)
set_option maxRecDepth 20000 in
theorem gX11_isStair_X11_isWithin : GoodIn wsX11_isStair (va_wsS RX11 88 yX11_isWithin wsX11_isWithin) := goodIn_app (goodIn_of _ (by decide +kernel)) ggX11_isStair_X11_isWithin
theorem dX11_isStair_0 : decode cX11_isStair 0 = .ok (.iload_n 1, 1) := by decide +kernel
theorem dX11_isStair_1 : decode cX11_isStair 1 = .ok (.iconst 0, 1) := by decide +kernel
theorem dX11_isStair_2 : decode cX11_isStair 2 = .ok (.aload_n 0, 1) := by decide +kernel
theorem dX11_isStair_3 : decode cX11_isStair 3 = .ok (.getfield 12, 3) := by decide +kernel
theorem dX11_isStair_6 : decode cX11_isStair 6 = .ok (.invokevirtual 96, 3) := by decide +kernel
theorem dX11_isStair_9 : decode cX11_isStair 9 = .ok (.iconst 1, 1) := by decide +kernel
theorem dX11_isStair_10 : decode cX11_isStair 10 = .ok (.isub, 1) := by decide +kernel
theorem dX11_isStair_11 : decode cX11_isStair 11 = .ok (.invokestatic 88, 3) := by decide +kernel
theorem dX11_isStair_14 : decode cX11_isStair 14 = .ok (.ireturn, 1) := by decide +kernel
set_option maxRecDepth 20000 in
theorem ggX11_isOrder_X11_isWithin : GoodIn wsX11_isOrder wsX11_isWithin := goodIn_r _ [4] rfl (by decide +kernel)
set_option maxRecDepth 20000 in
theorem gX11_isOrder_X11_isWithin : GoodIn wsX11_isOrder (va_wsS RX11 88 yX11_isWithin wsX11_isWithin) := goodIn_app (goodIn_of _ (by decide +kernel)) ggX11_isOrder_X11_isWithin
theorem dX11_isOrder_0 : decode cX11_isOrder 0 = .ok (.iload_n 0, 1) := by decide +kernel
theorem dX11_isOrder_1 : decode cX11_isOrder 1 = .ok (.iconst 0, 1) := by decide +kernel
theorem dX11_isOrder_2 : decode cX11_isOrder 2 = .ok (.iconst 4, 1) := by decide +kernel
theorem dX11_isOrder_3 : decode cX11_isOrder 3 = .ok (.invokestatic 88, 3) := by decide +kernel
theorem dX11_isOrder_6 : decode cX11_isOrder 6 = .ok (.ireturn, 1) := by decide +kernel
set_option maxRecDepth 20000 in
theorem ggX11_isSlot_X11_isWithin : GoodIn wsX11_isSlot wsX11_isWithin := goodIn_r _ [4] rfl (by decide +kernel)
set_option maxRecDepth 20000 in
theorem gX11_isSlot_X11_isWithin : GoodIn wsX11_isSlot (va_wsS RX11 88 yX11_isWithin wsX11_isWithin) := goodIn_app (goodIn_of _ (by decide +kernel)) ggX11_isSlot_X11_isWithin
theorem dX11_isSlot_0 : decode cX11_isSlot 0 = .ok (.iload_n 0, 1) := by decide +kernel
theorem dX11_isSlot_1 : decode cX11_isSlot 1 = .ok (.iconst 0, 1) := by decide +kernel
theorem dX11_isSlot_2 : decode cX11_isSlot 2 = .ok (.iconst 3, 1) := by decide +kernel
theorem dX11_isSlot_3 : decode cX11_isSlot 3 = .ok (.invokestatic 88, 3) := by decide +kernel
theorem dX11_isSlot_6 : decode cX11_isSlot 6 = .ok (.ireturn, 1) := by decide +kernel
set_option maxRecDepth 20000 in
theorem ggX11_isUnknown_X11_isWithin : GoodIn wsX11_isUnknown wsX11_isWithin := goodIn_r _ [4] rfl (by decide +kernel)
set_option maxRecDepth 20000 in
theorem gX11_isUnknown_X11_isWithin : GoodIn wsX11_isUnknown (va_wsS RX11 88 yX11_isWithin wsX11_isWithin) := goodIn_app (goodIn_of _ (by decide +kernel)) ggX11_isUnknown_X11_isWithin
theorem dX11_isUnknown_0 : decode cX11_isUnknown 0 = .ok (.iload_n 0, 1) := by decide +kernel
theorem dX11_isUnknown_1 : decode cX11_isUnknown 1 = .ok (.iconst 0, 1) := by decide +kernel
theorem dX11_isUnknown_2 : decode cX11_isUnknown 2 = .ok (.iconst 1, 1) := by decide +kernel
theorem dX11_isUnknown_3 : decode cX11_isUnknown 3 = .ok (.invokestatic 88, 3) := by decide +kernel
theorem dX11_isUnknown_6 : decode cX11_isUnknown 6 = .ok (.ireturn, 1) := by decide +kernel
theorem dX11_isWithin_0 : decode cX11_isWithin 0 = .ok (.iload_n 0, 1) := by decide +kernel
theorem dX11_isWithin_1 : decode cX11_isWithin 1 = .ok (.iload_n 1, 1) := by decide +kernel
theorem dX11_isWithin_2 : decode cX11_isWithin 2 = .ok (.if_icmp .lt 12, 3) := by decide +kernel
theorem dX11_isWithin_5 : decode cX11_isWithin 5 = .ok (.iload_n 0, 1) := by decide +kernel
theorem dX11_isWithin_6 : decode cX11_isWithin 6 = .ok (.iload_n 2, 1) := by decide +kernel
theorem dX11_isWithin_7 : decode cX11_isWithin 7 = .ok (.if_icmp .gt 7, 3) := by decide +kernel
theorem dX11_isWithin_10 : decode cX11_isWithin 10 = .ok (.iconst 1, 1) := by decide +kernel
theorem dX11_isWithin_11 : decode cX11_isWithin 11 = .ok (.goto 4, 3) := by decide +kernel
theorem dX11_isWithin_14 : decode cX11_isWithin 14 = .ok (.iconst 0, 1) := by decide +kernel
theorem dX11_isWithin_15 : decode cX11_isWithin 15 = .ok (.ireturn, 1) := by decide +kernel
theorem dX11_asAnswer_0 : decode cX11_asAnswer 0 = .ok (.iload_n 0, 1) := by decide +kernel
theorem dX11_asAnswer_1 : decode cX11_asAnswer 1 = .ok (.ifCond .eq 7, 3) := by decide +kernel
theorem dX11_asAnswer_4 : decode cX11_asAnswer 4 = .ok (.iconst 1, 1) := by decide +kernel
theorem dX11_asAnswer_5 : decode cX11_asAnswer 5 = .ok (.goto 4, 3) := by decide +kernel
theorem dX11_asAnswer_8 : decode cX11_asAnswer 8 = .ok (.iconst 0, 1) := by decide +kernel
theorem dX11_asAnswer_9 : decode cX11_asAnswer 9 = .ok (.ireturn, 1) := by decide +kernel
set_option maxRecDepth 20000 in
theorem ggX11_isPrimeOfRange_X11_isWithin : GoodIn wsX11_isPrimeOfRange wsX11_isWithin := goodIn_r _ [4] rfl (by decide +kernel)
set_option maxRecDepth 20000 in
theorem gX11_isPrimeOfRange_X11_isWithin : GoodIn wsX11_isPrimeOfRange (va_wsS RX11 88 yX11_isWithin wsX11_isWithin) := goodIn_app (goodIn_of _ (by decide +kernel)) ggX11_isPrimeOfRange_X11_isWithin
theorem dX11_isPrimeOfRange_0 : decode cX11_isPrimeOfRange 0 = .ok (.iload_n 0, 1) := by decide +kernel
theorem dX11_isPrimeOfRange_1 : decode cX11_isPrimeOfRange 1 = .ok (.iconst 2, 1) := by decide +kernel
theorem dX11_isPrimeOfRange_2 : decode cX11_isPrimeOfRange 2 = .ok (.bipush 97, 2) := by decide +kernel
theorem dX11_isPrimeOfRange_4 : decode cX11_isPrimeOfRange 4 = .ok (.invokestatic 88, 3) := by decide +kernel
theorem dX11_isPrimeOfRange_7 : decode cX11_isPrimeOfRange 7 = .ok (.ifCond .ne 5, 3) := by decide +kernel
theorem dX11_isPrimeOfRange_10 : decode cX11_isPrimeOfRange 10 = .ok (.iconst 0, 1) := by decide +kernel
theorem dX11_isPrimeOfRange_11 : decode cX11_isPrimeOfRange 11 = .ok (.ireturn, 1) := by decide +kernel
theorem dX11_isPrimeOfRange_12 : decode cX11_isPrimeOfRange 12 = .ok (.iconst 2, 1) := by decide +kernel
theorem dX11_isPrimeOfRange_13 : decode cX11_isPrimeOfRange 13 = .ok (.istore_n 1, 1) := by decide +kernel
theorem dX11_isPrimeOfRange_14 : decode cX11_isPrimeOfRange 14 = .ok (.iload_n 1, 1) := by decide +kernel
theorem dX11_isPrimeOfRange_15 : decode cX11_isPrimeOfRange 15 = .ok (.iload_n 1, 1) := by decide +kernel
theorem dX11_isPrimeOfRange_16 : decode cX11_isPrimeOfRange 16 = .ok (.imul, 1) := by decide +kernel
theorem dX11_isPrimeOfRange_17 : decode cX11_isPrimeOfRange 17 = .ok (.iload_n 0, 1) := by decide +kernel
theorem dX11_isPrimeOfRange_18 : decode cX11_isPrimeOfRange 18 = .ok (.if_icmp .gt 17, 3) := by decide +kernel
theorem dX11_isPrimeOfRange_21 : decode cX11_isPrimeOfRange 21 = .ok (.iload_n 0, 1) := by decide +kernel
theorem dX11_isPrimeOfRange_22 : decode cX11_isPrimeOfRange 22 = .ok (.iload_n 1, 1) := by decide +kernel
theorem dX11_isPrimeOfRange_23 : decode cX11_isPrimeOfRange 23 = .ok (.irem, 1) := by decide +kernel
theorem dX11_isPrimeOfRange_24 : decode cX11_isPrimeOfRange 24 = .ok (.ifCond .ne 5, 3) := by decide +kernel
theorem dX11_isPrimeOfRange_27 : decode cX11_isPrimeOfRange 27 = .ok (.iconst 0, 1) := by decide +kernel
theorem dX11_isPrimeOfRange_28 : decode cX11_isPrimeOfRange 28 = .ok (.ireturn, 1) := by decide +kernel
theorem dX11_isPrimeOfRange_29 : decode cX11_isPrimeOfRange 29 = .ok (.iinc 1 1, 3) := by decide +kernel
theorem dX11_isPrimeOfRange_32 : decode cX11_isPrimeOfRange 32 = .ok (.goto (-18), 3) := by decide +kernel
theorem dX11_isPrimeOfRange_35 : decode cX11_isPrimeOfRange 35 = .ok (.iconst 1, 1) := by decide +kernel
theorem dX11_isPrimeOfRange_36 : decode cX11_isPrimeOfRange 36 = .ok (.ireturn, 1) := by decide +kernel
theorem dX11_leftOver_0 : decode cX11_leftOver 0 = .ok (.iload_n 1, 1) := by decide +kernel
theorem dX11_leftOver_1 : decode cX11_leftOver 1 = .ok (.iconst 2, 1) := by decide +kernel
theorem dX11_leftOver_2 : decode cX11_leftOver 2 = .ok (.if_icmp .ge 5, 3) := by decide +kernel
theorem dX11_leftOver_5 : decode cX11_leftOver 5 = .ok (.iconst 0, 1) := by decide +kernel
theorem dX11_leftOver_6 : decode cX11_leftOver 6 = .ok (.ireturn, 1) := by decide +kernel
theorem dX11_leftOver_7 : decode cX11_leftOver 7 = .ok (.iload_n 0, 1) := by decide +kernel
theorem dX11_leftOver_8 : decode cX11_leftOver 8 = .ok (.iload_n 1, 1) := by decide +kernel
theorem dX11_leftOver_9 : decode cX11_leftOver 9 = .ok (.irem, 1) := by decide +kernel
theorem dX11_leftOver_10 : decode cX11_leftOver 10 = .ok (.istore_n 2, 1) := by decide +kernel
theorem dX11_leftOver_11 : decode cX11_leftOver 11 = .ok (.iload_n 2, 1) := by decide +kernel
theorem dX11_leftOver_12 : decode cX11_leftOver 12 = .ok (.ifCond .ge 9, 3) := by decide +kernel
theorem dX11_leftOver_15 : decode cX11_leftOver 15 = .ok (.iload_n 2, 1) := by decide +kernel
theorem dX11_leftOver_16 : decode cX11_leftOver 16 = .ok (.iload_n 1, 1) := by decide +kernel
theorem dX11_leftOver_17 : decode cX11_leftOver 17 = .ok (.iadd, 1) := by decide +kernel
theorem dX11_leftOver_18 : decode cX11_leftOver 18 = .ok (.goto 4, 3) := by decide +kernel
theorem dX11_leftOver_21 : decode cX11_leftOver 21 = .ok (.iload_n 2, 1) := by decide +kernel
theorem dX11_leftOver_22 : decode cX11_leftOver 22 = .ok (.ireturn, 1) := by decide +kernel
theorem dX11_inverse_0 : decode cX11_inverse 0 = .ok (.iconst 1, 1) := by decide +kernel
theorem dX11_inverse_1 : decode cX11_inverse 1 = .ok (.istore_n 2, 1) := by decide +kernel
theorem dX11_inverse_2 : decode cX11_inverse 2 = .ok (.iload_n 2, 1) := by decide +kernel
theorem dX11_inverse_3 : decode cX11_inverse 3 = .ok (.iload_n 1, 1) := by decide +kernel
theorem dX11_inverse_4 : decode cX11_inverse 4 = .ok (.if_icmp .ge 20, 3) := by decide +kernel
theorem dX11_inverse_7 : decode cX11_inverse 7 = .ok (.iload_n 2, 1) := by decide +kernel
theorem dX11_inverse_8 : decode cX11_inverse 8 = .ok (.iload_n 0, 1) := by decide +kernel
theorem dX11_inverse_9 : decode cX11_inverse 9 = .ok (.imul, 1) := by decide +kernel
theorem dX11_inverse_10 : decode cX11_inverse 10 = .ok (.iload_n 1, 1) := by decide +kernel
theorem dX11_inverse_11 : decode cX11_inverse 11 = .ok (.irem, 1) := by decide +kernel
theorem dX11_inverse_12 : decode cX11_inverse 12 = .ok (.iconst 1, 1) := by decide +kernel
theorem dX11_inverse_13 : decode cX11_inverse 13 = .ok (.if_icmp .ne 5, 3) := by decide +kernel
theorem dX11_inverse_16 : decode cX11_inverse 16 = .ok (.iload_n 2, 1) := by decide +kernel
theorem dX11_inverse_17 : decode cX11_inverse 17 = .ok (.ireturn, 1) := by decide +kernel
theorem dX11_inverse_18 : decode cX11_inverse 18 = .ok (.iinc 2 1, 3) := by decide +kernel
theorem dX11_inverse_21 : decode cX11_inverse 21 = .ok (.goto (-19), 3) := by decide +kernel
theorem dX11_inverse_24 : decode cX11_inverse 24 = .ok (.iconst 0, 1) := by decide +kernel
theorem dX11_inverse_25 : decode cX11_inverse 25 = .ok (.ireturn, 1) := by decide +kernel
theorem dX11_clear_0 : decode cX11_clear 0 = .ok (.iconst 0, 1) := by decide +kernel
theorem dX11_clear_1 : decode cX11_clear 1 = .ok (.istore_n 1, 1) := by decide +kernel
theorem dX11_clear_2 : decode cX11_clear 2 = .ok (.iload_n 1, 1) := by decide +kernel
theorem dX11_clear_3 : decode cX11_clear 3 = .ok (.aload_n 0, 1) := by decide +kernel
theorem dX11_clear_4 : decode cX11_clear 4 = .ok (.arraylength, 1) := by decide +kernel
theorem dX11_clear_5 : decode cX11_clear 5 = .ok (.if_icmp .ge 13, 3) := by decide +kernel
theorem dX11_clear_8 : decode cX11_clear 8 = .ok (.aload_n 0, 1) := by decide +kernel
theorem dX11_clear_9 : decode cX11_clear 9 = .ok (.iload_n 1, 1) := by decide +kernel
theorem dX11_clear_10 : decode cX11_clear 10 = .ok (.iconst 0, 1) := by decide +kernel
theorem dX11_clear_11 : decode cX11_clear 11 = .ok (.iastore, 1) := by decide +kernel
theorem dX11_clear_12 : decode cX11_clear 12 = .ok (.iinc 1 1, 3) := by decide +kernel
theorem dX11_clear_15 : decode cX11_clear 15 = .ok (.goto (-13), 3) := by decide +kernel
theorem dX11_clear_18 : decode cX11_clear 18 = .ok (.return_, 1) := by decide +kernel
theorem dX11_firstNotZero_0 : decode cX11_firstNotZero 0 = .ok (.iconst 0, 1) := by decide +kernel
theorem dX11_firstNotZero_1 : decode cX11_firstNotZero 1 = .ok (.istore_n 1, 1) := by decide +kernel
theorem dX11_firstNotZero_2 : decode cX11_firstNotZero 2 = .ok (.iload_n 1, 1) := by decide +kernel
theorem dX11_firstNotZero_3 : decode cX11_firstNotZero 3 = .ok (.aload_n 0, 1) := by decide +kernel
theorem dX11_firstNotZero_4 : decode cX11_firstNotZero 4 = .ok (.arraylength, 1) := by decide +kernel
theorem dX11_firstNotZero_5 : decode cX11_firstNotZero 5 = .ok (.if_icmp .ge 17, 3) := by decide +kernel
theorem dX11_firstNotZero_8 : decode cX11_firstNotZero 8 = .ok (.aload_n 0, 1) := by decide +kernel
theorem dX11_firstNotZero_9 : decode cX11_firstNotZero 9 = .ok (.iload_n 1, 1) := by decide +kernel
theorem dX11_firstNotZero_10 : decode cX11_firstNotZero 10 = .ok (.iaload, 1) := by decide +kernel
theorem dX11_firstNotZero_11 : decode cX11_firstNotZero 11 = .ok (.ifCond .eq 5, 3) := by decide +kernel
theorem dX11_firstNotZero_14 : decode cX11_firstNotZero 14 = .ok (.iload_n 1, 1) := by decide +kernel
theorem dX11_firstNotZero_15 : decode cX11_firstNotZero 15 = .ok (.ireturn, 1) := by decide +kernel
theorem dX11_firstNotZero_16 : decode cX11_firstNotZero 16 = .ok (.iinc 1 1, 3) := by decide +kernel
theorem dX11_firstNotZero_19 : decode cX11_firstNotZero 19 = .ok (.goto (-17), 3) := by decide +kernel
theorem dX11_firstNotZero_22 : decode cX11_firstNotZero 22 = .ok (.iconst (-1), 1) := by decide +kernel
theorem dX11_firstNotZero_23 : decode cX11_firstNotZero 23 = .ok (.ireturn, 1) := by decide +kernel
theorem dX11_highestNotZero_0 : decode cX11_highestNotZero 0 = .ok (.iload_n 1, 1) := by decide +kernel
theorem dX11_highestNotZero_1 : decode cX11_highestNotZero 1 = .ok (.aload_n 0, 1) := by decide +kernel
theorem dX11_highestNotZero_2 : decode cX11_highestNotZero 2 = .ok (.arraylength, 1) := by decide +kernel
theorem dX11_highestNotZero_3 : decode cX11_highestNotZero 3 = .ok (.iconst 1, 1) := by decide +kernel
theorem dX11_highestNotZero_4 : decode cX11_highestNotZero 4 = .ok (.isub, 1) := by decide +kernel
theorem dX11_highestNotZero_5 : decode cX11_highestNotZero 5 = .ok (.invokestatic 355, 3) := by decide +kernel
theorem dX11_highestNotZero_8 : decode cX11_highestNotZero 8 = .ok (.istore_n 2, 1) := by decide +kernel
theorem dX11_highestNotZero_9 : decode cX11_highestNotZero 9 = .ok (.iload_n 2, 1) := by decide +kernel
theorem dX11_highestNotZero_10 : decode cX11_highestNotZero 10 = .ok (.ifCond .lt 17, 3) := by decide +kernel
theorem dX11_highestNotZero_13 : decode cX11_highestNotZero 13 = .ok (.aload_n 0, 1) := by decide +kernel
theorem dX11_highestNotZero_14 : decode cX11_highestNotZero 14 = .ok (.iload_n 2, 1) := by decide +kernel
theorem dX11_highestNotZero_15 : decode cX11_highestNotZero 15 = .ok (.iaload, 1) := by decide +kernel
theorem dX11_highestNotZero_16 : decode cX11_highestNotZero 16 = .ok (.ifCond .eq 5, 3) := by decide +kernel
theorem dX11_highestNotZero_19 : decode cX11_highestNotZero 19 = .ok (.iload_n 2, 1) := by decide +kernel
theorem dX11_highestNotZero_20 : decode cX11_highestNotZero 20 = .ok (.ireturn, 1) := by decide +kernel
theorem dX11_highestNotZero_21 : decode cX11_highestNotZero 21 = .ok (.iinc 2 (-1), 3) := by decide +kernel
theorem dX11_highestNotZero_24 : decode cX11_highestNotZero 24 = .ok (.goto (-15), 3) := by decide +kernel
theorem dX11_highestNotZero_27 : decode cX11_highestNotZero 27 = .ok (.iconst (-1), 1) := by decide +kernel
theorem dX11_highestNotZero_28 : decode cX11_highestNotZero 28 = .ok (.ireturn, 1) := by decide +kernel
theorem dX11_bringMultiple_0 : decode cX11_bringMultiple 0 = .ok (.iload_n 3, 1) := by decide +kernel
theorem dX11_bringMultiple_1 : decode cX11_bringMultiple 1 = .ok (.iconst 2, 1) := by decide +kernel
theorem dX11_bringMultiple_2 : decode cX11_bringMultiple 2 = .ok (.if_icmp .ge 4, 3) := by decide +kernel
theorem dX11_bringMultiple_5 : decode cX11_bringMultiple 5 = .ok (.return_, 1) := by decide +kernel
theorem dX11_bringMultiple_6 : decode cX11_bringMultiple 6 = .ok (.iconst 0, 1) := by decide +kernel
theorem dX11_bringMultiple_7 : decode cX11_bringMultiple 7 = .ok (.istore 4, 2) := by decide +kernel
theorem dX11_bringMultiple_9 : decode cX11_bringMultiple 9 = .ok (.iload 4, 2) := by decide +kernel
theorem dX11_bringMultiple_11 : decode cX11_bringMultiple 11 = .ok (.aload_n 0, 1) := by decide +kernel
theorem dX11_bringMultiple_12 : decode cX11_bringMultiple 12 = .ok (.arraylength, 1) := by decide +kernel
theorem dX11_bringMultiple_13 : decode cX11_bringMultiple 13 = .ok (.if_icmp .ge 33, 3) := by decide +kernel
theorem dX11_bringMultiple_16 : decode cX11_bringMultiple 16 = .ok (.iload 4, 2) := by decide +kernel
theorem dX11_bringMultiple_18 : decode cX11_bringMultiple 18 = .ok (.aload_n 1, 1) := by decide +kernel
theorem dX11_bringMultiple_19 : decode cX11_bringMultiple 19 = .ok (.arraylength, 1) := by decide +kernel
theorem dX11_bringMultiple_20 : decode cX11_bringMultiple 20 = .ok (.if_icmp .ge 26, 3) := by decide +kernel
theorem dX11_bringMultiple_23 : decode cX11_bringMultiple 23 = .ok (.aload_n 0, 1) := by decide +kernel
theorem dX11_bringMultiple_24 : decode cX11_bringMultiple 24 = .ok (.iload 4, 2) := by decide +kernel
theorem dX11_bringMultiple_26 : decode cX11_bringMultiple 26 = .ok (.aload_n 0, 1) := by decide +kernel
theorem dX11_bringMultiple_27 : decode cX11_bringMultiple 27 = .ok (.iload 4, 2) := by decide +kernel
theorem dX11_bringMultiple_29 : decode cX11_bringMultiple 29 = .ok (.iaload, 1) := by decide +kernel
theorem dX11_bringMultiple_30 : decode cX11_bringMultiple 30 = .ok (.iload_n 2, 1) := by decide +kernel
theorem dX11_bringMultiple_31 : decode cX11_bringMultiple 31 = .ok (.aload_n 1, 1) := by decide +kernel
theorem dX11_bringMultiple_32 : decode cX11_bringMultiple 32 = .ok (.iload 4, 2) := by decide +kernel
theorem dX11_bringMultiple_34 : decode cX11_bringMultiple 34 = .ok (.iaload, 1) := by decide +kernel
theorem dX11_bringMultiple_35 : decode cX11_bringMultiple 35 = .ok (.imul, 1) := by decide +kernel
theorem dX11_bringMultiple_36 : decode cX11_bringMultiple 36 = .ok (.iadd, 1) := by decide +kernel
theorem dX11_bringMultiple_37 : decode cX11_bringMultiple 37 = .ok (.iload_n 3, 1) := by decide +kernel
theorem dX11_bringMultiple_38 : decode cX11_bringMultiple 38 = .ok (.irem, 1) := by decide +kernel
theorem dX11_bringMultiple_39 : decode cX11_bringMultiple 39 = .ok (.iastore, 1) := by decide +kernel
theorem dX11_bringMultiple_40 : decode cX11_bringMultiple 40 = .ok (.iinc 4 1, 3) := by decide +kernel
theorem dX11_bringMultiple_43 : decode cX11_bringMultiple 43 = .ok (.goto (-34), 3) := by decide +kernel
theorem dX11_bringMultiple_46 : decode cX11_bringMultiple 46 = .ok (.return_, 1) := by decide +kernel
theorem dX12_init_0 : decode cX12_init 0 = .ok (.aload_n 0, 1) := by decide +kernel
theorem dX12_init_1 : decode cX12_init 1 = .ok (.invokespecial 1, 3) := by decide +kernel
theorem dX12_init_4 : decode cX12_init 4 = .ok (.aload_n 0, 1) := by decide +kernel
theorem dX12_init_5 : decode cX12_init 5 = .ok (.bipush 7, 2) := by decide +kernel
theorem dX12_init_7 : decode cX12_init 7 = .ok (.putfield 7, 3) := by decide +kernel
theorem dX12_init_10 : decode cX12_init 10 = .ok (.aload_n 0, 1) := by decide +kernel
theorem dX12_init_11 : decode cX12_init 11 = .ok (.iconst 2, 1) := by decide +kernel
theorem dX12_init_12 : decode cX12_init 12 = .ok (.putfield 13, 3) := by decide +kernel
theorem dX12_init_15 : decode cX12_init 15 = .ok (.aload_n 0, 1) := by decide +kernel
theorem dX12_init_16 : decode cX12_init 16 = .ok (.iconst 2, 1) := by decide +kernel
theorem dX12_init_17 : decode cX12_init 17 = .ok (.putfield 16, 3) := by decide +kernel
theorem dX12_init_20 : decode cX12_init 20 = .ok (.aload_n 0, 1) := by decide +kernel
theorem dX12_init_21 : decode cX12_init 21 = .ok (.iconst 1, 1) := by decide +kernel
theorem dX12_init_22 : decode cX12_init 22 = .ok (.putfield 19, 3) := by decide +kernel
theorem dX12_init_25 : decode cX12_init 25 = .ok (.aload_n 0, 1) := by decide +kernel
theorem dX12_init_26 : decode cX12_init 26 = .ok (.iconst 2, 1) := by decide +kernel
theorem dX12_init_27 : decode cX12_init 27 = .ok (.putfield 22, 3) := by decide +kernel
theorem dX12_init_30 : decode cX12_init 30 = .ok (.aload_n 0, 1) := by decide +kernel
theorem dX12_init_31 : decode cX12_init 31 = .ok (.bipush 18, 2) := by decide +kernel
theorem dX12_init_33 : decode cX12_init 33 = .ok (.newarray .int, 2) := by decide +kernel
theorem dX12_init_35 : decode cX12_init 35 = .ok (.putfield 25, 3) := by decide +kernel
theorem dX12_init_38 : decode cX12_init 38 = .ok (.aload_n 0, 1) := by decide +kernel
theorem dX12_init_39 : decode cX12_init 39 = .ok (.iconst 4, 1) := by decide +kernel
theorem dX12_init_40 : decode cX12_init 40 = .ok (.newarray .int, 2) := by decide +kernel
theorem dX12_init_42 : decode cX12_init 42 = .ok (.putfield 29, 3) := by decide +kernel
theorem dX12_init_45 : decode cX12_init 45 = .ok (.aload_n 0, 1) := by decide +kernel
theorem dX12_init_46 : decode cX12_init 46 = .ok (.iconst 4, 1) := by decide +kernel
theorem dX12_init_47 : decode cX12_init 47 = .ok (.newarray .int, 2) := by decide +kernel
theorem dX12_init_49 : decode cX12_init 49 = .ok (.putfield 32, 3) := by decide +kernel
theorem dX12_init_52 : decode cX12_init 52 = .ok (.aload_n 0, 1) := by decide +kernel
theorem dX12_init_53 : decode cX12_init 53 = .ok (.bipush 32, 2) := by decide +kernel
theorem dX12_init_55 : decode cX12_init 55 = .ok (.newarray .int, 2) := by decide +kernel
theorem dX12_init_57 : decode cX12_init 57 = .ok (.putfield 35, 3) := by decide +kernel
theorem dX12_init_60 : decode cX12_init 60 = .ok (.aload_n 0, 1) := by decide +kernel
theorem dX12_init_61 : decode cX12_init 61 = .ok (.bipush 32, 2) := by decide +kernel
theorem dX12_init_63 : decode cX12_init 63 = .ok (.newarray .int, 2) := by decide +kernel
theorem dX12_init_65 : decode cX12_init 65 = .ok (.putfield 38, 3) := by decide +kernel
theorem dX12_init_68 : decode cX12_init 68 = .ok (.aload_n 0, 1) := by decide +kernel
theorem dX12_init_69 : decode cX12_init 69 = .ok (.bipush 32, 2) := by decide +kernel
theorem dX12_init_71 : decode cX12_init 71 = .ok (.newarray .int, 2) := by decide +kernel
theorem dX12_init_73 : decode cX12_init 73 = .ok (.putfield 41, 3) := by decide +kernel
theorem dX12_init_76 : decode cX12_init 76 = .ok (.aload_n 0, 1) := by decide +kernel
theorem dX12_init_77 : decode cX12_init 77 = .ok (.iconst 4, 1) := by decide +kernel
theorem dX12_init_78 : decode cX12_init 78 = .ok (.newarray .int, 2) := by decide +kernel
theorem dX12_init_80 : decode cX12_init 80 = .ok (.putfield 44, 3) := by decide +kernel
theorem dX12_init_83 : decode cX12_init 83 = .ok (.aload_n 0, 1) := by decide +kernel
theorem dX12_init_84 : decode cX12_init 84 = .ok (.iconst 4, 1) := by decide +kernel
theorem dX12_init_85 : decode cX12_init 85 = .ok (.newarray .int, 2) := by decide +kernel
theorem dX12_init_87 : decode cX12_init 87 = .ok (.putfield 47, 3) := by decide +kernel
theorem dX12_init_90 : decode cX12_init 90 = .ok (.aload_n 0, 1) := by decide +kernel
theorem dX12_init_91 : decode cX12_init 91 = .ok (.iconst 4, 1) := by decide +kernel
theorem dX12_init_92 : decode cX12_init 92 = .ok (.newarray .int, 2) := by decide +kernel
theorem dX12_init_94 : decode cX12_init 94 = .ok (.putfield 50, 3) := by decide +kernel
theorem dX12_init_97 : decode cX12_init 97 = .ok (.aload_n 0, 1) := by decide +kernel
theorem dX12_init_98 : decode cX12_init 98 = .ok (.bipush 40, 2) := by decide +kernel
theorem dX12_init_100 : decode cX12_init 100 = .ok (.newarray .int, 2) := by decide +kernel
theorem dX12_init_102 : decode cX12_init 102 = .ok (.putfield 53, 3) := by decide +kernel
theorem dX12_init_105 : decode cX12_init 105 = .ok (.aload_n 0, 1) := by decide +kernel
theorem dX12_init_106 : decode cX12_init 106 = .ok (.bipush 40, 2) := by decide +kernel
theorem dX12_init_108 : decode cX12_init 108 = .ok (.newarray .int, 2) := by decide +kernel
theorem dX12_init_110 : decode cX12_init 110 = .ok (.putfield 56, 3) := by decide +kernel
theorem dX12_init_113 : decode cX12_init 113 = .ok (.aload_n 0, 1) := by decide +kernel
theorem dX12_init_114 : decode cX12_init 114 = .ok (.sipush 360, 3) := by decide +kernel
theorem dX12_init_117 : decode cX12_init 117 = .ok (.newarray .int, 2) := by decide +kernel
theorem dX12_init_119 : decode cX12_init 119 = .ok (.putfield 59, 3) := by decide +kernel
theorem dX12_init_122 : decode cX12_init 122 = .ok (.aload_n 0, 1) := by decide +kernel
theorem dX12_init_123 : decode cX12_init 123 = .ok (.bipush 46, 2) := by decide +kernel
theorem dX12_init_125 : decode cX12_init 125 = .ok (.newarray .int, 2) := by decide +kernel
theorem dX12_init_127 : decode cX12_init 127 = .ok (.putfield 62, 3) := by decide +kernel
theorem dX12_init_130 : decode cX12_init 130 = .ok (.aload_n 0, 1) := by decide +kernel
theorem dX12_init_131 : decode cX12_init 131 = .ok (.iconst 2, 1) := by decide +kernel
theorem dX12_init_132 : decode cX12_init 132 = .ok (.newarray .boolean, 2) := by decide +kernel
theorem dX12_init_134 : decode cX12_init 134 = .ok (.putfield 65, 3) := by decide +kernel
theorem dX12_init_137 : decode cX12_init 137 = .ok (.aload_n 0, 1) := by decide +kernel
theorem dX12_init_138 : decode cX12_init 138 = .ok (.sipush 441, 3) := by decide +kernel
theorem dX12_init_141 : decode cX12_init 141 = .ok (.newarray .int, 2) := by decide +kernel
theorem dX12_init_143 : decode cX12_init 143 = .ok (.putfield 69, 3) := by decide +kernel
theorem dX12_init_146 : decode cX12_init 146 = .ok (.aload_n 0, 1) := by decide +kernel
theorem dX12_init_147 : decode cX12_init 147 = .ok (.bipush 81, 2) := by decide +kernel
theorem dX12_init_149 : decode cX12_init 149 = .ok (.newarray .int, 2) := by decide +kernel
theorem dX12_init_151 : decode cX12_init 151 = .ok (.putfield 72, 3) := by decide +kernel
theorem dX12_init_154 : decode cX12_init 154 = .ok (.aload_n 0, 1) := by decide +kernel
theorem dX12_init_155 : decode cX12_init 155 = .ok (.bipush 81, 2) := by decide +kernel
theorem dX12_init_157 : decode cX12_init 157 = .ok (.newarray .int, 2) := by decide +kernel
theorem dX12_init_159 : decode cX12_init 159 = .ok (.putfield 75, 3) := by decide +kernel
theorem dX12_init_162 : decode cX12_init 162 = .ok (.aload_n 0, 1) := by decide +kernel
theorem dX12_init_163 : decode cX12_init 163 = .ok (.bipush 81, 2) := by decide +kernel
theorem dX12_init_165 : decode cX12_init 165 = .ok (.newarray .int, 2) := by decide +kernel
theorem dX12_init_167 : decode cX12_init 167 = .ok (.putfield 78, 3) := by decide +kernel
theorem dX12_init_170 : decode cX12_init 170 = .ok (.aload_n 0, 1) := by decide +kernel
theorem dX12_init_171 : decode cX12_init 171 = .ok (.bipush 81, 2) := by decide +kernel
theorem dX12_init_173 : decode cX12_init 173 = .ok (.newarray .int, 2) := by decide +kernel
theorem dX12_init_175 : decode cX12_init 175 = .ok (.putfield 81, 3) := by decide +kernel
theorem dX12_init_178 : decode cX12_init 178 = .ok (.aload_n 0, 1) := by decide +kernel
theorem dX12_init_179 : decode cX12_init 179 = .ok (.bipush 9, 2) := by decide +kernel
theorem dX12_init_181 : decode cX12_init 181 = .ok (.newarray .int, 2) := by decide +kernel
theorem dX12_init_183 : decode cX12_init 183 = .ok (.putfield 84, 3) := by decide +kernel
theorem dX12_init_186 : decode cX12_init 186 = .ok (.aload_n 0, 1) := by decide +kernel
theorem dX12_init_187 : decode cX12_init 187 = .ok (.bipush 9, 2) := by decide +kernel
theorem dX12_init_189 : decode cX12_init 189 = .ok (.newarray .int, 2) := by decide +kernel
theorem dX12_init_191 : decode cX12_init 191 = .ok (.putfield 87, 3) := by decide +kernel
theorem dX12_init_194 : decode cX12_init 194 = .ok (.aload_n 0, 1) := by decide +kernel
theorem dX12_init_195 : decode cX12_init 195 = .ok (.bipush 9, 2) := by decide +kernel
theorem dX12_init_197 : decode cX12_init 197 = .ok (.newarray .int, 2) := by decide +kernel
theorem dX12_init_199 : decode cX12_init 199 = .ok (.putfield 90, 3) := by decide +kernel
theorem dX12_init_202 : decode cX12_init 202 = .ok (.aload_n 0, 1) := by decide +kernel
theorem dX12_init_203 : decode cX12_init 203 = .ok (.bipush 9, 2) := by decide +kernel
theorem dX12_init_205 : decode cX12_init 205 = .ok (.newarray .int, 2) := by decide +kernel
theorem dX12_init_207 : decode cX12_init 207 = .ok (.putfield 93, 3) := by decide +kernel
theorem dX12_init_210 : decode cX12_init 210 = .ok (.aload_n 0, 1) := by decide +kernel
theorem dX12_init_211 : decode cX12_init 211 = .ok (.sipush 162, 3) := by decide +kernel
theorem dX12_init_214 : decode cX12_init 214 = .ok (.newarray .int, 2) := by decide +kernel
theorem dX12_init_216 : decode cX12_init 216 = .ok (.putfield 96, 3) := by decide +kernel
theorem dX12_init_219 : decode cX12_init 219 = .ok (.aload_n 0, 1) := by decide +kernel
theorem dX12_init_220 : decode cX12_init 220 = .ok (.bipush 9, 2) := by decide +kernel
theorem dX12_init_222 : decode cX12_init 222 = .ok (.newarray .int, 2) := by decide +kernel
theorem dX12_init_224 : decode cX12_init 224 = .ok (.putfield 99, 3) := by decide +kernel
theorem dX12_init_227 : decode cX12_init 227 = .ok (.aload_n 0, 1) := by decide +kernel
theorem dX12_init_228 : decode cX12_init 228 = .ok (.bipush 10, 2) := by decide +kernel
theorem dX12_init_230 : decode cX12_init 230 = .ok (.newarray .int, 2) := by decide +kernel
theorem dX12_init_232 : decode cX12_init 232 = .ok (.putfield 102, 3) := by decide +kernel
theorem dX12_init_235 : decode cX12_init 235 = .ok (.aload_n 0, 1) := by decide +kernel
theorem dX12_init_236 : decode cX12_init 236 = .ok (.bipush 10, 2) := by decide +kernel
theorem dX12_init_238 : decode cX12_init 238 = .ok (.newarray .int, 2) := by decide +kernel
theorem dX12_init_240 : decode cX12_init 240 = .ok (.putfield 105, 3) := by decide +kernel
theorem dX12_init_243 : decode cX12_init 243 = .ok (.aload_n 0, 1) := by decide +kernel
theorem dX12_init_244 : decode cX12_init 244 = .ok (.bipush 90, 2) := by decide +kernel
theorem dX12_init_246 : decode cX12_init 246 = .ok (.newarray .int, 2) := by decide +kernel
theorem dX12_init_248 : decode cX12_init 248 = .ok (.putfield 108, 3) := by decide +kernel
theorem dX12_init_251 : decode cX12_init 251 = .ok (.aload_n 0, 1) := by decide +kernel
theorem dX12_init_252 : decode cX12_init 252 = .ok (.bipush 20, 2) := by decide +kernel
theorem dX12_init_254 : decode cX12_init 254 = .ok (.newarray .int, 2) := by decide +kernel
theorem dX12_init_256 : decode cX12_init 256 = .ok (.putfield 111, 3) := by decide +kernel
theorem dX12_init_259 : decode cX12_init 259 = .ok (.aload_n 0, 1) := by decide +kernel
theorem dX12_init_260 : decode cX12_init 260 = .ok (.bipush 20, 2) := by decide +kernel
theorem dX12_init_262 : decode cX12_init 262 = .ok (.newarray .int, 2) := by decide +kernel
theorem dX12_init_264 : decode cX12_init 264 = .ok (.putfield 114, 3) := by decide +kernel
theorem dX12_init_267 : decode cX12_init 267 = .ok (.aload_n 0, 1) := by decide +kernel
theorem dX12_init_268 : decode cX12_init 268 = .ok (.bipush 9, 2) := by decide +kernel
theorem dX12_init_270 : decode cX12_init 270 = .ok (.newarray .int, 2) := by decide +kernel
theorem dX12_init_272 : decode cX12_init 272 = .ok (.putfield 117, 3) := by decide +kernel
theorem dX12_init_275 : decode cX12_init 275 = .ok (.aload_n 0, 1) := by decide +kernel
theorem dX12_init_276 : decode cX12_init 276 = .ok (.bipush 10, 2) := by decide +kernel
theorem dX12_init_278 : decode cX12_init 278 = .ok (.newarray .int, 2) := by decide +kernel
theorem dX12_init_280 : decode cX12_init 280 = .ok (.putfield 120, 3) := by decide +kernel
theorem dX12_init_283 : decode cX12_init 283 = .ok (.aload_n 0, 1) := by decide +kernel
theorem dX12_init_284 : decode cX12_init 284 = .ok (.bipush 10, 2) := by decide +kernel
theorem dX12_init_286 : decode cX12_init 286 = .ok (.newarray .int, 2) := by decide +kernel
theorem dX12_init_288 : decode cX12_init 288 = .ok (.putfield 123, 3) := by decide +kernel
theorem dX12_init_291 : decode cX12_init 291 = .ok (.aload_n 0, 1) := by decide +kernel
theorem dX12_init_292 : decode cX12_init 292 = .ok (.bipush 10, 2) := by decide +kernel
theorem dX12_init_294 : decode cX12_init 294 = .ok (.newarray .int, 2) := by decide +kernel
theorem dX12_init_296 : decode cX12_init 296 = .ok (.putfield 126, 3) := by decide +kernel
theorem dX12_init_299 : decode cX12_init 299 = .ok (.aload_n 0, 1) := by decide +kernel
theorem dX12_init_300 : decode cX12_init 300 = .ok (.bipush 9, 2) := by decide +kernel
theorem dX12_init_302 : decode cX12_init 302 = .ok (.newarray .int, 2) := by decide +kernel
theorem dX12_init_304 : decode cX12_init 304 = .ok (.putfield 129, 3) := by decide +kernel
theorem dX12_init_307 : decode cX12_init 307 = .ok (.aload_n 0, 1) := by decide +kernel
theorem dX12_init_308 : decode cX12_init 308 = .ok (.bipush 9, 2) := by decide +kernel
theorem dX12_init_310 : decode cX12_init 310 = .ok (.newarray .int, 2) := by decide +kernel
theorem dX12_init_312 : decode cX12_init 312 = .ok (.putfield 132, 3) := by decide +kernel
theorem dX12_init_315 : decode cX12_init 315 = .ok (.aload_n 0, 1) := by decide +kernel
theorem dX12_init_316 : decode cX12_init 316 = .ok (.bipush 40, 2) := by decide +kernel
theorem dX12_init_318 : decode cX12_init 318 = .ok (.newarray .int, 2) := by decide +kernel
theorem dX12_init_320 : decode cX12_init 320 = .ok (.putfield 135, 3) := by decide +kernel
theorem dX12_init_323 : decode cX12_init 323 = .ok (.aload_n 0, 1) := by decide +kernel
theorem dX12_init_324 : decode cX12_init 324 = .ok (.bipush 40, 2) := by decide +kernel
theorem dX12_init_326 : decode cX12_init 326 = .ok (.newarray .int, 2) := by decide +kernel
theorem dX12_init_328 : decode cX12_init 328 = .ok (.putfield 138, 3) := by decide +kernel
theorem dX12_init_331 : decode cX12_init 331 = .ok (.aload_n 0, 1) := by decide +kernel
theorem dX12_init_332 : decode cX12_init 332 = .ok (.bipush 40, 2) := by decide +kernel
theorem dX12_init_334 : decode cX12_init 334 = .ok (.newarray .int, 2) := by decide +kernel
theorem dX12_init_336 : decode cX12_init 336 = .ok (.putfield 141, 3) := by decide +kernel
theorem dX12_init_339 : decode cX12_init 339 = .ok (.aload_n 0, 1) := by decide +kernel
theorem dX12_init_340 : decode cX12_init 340 = .ok (.bipush 9, 2) := by decide +kernel
theorem dX12_init_342 : decode cX12_init 342 = .ok (.newarray .int, 2) := by decide +kernel
theorem dX12_init_344 : decode cX12_init 344 = .ok (.putfield 144, 3) := by decide +kernel
theorem dX12_init_347 : decode cX12_init 347 = .ok (.return_, 1) := by decide +kernel
theorem dX12_in_0 : decode cX12_in 0 = .ok (.lload_n 0, 1) := by decide +kernel
theorem dX12_in_1 : decode cX12_in 1 = .ok (.lload_n 2, 1) := by decide +kernel
theorem dX12_in_2 : decode cX12_in 2 = .ok (.lcmp, 1) := by decide +kernel
theorem dX12_in_3 : decode cX12_in 3 = .ok (.ifCond .lt 14, 3) := by decide +kernel
theorem dX12_in_6 : decode cX12_in 6 = .ok (.lload_n 0, 1) := by decide +kernel
theorem dX12_in_7 : decode cX12_in 7 = .ok (.lload 4, 2) := by decide +kernel
theorem dX12_in_9 : decode cX12_in 9 = .ok (.lcmp, 1) := by decide +kernel
theorem dX12_in_10 : decode cX12_in 10 = .ok (.ifCond .gt 7, 3) := by decide +kernel
theorem dX12_in_13 : decode cX12_in 13 = .ok (.iconst 1, 1) := by decide +kernel
theorem dX12_in_14 : decode cX12_in 14 = .ok (.goto 4, 3) := by decide +kernel
theorem dX12_in_17 : decode cX12_in 17 = .ok (.iconst 0, 1) := by decide +kernel
theorem dX12_in_18 : decode cX12_in 18 = .ok (.ireturn, 1) := by decide +kernel
theorem dX12_mod_0 : decode cX12_mod 0 = .ok (.lload_n 1, 1) := by decide +kernel
theorem dX12_mod_1 : decode cX12_mod 1 = .ok (.aload_n 0, 1) := by decide +kernel
theorem dX12_mod_2 : decode cX12_mod 2 = .ok (.getfield 7, 3) := by decide +kernel
theorem dX12_mod_5 : decode cX12_mod 5 = .ok (.i2l, 1) := by decide +kernel
theorem dX12_mod_6 : decode cX12_mod 6 = .ok (.lrem, 1) := by decide +kernel
theorem dX12_mod_7 : decode cX12_mod 7 = .ok (.lstore_n 3, 1) := by decide +kernel
theorem dX12_mod_8 : decode cX12_mod 8 = .ok (.lload_n 3, 1) := by decide +kernel
theorem dX12_mod_9 : decode cX12_mod 9 = .ok (.lconst 0, 1) := by decide +kernel
theorem dX12_mod_10 : decode cX12_mod 10 = .ok (.lcmp, 1) := by decide +kernel
theorem dX12_mod_11 : decode cX12_mod 11 = .ok (.ifCond .ge 13, 3) := by decide +kernel
theorem dX12_mod_14 : decode cX12_mod 14 = .ok (.lload_n 3, 1) := by decide +kernel
theorem dX12_mod_15 : decode cX12_mod 15 = .ok (.aload_n 0, 1) := by decide +kernel
theorem dX12_mod_16 : decode cX12_mod 16 = .ok (.getfield 7, 3) := by decide +kernel
theorem dX12_mod_19 : decode cX12_mod 19 = .ok (.i2l, 1) := by decide +kernel
theorem dX12_mod_20 : decode cX12_mod 20 = .ok (.ladd, 1) := by decide +kernel
theorem dX12_mod_21 : decode cX12_mod 21 = .ok (.goto 4, 3) := by decide +kernel
theorem dX12_mod_24 : decode cX12_mod 24 = .ok (.lload_n 3, 1) := by decide +kernel
theorem dX12_mod_25 : decode cX12_mod 25 = .ok (.l2i, 1) := by decide +kernel
theorem dX12_mod_26 : decode cX12_mod 26 = .ok (.ireturn, 1) := by decide +kernel
theorem dX12_inverse_0 : decode cX12_inverse 0 = .ok (.iconst 1, 1) := by decide +kernel
theorem dX12_inverse_1 : decode cX12_inverse 1 = .ok (.istore_n 2, 1) := by decide +kernel
theorem dX12_inverse_2 : decode cX12_inverse 2 = .ok (.iload_n 1, 1) := by decide +kernel
theorem dX12_inverse_3 : decode cX12_inverse 3 = .ok (.iload_n 2, 1) := by decide +kernel
theorem dX12_inverse_4 : decode cX12_inverse 4 = .ok (.imul, 1) := by decide +kernel
theorem dX12_inverse_5 : decode cX12_inverse 5 = .ok (.aload_n 0, 1) := by decide +kernel
theorem dX12_inverse_6 : decode cX12_inverse 6 = .ok (.getfield 7, 3) := by decide +kernel
theorem dX12_inverse_9 : decode cX12_inverse 9 = .ok (.irem, 1) := by decide +kernel
theorem dX12_inverse_10 : decode cX12_inverse 10 = .ok (.iconst 1, 1) := by decide +kernel
theorem dX12_inverse_11 : decode cX12_inverse 11 = .ok (.if_icmp .eq 9, 3) := by decide +kernel
theorem dX12_inverse_14 : decode cX12_inverse 14 = .ok (.iinc 2 1, 3) := by decide +kernel
theorem dX12_inverse_17 : decode cX12_inverse 17 = .ok (.goto (-15), 3) := by decide +kernel
theorem dX12_inverse_20 : decode cX12_inverse 20 = .ok (.iload_n 2, 1) := by decide +kernel
theorem dX12_inverse_21 : decode cX12_inverse 21 = .ok (.ireturn, 1) := by decide +kernel
theorem dX12_dimension_0 : decode cX12_dimension 0 = .ok (.aload_n 0, 1) := by decide +kernel
theorem dX12_dimension_1 : decode cX12_dimension 1 = .ok (.getfield 13, 3) := by decide +kernel
theorem dX12_dimension_4 : decode cX12_dimension 4 = .ok (.aload_n 0, 1) := by decide +kernel
theorem dX12_dimension_5 : decode cX12_dimension 5 = .ok (.getfield 16, 3) := by decide +kernel
theorem dX12_dimension_8 : decode cX12_dimension 8 = .ok (.imul, 1) := by decide +kernel
theorem dX12_dimension_9 : decode cX12_dimension 9 = .ok (.ireturn, 1) := by decide +kernel
theorem dX12_isPrime_0 : decode cX12_isPrime 0 = .ok (.iload_n 0, 1) := by decide +kernel
theorem dX12_isPrime_1 : decode cX12_isPrime 1 = .ok (.iconst 1, 1) := by decide +kernel
theorem dX12_isPrime_2 : decode cX12_isPrime 2 = .ok (.if_icmp .le 7, 3) := by decide +kernel
theorem dX12_isPrime_5 : decode cX12_isPrime 5 = .ok (.iconst 1, 1) := by decide +kernel
theorem dX12_isPrime_6 : decode cX12_isPrime 6 = .ok (.goto 4, 3) := by decide +kernel
theorem dX12_isPrime_9 : decode cX12_isPrime 9 = .ok (.iconst 0, 1) := by decide +kernel
theorem dX12_isPrime_10 : decode cX12_isPrime 10 = .ok (.istore_n 1, 1) := by decide +kernel
theorem dX12_isPrime_11 : decode cX12_isPrime 11 = .ok (.iconst 2, 1) := by decide +kernel
theorem dX12_isPrime_12 : decode cX12_isPrime 12 = .ok (.istore_n 2, 1) := by decide +kernel
theorem dX12_isPrime_13 : decode cX12_isPrime 13 = .ok (.iload_n 2, 1) := by decide +kernel
theorem dX12_isPrime_14 : decode cX12_isPrime 14 = .ok (.iload_n 0, 1) := by decide +kernel
theorem dX12_isPrime_15 : decode cX12_isPrime 15 = .ok (.if_icmp .ge 25, 3) := by decide +kernel
theorem dX12_isPrime_18 : decode cX12_isPrime 18 = .ok (.iload_n 1, 1) := by decide +kernel
theorem dX12_isPrime_19 : decode cX12_isPrime 19 = .ok (.ifCond .eq 13, 3) := by decide +kernel
theorem dX12_isPrime_22 : decode cX12_isPrime 22 = .ok (.iload_n 0, 1) := by decide +kernel
theorem dX12_isPrime_23 : decode cX12_isPrime 23 = .ok (.iload_n 2, 1) := by decide +kernel
theorem dX12_isPrime_24 : decode cX12_isPrime 24 = .ok (.irem, 1) := by decide +kernel
theorem dX12_isPrime_25 : decode cX12_isPrime 25 = .ok (.ifCond .eq 7, 3) := by decide +kernel
theorem dX12_isPrime_28 : decode cX12_isPrime 28 = .ok (.iconst 1, 1) := by decide +kernel
theorem dX12_isPrime_29 : decode cX12_isPrime 29 = .ok (.goto 4, 3) := by decide +kernel
theorem dX12_isPrime_32 : decode cX12_isPrime 32 = .ok (.iconst 0, 1) := by decide +kernel
theorem dX12_isPrime_33 : decode cX12_isPrime 33 = .ok (.istore_n 1, 1) := by decide +kernel
theorem dX12_isPrime_34 : decode cX12_isPrime 34 = .ok (.iinc 2 1, 3) := by decide +kernel
theorem dX12_isPrime_37 : decode cX12_isPrime 37 = .ok (.goto (-24), 3) := by decide +kernel
theorem dX12_isPrime_40 : decode cX12_isPrime 40 = .ok (.iload_n 1, 1) := by decide +kernel
theorem dX12_isPrime_41 : decode cX12_isPrime 41 = .ok (.ireturn, 1) := by decide +kernel
theorem dX12_dropsNoughts_0 : decode cX12_dropsNoughts 0 = .ok (.iconst 0, 1) := by decide +kernel
theorem dX12_dropsNoughts_1 : decode cX12_dropsNoughts 1 = .ok (.istore_n 2, 1) := by decide +kernel
theorem dX12_dropsNoughts_2 : decode cX12_dropsNoughts 2 = .ok (.bipush 8, 2) := by decide +kernel
theorem dX12_dropsNoughts_4 : decode cX12_dropsNoughts 4 = .ok (.iload_n 1, 1) := by decide +kernel
theorem dX12_dropsNoughts_5 : decode cX12_dropsNoughts 5 = .ok (.imul, 1) := by decide +kernel
theorem dX12_dropsNoughts_6 : decode cX12_dropsNoughts 6 = .ok (.istore_n 3, 1) := by decide +kernel
theorem dX12_dropsNoughts_7 : decode cX12_dropsNoughts 7 = .ok (.iload_n 3, 1) := by decide +kernel
theorem dX12_dropsNoughts_8 : decode cX12_dropsNoughts 8 = .ok (.bipush 8, 2) := by decide +kernel
theorem dX12_dropsNoughts_10 : decode cX12_dropsNoughts 10 = .ok (.iload_n 1, 1) := by decide +kernel
theorem dX12_dropsNoughts_11 : decode cX12_dropsNoughts 11 = .ok (.imul, 1) := by decide +kernel
theorem dX12_dropsNoughts_12 : decode cX12_dropsNoughts 12 = .ok (.aload_n 0, 1) := by decide +kernel
theorem dX12_dropsNoughts_13 : decode cX12_dropsNoughts 13 = .ok (.getfield 32, 3) := by decide +kernel
theorem dX12_dropsNoughts_16 : decode cX12_dropsNoughts 16 = .ok (.iload_n 1, 1) := by decide +kernel
theorem dX12_dropsNoughts_17 : decode cX12_dropsNoughts 17 = .ok (.iaload, 1) := by decide +kernel
theorem dX12_dropsNoughts_18 : decode cX12_dropsNoughts 18 = .ok (.iadd, 1) := by decide +kernel
theorem dX12_dropsNoughts_19 : decode cX12_dropsNoughts 19 = .ok (.if_icmp .ge 72, 3) := by decide +kernel
theorem dX12_dropsNoughts_22 : decode cX12_dropsNoughts 22 = .ok (.aload_n 0, 1) := by decide +kernel
theorem dX12_dropsNoughts_23 : decode cX12_dropsNoughts 23 = .ok (.getfield 35, 3) := by decide +kernel
theorem dX12_dropsNoughts_26 : decode cX12_dropsNoughts 26 = .ok (.iload_n 3, 1) := by decide +kernel
theorem dX12_dropsNoughts_27 : decode cX12_dropsNoughts 27 = .ok (.iaload, 1) := by decide +kernel
theorem dX12_dropsNoughts_28 : decode cX12_dropsNoughts 28 = .ok (.ifCond .eq 57, 3) := by decide +kernel
theorem dX12_dropsNoughts_31 : decode cX12_dropsNoughts 31 = .ok (.aload_n 0, 1) := by decide +kernel
theorem dX12_dropsNoughts_32 : decode cX12_dropsNoughts 32 = .ok (.getfield 35, 3) := by decide +kernel
theorem dX12_dropsNoughts_35 : decode cX12_dropsNoughts 35 = .ok (.bipush 8, 2) := by decide +kernel
theorem dX12_dropsNoughts_37 : decode cX12_dropsNoughts 37 = .ok (.iload_n 1, 1) := by decide +kernel
theorem dX12_dropsNoughts_38 : decode cX12_dropsNoughts 38 = .ok (.imul, 1) := by decide +kernel
theorem dX12_dropsNoughts_39 : decode cX12_dropsNoughts 39 = .ok (.iload_n 2, 1) := by decide +kernel
theorem dX12_dropsNoughts_40 : decode cX12_dropsNoughts 40 = .ok (.iadd, 1) := by decide +kernel
theorem dX12_dropsNoughts_41 : decode cX12_dropsNoughts 41 = .ok (.aload_n 0, 1) := by decide +kernel
theorem dX12_dropsNoughts_42 : decode cX12_dropsNoughts 42 = .ok (.getfield 35, 3) := by decide +kernel
theorem dX12_dropsNoughts_45 : decode cX12_dropsNoughts 45 = .ok (.iload_n 3, 1) := by decide +kernel
theorem dX12_dropsNoughts_46 : decode cX12_dropsNoughts 46 = .ok (.iaload, 1) := by decide +kernel
theorem dX12_dropsNoughts_47 : decode cX12_dropsNoughts 47 = .ok (.iastore, 1) := by decide +kernel
theorem dX12_dropsNoughts_48 : decode cX12_dropsNoughts 48 = .ok (.aload_n 0, 1) := by decide +kernel
theorem dX12_dropsNoughts_49 : decode cX12_dropsNoughts 49 = .ok (.getfield 38, 3) := by decide +kernel
theorem dX12_dropsNoughts_52 : decode cX12_dropsNoughts 52 = .ok (.bipush 8, 2) := by decide +kernel
theorem dX12_dropsNoughts_54 : decode cX12_dropsNoughts 54 = .ok (.iload_n 1, 1) := by decide +kernel
theorem dX12_dropsNoughts_55 : decode cX12_dropsNoughts 55 = .ok (.imul, 1) := by decide +kernel
theorem dX12_dropsNoughts_56 : decode cX12_dropsNoughts 56 = .ok (.iload_n 2, 1) := by decide +kernel
theorem dX12_dropsNoughts_57 : decode cX12_dropsNoughts 57 = .ok (.iadd, 1) := by decide +kernel
theorem dX12_dropsNoughts_58 : decode cX12_dropsNoughts 58 = .ok (.aload_n 0, 1) := by decide +kernel
theorem dX12_dropsNoughts_59 : decode cX12_dropsNoughts 59 = .ok (.getfield 38, 3) := by decide +kernel
theorem dX12_dropsNoughts_62 : decode cX12_dropsNoughts 62 = .ok (.iload_n 3, 1) := by decide +kernel
theorem dX12_dropsNoughts_63 : decode cX12_dropsNoughts 63 = .ok (.iaload, 1) := by decide +kernel
theorem dX12_dropsNoughts_64 : decode cX12_dropsNoughts 64 = .ok (.iastore, 1) := by decide +kernel
theorem dX12_dropsNoughts_65 : decode cX12_dropsNoughts 65 = .ok (.aload_n 0, 1) := by decide +kernel
theorem dX12_dropsNoughts_66 : decode cX12_dropsNoughts 66 = .ok (.getfield 41, 3) := by decide +kernel
theorem dX12_dropsNoughts_69 : decode cX12_dropsNoughts 69 = .ok (.bipush 8, 2) := by decide +kernel
theorem dX12_dropsNoughts_71 : decode cX12_dropsNoughts 71 = .ok (.iload_n 1, 1) := by decide +kernel
theorem dX12_dropsNoughts_72 : decode cX12_dropsNoughts 72 = .ok (.imul, 1) := by decide +kernel
theorem dX12_dropsNoughts_73 : decode cX12_dropsNoughts 73 = .ok (.iload_n 2, 1) := by decide +kernel
theorem dX12_dropsNoughts_74 : decode cX12_dropsNoughts 74 = .ok (.iadd, 1) := by decide +kernel
theorem dX12_dropsNoughts_75 : decode cX12_dropsNoughts 75 = .ok (.aload_n 0, 1) := by decide +kernel
theorem dX12_dropsNoughts_76 : decode cX12_dropsNoughts 76 = .ok (.getfield 41, 3) := by decide +kernel
theorem dX12_dropsNoughts_79 : decode cX12_dropsNoughts 79 = .ok (.iload_n 3, 1) := by decide +kernel
theorem dX12_dropsNoughts_80 : decode cX12_dropsNoughts 80 = .ok (.iaload, 1) := by decide +kernel
theorem dX12_dropsNoughts_81 : decode cX12_dropsNoughts 81 = .ok (.iastore, 1) := by decide +kernel
theorem dX12_dropsNoughts_82 : decode cX12_dropsNoughts 82 = .ok (.iinc 2 1, 3) := by decide +kernel
theorem dX12_dropsNoughts_85 : decode cX12_dropsNoughts 85 = .ok (.iinc 3 1, 3) := by decide +kernel
theorem dX12_dropsNoughts_88 : decode cX12_dropsNoughts 88 = .ok (.goto (-81), 3) := by decide +kernel
theorem dX12_dropsNoughts_91 : decode cX12_dropsNoughts 91 = .ok (.aload_n 0, 1) := by decide +kernel
theorem dX12_dropsNoughts_92 : decode cX12_dropsNoughts 92 = .ok (.getfield 32, 3) := by decide +kernel
theorem dX12_dropsNoughts_95 : decode cX12_dropsNoughts 95 = .ok (.iload_n 1, 1) := by decide +kernel
theorem dX12_dropsNoughts_96 : decode cX12_dropsNoughts 96 = .ok (.iload_n 2, 1) := by decide +kernel
theorem dX12_dropsNoughts_97 : decode cX12_dropsNoughts 97 = .ok (.iastore, 1) := by decide +kernel
theorem dX12_dropsNoughts_98 : decode cX12_dropsNoughts 98 = .ok (.return_, 1) := by decide +kernel
set_option maxRecDepth 20000 in
theorem ggX12_becomesField_X12_dropsNoughts : GoodIn wsX12_becomesField wsX12_dropsNoughts := goodIn_r _ [10, 11, 3, 12, 13, 14, 15, 16, 17, 18, 19, 20, 21, 22, 23, 24, 25, 26, 27, 28, 29, 30, 31, 32, 33, 34, 35, 36, 37, 38, 39, 40, 41, 42, 43, 44, 45, 46, 47, 48, 49, 50, 51, 52, 53, 54, 55, 56, 57, 58, 59, 60, 61, 62, 63, 64, 65, 66, 67] rfl (by decide +kernel)
set_option maxRecDepth 20000 in
theorem gX12_becomesField_X12_dropsNoughts : GoodIn wsX12_becomesField (wsV RX12 147 RX12 yX12_dropsNoughts wsX12_dropsNoughts) := goodIn_app (goodIn_of _ (by decide +kernel)) ggX12_becomesField_X12_dropsNoughts
theorem dX12_becomesField_0 : decode cX12_becomesField 0 = .ok (.aload_n 0, 1) := by decide +kernel
theorem dX12_becomesField_1 : decode cX12_becomesField 1 = .ok (.iload_n 1, 1) := by decide +kernel
theorem dX12_becomesField_2 : decode cX12_becomesField 2 = .ok (.putfield 7, 3) := by decide +kernel
theorem dX12_becomesField_5 : decode cX12_becomesField 5 = .ok (.iconst 0, 1) := by decide +kernel
theorem dX12_becomesField_6 : decode cX12_becomesField 6 = .ok (.istore_n 2, 1) := by decide +kernel
theorem dX12_becomesField_7 : decode cX12_becomesField 7 = .ok (.iload_n 2, 1) := by decide +kernel
theorem dX12_becomesField_8 : decode cX12_becomesField 8 = .ok (.bipush 18, 2) := by decide +kernel
theorem dX12_becomesField_10 : decode cX12_becomesField 10 = .ok (.if_icmp .ge 26, 3) := by decide +kernel
theorem dX12_becomesField_13 : decode cX12_becomesField 13 = .ok (.aload_n 0, 1) := by decide +kernel
theorem dX12_becomesField_14 : decode cX12_becomesField 14 = .ok (.getfield 25, 3) := by decide +kernel
theorem dX12_becomesField_17 : decode cX12_becomesField 17 = .ok (.iload_n 2, 1) := by decide +kernel
theorem dX12_becomesField_18 : decode cX12_becomesField 18 = .ok (.aload_n 0, 1) := by decide +kernel
theorem dX12_becomesField_19 : decode cX12_becomesField 19 = .ok (.getfield 25, 3) := by decide +kernel
theorem dX12_becomesField_22 : decode cX12_becomesField 22 = .ok (.iload_n 2, 1) := by decide +kernel
theorem dX12_becomesField_23 : decode cX12_becomesField 23 = .ok (.iaload, 1) := by decide +kernel
theorem dX12_becomesField_24 : decode cX12_becomesField 24 = .ok (.aload_n 0, 1) := by decide +kernel
theorem dX12_becomesField_25 : decode cX12_becomesField 25 = .ok (.getfield 7, 3) := by decide +kernel
