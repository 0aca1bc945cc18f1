theorem dX1_bring_61 : decode cX1_bring 61 = .ok (.getfield 24, 3) := by decide +kernel
theorem dX1_bring_64 : decode cX1_bring 64 = .ok (.aload_n 0, 1) := by decide +kernel
theorem dX1_bring_65 : decode cX1_bring 65 = .ok (.getfield 28, 3) := by decide +kernel
theorem dX1_bring_68 : decode cX1_bring 68 = .ok (.iconst 0, 1) := by decide +kernel
theorem dX1_bring_69 : decode cX1_bring 69 = .ok (.bastore, 1) := by decide +kernel
theorem dX1_bring_70 : decode cX1_bring 70 = .ok (.aload_n 0, 1) := by decide +kernel
theorem dX1_bring_71 : decode cX1_bring 71 = .ok (.dup, 1) := by decide +kernel
theorem dX1_bring_72 : decode cX1_bring 72 = .ok (.getfield 28, 3) := by decide +kernel
theorem dX1_bring_75 : decode cX1_bring 75 = .ok (.iconst 1, 1) := by decide +kernel
theorem dX1_bring_76 : decode cX1_bring 76 = .ok (.iadd, 1) := by decide +kernel
theorem dX1_bring_77 : decode cX1_bring 77 = .ok (.putfield 28, 3) := by decide +kernel
theorem dX1_bring_80 : decode cX1_bring 80 = .ok (.return_, 1) := by decide +kernel
theorem dX1_has_0 : decode cX1_has 0 = .ok (.iconst 0, 1) := by decide +kernel
theorem dX1_has_1 : decode cX1_has 1 = .ok (.istore_n 3, 1) := by decide +kernel
theorem dX1_has_2 : decode cX1_has 2 = .ok (.iload_n 3, 1) := by decide +kernel
theorem dX1_has_3 : decode cX1_has 3 = .ok (.aload_n 0, 1) := by decide +kernel
theorem dX1_has_4 : decode cX1_has 4 = .ok (.getfield 28, 3) := by decide +kernel
theorem dX1_has_7 : decode cX1_has 7 = .ok (.if_icmp .ge 31, 3) := by decide +kernel
theorem dX1_has_10 : decode cX1_has 10 = .ok (.aload_n 0, 1) := by decide +kernel
theorem dX1_has_11 : decode cX1_has 11 = .ok (.getfield 11, 3) := by decide +kernel
theorem dX1_has_14 : decode cX1_has 14 = .ok (.iload_n 3, 1) := by decide +kernel
theorem dX1_has_15 : decode cX1_has 15 = .ok (.iaload, 1) := by decide +kernel
theorem dX1_has_16 : decode cX1_has 16 = .ok (.iload_n 1, 1) := by decide +kernel
theorem dX1_has_17 : decode cX1_has 17 = .ok (.if_icmp .ne 15, 3) := by decide +kernel
theorem dX1_has_20 : decode cX1_has 20 = .ok (.aload_n 0, 1) := by decide +kernel
theorem dX1_has_21 : decode cX1_has 21 = .ok (.getfield 15, 3) := by decide +kernel
theorem dX1_has_24 : decode cX1_has 24 = .ok (.iload_n 3, 1) := by decide +kernel
theorem dX1_has_25 : decode cX1_has 25 = .ok (.iaload, 1) := by decide +kernel
theorem dX1_has_26 : decode cX1_has 26 = .ok (.iload_n 2, 1) := by decide +kernel
theorem dX1_has_27 : decode cX1_has 27 = .ok (.if_icmp .ne 5, 3) := by decide +kernel
theorem dX1_has_30 : decode cX1_has 30 = .ok (.iconst 1, 1) := by decide +kernel
theorem dX1_has_31 : decode cX1_has 31 = .ok (.ireturn, 1) := by decide +kernel
theorem dX1_has_32 : decode cX1_has 32 = .ok (.iinc 3 1, 3) := by decide +kernel
theorem dX1_has_35 : decode cX1_has 35 = .ok (.goto (-33), 3) := by decide +kernel
theorem dX1_has_38 : decode cX1_has 38 = .ok (.iconst 0, 1) := by decide +kernel
theorem dX1_has_39 : decode cX1_has 39 = .ok (.ireturn, 1) := by decide +kernel
set_option maxRecDepth 20000 in
theorem ggX1_passLeast_X10_isLess : GoodIn wsX1_passLeast wsX10_isLess := goodIn_r _ [9, 10, 11, 12, 13, 8, 14, 15, 16, 23, 24, 25] (by decide +kernel) (by decide +kernel)
set_option maxRecDepth 20000 in
theorem gX1_passLeast_X10_isLess : GoodIn wsX1_passLeast (wsV RX1 40 RX10 yX10_isLess wsX10_isLess) := goodIn_app (goodIn_of _ (by decide +kernel)) ggX1_passLeast_X10_isLess
theorem dX1_passLeast_0 : decode cX1_passLeast 0 = .ok (.iconst (-1), 1) := by decide +kernel
theorem dX1_passLeast_1 : decode cX1_passLeast 1 = .ok (.istore_n 2, 1) := by decide +kernel
theorem dX1_passLeast_2 : decode cX1_passLeast 2 = .ok (.iconst 0, 1) := by decide +kernel
theorem dX1_passLeast_3 : decode cX1_passLeast 3 = .ok (.istore_n 3, 1) := by decide +kernel
theorem dX1_passLeast_4 : decode cX1_passLeast 4 = .ok (.iload_n 3, 1) := by decide +kernel
theorem dX1_passLeast_5 : decode cX1_passLeast 5 = .ok (.aload_n 0, 1) := by decide +kernel
theorem dX1_passLeast_6 : decode cX1_passLeast 6 = .ok (.getfield 28, 3) := by decide +kernel
theorem dX1_passLeast_9 : decode cX1_passLeast 9 = .ok (.if_icmp .ge 55, 3) := by decide +kernel
theorem dX1_passLeast_12 : decode cX1_passLeast 12 = .ok (.aload_n 0, 1) := by decide +kernel
theorem dX1_passLeast_13 : decode cX1_passLeast 13 = .ok (.getfield 24, 3) := by decide +kernel
theorem dX1_passLeast_16 : decode cX1_passLeast 16 = .ok (.iload_n 3, 1) := by decide +kernel
theorem dX1_passLeast_17 : decode cX1_passLeast 17 = .ok (.baload, 1) := by decide +kernel
theorem dX1_passLeast_18 : decode cX1_passLeast 18 = .ok (.ifCond .ne 40, 3) := by decide +kernel
theorem dX1_passLeast_21 : decode cX1_passLeast 21 = .ok (.iload_n 2, 1) := by decide +kernel
theorem dX1_passLeast_22 : decode cX1_passLeast 22 = .ok (.ifCond .lt 34, 3) := by decide +kernel
theorem dX1_passLeast_25 : decode cX1_passLeast 25 = .ok (.aload_n 1, 1) := by decide +kernel
theorem dX1_passLeast_26 : decode cX1_passLeast 26 = .ok (.aload_n 0, 1) := by decide +kernel
theorem dX1_passLeast_27 : decode cX1_passLeast 27 = .ok (.getfield 11, 3) := by decide +kernel
theorem dX1_passLeast_30 : decode cX1_passLeast 30 = .ok (.iload_n 3, 1) := by decide +kernel
theorem dX1_passLeast_31 : decode cX1_passLeast 31 = .ok (.iaload, 1) := by decide +kernel
theorem dX1_passLeast_32 : decode cX1_passLeast 32 = .ok (.aload_n 0, 1) := by decide +kernel
theorem dX1_passLeast_33 : decode cX1_passLeast 33 = .ok (.getfield 15, 3) := by decide +kernel
theorem dX1_passLeast_36 : decode cX1_passLeast 36 = .ok (.iload_n 3, 1) := by decide +kernel
theorem dX1_passLeast_37 : decode cX1_passLeast 37 = .ok (.iaload, 1) := by decide +kernel
theorem dX1_passLeast_38 : decode cX1_passLeast 38 = .ok (.aload_n 0, 1) := by decide +kernel
theorem dX1_passLeast_39 : decode cX1_passLeast 39 = .ok (.getfield 11, 3) := by decide +kernel
theorem dX1_passLeast_42 : decode cX1_passLeast 42 = .ok (.iload_n 2, 1) := by decide +kernel
theorem dX1_passLeast_43 : decode cX1_passLeast 43 = .ok (.iaload, 1) := by decide +kernel
theorem dX1_passLeast_44 : decode cX1_passLeast 44 = .ok (.aload_n 0, 1) := by decide +kernel
theorem dX1_passLeast_45 : decode cX1_passLeast 45 = .ok (.getfield 15, 3) := by decide +kernel
theorem dX1_passLeast_48 : decode cX1_passLeast 48 = .ok (.iload_n 2, 1) := by decide +kernel
theorem dX1_passLeast_49 : decode cX1_passLeast 49 = .ok (.iaload, 1) := by decide +kernel
theorem dX1_passLeast_50 : decode cX1_passLeast 50 = .ok (.invokevirtual 40, 3) := by decide +kernel
theorem dX1_passLeast_53 : decode cX1_passLeast 53 = .ok (.ifCond .eq 5, 3) := by decide +kernel
theorem dX1_passLeast_56 : decode cX1_passLeast 56 = .ok (.iload_n 3, 1) := by decide +kernel
theorem dX1_passLeast_57 : decode cX1_passLeast 57 = .ok (.istore_n 2, 1) := by decide +kernel
theorem dX1_passLeast_58 : decode cX1_passLeast 58 = .ok (.iinc 3 1, 3) := by decide +kernel
theorem dX1_passLeast_61 : decode cX1_passLeast 61 = .ok (.goto (-57), 3) := by decide +kernel
theorem dX1_passLeast_64 : decode cX1_passLeast 64 = .ok (.iload_n 2, 1) := by decide +kernel
theorem dX1_passLeast_65 : decode cX1_passLeast 65 = .ok (.ifCond .lt 10, 3) := by decide +kernel
theorem dX1_passLeast_68 : decode cX1_passLeast 68 = .ok (.aload_n 0, 1) := by decide +kernel
theorem dX1_passLeast_69 : decode cX1_passLeast 69 = .ok (.getfield 24, 3) := by decide +kernel
theorem dX1_passLeast_72 : decode cX1_passLeast 72 = .ok (.iload_n 2, 1) := by decide +kernel
theorem dX1_passLeast_73 : decode cX1_passLeast 73 = .ok (.iconst 1, 1) := by decide +kernel
theorem dX1_passLeast_74 : decode cX1_passLeast 74 = .ok (.bastore, 1) := by decide +kernel
theorem dX1_passLeast_75 : decode cX1_passLeast 75 = .ok (.iload_n 2, 1) := by decide +kernel
theorem dX1_passLeast_76 : decode cX1_passLeast 76 = .ok (.ireturn, 1) := by decide +kernel
set_option maxRecDepth 20000 in
theorem ggX2_init_X6_init : GoodIn wsX2_init wsX6_init := goodIn_r _ [24, 25, 2, 3, 26, 10, 27, 28, 89, 90, 91, 92, 93] (by decide +kernel) (by decide +kernel)
set_option maxRecDepth 20000 in
theorem gX2_init_X6_init_n11 : GoodIn wsX2_init (wsX6_init) := ggX2_init_X6_init
set_option maxRecDepth 20000 in
theorem ggX2_init_X0_init : GoodIn wsX2_init wsX0_init := goodIn_r _ [30, 31, 2, 3, 32, 33, 34, 35, 36, 37, 38, 39, 40, 41, 42, 43, 10, 44, 45, 46, 47, 48, 49, 50, 51, 52, 53, 54, 55, 56, 57, 58, 59, 60, 61, 62, 63, 64, 65, 66, 67, 68, 69, 70, 71, 72, 73, 74, 75, 76, 77, 78, 79, 15, 80, 119, 120, 121, 103, 104, 105, 106, 107, 108, 109, 110, 111, 122, 123, 124, 125, 126, 127, 128, 129, 130, 131, 132, 133, 134, 135, 136] (by decide +kernel) (by decide +kernel)
set_option maxRecDepth 20000 in
theorem gX2_init_X0_init_n48 : GoodIn wsX2_init (wsX0_init) := ggX2_init_X0_init
set_option maxRecDepth 20000 in
theorem ggX2_init_X3_init : GoodIn wsX2_init wsX3_init := goodIn_r _ [82, 83, 2, 3, 10, 84, 85, 86, 87, 88, 112, 113, 114, 115, 116, 117, 118] (by decide +kernel) (by decide +kernel)
set_option maxRecDepth 20000 in
theorem gX2_init_X3_init_n49 : GoodIn wsX2_init (wsX3_init) := ggX2_init_X3_init
theorem dX2_init_0 : decode cX2_init 0 = .ok (.aload_n 0, 1) := by decide +kernel
theorem dX2_init_1 : decode cX2_init 1 = .ok (.invokespecial 3, 3) := by decide +kernel
theorem dX2_init_4 : decode cX2_init 4 = .ok (.aload_n 0, 1) := by decide +kernel
theorem dX2_init_5 : decode cX2_init 5 = .ok (.new 9, 3) := by decide +kernel
theorem dX2_init_8 : decode cX2_init 8 = .ok (.dup, 1) := by decide +kernel
theorem dX2_init_9 : decode cX2_init 9 = .ok (.invokespecial 11, 3) := by decide +kernel
theorem dX2_init_12 : decode cX2_init 12 = .ok (.putfield 12, 3) := by decide +kernel
theorem dX2_init_15 : decode cX2_init 15 = .ok (.aload_n 0, 1) := by decide +kernel
theorem dX2_init_16 : decode cX2_init 16 = .ok (.iconst 2, 1) := by decide +kernel
theorem dX2_init_17 : decode cX2_init 17 = .ok (.anewarray 18, 3) := by decide +kernel
theorem dX2_init_20 : decode cX2_init 20 = .ok (.putfield 20, 3) := by decide +kernel
theorem dX2_init_23 : decode cX2_init 23 = .ok (.aload_n 0, 1) := by decide +kernel
theorem dX2_init_24 : decode cX2_init 24 = .ok (.bipush 9, 2) := by decide +kernel
theorem dX2_init_26 : decode cX2_init 26 = .ok (.newarray .int, 2) := by decide +kernel
theorem dX2_init_28 : decode cX2_init 28 = .ok (.putfield 24, 3) := by decide +kernel
theorem dX2_init_31 : decode cX2_init 31 = .ok (.aload_n 0, 1) := by decide +kernel
theorem dX2_init_32 : decode cX2_init 32 = .ok (.bipush 9, 2) := by decide +kernel
theorem dX2_init_34 : decode cX2_init 34 = .ok (.newarray .int, 2) := by decide +kernel
theorem dX2_init_36 : decode cX2_init 36 = .ok (.putfield 28, 3) := by decide +kernel
theorem dX2_init_39 : decode cX2_init 39 = .ok (.aload_n 0, 1) := by decide +kernel
theorem dX2_init_40 : decode cX2_init 40 = .ok (.iconst 5, 1) := by decide +kernel
theorem dX2_init_41 : decode cX2_init 41 = .ok (.anewarray 31, 3) := by decide +kernel
theorem dX2_init_44 : decode cX2_init 44 = .ok (.putfield 33, 3) := by decide +kernel
theorem dX2_init_47 : decode cX2_init 47 = .ok (.aload_n 0, 1) := by decide +kernel
theorem dX2_init_48 : decode cX2_init 48 = .ok (.iconst 5, 1) := by decide +kernel
theorem dX2_init_49 : decode cX2_init 49 = .ok (.newarray .boolean, 2) := by decide +kernel
theorem dX2_init_51 : decode cX2_init 51 = .ok (.putfield 37, 3) := by decide +kernel
theorem dX2_init_54 : decode cX2_init 54 = .ok (.aload_n 0, 1) := by decide +kernel
theorem dX2_init_55 : decode cX2_init 55 = .ok (.iconst (-1), 1) := by decide +kernel
theorem dX2_init_56 : decode cX2_init 56 = .ok (.putfield 41, 3) := by decide +kernel
theorem dX2_init_59 : decode cX2_init 59 = .ok (.aload_n 0, 1) := by decide +kernel
theorem dX2_init_60 : decode cX2_init 60 = .ok (.bipush 9, 2) := by decide +kernel
theorem dX2_init_62 : decode cX2_init 62 = .ok (.newarray .int, 2) := by decide +kernel
theorem dX2_init_64 : decode cX2_init 64 = .ok (.putfield 45, 3) := by decide +kernel
theorem dX2_init_67 : decode cX2_init 67 = .ok (.iconst 0, 1) := by decide +kernel
theorem dX2_init_68 : decode cX2_init 68 = .ok (.istore_n 1, 1) := by decide +kernel
theorem dX2_init_69 : decode cX2_init 69 = .ok (.iload_n 1, 1) := by decide +kernel
theorem dX2_init_70 : decode cX2_init 70 = .ok (.iconst 5, 1) := by decide +kernel
theorem dX2_init_71 : decode cX2_init 71 = .ok (.if_icmp .ge 22, 3) := by decide +kernel
theorem dX2_init_74 : decode cX2_init 74 = .ok (.aload_n 0, 1) := by decide +kernel
theorem dX2_init_75 : decode cX2_init 75 = .ok (.getfield 33, 3) := by decide +kernel
theorem dX2_init_78 : decode cX2_init 78 = .ok (.iload_n 1, 1) := by decide +kernel
theorem dX2_init_79 : decode cX2_init 79 = .ok (.new 31, 3) := by decide +kernel
theorem dX2_init_82 : decode cX2_init 82 = .ok (.dup, 1) := by decide +kernel
theorem dX2_init_83 : decode cX2_init 83 = .ok (.invokespecial 48, 3) := by decide +kernel
theorem dX2_init_86 : decode cX2_init 86 = .ok (.aastore, 1) := by decide +kernel
theorem dX2_init_87 : decode cX2_init 87 = .ok (.iinc 1 1, 3) := by decide +kernel
theorem dX2_init_90 : decode cX2_init 90 = .ok (.goto (-21), 3) := by decide +kernel
theorem dX2_init_93 : decode cX2_init 93 = .ok (.aload_n 0, 1) := by decide +kernel
theorem dX2_init_94 : decode cX2_init 94 = .ok (.getfield 20, 3) := by decide +kernel
theorem dX2_init_97 : decode cX2_init 97 = .ok (.iconst 0, 1) := by decide +kernel
theorem dX2_init_98 : decode cX2_init 98 = .ok (.new 18, 3) := by decide +kernel
theorem dX2_init_101 : decode cX2_init 101 = .ok (.dup, 1) := by decide +kernel
theorem dX2_init_102 : decode cX2_init 102 = .ok (.invokespecial 49, 3) := by decide +kernel
theorem dX2_init_105 : decode cX2_init 105 = .ok (.aastore, 1) := by decide +kernel
theorem dX2_init_106 : decode cX2_init 106 = .ok (.aload_n 0, 1) := by decide +kernel
theorem dX2_init_107 : decode cX2_init 107 = .ok (.getfield 20, 3) := by decide +kernel
theorem dX2_init_110 : decode cX2_init 110 = .ok (.iconst 1, 1) := by decide +kernel
theorem dX2_init_111 : decode cX2_init 111 = .ok (.new 18, 3) := by decide +kernel
theorem dX2_init_114 : decode cX2_init 114 = .ok (.dup, 1) := by decide +kernel
theorem dX2_init_115 : decode cX2_init 115 = .ok (.invokespecial 49, 3) := by decide +kernel
theorem dX2_init_118 : decode cX2_init 118 = .ok (.aastore, 1) := by decide +kernel
theorem dX2_init_119 : decode cX2_init 119 = .ok (.return_, 1) := by decide +kernel
theorem dX2_forget_0 : decode cX2_forget 0 = .ok (.aload_n 0, 1) := by decide +kernel
theorem dX2_forget_1 : decode cX2_forget 1 = .ok (.iconst 0, 1) := by decide +kernel
theorem dX2_forget_2 : decode cX2_forget 2 = .ok (.putfield 50, 3) := by decide +kernel
theorem dX2_forget_5 : decode cX2_forget 5 = .ok (.return_, 1) := by decide +kernel
set_option maxRecDepth 20000 in
theorem ggX2_bringUpToDate_X6_build : GoodIn wsX2_bringUpToDate wsX6_build := goodIn_r _ [17, 18, 19, 20, 21, 22, 23, 24, 25, 26, 16, 27, 28, 29, 30, 31, 32, 33, 34, 35, 36, 37, 38, 39, 40, 41, 42, 43, 44, 45, 46, 47, 48, 49, 50, 51, 52, 53, 54, 55, 56, 188, 189, 190, 191, 192, 193, 194, 208, 209, 210, 211, 212] (by decide +kernel) (by decide +kernel)
set_option maxRecDepth 20000 in
theorem gX2_bringUpToDate_X6_build : GoodIn wsX2_bringUpToDate (wsV RX2 54 RX6 yX6_build wsX6_build) := goodIn_app (goodIn_of _ (by decide +kernel)) ggX2_bringUpToDate_X6_build
set_option maxRecDepth 20000 in
theorem ggX2_bringUpToDate_X0_walk : GoodIn wsX2_bringUpToDate wsX0_walk := goodIn_r _ [61, 62, 63, 64, 65, 66, 67, 68, 69, 70, 71, 72, 73, 74, 75, 76, 77, 78, 79, 80, 81, 82, 83, 84, 85, 86, 87, 88, 89, 90, 91, 92, 93, 94, 95, 96, 97, 98, 99, 100, 101, 102, 103, 104, 105, 106, 107, 108, 109, 110, 111, 112, 113, 114, 115, 116, 117, 118, 119, 120, 121, 122, 123, 124, 125, 126, 60, 127, 128, 129, 130, 131, 132, 133, 134, 135, 136, 137, 138, 16, 139, 33, 34, 35, 140, 141, 142, 143, 144, 23, 21, 19, 28, 29, 30, 31, 32, 55, 56, 145, 146, 147, 148, 149, 150, 151, 152, 153, 154, 155, 156, 157, 158, 159, 160, 161, 162, 163, 164, 165, 195, 196, 197, 198, 199, 200, 201, 202, 203, 204, 205, 206, 207, 208, 209, 210, 211, 212, 213, 214, 215, 216, 217, 218, 219, 220, 221, 222, 223, 224, 225, 226] (by decide +kernel) (by decide +kernel)
set_option maxRecDepth 20000 in
theorem gX2_bringUpToDate_X0_walk : GoodIn wsX2_bringUpToDate (wsV RX2 66 RX0 yX0_walk wsX0_walk) := goodIn_app (goodIn_of _ (by decide +kernel)) ggX2_bringUpToDate_X0_walk
set_option maxRecDepth 20000 in
theorem ggX2_bringUpToDate_X3_readFrom : GoodIn wsX2_bringUpToDate wsX3_readFrom := goodIn_r _ [170, 171, 172, 173, 174, 175, 176, 177, 178, 227, 228, 229, 230, 231, 232, 233, 204, 205, 206, 207] (by decide +kernel) (by decide +kernel)
set_option maxRecDepth 20000 in
theorem gX2_bringUpToDate_X3_readFrom : GoodIn wsX2_bringUpToDate (wsV RX2 82 RX3 yX3_readFrom wsX3_readFrom) := goodIn_app (goodIn_of _ (by decide +kernel)) ggX2_bringUpToDate_X3_readFrom
theorem dX2_bringUpToDate_0 : decode cX2_bringUpToDate 0 = .ok (.aload_n 0, 1) := by decide +kernel
theorem dX2_bringUpToDate_1 : decode cX2_bringUpToDate 1 = .ok (.getfield 50, 3) := by decide +kernel
theorem dX2_bringUpToDate_4 : decode cX2_bringUpToDate 4 = .ok (.ifCond .eq 4, 3) := by decide +kernel
theorem dX2_bringUpToDate_7 : decode cX2_bringUpToDate 7 = .ok (.return_, 1) := by decide +kernel
theorem dX2_bringUpToDate_8 : decode cX2_bringUpToDate 8 = .ok (.aload_n 0, 1) := by decide +kernel
theorem dX2_bringUpToDate_9 : decode cX2_bringUpToDate 9 = .ok (.getfield 12, 3) := by decide +kernel
theorem dX2_bringUpToDate_12 : decode cX2_bringUpToDate 12 = .ok (.aload_n 1, 1) := by decide +kernel
theorem dX2_bringUpToDate_13 : decode cX2_bringUpToDate 13 = .ok (.invokevirtual 54, 3) := by decide +kernel
theorem dX2_bringUpToDate_16 : decode cX2_bringUpToDate 16 = .ok (.iconst 0, 1) := by decide +kernel
theorem dX2_bringUpToDate_17 : decode cX2_bringUpToDate 17 = .ok (.istore_n 2, 1) := by decide +kernel
theorem dX2_bringUpToDate_18 : decode cX2_bringUpToDate 18 = .ok (.iload_n 2, 1) := by decide +kernel
theorem dX2_bringUpToDate_19 : decode cX2_bringUpToDate 19 = .ok (.iconst 5, 1) := by decide +kernel
theorem dX2_bringUpToDate_20 : decode cX2_bringUpToDate 20 = .ok (.if_icmp .ge 25, 3) := by decide +kernel
theorem dX2_bringUpToDate_23 : decode cX2_bringUpToDate 23 = .ok (.aload_n 0, 1) := by decide +kernel
theorem dX2_bringUpToDate_24 : decode cX2_bringUpToDate 24 = .ok (.getfield 37, 3) := by decide +kernel
theorem dX2_bringUpToDate_27 : decode cX2_bringUpToDate 27 = .ok (.iload_n 2, 1) := by decide +kernel
theorem dX2_bringUpToDate_28 : decode cX2_bringUpToDate 28 = .ok (.iload_n 2, 1) := by decide +kernel
theorem dX2_bringUpToDate_29 : decode cX2_bringUpToDate 29 = .ok (.iconst 2, 1) := by decide +kernel
theorem dX2_bringUpToDate_30 : decode cX2_bringUpToDate 30 = .ok (.if_icmp .ge 7, 3) := by decide +kernel
theorem dX2_bringUpToDate_33 : decode cX2_bringUpToDate 33 = .ok (.iconst 1, 1) := by decide +kernel
theorem dX2_bringUpToDate_34 : decode cX2_bringUpToDate 34 = .ok (.goto 4, 3) := by decide +kernel
theorem dX2_bringUpToDate_37 : decode cX2_bringUpToDate 37 = .ok (.iconst 0, 1) := by decide +kernel
theorem dX2_bringUpToDate_38 : decode cX2_bringUpToDate 38 = .ok (.bastore, 1) := by decide +kernel
theorem dX2_bringUpToDate_39 : decode cX2_bringUpToDate 39 = .ok (.iinc 2 1, 3) := by decide +kernel
theorem dX2_bringUpToDate_42 : decode cX2_bringUpToDate 42 = .ok (.goto (-24), 3) := by decide +kernel
theorem dX2_bringUpToDate_45 : decode cX2_bringUpToDate 45 = .ok (.aload_n 0, 1) := by decide +kernel
theorem dX2_bringUpToDate_46 : decode cX2_bringUpToDate 46 = .ok (.getfield 33, 3) := by decide +kernel
theorem dX2_bringUpToDate_49 : decode cX2_bringUpToDate 49 = .ok (.iconst 0, 1) := by decide +kernel
theorem dX2_bringUpToDate_50 : decode cX2_bringUpToDate 50 = .ok (.aaload, 1) := by decide +kernel
theorem dX2_bringUpToDate_51 : decode cX2_bringUpToDate 51 = .ok (.aload_n 0, 1) := by decide +kernel
theorem dX2_bringUpToDate_52 : decode cX2_bringUpToDate 52 = .ok (.getfield 12, 3) := by decide +kernel
theorem dX2_bringUpToDate_55 : decode cX2_bringUpToDate 55 = .ok (.iconst 0, 1) := by decide +kernel
theorem dX2_bringUpToDate_56 : decode cX2_bringUpToDate 56 = .ok (.aload_n 1, 1) := by decide +kernel
theorem dX2_bringUpToDate_57 : decode cX2_bringUpToDate 57 = .ok (.getfield 58, 3) := by decide +kernel
theorem dX2_bringUpToDate_60 : decode cX2_bringUpToDate 60 = .ok (.aload_n 1, 1) := by decide +kernel
theorem dX2_bringUpToDate_61 : decode cX2_bringUpToDate 61 = .ok (.getfield 63, 3) := by decide +kernel
theorem dX2_bringUpToDate_64 : decode cX2_bringUpToDate 64 = .ok (.invokevirtual 66, 3) := by decide +kernel
theorem dX2_bringUpToDate_67 : decode cX2_bringUpToDate 67 = .ok (.aload_n 0, 1) := by decide +kernel
theorem dX2_bringUpToDate_68 : decode cX2_bringUpToDate 68 = .ok (.getfield 33, 3) := by decide +kernel
theorem dX2_bringUpToDate_71 : decode cX2_bringUpToDate 71 = .ok (.iconst 1, 1) := by decide +kernel
theorem dX2_bringUpToDate_72 : decode cX2_bringUpToDate 72 = .ok (.aaload, 1) := by decide +kernel
theorem dX2_bringUpToDate_73 : decode cX2_bringUpToDate 73 = .ok (.aload_n 0, 1) := by decide +kernel
theorem dX2_bringUpToDate_74 : decode cX2_bringUpToDate 74 = .ok (.getfield 12, 3) := by decide +kernel
theorem dX2_bringUpToDate_77 : decode cX2_bringUpToDate 77 = .ok (.iconst 1, 1) := by decide +kernel
theorem dX2_bringUpToDate_78 : decode cX2_bringUpToDate 78 = .ok (.aload_n 1, 1) := by decide +kernel
theorem dX2_bringUpToDate_79 : decode cX2_bringUpToDate 79 = .ok (.getfield 58, 3) := by decide +kernel
theorem dX2_bringUpToDate_82 : decode cX2_bringUpToDate 82 = .ok (.aload_n 1, 1) := by decide +kernel
theorem dX2_bringUpToDate_83 : decode cX2_bringUpToDate 83 = .ok (.getfield 63, 3) := by decide +kernel
theorem dX2_bringUpToDate_86 : decode cX2_bringUpToDate 86 = .ok (.invokevirtual 66, 3) := by decide +kernel
theorem dX2_bringUpToDate_89 : decode cX2_bringUpToDate 89 = .ok (.aload_n 0, 1) := by decide +kernel
theorem dX2_bringUpToDate_90 : decode cX2_bringUpToDate 90 = .ok (.getfield 20, 3) := by decide +kernel
theorem dX2_bringUpToDate_93 : decode cX2_bringUpToDate 93 = .ok (.iconst 0, 1) := by decide +kernel
theorem dX2_bringUpToDate_94 : decode cX2_bringUpToDate 94 = .ok (.aaload, 1) := by decide +kernel
theorem dX2_bringUpToDate_95 : decode cX2_bringUpToDate 95 = .ok (.aload_n 0, 1) := by decide +kernel
theorem dX2_bringUpToDate_96 : decode cX2_bringUpToDate 96 = .ok (.getfield 33, 3) := by decide +kernel
theorem dX2_bringUpToDate_99 : decode cX2_bringUpToDate 99 = .ok (.iconst 1, 1) := by decide +kernel
theorem dX2_bringUpToDate_100 : decode cX2_bringUpToDate 100 = .ok (.aaload, 1) := by decide +kernel
theorem dX2_bringUpToDate_101 : decode cX2_bringUpToDate 101 = .ok (.getfield 70, 3) := by decide +kernel
theorem dX2_bringUpToDate_104 : decode cX2_bringUpToDate 104 = .ok (.aload_n 0, 1) := by decide +kernel
theorem dX2_bringUpToDate_105 : decode cX2_bringUpToDate 105 = .ok (.getfield 33, 3) := by decide +kernel
theorem dX2_bringUpToDate_108 : decode cX2_bringUpToDate 108 = .ok (.iconst 1, 1) := by decide +kernel
theorem dX2_bringUpToDate_109 : decode cX2_bringUpToDate 109 = .ok (.aaload, 1) := by decide +kernel
theorem dX2_bringUpToDate_110 : decode cX2_bringUpToDate 110 = .ok (.getfield 70, 3) := by decide +kernel
theorem dX2_bringUpToDate_113 : decode cX2_bringUpToDate 113 = .ok (.getfield 74, 3) := by decide +kernel
theorem dX2_bringUpToDate_116 : decode cX2_bringUpToDate 116 = .ok (.iconst 0, 1) := by decide +kernel
theorem dX2_bringUpToDate_117 : decode cX2_bringUpToDate 117 = .ok (.iaload, 1) := by decide +kernel
theorem dX2_bringUpToDate_118 : decode cX2_bringUpToDate 118 = .ok (.aload_n 1, 1) := by decide +kernel
theorem dX2_bringUpToDate_119 : decode cX2_bringUpToDate 119 = .ok (.getfield 79, 3) := by decide +kernel
theorem dX2_bringUpToDate_122 : decode cX2_bringUpToDate 122 = .ok (.invokevirtual 82, 3) := by decide +kernel
theorem dX2_bringUpToDate_125 : decode cX2_bringUpToDate 125 = .ok (.aload_n 0, 1) := by decide +kernel
theorem dX2_bringUpToDate_126 : decode cX2_bringUpToDate 126 = .ok (.getfield 20, 3) := by decide +kernel
theorem dX2_bringUpToDate_129 : decode cX2_bringUpToDate 129 = .ok (.iconst 1, 1) := by decide +kernel
theorem dX2_bringUpToDate_130 : decode cX2_bringUpToDate 130 = .ok (.aaload, 1) := by decide +kernel
theorem dX2_bringUpToDate_131 : decode cX2_bringUpToDate 131 = .ok (.aload_n 0, 1) := by decide +kernel
theorem dX2_bringUpToDate_132 : decode cX2_bringUpToDate 132 = .ok (.getfield 33, 3) := by decide +kernel
theorem dX2_bringUpToDate_135 : decode cX2_bringUpToDate 135 = .ok (.iconst 0, 1) := by decide +kernel
theorem dX2_bringUpToDate_136 : decode cX2_bringUpToDate 136 = .ok (.aaload, 1) := by decide +kernel
theorem dX2_bringUpToDate_137 : decode cX2_bringUpToDate 137 = .ok (.getfield 70, 3) := by decide +kernel
theorem dX2_bringUpToDate_140 : decode cX2_bringUpToDate 140 = .ok (.aload_n 0, 1) := by decide +kernel
theorem dX2_bringUpToDate_141 : decode cX2_bringUpToDate 141 = .ok (.getfield 33, 3) := by decide +kernel
theorem dX2_bringUpToDate_144 : decode cX2_bringUpToDate 144 = .ok (.iconst 0, 1) := by decide +kernel
theorem dX2_bringUpToDate_145 : decode cX2_bringUpToDate 145 = .ok (.aaload, 1) := by decide +kernel
theorem dX2_bringUpToDate_146 : decode cX2_bringUpToDate 146 = .ok (.getfield 70, 3) := by decide +kernel
theorem dX2_bringUpToDate_149 : decode cX2_bringUpToDate 149 = .ok (.getfield 86, 3) := by decide +kernel
theorem dX2_bringUpToDate_152 : decode cX2_bringUpToDate 152 = .ok (.iconst 0, 1) := by decide +kernel
theorem dX2_bringUpToDate_153 : decode cX2_bringUpToDate 153 = .ok (.iaload, 1) := by decide +kernel
theorem dX2_bringUpToDate_154 : decode cX2_bringUpToDate 154 = .ok (.aload_n 1, 1) := by decide +kernel
theorem dX2_bringUpToDate_155 : decode cX2_bringUpToDate 155 = .ok (.getfield 79, 3) := by decide +kernel
theorem dX2_bringUpToDate_158 : decode cX2_bringUpToDate 158 = .ok (.invokevirtual 82, 3) := by decide +kernel
theorem dX2_bringUpToDate_161 : decode cX2_bringUpToDate 161 = .ok (.aload_n 0, 1) := by decide +kernel
theorem dX2_bringUpToDate_162 : decode cX2_bringUpToDate 162 = .ok (.iconst (-1), 1) := by decide +kernel
theorem dX2_bringUpToDate_163 : decode cX2_bringUpToDate 163 = .ok (.putfield 41, 3) := by decide +kernel
theorem dX2_bringUpToDate_166 : decode cX2_bringUpToDate 166 = .ok (.aload_n 0, 1) := by decide +kernel
theorem dX2_bringUpToDate_167 : decode cX2_bringUpToDate 167 = .ok (.iconst 1, 1) := by decide +kernel
theorem dX2_bringUpToDate_168 : decode cX2_bringUpToDate 168 = .ok (.putfield 50, 3) := by decide +kernel
theorem dX2_bringUpToDate_171 : decode cX2_bringUpToDate 171 = .ok (.return_, 1) := by decide +kernel
set_option maxRecDepth 20000 in
theorem ggX2_baseOf_X11_isOrder : GoodIn wsX2_baseOf wsX11_isOrder := goodIn_r _ [8, 9, 10, 7, 11] (by decide +kernel) (by decide +kernel)
set_option maxRecDepth 20000 in
theorem gX2_baseOf_X11_isOrder_n89 : GoodIn wsX2_baseOf (wsX11_isOrder) := ggX2_baseOf_X11_isOrder
set_option maxRecDepth 20000 in
theorem ggX2_baseOf_X0_walk : GoodIn wsX2_baseOf wsX0_walk := goodIn_r _ [16, 17, 18, 19, 20, 21, 22, 23, 24, 25, 26, 27, 28, 29, 30, 31, 32, 33, 34, 35, 36, 37, 38, 39, 40, 41, 42, 43, 44, 45, 46, 47, 48, 49, 50, 51, 52, 53, 54, 55, 56, 57, 58, 59, 60, 61, 62, 63, 64, 65, 66, 67, 68, 69, 70, 71, 72, 73, 74, 75, 76, 77, 78, 79, 80, 81, 15, 82, 83, 84, 85, 86, 87, 88, 89, 90, 91, 92, 93, 94, 95, 96, 7, 97, 98, 99, 100, 101, 102, 103, 104, 105, 106, 107, 108, 109, 110, 111, 112, 113, 114, 115, 116, 117, 118, 119, 120, 121, 122, 123, 124, 125, 126, 127, 128, 129, 130, 131, 132, 133, 150, 151, 152, 153, 154, 155, 156, 157, 158, 159, 160, 161, 162, 163, 164, 165, 166, 167, 168, 169, 170, 171, 172, 173, 174, 175, 176, 177, 178, 179, 180, 181] (by decide +kernel) (by decide +kernel)
set_option maxRecDepth 20000 in
theorem gX2_baseOf_X0_walk : GoodIn wsX2_baseOf (wsV RX2 66 RX0 yX0_walk wsX0_walk) := goodIn_app (goodIn_of _ (by decide +kernel)) ggX2_baseOf_X0_walk
theorem dX2_baseOf_0 : decode cX2_baseOf 0 = .ok (.iload_n 1, 1) := by decide +kernel
theorem dX2_baseOf_1 : decode cX2_baseOf 1 = .ok (.invokestatic 89, 3) := by decide +kernel
theorem dX2_baseOf_4 : decode cX2_baseOf 4 = .ok (.ifCond .ne 10, 3) := by decide +kernel
theorem dX2_baseOf_7 : decode cX2_baseOf 7 = .ok (.aload_n 0, 1) := by decide +kernel
theorem dX2_baseOf_8 : decode cX2_baseOf 8 = .ok (.getfield 33, 3) := by decide +kernel
theorem dX2_baseOf_11 : decode cX2_baseOf 11 = .ok (.iconst 0, 1) := by decide +kernel
theorem dX2_baseOf_12 : decode cX2_baseOf 12 = .ok (.aaload, 1) := by decide +kernel
theorem dX2_baseOf_13 : decode cX2_baseOf 13 = .ok (.areturn, 1) := by decide +kernel
theorem dX2_baseOf_14 : decode cX2_baseOf 14 = .ok (.aload_n 0, 1) := by decide +kernel
theorem dX2_baseOf_15 : decode cX2_baseOf 15 = .ok (.getfield 37, 3) := by decide +kernel
theorem dX2_baseOf_18 : decode cX2_baseOf 18 = .ok (.iload_n 1, 1) := by decide +kernel
theorem dX2_baseOf_19 : decode cX2_baseOf 19 = .ok (.baload, 1) := by decide +kernel
theorem dX2_baseOf_20 : decode cX2_baseOf 20 = .ok (.ifCond .ne 32, 3) := by decide +kernel
theorem dX2_baseOf_23 : decode cX2_baseOf 23 = .ok (.aload_n 0, 1) := by decide +kernel
theorem dX2_baseOf_24 : decode cX2_baseOf 24 = .ok (.getfield 33, 3) := by decide +kernel
theorem dX2_baseOf_27 : decode cX2_baseOf 27 = .ok (.iload_n 1, 1) := by decide +kernel
theorem dX2_baseOf_28 : decode cX2_baseOf 28 = .ok (.aaload, 1) := by decide +kernel
theorem dX2_baseOf_29 : decode cX2_baseOf 29 = .ok (.aload_n 0, 1) := by decide +kernel
theorem dX2_baseOf_30 : decode cX2_baseOf 30 = .ok (.getfield 12, 3) := by decide +kernel
theorem dX2_baseOf_33 : decode cX2_baseOf 33 = .ok (.iload_n 1, 1) := by decide +kernel
theorem dX2_baseOf_34 : decode cX2_baseOf 34 = .ok (.aload_n 2, 1) := by decide +kernel
theorem dX2_baseOf_35 : decode cX2_baseOf 35 = .ok (.getfield 58, 3) := by decide +kernel
theorem dX2_baseOf_38 : decode cX2_baseOf 38 = .ok (.aload_n 2, 1) := by decide +kernel
theorem dX2_baseOf_39 : decode cX2_baseOf 39 = .ok (.getfield 63, 3) := by decide +kernel
theorem dX2_baseOf_42 : decode cX2_baseOf 42 = .ok (.invokevirtual 66, 3) := by decide +kernel
theorem dX2_baseOf_45 : decode cX2_baseOf 45 = .ok (.aload_n 0, 1) := by decide +kernel
theorem dX2_baseOf_46 : decode cX2_baseOf 46 = .ok (.getfield 37, 3) := by decide +kernel
theorem dX2_baseOf_49 : decode cX2_baseOf 49 = .ok (.iload_n 1, 1) := by decide +kernel
theorem dX2_baseOf_50 : decode cX2_baseOf 50 = .ok (.iconst 1, 1) := by decide +kernel
theorem dX2_baseOf_51 : decode cX2_baseOf 51 = .ok (.bastore, 1) := by decide +kernel
theorem dX2_baseOf_52 : decode cX2_baseOf 52 = .ok (.aload_n 0, 1) := by decide +kernel
theorem dX2_baseOf_53 : decode cX2_baseOf 53 = .ok (.getfield 33, 3) := by decide +kernel
theorem dX2_baseOf_56 : decode cX2_baseOf 56 = .ok (.iload_n 1, 1) := by decide +kernel
theorem dX2_baseOf_57 : decode cX2_baseOf 57 = .ok (.aaload, 1) := by decide +kernel
theorem dX2_baseOf_58 : decode cX2_baseOf 58 = .ok (.areturn, 1) := by decide +kernel
set_option maxRecDepth 20000 in
theorem ggX2_vectorOfTerm_X3_raise : GoodIn wsX2_vectorOfTerm wsX3_raise := goodIn_r _ [9, 10, 11, 12, 13, 14, 15, 16, 8, 17, 18, 19, 20, 21, 22, 23, 24, 25, 26, 27, 67, 68, 69, 70, 71, 72, 73] (by decide +kernel) (by decide +kernel)
set_option maxRecDepth 20000 in
theorem gX2_vectorOfTerm_X3_raise : GoodIn wsX2_vectorOfTerm (wsV RX2 93 RX3 yX3_raise wsX3_raise) := goodIn_app (goodIn_of _ (by decide +kernel)) ggX2_vectorOfTerm_X3_raise
set_option maxRecDepth 20000 in
theorem ggX2_vectorOfTerm_X6_toOne : GoodIn wsX2_vectorOfTerm wsX6_toOne := goodIn_r _ [32, 11, 12, 13] (by decide +kernel) (by decide +kernel)
set_option maxRecDepth 20000 in
theorem gX2_vectorOfTerm_X6_toOne : GoodIn wsX2_vectorOfTerm (wsV RX2 97 RX6 yX6_toOne wsX6_toOne) := goodIn_app (goodIn_of _ (by decide +kernel)) ggX2_vectorOfTerm_X6_toOne
set_option maxRecDepth 20000 in
theorem ggX2_vectorOfTerm_X6_multiplyByPolynomial : GoodIn wsX2_vectorOfTerm wsX6_multiplyByPolynomial := goodIn_r _ [36, 37, 11, 12, 13, 38, 39, 40, 41, 42, 43, 44, 45, 46, 31, 47, 48, 49, 50, 51, 52, 53, 54, 55, 56, 57, 74, 75, 76, 77, 78] (by decide +kernel) (by decide +kernel)
set_option maxRecDepth 20000 in
theorem gX2_vectorOfTerm_X6_multiplyByPolynomial : GoodIn wsX2_vectorOfTerm (wsV RX2 104 RX6 yX6_multiplyByPolynomial wsX6_multiplyByPolynomial) := goodIn_app (goodIn_of _ (by decide +kernel)) ggX2_vectorOfTerm_X6_multiplyByPolynomial
theorem dX2_vectorOfTerm_0 : decode cX2_vectorOfTerm 0 = .ok (.aload_n 0, 1) := by decide +kernel
theorem dX2_vectorOfTerm_1 : decode cX2_vectorOfTerm 1 = .ok (.getfield 20, 3) := by decide +kernel
theorem dX2_vectorOfTerm_4 : decode cX2_vectorOfTerm 4 = .ok (.iconst 0, 1) := by decide +kernel
theorem dX2_vectorOfTerm_5 : decode cX2_vectorOfTerm 5 = .ok (.aaload, 1) := by decide +kernel
theorem dX2_vectorOfTerm_6 : decode cX2_vectorOfTerm 6 = .ok (.iload_n 1, 1) := by decide +kernel
theorem dX2_vectorOfTerm_7 : decode cX2_vectorOfTerm 7 = .ok (.invokevirtual 93, 3) := by decide +kernel
theorem dX2_vectorOfTerm_10 : decode cX2_vectorOfTerm 10 = .ok (.aload_n 0, 1) := by decide +kernel
theorem dX2_vectorOfTerm_11 : decode cX2_vectorOfTerm 11 = .ok (.getfield 20, 3) := by decide +kernel
theorem dX2_vectorOfTerm_14 : decode cX2_vectorOfTerm 14 = .ok (.iconst 1, 1) := by decide +kernel
theorem dX2_vectorOfTerm_15 : decode cX2_vectorOfTerm 15 = .ok (.aaload, 1) := by decide +kernel
theorem dX2_vectorOfTerm_16 : decode cX2_vectorOfTerm 16 = .ok (.iload_n 2, 1) := by decide +kernel
theorem dX2_vectorOfTerm_17 : decode cX2_vectorOfTerm 17 = .ok (.invokevirtual 93, 3) := by decide +kernel
theorem dX2_vectorOfTerm_20 : decode cX2_vectorOfTerm 20 = .ok (.aload_n 0, 1) := by decide +kernel
theorem dX2_vectorOfTerm_21 : decode cX2_vectorOfTerm 21 = .ok (.getfield 12, 3) := by decide +kernel
theorem dX2_vectorOfTerm_24 : decode cX2_vectorOfTerm 24 = .ok (.aload_n 3, 1) := by decide +kernel
theorem dX2_vectorOfTerm_25 : decode cX2_vectorOfTerm 25 = .ok (.invokevirtual 97, 3) := by decide +kernel
theorem dX2_vectorOfTerm_28 : decode cX2_vectorOfTerm 28 = .ok (.aload_n 0, 1) := by decide +kernel
theorem dX2_vectorOfTerm_29 : decode cX2_vectorOfTerm 29 = .ok (.getfield 12, 3) := by decide +kernel
theorem dX2_vectorOfTerm_32 : decode cX2_vectorOfTerm 32 = .ok (.iconst 0, 1) := by decide +kernel
theorem dX2_vectorOfTerm_33 : decode cX2_vectorOfTerm 33 = .ok (.aload_n 0, 1) := by decide +kernel
theorem dX2_vectorOfTerm_34 : decode cX2_vectorOfTerm 34 = .ok (.getfield 20, 3) := by decide +kernel
theorem dX2_vectorOfTerm_37 : decode cX2_vectorOfTerm 37 = .ok (.iconst 0, 1) := by decide +kernel
theorem dX2_vectorOfTerm_38 : decode cX2_vectorOfTerm 38 = .ok (.aaload, 1) := by decide +kernel
theorem dX2_vectorOfTerm_39 : decode cX2_vectorOfTerm 39 = .ok (.getfield 101, 3) := by decide +kernel
theorem dX2_vectorOfTerm_42 : decode cX2_vectorOfTerm 42 = .ok (.aload_n 3, 1) := by decide +kernel
theorem dX2_vectorOfTerm_43 : decode cX2_vectorOfTerm 43 = .ok (.aload_n 0, 1) := by decide +kernel
theorem dX2_vectorOfTerm_44 : decode cX2_vectorOfTerm 44 = .ok (.getfield 45, 3) := by decide +kernel
theorem dX2_vectorOfTerm_47 : decode cX2_vectorOfTerm 47 = .ok (.invokevirtual 104, 3) := by decide +kernel
theorem dX2_vectorOfTerm_50 : decode cX2_vectorOfTerm 50 = .ok (.aload_n 0, 1) := by decide +kernel
theorem dX2_vectorOfTerm_51 : decode cX2_vectorOfTerm 51 = .ok (.getfield 12, 3) := by decide +kernel
theorem dX2_vectorOfTerm_54 : decode cX2_vectorOfTerm 54 = .ok (.iconst 1, 1) := by decide +kernel
theorem dX2_vectorOfTerm_55 : decode cX2_vectorOfTerm 55 = .ok (.aload_n 0, 1) := by decide +kernel
theorem dX2_vectorOfTerm_56 : decode cX2_vectorOfTerm 56 = .ok (.getfield 20, 3) := by decide +kernel
theorem dX2_vectorOfTerm_59 : decode cX2_vectorOfTerm 59 = .ok (.iconst 1, 1) := by decide +kernel
theorem dX2_vectorOfTerm_60 : decode cX2_vectorOfTerm 60 = .ok (.aaload, 1) := by decide +kernel
theorem dX2_vectorOfTerm_61 : decode cX2_vectorOfTerm 61 = .ok (.getfield 101, 3) := by decide +kernel
theorem dX2_vectorOfTerm_64 : decode cX2_vectorOfTerm 64 = .ok (.aload_n 0, 1) := by decide +kernel
theorem dX2_vectorOfTerm_65 : decode cX2_vectorOfTerm 65 = .ok (.getfield 45, 3) := by decide +kernel
theorem dX2_vectorOfTerm_68 : decode cX2_vectorOfTerm 68 = .ok (.aload_n 3, 1) := by decide +kernel
theorem dX2_vectorOfTerm_69 : decode cX2_vectorOfTerm 69 = .ok (.invokevirtual 104, 3) := by decide +kernel
theorem dX2_vectorOfTerm_72 : decode cX2_vectorOfTerm 72 = .ok (.return_, 1) := by decide +kernel
theorem dX2_isPlain_0 : decode cX2_isPlain 0 = .ok (.iconst 0, 1) := by decide +kernel
theorem dX2_isPlain_1 : decode cX2_isPlain 1 = .ok (.istore_n 1, 1) := by decide +kernel
theorem dX2_isPlain_2 : decode cX2_isPlain 2 = .ok (.iload_n 1, 1) := by decide +kernel
theorem dX2_isPlain_3 : decode cX2_isPlain 3 = .ok (.aload_n 0, 1) := by decide +kernel
theorem dX2_isPlain_4 : decode cX2_isPlain 4 = .ok (.getfield 33, 3) := by decide +kernel
theorem dX2_isPlain_7 : decode cX2_isPlain 7 = .ok (.iconst 0, 1) := by decide +kernel
theorem dX2_isPlain_8 : decode cX2_isPlain 8 = .ok (.aaload, 1) := by decide +kernel
theorem dX2_isPlain_9 : decode cX2_isPlain 9 = .ok (.getfield 108, 3) := by decide +kernel
theorem dX2_isPlain_12 : decode cX2_isPlain 12 = .ok (.getfield 112, 3) := by decide +kernel
theorem dX2_isPlain_15 : decode cX2_isPlain 15 = .ok (.if_icmp .ge 25, 3) := by decide +kernel
theorem dX2_isPlain_18 : decode cX2_isPlain 18 = .ok (.aload_n 0, 1) := by decide +kernel
theorem dX2_isPlain_19 : decode cX2_isPlain 19 = .ok (.getfield 33, 3) := by decide +kernel
theorem dX2_isPlain_22 : decode cX2_isPlain 22 = .ok (.iconst 0, 1) := by decide +kernel
theorem dX2_isPlain_23 : decode cX2_isPlain 23 = .ok (.aaload, 1) := by decide +kernel
theorem dX2_isPlain_24 : decode cX2_isPlain 24 = .ok (.getfield 117, 3) := by decide +kernel
theorem dX2_isPlain_27 : decode cX2_isPlain 27 = .ok (.iload_n 1, 1) := by decide +kernel
theorem dX2_isPlain_28 : decode cX2_isPlain 28 = .ok (.iaload, 1) := by decide +kernel
theorem dX2_isPlain_29 : decode cX2_isPlain 29 = .ok (.ifCond .eq 5, 3) := by decide +kernel
theorem dX2_isPlain_32 : decode cX2_isPlain 32 = .ok (.iconst 0, 1) := by decide +kernel
theorem dX2_isPlain_33 : decode cX2_isPlain 33 = .ok (.ireturn, 1) := by decide +kernel
theorem dX2_isPlain_34 : decode cX2_isPlain 34 = .ok (.iinc 1 1, 3) := by decide +kernel
theorem dX2_isPlain_37 : decode cX2_isPlain 37 = .ok (.goto (-35), 3) := by decide +kernel
theorem dX2_isPlain_40 : decode cX2_isPlain 40 = .ok (.aload_n 0, 1) := by decide +kernel
theorem dX2_isPlain_41 : decode cX2_isPlain 41 = .ok (.getfield 33, 3) := by decide +kernel
theorem dX2_isPlain_44 : decode cX2_isPlain 44 = .ok (.iconst 0, 1) := by decide +kernel
theorem dX2_isPlain_45 : decode cX2_isPlain 45 = .ok (.aaload, 1) := by decide +kernel
theorem dX2_isPlain_46 : decode cX2_isPlain 46 = .ok (.getfield 70, 3) := by decide +kernel
theorem dX2_isPlain_49 : decode cX2_isPlain 49 = .ok (.getfield 120, 3) := by decide +kernel
theorem dX2_isPlain_52 : decode cX2_isPlain 52 = .ok (.iconst 2, 1) := by decide +kernel
theorem dX2_isPlain_53 : decode cX2_isPlain 53 = .ok (.if_icmp .ne 7, 3) := by decide +kernel
theorem dX2_isPlain_56 : decode cX2_isPlain 56 = .ok (.iconst 1, 1) := by decide +kernel
theorem dX2_isPlain_57 : decode cX2_isPlain 57 = .ok (.goto 4, 3) := by decide +kernel
theorem dX2_isPlain_60 : decode cX2_isPlain 60 = .ok (.iconst 0, 1) := by decide +kernel
theorem dX2_isPlain_61 : decode cX2_isPlain 61 = .ok (.ireturn, 1) := by decide +kernel
set_option maxRecDepth 20000 in
theorem ggX2_isRadical_X3_hasNoFactorTwice : GoodIn wsX2_isRadical wsX3_hasNoFactorTwice := goodIn_r _ [6, 7, 8, 9, 10, 11, 12, 13, 14, 15, 16, 17, 18, 19, 20, 21, 22, 23, 5, 24, 25, 26, 36, 37, 38, 39, 40, 41, 42] (by decide +kernel) (by decide +kernel)
set_option maxRecDepth 20000 in
theorem gX2_isRadical_X3_hasNoFactorTwice : GoodIn wsX2_isRadical (wsV RX2 121 RX3 yX3_hasNoFactorTwice wsX3_hasNoFactorTwice) := goodIn_app (goodIn_of _ (by decide +kernel)) ggX2_isRadical_X3_hasNoFactorTwice
theorem dX2_isRadical_0 : decode cX2_isRadical 0 = .ok (.aload_n 0, 1) := by decide +kernel
theorem dX2_isRadical_1 : decode cX2_isRadical 1 = .ok (.getfield 20, 3) := by decide +kernel
theorem dX2_isRadical_4 : decode cX2_isRadical 4 = .ok (.iconst 0, 1) := by decide +kernel
theorem dX2_isRadical_5 : decode cX2_isRadical 5 = .ok (.aaload, 1) := by decide +kernel
theorem dX2_isRadical_6 : decode cX2_isRadical 6 = .ok (.invokevirtual 121, 3) := by decide +kernel
theorem dX2_isRadical_9 : decode cX2_isRadical 9 = .ok (.ifCond .eq 19, 3) := by decide +kernel
theorem dX2_isRadical_12 : decode cX2_isRadical 12 = .ok (.aload_n 0, 1) := by decide +kernel
theorem dX2_isRadical_13 : decode cX2_isRadical 13 = .ok (.getfield 20, 3) := by decide +kernel
theorem dX2_isRadical_16 : decode cX2_isRadical 16 = .ok (.iconst 1, 1) := by decide +kernel
theorem dX2_isRadical_17 : decode cX2_isRadical 17 = .ok (.aaload, 1) := by decide +kernel
theorem dX2_isRadical_18 : decode cX2_isRadical 18 = .ok (.invokevirtual 121, 3) := by decide +kernel
theorem dX2_isRadical_21 : decode cX2_isRadical 21 = .ok (.ifCond .eq 7, 3) := by decide +kernel
theorem dX2_isRadical_24 : decode cX2_isRadical 24 = .ok (.iconst 1, 1) := by decide +kernel
theorem dX2_isRadical_25 : decode cX2_isRadical 25 = .ok (.goto 4, 3) := by decide +kernel
theorem dX2_isRadical_28 : decode cX2_isRadical 28 = .ok (.iconst 0, 1) := by decide +kernel
theorem dX2_isRadical_29 : decode cX2_isRadical 29 = .ok (.ireturn, 1) := by decide +kernel
set_option maxRecDepth 20000 in
theorem ggX2_countRoots_X3_isZeroAt : GoodIn wsX2_countRoots wsX3_isZeroAt := goodIn_r _ [8, 9, 10, 11, 12, 13, 14, 56, 57, 58, 59, 60, 61, 62] (by decide +kernel) (by decide +kernel)
set_option maxRecDepth 20000 in
theorem gX2_countRoots_X3_isZeroAt : GoodIn wsX2_countRoots (wsV RX2 125 RX3 yX3_isZeroAt wsX3_isZeroAt) := goodIn_app (goodIn_of _ (by decide +kernel)) ggX2_countRoots_X3_isZeroAt
set_option maxRecDepth 20000 in
theorem ggX2_countRoots_X2_findRootsAt : GoodIn wsX2_countRoots wsX2_findRootsAt := goodIn_r _ [19, 2, 3, 1, 20, 21, 4, 5, 6, 7, 8, 9, 10, 11, 12, 13, 14, 22, 23, 24, 25, 26, 27, 28, 29, 30, 31, 32, 33, 34, 35, 36, 37, 38, 39, 49, 50, 51, 52, 53, 54, 55, 40, 41, 42, 43, 44, 45, 46, 47, 48, 56, 57, 58, 59, 60, 61, 62] (by decide +kernel) (by decide +kernel)
set_option maxRecDepth 20000 in
theorem gX2_countRoots_X2_findRootsAt : GoodIn wsX2_countRoots (wsV RX2 128 RX2 yX2_findRootsAt wsX2_findRootsAt) := goodIn_app (goodIn_of _ (by decide +kernel)) ggX2_countRoots_X2_findRootsAt
theorem dX2_countRoots_0 : decode cX2_countRoots 0 = .ok (.aload_n 0, 1) := by decide +kernel
theorem dX2_countRoots_1 : decode cX2_countRoots 1 = .ok (.getfield 41, 3) := by decide +kernel
theorem dX2_countRoots_4 : decode cX2_countRoots 4 = .ok (.ifCond .lt 8, 3) := by decide +kernel
theorem dX2_countRoots_7 : decode cX2_countRoots 7 = .ok (.aload_n 0, 1) := by decide +kernel
theorem dX2_countRoots_8 : decode cX2_countRoots 8 = .ok (.getfield 41, 3) := by decide +kernel
theorem dX2_countRoots_11 : decode cX2_countRoots 11 = .ok (.ireturn, 1) := by decide +kernel
theorem dX2_countRoots_12 : decode cX2_countRoots 12 = .ok (.aload_n 0, 1) := by decide +kernel
theorem dX2_countRoots_13 : decode cX2_countRoots 13 = .ok (.iconst 0, 1) := by decide +kernel
theorem dX2_countRoots_14 : decode cX2_countRoots 14 = .ok (.putfield 41, 3) := by decide +kernel
theorem dX2_countRoots_17 : decode cX2_countRoots 17 = .ok (.iconst 0, 1) := by decide +kernel
theorem dX2_countRoots_18 : decode cX2_countRoots 18 = .ok (.istore_n 2, 1) := by decide +kernel
theorem dX2_countRoots_19 : decode cX2_countRoots 19 = .ok (.iload_n 2, 1) := by decide +kernel
theorem dX2_countRoots_20 : decode cX2_countRoots 20 = .ok (.aload_n 1, 1) := by decide +kernel
theorem dX2_countRoots_21 : decode cX2_countRoots 21 = .ok (.getfield 79, 3) := by decide +kernel
theorem dX2_countRoots_24 : decode cX2_countRoots 24 = .ok (.if_icmp .ge 28, 3) := by decide +kernel
theorem dX2_countRoots_27 : decode cX2_countRoots 27 = .ok (.aload_n 0, 1) := by decide +kernel
theorem dX2_countRoots_28 : decode cX2_countRoots 28 = .ok (.getfield 20, 3) := by decide +kernel
theorem dX2_countRoots_31 : decode cX2_countRoots 31 = .ok (.iconst 0, 1) := by decide +kernel
theorem dX2_countRoots_32 : decode cX2_countRoots 32 = .ok (.aaload, 1) := by decide +kernel
theorem dX2_countRoots_33 : decode cX2_countRoots 33 = .ok (.iload_n 2, 1) := by decide +kernel
theorem dX2_countRoots_34 : decode cX2_countRoots 34 = .ok (.invokevirtual 125, 3) := by decide +kernel
theorem dX2_countRoots_37 : decode cX2_countRoots 37 = .ok (.ifCond .eq 9, 3) := by decide +kernel
theorem dX2_countRoots_40 : decode cX2_countRoots 40 = .ok (.aload_n 0, 1) := by decide +kernel
theorem dX2_countRoots_41 : decode cX2_countRoots 41 = .ok (.aload_n 1, 1) := by decide +kernel
theorem dX2_countRoots_42 : decode cX2_countRoots 42 = .ok (.iload_n 2, 1) := by decide +kernel
theorem dX2_countRoots_43 : decode cX2_countRoots 43 = .ok (.invokevirtual 128, 3) := by decide +kernel
theorem dX2_countRoots_46 : decode cX2_countRoots 46 = .ok (.iinc 2 1, 3) := by decide +kernel
theorem dX2_countRoots_49 : decode cX2_countRoots 49 = .ok (.goto (-30), 3) := by decide +kernel
theorem dX2_countRoots_52 : decode cX2_countRoots 52 = .ok (.aload_n 0, 1) := by decide +kernel
theorem dX2_countRoots_53 : decode cX2_countRoots 53 = .ok (.getfield 41, 3) := by decide +kernel
theorem dX2_countRoots_56 : decode cX2_countRoots 56 = .ok (.ireturn, 1) := by decide +kernel
set_option maxRecDepth 20000 in
theorem ggX2_findRootsAt_X3_isZeroAt : GoodIn wsX2_findRootsAt wsX3_isZeroAt := goodIn_r _ [10, 11, 12, 13, 14, 15, 16, 51, 52, 53, 54, 55, 56, 57] (by decide +kernel) (by decide +kernel)
set_option maxRecDepth 20000 in
theorem gX2_findRootsAt_X3_isZeroAt : GoodIn wsX2_findRootsAt (wsV RX2 125 RX3 yX3_isZeroAt wsX3_isZeroAt) := goodIn_app (goodIn_of _ (by decide +kernel)) ggX2_findRootsAt_X3_isZeroAt
set_option maxRecDepth 20000 in
theorem ggX2_findRootsAt_X7_isZeroAt : GoodIn wsX2_findRootsAt wsX7_isZeroAt := goodIn_r _ [21, 22, 23, 24, 25, 20, 26, 27, 28, 29, 30, 31, 32, 33, 34, 14, 15, 16, 35, 36, 37, 38, 39, 40, 41] (by decide +kernel) (by decide +kernel)
set_option maxRecDepth 20000 in
theorem gX2_findRootsAt_X7_isZeroAt : GoodIn wsX2_findRootsAt (wsV RX2 132 RX7 yX7_isZeroAt wsX7_isZeroAt) := goodIn_app (goodIn_of _ (by decide +kernel)) ggX2_findRootsAt_X7_isZeroAt
theorem dX2_findRootsAt_0 : decode cX2_findRootsAt 0 = .ok (.iconst 0, 1) := by decide +kernel
theorem dX2_findRootsAt_1 : decode cX2_findRootsAt 1 = .ok (.istore_n 3, 1) := by decide +kernel
theorem dX2_findRootsAt_2 : decode cX2_findRootsAt 2 = .ok (.iload_n 3, 1) := by decide +kernel
theorem dX2_findRootsAt_3 : decode cX2_findRootsAt 3 = .ok (.aload_n 1, 1) := by decide +kernel
theorem dX2_findRootsAt_4 : decode cX2_findRootsAt 4 = .ok (.getfield 79, 3) := by decide +kernel
theorem dX2_findRootsAt_7 : decode cX2_findRootsAt 7 = .ok (.if_icmp .ge 93, 3) := by decide +kernel
theorem dX2_findRootsAt_10 : decode cX2_findRootsAt 10 = .ok (.aload_n 0, 1) := by decide +kernel
theorem dX2_findRootsAt_11 : decode cX2_findRootsAt 11 = .ok (.getfield 20, 3) := by decide +kernel
theorem dX2_findRootsAt_14 : decode cX2_findRootsAt 14 = .ok (.iconst 1, 1) := by decide +kernel
theorem dX2_findRootsAt_15 : decode cX2_findRootsAt 15 = .ok (.aaload, 1) := by decide +kernel
theorem dX2_findRootsAt_16 : decode cX2_findRootsAt 16 = .ok (.iload_n 3, 1) := by decide +kernel
theorem dX2_findRootsAt_17 : decode cX2_findRootsAt 17 = .ok (.invokevirtual 125, 3) := by decide +kernel
theorem dX2_findRootsAt_20 : decode cX2_findRootsAt 20 = .ok (.ifCond .eq 27, 3) := by decide +kernel
theorem dX2_findRootsAt_23 : decode cX2_findRootsAt 23 = .ok (.aload_n 1, 1) := by decide +kernel
theorem dX2_findRootsAt_24 : decode cX2_findRootsAt 24 = .ok (.iconst 0, 1) := by decide +kernel
theorem dX2_findRootsAt_25 : decode cX2_findRootsAt 25 = .ok (.iload_n 2, 1) := by decide +kernel
theorem dX2_findRootsAt_26 : decode cX2_findRootsAt 26 = .ok (.iload_n 3, 1) := by decide +kernel
theorem dX2_findRootsAt_27 : decode cX2_findRootsAt 27 = .ok (.invokevirtual 132, 3) := by decide +kernel
theorem dX2_findRootsAt_30 : decode cX2_findRootsAt 30 = .ok (.ifCond .eq 17, 3) := by decide +kernel
theorem dX2_findRootsAt_33 : decode cX2_findRootsAt 33 = .ok (.aload_n 1, 1) := by decide +kernel
theorem dX2_findRootsAt_34 : decode cX2_findRootsAt 34 = .ok (.iconst 1, 1) := by decide +kernel
theorem dX2_findRootsAt_35 : decode cX2_findRootsAt 35 = .ok (.iload_n 2, 1) := by decide +kernel
theorem dX2_findRootsAt_36 : decode cX2_findRootsAt 36 = .ok (.iload_n 3, 1) := by decide +kernel
theorem dX2_findRootsAt_37 : decode cX2_findRootsAt 37 = .ok (.invokevirtual 132, 3) := by decide +kernel
theorem dX2_findRootsAt_40 : decode cX2_findRootsAt 40 = .ok (.ifCond .eq 7, 3) := by decide +kernel
theorem dX2_findRootsAt_43 : decode cX2_findRootsAt 43 = .ok (.iconst 1, 1) := by decide +kernel
theorem dX2_findRootsAt_44 : decode cX2_findRootsAt 44 = .ok (.goto 4, 3) := by decide +kernel
theorem dX2_findRootsAt_47 : decode cX2_findRootsAt 47 = .ok (.iconst 0, 1) := by decide +kernel
theorem dX2_findRootsAt_48 : decode cX2_findRootsAt 48 = .ok (.istore 4, 2) := by decide +kernel
theorem dX2_findRootsAt_50 : decode cX2_findRootsAt 50 = .ok (.iload 4, 2) := by decide +kernel
theorem dX2_findRootsAt_52 : decode cX2_findRootsAt 52 = .ok (.ifCond .eq 42, 3) := by decide +kernel
theorem dX2_findRootsAt_55 : decode cX2_findRootsAt 55 = .ok (.aload_n 0, 1) := by decide +kernel
theorem dX2_findRootsAt_56 : decode cX2_findRootsAt 56 = .ok (.getfield 41, 3) := by decide +kernel
theorem dX2_findRootsAt_59 : decode cX2_findRootsAt 59 = .ok (.bipush 9, 2) := by decide +kernel
theorem dX2_findRootsAt_61 : decode cX2_findRootsAt 61 = .ok (.if_icmp .ge 33, 3) := by decide +kernel
theorem dX2_findRootsAt_64 : decode cX2_findRootsAt 64 = .ok (.aload_n 0, 1) := by decide +kernel
theorem dX2_findRootsAt_65 : decode cX2_findRootsAt 65 = .ok (.getfield 24, 3) := by decide +kernel
theorem dX2_findRootsAt_68 : decode cX2_findRootsAt 68 = .ok (.aload_n 0, 1) := by decide +kernel
theorem dX2_findRootsAt_69 : decode cX2_findRootsAt 69 = .ok (.getfield 41, 3) := by decide +kernel
theorem dX2_findRootsAt_72 : decode cX2_findRootsAt 72 = .ok (.iload_n 2, 1) := by decide +kernel
theorem dX2_findRootsAt_73 : decode cX2_findRootsAt 73 = .ok (.iastore, 1) := by decide +kernel
theorem dX2_findRootsAt_74 : decode cX2_findRootsAt 74 = .ok (.aload_n 0, 1) := by decide +kernel
theorem dX2_findRootsAt_75 : decode cX2_findRootsAt 75 = .ok (.getfield 28, 3) := by decide +kernel
theorem dX2_findRootsAt_78 : decode cX2_findRootsAt 78 = .ok (.aload_n 0, 1) := by decide +kernel
theorem dX2_findRootsAt_79 : decode cX2_findRootsAt 79 = .ok (.getfield 41, 3) := by decide +kernel
theorem dX2_findRootsAt_82 : decode cX2_findRootsAt 82 = .ok (.iload_n 3, 1) := by decide +kernel
theorem dX2_findRootsAt_83 : decode cX2_findRootsAt 83 = .ok (.iastore, 1) := by decide +kernel
theorem dX2_findRootsAt_84 : decode cX2_findRootsAt 84 = .ok (.aload_n 0, 1) := by decide +kernel
theorem dX2_findRootsAt_85 : decode cX2_findRootsAt 85 = .ok (.dup, 1) := by decide +kernel
theorem dX2_findRootsAt_86 : decode cX2_findRootsAt 86 = .ok (.getfield 41, 3) := by decide +kernel
theorem dX2_findRootsAt_89 : decode cX2_findRootsAt 89 = .ok (.iconst 1, 1) := by decide +kernel
theorem dX2_findRootsAt_90 : decode cX2_findRootsAt 90 = .ok (.iadd, 1) := by decide +kernel
theorem dX2_findRootsAt_91 : decode cX2_findRootsAt 91 = .ok (.putfield 41, 3) := by decide +kernel
theorem dX2_findRootsAt_94 : decode cX2_findRootsAt 94 = .ok (.iinc 3 1, 3) := by decide +kernel
theorem dX2_findRootsAt_97 : decode cX2_findRootsAt 97 = .ok (.goto (-95), 3) := by decide +kernel
theorem dX2_findRootsAt_100 : decode cX2_findRootsAt 100 = .ok (.return_, 1) := by decide +kernel
theorem dX3_init_0 : decode cX3_init 0 = .ok (.aload_n 0, 1) := by decide +kernel
theorem dX3_init_1 : decode cX3_init 1 = .ok (.invokespecial 3, 3) := by decide +kernel
theorem dX3_init_4 : decode cX3_init 4 = .ok (.aload_n 0, 1) := by decide +kernel
theorem dX3_init_5 : decode cX3_init 5 = .ok (.bipush 10, 2) := by decide +kernel
theorem dX3_init_7 : decode cX3_init 7 = .ok (.newarray .int, 2) := by decide +kernel
theorem dX3_init_9 : decode cX3_init 9 = .ok (.putfield 9, 3) := by decide +kernel
theorem dX3_init_12 : decode cX3_init 12 = .ok (.aload_n 0, 1) := by decide +kernel
theorem dX3_init_13 : decode cX3_init 13 = .ok (.bipush 9, 2) := by decide +kernel
theorem dX3_init_15 : decode cX3_init 15 = .ok (.newarray .int, 2) := by decide +kernel
theorem dX3_init_17 : decode cX3_init 17 = .ok (.putfield 15, 3) := by decide +kernel
theorem dX3_init_20 : decode cX3_init 20 = .ok (.aload_n 0, 1) := by decide +kernel
theorem dX3_init_21 : decode cX3_init 21 = .ok (.bipush 18, 2) := by decide +kernel
theorem dX3_init_23 : decode cX3_init 23 = .ok (.newarray .int, 2) := by decide +kernel
theorem dX3_init_25 : decode cX3_init 25 = .ok (.putfield 18, 3) := by decide +kernel
theorem dX3_init_28 : decode cX3_init 28 = .ok (.aload_n 0, 1) := by decide +kernel
theorem dX3_init_29 : decode cX3_init 29 = .ok (.bipush 10, 2) := by decide +kernel
theorem dX3_init_31 : decode cX3_init 31 = .ok (.newarray .int, 2) := by decide +kernel
theorem dX3_init_33 : decode cX3_init 33 = .ok (.putfield 21, 3) := by decide +kernel
theorem dX3_init_36 : decode cX3_init 36 = .ok (.aload_n 0, 1) := by decide +kernel
theorem dX3_init_37 : decode cX3_init 37 = .ok (.bipush 10, 2) := by decide +kernel
theorem dX3_init_39 : decode cX3_init 39 = .ok (.newarray .int, 2) := by decide +kernel
theorem dX3_init_41 : decode cX3_init 41 = .ok (.putfield 24, 3) := by decide +kernel
theorem dX3_init_44 : decode cX3_init 44 = .ok (.return_, 1) := by decide +kernel
theorem dX3_readFrom_0 : decode cX3_readFrom 0 = .ok (.aload_n 0, 1) := by decide +kernel
theorem dX3_readFrom_1 : decode cX3_readFrom 1 = .ok (.iload_n 3, 1) := by decide +kernel
theorem dX3_readFrom_2 : decode cX3_readFrom 2 = .ok (.putfield 27, 3) := by decide +kernel
theorem dX3_readFrom_5 : decode cX3_readFrom 5 = .ok (.aload_n 0, 1) := by decide +kernel
theorem dX3_readFrom_6 : decode cX3_readFrom 6 = .ok (.iload_n 2, 1) := by decide +kernel
theorem dX3_readFrom_7 : decode cX3_readFrom 7 = .ok (.bipush 9, 2) := by decide +kernel
theorem dX3_readFrom_9 : decode cX3_readFrom 9 = .ok (.invokestatic 31, 3) := by decide +kernel
theorem dX3_readFrom_12 : decode cX3_readFrom 12 = .ok (.putfield 37, 3) := by decide +kernel
theorem dX3_readFrom_15 : decode cX3_readFrom 15 = .ok (.iconst 0, 1) := by decide +kernel
theorem dX3_readFrom_16 : decode cX3_readFrom 16 = .ok (.istore 4, 2) := by decide +kernel
theorem dX3_readFrom_18 : decode cX3_readFrom 18 = .ok (.iload 4, 2) := by decide +kernel
theorem dX3_readFrom_20 : decode cX3_readFrom 20 = .ok (.aload_n 0, 1) := by decide +kernel
theorem dX3_readFrom_21 : decode cX3_readFrom 21 = .ok (.getfield 37, 3) := by decide +kernel
theorem dX3_readFrom_24 : decode cX3_readFrom 24 = .ok (.if_icmp .ge 25, 3) := by decide +kernel
theorem dX3_readFrom_27 : decode cX3_readFrom 27 = .ok (.aload_n 0, 1) := by decide +kernel
theorem dX3_readFrom_28 : decode cX3_readFrom 28 = .ok (.getfield 9, 3) := by decide +kernel
theorem dX3_readFrom_31 : decode cX3_readFrom 31 = .ok (.iload 4, 2) := by decide +kernel
theorem dX3_readFrom_33 : decode cX3_readFrom 33 = .ok (.aload_n 1, 1) := by decide +kernel
theorem dX3_readFrom_34 : decode cX3_readFrom 34 = .ok (.getfield 40, 3) := by decide +kernel
theorem dX3_readFrom_37 : decode cX3_readFrom 37 = .ok (.iconst 0, 1) := by decide +kernel
theorem dX3_readFrom_38 : decode cX3_readFrom 38 = .ok (.aaload, 1) := by decide +kernel
theorem dX3_readFrom_39 : decode cX3_readFrom 39 = .ok (.iload 4, 2) := by decide +kernel
theorem dX3_readFrom_41 : decode cX3_readFrom 41 = .ok (.iaload, 1) := by decide +kernel
theorem dX3_readFrom_42 : decode cX3_readFrom 42 = .ok (.iastore, 1) := by decide +kernel
theorem dX3_readFrom_43 : decode cX3_readFrom 43 = .ok (.iinc 4 1, 3) := by decide +kernel
theorem dX3_readFrom_46 : decode cX3_readFrom 46 = .ok (.goto (-28), 3) := by decide +kernel
theorem dX3_readFrom_49 : decode cX3_readFrom 49 = .ok (.aload_n 0, 1) := by decide +kernel
theorem dX3_readFrom_50 : decode cX3_readFrom 50 = .ok (.getfield 9, 3) := by decide +kernel
theorem dX3_readFrom_53 : decode cX3_readFrom 53 = .ok (.aload_n 0, 1) := by decide +kernel
theorem dX3_readFrom_54 : decode cX3_readFrom 54 = .ok (.getfield 37, 3) := by decide +kernel
theorem dX3_readFrom_57 : decode cX3_readFrom 57 = .ok (.iconst 1, 1) := by decide +kernel
theorem dX3_readFrom_58 : decode cX3_readFrom 58 = .ok (.iastore, 1) := by decide +kernel
theorem dX3_readFrom_59 : decode cX3_readFrom 59 = .ok (.return_, 1) := by decide +kernel
set_option maxRecDepth 20000 in
theorem ggX3_isZeroAt_X11_leftOver : GoodIn wsX3_isZeroAt wsX11_leftOver := goodIn_r _ [6] (by decide +kernel) (by decide +kernel)
set_option maxRecDepth 20000 in
theorem gX3_isZeroAt_X11_leftOver_n46 : GoodIn wsX3_isZeroAt (wsX11_leftOver) := ggX3_isZeroAt_X11_leftOver
theorem dX3_isZeroAt_0 : decode cX3_isZeroAt 0 = .ok (.iconst 0, 1) := by decide +kernel
theorem dX3_isZeroAt_1 : decode cX3_isZeroAt 1 = .ok (.istore_n 2, 1) := by decide +kernel
theorem dX3_isZeroAt_2 : decode cX3_isZeroAt 2 = .ok (.aload_n 0, 1) := by decide +kernel
theorem dX3_isZeroAt_3 : decode cX3_isZeroAt 3 = .ok (.getfield 37, 3) := by decide +kernel
theorem dX3_isZeroAt_6 : decode cX3_isZeroAt 6 = .ok (.istore_n 3, 1) := by decide +kernel
theorem dX3_isZeroAt_7 : decode cX3_isZeroAt 7 = .ok (.iload_n 3, 1) := by decide +kernel
theorem dX3_isZeroAt_8 : decode cX3_isZeroAt 8 = .ok (.ifCond .lt 27, 3) := by decide +kernel
theorem dX3_isZeroAt_11 : decode cX3_isZeroAt 11 = .ok (.iload_n 2, 1) := by decide +kernel
theorem dX3_isZeroAt_12 : decode cX3_isZeroAt 12 = .ok (.iload_n 1, 1) := by decide +kernel
theorem dX3_isZeroAt_13 : decode cX3_isZeroAt 13 = .ok (.imul, 1) := by decide +kernel
theorem dX3_isZeroAt_14 : decode cX3_isZeroAt 14 = .ok (.aload_n 0, 1) := by decide +kernel
theorem dX3_isZeroAt_15 : decode cX3_isZeroAt 15 = .ok (.getfield 9, 3) := by decide +kernel
theorem dX3_isZeroAt_18 : decode cX3_isZeroAt 18 = .ok (.iload_n 3, 1) := by decide +kernel
theorem dX3_isZeroAt_19 : decode cX3_isZeroAt 19 = .ok (.iaload, 1) := by decide +kernel
theorem dX3_isZeroAt_20 : decode cX3_isZeroAt 20 = .ok (.iadd, 1) := by decide +kernel
theorem dX3_isZeroAt_21 : decode cX3_isZeroAt 21 = .ok (.aload_n 0, 1) := by decide +kernel
theorem dX3_isZeroAt_22 : decode cX3_isZeroAt 22 = .ok (.getfield 27, 3) := by decide +kernel
theorem dX3_isZeroAt_25 : decode cX3_isZeroAt 25 = .ok (.invokestatic 46, 3) := by decide +kernel
theorem dX3_isZeroAt_28 : decode cX3_isZeroAt 28 = .ok (.istore_n 2, 1) := by decide +kernel
theorem dX3_isZeroAt_29 : decode cX3_isZeroAt 29 = .ok (.iinc 3 (-1), 3) := by decide +kernel
theorem dX3_isZeroAt_32 : decode cX3_isZeroAt 32 = .ok (.goto (-25), 3) := by decide +kernel
theorem dX3_isZeroAt_35 : decode cX3_isZeroAt 35 = .ok (.iload_n 2, 1) := by decide +kernel
theorem dX3_isZeroAt_36 : decode cX3_isZeroAt 36 = .ok (.ifCond .ne 7, 3) := by decide +kernel
theorem dX3_isZeroAt_39 : decode cX3_isZeroAt 39 = .ok (.iconst 1, 1) := by decide +kernel
theorem dX3_isZeroAt_40 : decode cX3_isZeroAt 40 = .ok (.goto 4, 3) := by decide +kernel
theorem dX3_isZeroAt_43 : decode cX3_isZeroAt 43 = .ok (.iconst 0, 1) := by decide +kernel
theorem dX3_isZeroAt_44 : decode cX3_isZeroAt 44 = .ok (.ireturn, 1) := by decide +kernel
set_option maxRecDepth 20000 in
theorem ggX3_raise_X11_clear : GoodIn wsX3_raise wsX11_clear := goodIn_r _ [4] (by decide +kernel) (by decide +kernel)
set_option maxRecDepth 20000 in
theorem gX3_raise_X11_clear_n49 : GoodIn wsX3_raise (wsX11_clear) := ggX3_raise_X11_clear
set_option maxRecDepth 20000 in
theorem ggX3_raise_X3_squareRaised : GoodIn wsX3_raise wsX3_squareRaised := goodIn_r _ [9, 10, 11, 1, 12, 13, 2, 3, 4, 14, 15, 20, 21, 22, 23, 24, 25, 26] (by decide +kernel) (by decide +kernel)
set_option maxRecDepth 20000 in
theorem gX3_raise_X3_squareRaised : GoodIn wsX3_raise (wsV RX3 53 RX3 yX3_squareRaised wsX3_squareRaised) := goodIn_app (goodIn_of _ (by decide +kernel)) ggX3_raise_X3_squareRaised
set_option maxRecDepth 20000 in
theorem ggX3_raise_X3_shiftRaised : GoodIn wsX3_raise wsX3_shiftRaised := goodIn_r _ [19, 11, 1, 13, 12, 14, 3, 15, 20, 21, 22, 23, 24, 25, 26] (by decide +kernel) (by decide +kernel)
set_option maxRecDepth 20000 in
theorem gX3_raise_X3_shiftRaised : GoodIn wsX3_raise (wsV RX3 56 RX3 yX3_shiftRaised wsX3_shiftRaised) := goodIn_app (goodIn_of _ (by decide +kernel)) ggX3_raise_X3_shiftRaised
theorem dX3_raise_0 : decode cX3_raise 0 = .ok (.aload_n 0, 1) := by decide +kernel
theorem dX3_raise_1 : decode cX3_raise 1 = .ok (.getfield 15, 3) := by decide +kernel
theorem dX3_raise_4 : decode cX3_raise 4 = .ok (.invokestatic 49, 3) := by decide +kernel
theorem dX3_raise_7 : decode cX3_raise 7 = .ok (.aload_n 0, 1) := by decide +kernel
theorem dX3_raise_8 : decode cX3_raise 8 = .ok (.getfield 15, 3) := by decide +kernel
theorem dX3_raise_11 : decode cX3_raise 11 = .ok (.iconst 0, 1) := by decide +kernel
theorem dX3_raise_12 : decode cX3_raise 12 = .ok (.iconst 1, 1) := by decide +kernel
theorem dX3_raise_13 : decode cX3_raise 13 = .ok (.iastore, 1) := by decide +kernel
theorem dX3_raise_14 : decode cX3_raise 14 = .ok (.iconst 0, 1) := by decide +kernel
theorem dX3_raise_15 : decode cX3_raise 15 = .ok (.istore_n 2, 1) := by decide +kernel
theorem dX3_raise_16 : decode cX3_raise 16 = .ok (.bipush 30, 2) := by decide +kernel
theorem dX3_raise_18 : decode cX3_raise 18 = .ok (.istore_n 3, 1) := by decide +kernel
theorem dX3_raise_19 : decode cX3_raise 19 = .ok (.iload_n 3, 1) := by decide +kernel
theorem dX3_raise_20 : decode cX3_raise 20 = .ok (.ifCond .lt 32, 3) := by decide +kernel
theorem dX3_raise_23 : decode cX3_raise 23 = .ok (.iload_n 2, 1) := by decide +kernel
theorem dX3_raise_24 : decode cX3_raise 24 = .ok (.ifCond .eq 7, 3) := by decide +kernel
theorem dX3_raise_27 : decode cX3_raise 27 = .ok (.aload_n 0, 1) := by decide +kernel
theorem dX3_raise_28 : decode cX3_raise 28 = .ok (.invokevirtual 53, 3) := by decide +kernel
theorem dX3_raise_31 : decode cX3_raise 31 = .ok (.iload_n 1, 1) := by decide +kernel
theorem dX3_raise_32 : decode cX3_raise 32 = .ok (.iload_n 3, 1) := by decide +kernel
theorem dX3_raise_33 : decode cX3_raise 33 = .ok (.ishr, 1) := by decide +kernel
theorem dX3_raise_34 : decode cX3_raise 34 = .ok (.iconst 1, 1) := by decide +kernel
theorem dX3_raise_35 : decode cX3_raise 35 = .ok (.iand, 1) := by decide +kernel
theorem dX3_raise_36 : decode cX3_raise 36 = .ok (.iconst 1, 1) := by decide +kernel
theorem dX3_raise_37 : decode cX3_raise 37 = .ok (.if_icmp .ne 9, 3) := by decide +kernel
theorem dX3_raise_40 : decode cX3_raise 40 = .ok (.iconst 1, 1) := by decide +kernel
theorem dX3_raise_41 : decode cX3_raise 41 = .ok (.istore_n 2, 1) := by decide +kernel
theorem dX3_raise_42 : decode cX3_raise 42 = .ok (.aload_n 0, 1) := by decide +kernel
theorem dX3_raise_43 : decode cX3_raise 43 = .ok (.invokevirtual 56, 3) := by decide +kernel
theorem dX3_raise_46 : decode cX3_raise 46 = .ok (.iinc 3 (-1), 3) := by decide +kernel
theorem dX3_raise_49 : decode cX3_raise 49 = .ok (.goto (-30), 3) := by decide +kernel
theorem dX3_raise_52 : decode cX3_raise 52 = .ok (.return_, 1) := by decide +kernel
set_option maxRecDepth 20000 in
theorem ggX3_squareRaised_X11_clear : GoodIn wsX3_squareRaised wsX11_clear := goodIn_r _ [8] (by decide +kernel) (by decide +kernel)
set_option maxRecDepth 20000 in
theorem gX3_squareRaised_X11_clear_n49 : GoodIn wsX3_squareRaised (wsX11_clear) := ggX3_squareRaised_X11_clear
set_option maxRecDepth 20000 in
theorem ggX3_squareRaised_X11_leftOver : GoodIn wsX3_squareRaised wsX11_leftOver := goodIn_r _ [10] (by decide +kernel) (by decide +kernel)
set_option maxRecDepth 20000 in
theorem gX3_squareRaised_X11_leftOver_n46 : GoodIn wsX3_squareRaised (wsX11_leftOver) := ggX3_squareRaised_X11_leftOver
theorem dX3_squareRaised_0 : decode cX3_squareRaised 0 = .ok (.aload_n 0, 1) := by decide +kernel
theorem dX3_squareRaised_1 : decode cX3_squareRaised 1 = .ok (.getfield 18, 3) := by decide +kernel
theorem dX3_squareRaised_4 : decode cX3_squareRaised 4 = .ok (.invokestatic 49, 3) := by decide +kernel
theorem dX3_squareRaised_7 : decode cX3_squareRaised 7 = .ok (.iconst 0, 1) := by decide +kernel
theorem dX3_squareRaised_8 : decode cX3_squareRaised 8 = .ok (.istore_n 1, 1) := by decide +kernel
theorem dX3_squareRaised_9 : decode cX3_squareRaised 9 = .ok (.iload_n 1, 1) := by decide +kernel
theorem dX3_squareRaised_10 : decode cX3_squareRaised 10 = .ok (.aload_n 0, 1) := by decide +kernel
theorem dX3_squareRaised_11 : decode cX3_squareRaised 11 = .ok (.getfield 37, 3) := by decide +kernel
theorem dX3_squareRaised_14 : decode cX3_squareRaised 14 = .ok (.if_icmp .ge 62, 3) := by decide +kernel
theorem dX3_squareRaised_17 : decode cX3_squareRaised 17 = .ok (.iconst 0, 1) := by decide +kernel
theorem dX3_squareRaised_18 : decode cX3_squareRaised 18 = .ok (.istore_n 2, 1) := by decide +kernel
theorem dX3_squareRaised_19 : decode cX3_squareRaised 19 = .ok (.iload_n 2, 1) := by decide +kernel
theorem dX3_squareRaised_20 : decode cX3_squareRaised 20 = .ok (.aload_n 0, 1) := by decide +kernel
theorem dX3_squareRaised_21 : decode cX3_squareRaised 21 = .ok (.getfield 37, 3) := by decide +kernel
theorem dX3_squareRaised_24 : decode cX3_squareRaised 24 = .ok (.if_icmp .ge 46, 3) := by decide +kernel
theorem dX3_squareRaised_27 : decode cX3_squareRaised 27 = .ok (.aload_n 0, 1) := by decide +kernel
theorem dX3_squareRaised_28 : decode cX3_squareRaised 28 = .ok (.getfield 18, 3) := by decide +kernel
theorem dX3_squareRaised_31 : decode cX3_squareRaised 31 = .ok (.iload_n 1, 1) := by decide +kernel
theorem dX3_squareRaised_32 : decode cX3_squareRaised 32 = .ok (.iload_n 2, 1) := by decide +kernel
theorem dX3_squareRaised_33 : decode cX3_squareRaised 33 = .ok (.iadd, 1) := by decide +kernel
theorem dX3_squareRaised_34 : decode cX3_squareRaised 34 = .ok (.aload_n 0, 1) := by decide +kernel
theorem dX3_squareRaised_35 : decode cX3_squareRaised 35 = .ok (.getfield 18, 3) := by decide +kernel
theorem dX3_squareRaised_38 : decode cX3_squareRaised 38 = .ok (.iload_n 1, 1) := by decide +kernel
theorem dX3_squareRaised_39 : decode cX3_squareRaised 39 = .ok (.iload_n 2, 1) := by decide +kernel
theorem dX3_squareRaised_40 : decode cX3_squareRaised 40 = .ok (.iadd, 1) := by decide +kernel
theorem dX3_squareRaised_41 : decode cX3_squareRaised 41 = .ok (.iaload, 1) := by decide +kernel
theorem dX3_squareRaised_42 : decode cX3_squareRaised 42 = .ok (.aload_n 0, 1) := by decide +kernel
theorem dX3_squareRaised_43 : decode cX3_squareRaised 43 = .ok (.getfield 15, 3) := by decide +kernel
theorem dX3_squareRaised_46 : decode cX3_squareRaised 46 = .ok (.iload_n 1, 1) := by decide +kernel
theorem dX3_squareRaised_47 : decode cX3_squareRaised 47 = .ok (.iaload, 1) := by decide +kernel
theorem dX3_squareRaised_48 : decode cX3_squareRaised 48 = .ok (.aload_n 0, 1) := by decide +kernel
theorem dX3_squareRaised_49 : decode cX3_squareRaised 49 = .ok (.getfield 15, 3) := by decide +kernel
theorem dX3_squareRaised_52 : decode cX3_squareRaised 52 = .ok (.iload_n 2, 1) := by decide +kernel
theorem dX3_squareRaised_53 : decode cX3_squareRaised 53 = .ok (.iaload, 1) := by decide +kernel
theorem dX3_squareRaised_54 : decode cX3_squareRaised 54 = .ok (.imul, 1) := by decide +kernel
theorem dX3_squareRaised_55 : decode cX3_squareRaised 55 = .ok (.iadd, 1) := by decide +kernel
theorem dX3_squareRaised_56 : decode cX3_squareRaised 56 = .ok (.aload_n 0, 1) := by decide +kernel
theorem dX3_squareRaised_57 : decode cX3_squareRaised 57 = .ok (.getfield 27, 3) := by decide +kernel
theorem dX3_squareRaised_60 : decode cX3_squareRaised 60 = .ok (.invokestatic 46, 3) := by decide +kernel
theorem dX3_squareRaised_63 : decode cX3_squareRaised 63 = .ok (.iastore, 1) := by decide +kernel
theorem dX3_squareRaised_64 : decode cX3_squareRaised 64 = .ok (.iinc 2 1, 3) := by decide +kernel
theorem dX3_squareRaised_67 : decode cX3_squareRaised 67 = .ok (.goto (-48), 3) := by decide +kernel
theorem dX3_squareRaised_70 : decode cX3_squareRaised 70 = .ok (.iinc 1 1, 3) := by decide +kernel
theorem dX3_squareRaised_73 : decode cX3_squareRaised 73 = .ok (.goto (-64), 3) := by decide +kernel
theorem dX3_squareRaised_76 : decode cX3_squareRaised 76 = .ok (.iconst 2, 1) := by decide +kernel
theorem dX3_squareRaised_77 : decode cX3_squareRaised 77 = .ok (.aload_n 0, 1) := by decide +kernel
theorem dX3_squareRaised_78 : decode cX3_squareRaised 78 = .ok (.getfield 37, 3) := by decide +kernel
theorem dX3_squareRaised_81 : decode cX3_squareRaised 81 = .ok (.imul, 1) := by decide +kernel
theorem dX3_squareRaised_82 : decode cX3_squareRaised 82 = .ok (.iconst 2, 1) := by decide +kernel
theorem dX3_squareRaised_83 : decode cX3_squareRaised 83 = .ok (.isub, 1) := by decide +kernel
theorem dX3_squareRaised_84 : decode cX3_squareRaised 84 = .ok (.istore_n 1, 1) := by decide +kernel
theorem dX3_squareRaised_85 : decode cX3_squareRaised 85 = .ok (.iload_n 1, 1) := by decide +kernel
theorem dX3_squareRaised_86 : decode cX3_squareRaised 86 = .ok (.aload_n 0, 1) := by decide +kernel
theorem dX3_squareRaised_87 : decode cX3_squareRaised 87 = .ok (.getfield 37, 3) := by decide +kernel
theorem dX3_squareRaised_90 : decode cX3_squareRaised 90 = .ok (.if_icmp .lt 72, 3) := by decide +kernel
theorem dX3_squareRaised_93 : decode cX3_squareRaised 93 = .ok (.iconst 0, 1) := by decide +kernel
theorem dX3_squareRaised_94 : decode cX3_squareRaised 94 = .ok (.istore_n 2, 1) := by decide +kernel
theorem dX3_squareRaised_95 : decode cX3_squareRaised 95 = .ok (.iload_n 2, 1) := by decide +kernel
theorem dX3_squareRaised_96 : decode cX3_squareRaised 96 = .ok (.aload_n 0, 1) := by decide +kernel
theorem dX3_squareRaised_97 : decode cX3_squareRaised 97 = .ok (.getfield 37, 3) := by decide +kernel
theorem dX3_squareRaised_100 : decode cX3_squareRaised 100 = .ok (.if_icmp .ge 56, 3) := by decide +kernel
theorem dX3_squareRaised_103 : decode cX3_squareRaised 103 = .ok (.aload_n 0, 1) := by decide +kernel
theorem dX3_squareRaised_104 : decode cX3_squareRaised 104 = .ok (.getfield 18, 3) := by decide +kernel
theorem dX3_squareRaised_107 : decode cX3_squareRaised 107 = .ok (.iload_n 1, 1) := by decide +kernel
theorem dX3_squareRaised_108 : decode cX3_squareRaised 108 = .ok (.aload_n 0, 1) := by decide +kernel
theorem dX3_squareRaised_109 : decode cX3_squareRaised 109 = .ok (.getfield 37, 3) := by decide +kernel
theorem dX3_squareRaised_112 : decode cX3_squareRaised 112 = .ok (.isub, 1) := by decide +kernel
theorem dX3_squareRaised_113 : decode cX3_squareRaised 113 = .ok (.iload_n 2, 1) := by decide +kernel
theorem dX3_squareRaised_114 : decode cX3_squareRaised 114 = .ok (.iadd, 1) := by decide +kernel
theorem dX3_squareRaised_115 : decode cX3_squareRaised 115 = .ok (.aload_n 0, 1) := by decide +kernel
theorem dX3_squareRaised_116 : decode cX3_squareRaised 116 = .ok (.getfield 18, 3) := by decide +kernel
theorem dX3_squareRaised_119 : decode cX3_squareRaised 119 = .ok (.iload_n 1, 1) := by decide +kernel
theorem dX3_squareRaised_120 : decode cX3_squareRaised 120 = .ok (.aload_n 0, 1) := by decide +kernel
theorem dX3_squareRaised_121 : decode cX3_squareRaised 121 = .ok (.getfield 37, 3) := by decide +kernel
theorem dX3_squareRaised_124 : decode cX3_squareRaised 124 = .ok (.isub, 1) := by decide +kernel
theorem dX3_squareRaised_125 : decode cX3_squareRaised 125 = .ok (.iload_n 2, 1) := by decide +kernel
theorem dX3_squareRaised_126 : decode cX3_squareRaised 126 = .ok (.iadd, 1) := by decide +kernel
theorem dX3_squareRaised_127 : decode cX3_squareRaised 127 = .ok (.iaload, 1) := by decide +kernel
theorem dX3_squareRaised_128 : decode cX3_squareRaised 128 = .ok (.aload_n 0, 1) := by decide +kernel
theorem dX3_squareRaised_129 : decode cX3_squareRaised 129 = .ok (.getfield 18, 3) := by decide +kernel
theorem dX3_squareRaised_132 : decode cX3_squareRaised 132 = .ok (.iload_n 1, 1) := by decide +kernel
theorem dX3_squareRaised_133 : decode cX3_squareRaised 133 = .ok (.iaload, 1) := by decide +kernel
theorem dX3_squareRaised_134 : decode cX3_squareRaised 134 = .ok (.aload_n 0, 1) := by decide +kernel
theorem dX3_squareRaised_135 : decode cX3_squareRaised 135 = .ok (.getfield 9, 3) := by decide +kernel
theorem dX3_squareRaised_138 : decode cX3_squareRaised 138 = .ok (.iload_n 2, 1) := by decide +kernel
theorem dX3_squareRaised_139 : decode cX3_squareRaised 139 = .ok (.iaload, 1) := by decide +kernel
theorem dX3_squareRaised_140 : decode cX3_squareRaised 140 = .ok (.imul, 1) := by decide +kernel
theorem dX3_squareRaised_141 : decode cX3_squareRaised 141 = .ok (.isub, 1) := by decide +kernel
theorem dX3_squareRaised_142 : decode cX3_squareRaised 142 = .ok (.aload_n 0, 1) := by decide +kernel
theorem dX3_squareRaised_143 : decode cX3_squareRaised 143 = .ok (.getfield 27, 3) := by decide +kernel
theorem dX3_squareRaised_146 : decode cX3_squareRaised 146 = .ok (.invokestatic 46, 3) := by decide +kernel
theorem dX3_squareRaised_149 : decode cX3_squareRaised 149 = .ok (.iastore, 1) := by decide +kernel
theorem dX3_squareRaised_150 : decode cX3_squareRaised 150 = .ok (.iinc 2 1, 3) := by decide +kernel
theorem dX3_squareRaised_153 : decode cX3_squareRaised 153 = .ok (.goto (-58), 3) := by decide +kernel
theorem dX3_squareRaised_156 : decode cX3_squareRaised 156 = .ok (.iinc 1 (-1), 3) := by decide +kernel
theorem dX3_squareRaised_159 : decode cX3_squareRaised 159 = .ok (.goto (-74), 3) := by decide +kernel
theorem dX3_squareRaised_162 : decode cX3_squareRaised 162 = .ok (.iconst 0, 1) := by decide +kernel
theorem dX3_squareRaised_163 : decode cX3_squareRaised 163 = .ok (.istore_n 1, 1) := by decide +kernel
theorem dX3_squareRaised_164 : decode cX3_squareRaised 164 = .ok (.iload_n 1, 1) := by decide +kernel
theorem dX3_squareRaised_165 : decode cX3_squareRaised 165 = .ok (.aload_n 0, 1) := by decide +kernel
theorem dX3_squareRaised_166 : decode cX3_squareRaised 166 = .ok (.getfield 37, 3) := by decide +kernel
theorem dX3_squareRaised_169 : decode cX3_squareRaised 169 = .ok (.if_icmp .ge 21, 3) := by decide +kernel
theorem dX3_squareRaised_172 : decode cX3_squareRaised 172 = .ok (.aload_n 0, 1) := by decide +kernel
theorem dX3_squareRaised_173 : decode cX3_squareRaised 173 = .ok (.getfield 15, 3) := by decide +kernel
theorem dX3_squareRaised_176 : decode cX3_squareRaised 176 = .ok (.iload_n 1, 1) := by decide +kernel
theorem dX3_squareRaised_177 : decode cX3_squareRaised 177 = .ok (.aload_n 0, 1) := by decide +kernel
theorem dX3_squareRaised_178 : decode cX3_squareRaised 178 = .ok (.getfield 18, 3) := by decide +kernel
theorem dX3_squareRaised_181 : decode cX3_squareRaised 181 = .ok (.iload_n 1, 1) := by decide +kernel
theorem dX3_squareRaised_182 : decode cX3_squareRaised 182 = .ok (.iaload, 1) := by decide +kernel
theorem dX3_squareRaised_183 : decode cX3_squareRaised 183 = .ok (.iastore, 1) := by decide +kernel
theorem dX3_squareRaised_184 : decode cX3_squareRaised 184 = .ok (.iinc 1 1, 3) := by decide +kernel
theorem dX3_squareRaised_187 : decode cX3_squareRaised 187 = .ok (.goto (-23), 3) := by decide +kernel
theorem dX3_squareRaised_190 : decode cX3_squareRaised 190 = .ok (.return_, 1) := by decide +kernel
set_option maxRecDepth 20000 in
theorem ggX3_shiftRaised_X11_leftOver : GoodIn wsX3_shiftRaised wsX11_leftOver := goodIn_r _ [7] (by decide +kernel) (by decide +kernel)
set_option maxRecDepth 20000 in
theorem gX3_shiftRaised_X11_leftOver_n46 : GoodIn wsX3_shiftRaised (wsX11_leftOver) := ggX3_shiftRaised_X11_leftOver
theorem dX3_shiftRaised_0 : decode cX3_shiftRaised 0 = .ok (.aload_n 0, 1) := by decide +kernel
theorem dX3_shiftRaised_1 : decode cX3_shiftRaised 1 = .ok (.getfield 37, 3) := by decide +kernel
theorem dX3_shiftRaised_4 : decode cX3_shiftRaised 4 = .ok (.iconst 1, 1) := by decide +kernel
theorem dX3_shiftRaised_5 : decode cX3_shiftRaised 5 = .ok (.if_icmp .ge 4, 3) := by decide +kernel
theorem dX3_shiftRaised_8 : decode cX3_shiftRaised 8 = .ok (.return_, 1) := by decide +kernel
theorem dX3_shiftRaised_9 : decode cX3_shiftRaised 9 = .ok (.aload_n 0, 1) := by decide +kernel
theorem dX3_shiftRaised_10 : decode cX3_shiftRaised 10 = .ok (.getfield 15, 3) := by decide +kernel
theorem dX3_shiftRaised_13 : decode cX3_shiftRaised 13 = .ok (.aload_n 0, 1) := by decide +kernel
theorem dX3_shiftRaised_14 : decode cX3_shiftRaised 14 = .ok (.getfield 37, 3) := by decide +kernel
theorem dX3_shiftRaised_17 : decode cX3_shiftRaised 17 = .ok (.iconst 1, 1) := by decide +kernel
theorem dX3_shiftRaised_18 : decode cX3_shiftRaised 18 = .ok (.isub, 1) := by decide +kernel
theorem dX3_shiftRaised_19 : decode cX3_shiftRaised 19 = .ok (.iaload, 1) := by decide +kernel
theorem dX3_shiftRaised_20 : decode cX3_shiftRaised 20 = .ok (.istore_n 1, 1) := by decide +kernel
theorem dX3_shiftRaised_21 : decode cX3_shiftRaised 21 = .ok (.aload_n 0, 1) := by decide +kernel
theorem dX3_shiftRaised_22 : decode cX3_shiftRaised 22 = .ok (.getfield 37, 3) := by decide +kernel
theorem dX3_shiftRaised_25 : decode cX3_shiftRaised 25 = .ok (.iconst 1, 1) := by decide +kernel
theorem dX3_shiftRaised_26 : decode cX3_shiftRaised 26 = .ok (.isub, 1) := by decide +kernel
theorem dX3_shiftRaised_27 : decode cX3_shiftRaised 27 = .ok (.istore_n 2, 1) := by decide +kernel
theorem dX3_shiftRaised_28 : decode cX3_shiftRaised 28 = .ok (.iload_n 2, 1) := by decide +kernel
theorem dX3_shiftRaised_29 : decode cX3_shiftRaised 29 = .ok (.ifCond .le 39, 3) := by decide +kernel
theorem dX3_shiftRaised_32 : decode cX3_shiftRaised 32 = .ok (.aload_n 0, 1) := by decide +kernel
theorem dX3_shiftRaised_33 : decode cX3_shiftRaised 33 = .ok (.getfield 15, 3) := by decide +kernel
theorem dX3_shiftRaised_36 : decode cX3_shiftRaised 36 = .ok (.iload_n 2, 1) := by decide +kernel
theorem dX3_shiftRaised_37 : decode cX3_shiftRaised 37 = .ok (.aload_n 0, 1) := by decide +kernel
theorem dX3_shiftRaised_38 : decode cX3_shiftRaised 38 = .ok (.getfield 15, 3) := by decide +kernel
theorem dX3_shiftRaised_41 : decode cX3_shiftRaised 41 = .ok (.iload_n 2, 1) := by decide +kernel
theorem dX3_shiftRaised_42 : decode cX3_shiftRaised 42 = .ok (.iconst 1, 1) := by decide +kernel
theorem dX3_shiftRaised_43 : decode cX3_shiftRaised 43 = .ok (.isub, 1) := by decide +kernel
theorem dX3_shiftRaised_44 : decode cX3_shiftRaised 44 = .ok (.iaload, 1) := by decide +kernel
theorem dX3_shiftRaised_45 : decode cX3_shiftRaised 45 = .ok (.iload_n 1, 1) := by decide +kernel
theorem dX3_shiftRaised_46 : decode cX3_shiftRaised 46 = .ok (.aload_n 0, 1) := by decide +kernel
theorem dX3_shiftRaised_47 : decode cX3_shiftRaised 47 = .ok (.getfield 9, 3) := by decide +kernel
theorem dX3_shiftRaised_50 : decode cX3_shiftRaised 50 = .ok (.iload_n 2, 1) := by decide +kernel
theorem dX3_shiftRaised_51 : decode cX3_shiftRaised 51 = .ok (.iaload, 1) := by decide +kernel
theorem dX3_shiftRaised_52 : decode cX3_shiftRaised 52 = .ok (.imul, 1) := by decide +kernel
theorem dX3_shiftRaised_53 : decode cX3_shiftRaised 53 = .ok (.isub, 1) := by decide +kernel
theorem dX3_shiftRaised_54 : decode cX3_shiftRaised 54 = .ok (.aload_n 0, 1) := by decide +kernel
theorem dX3_shiftRaised_55 : decode cX3_shiftRaised 55 = .ok (.getfield 27, 3) := by decide +kernel
theorem dX3_shiftRaised_58 : decode cX3_shiftRaised 58 = .ok (.invokestatic 46, 3) := by decide +kernel
theorem dX3_shiftRaised_61 : decode cX3_shiftRaised 61 = .ok (.iastore, 1) := by decide +kernel
theorem dX3_shiftRaised_62 : decode cX3_shiftRaised 62 = .ok (.iinc 2 (-1), 3) := by decide +kernel
theorem dX3_shiftRaised_65 : decode cX3_shiftRaised 65 = .ok (.goto (-37), 3) := by decide +kernel
theorem dX3_shiftRaised_68 : decode cX3_shiftRaised 68 = .ok (.aload_n 0, 1) := by decide +kernel
theorem dX3_shiftRaised_69 : decode cX3_shiftRaised 69 = .ok (.getfield 15, 3) := by decide +kernel
theorem dX3_shiftRaised_72 : decode cX3_shiftRaised 72 = .ok (.iconst 0, 1) := by decide +kernel
theorem dX3_shiftRaised_73 : decode cX3_shiftRaised 73 = .ok (.iload_n 1, 1) := by decide +kernel
theorem dX3_shiftRaised_74 : decode cX3_shiftRaised 74 = .ok (.ineg, 1) := by decide +kernel
theorem dX3_shiftRaised_75 : decode cX3_shiftRaised 75 = .ok (.aload_n 0, 1) := by decide +kernel
theorem dX3_shiftRaised_76 : decode cX3_shiftRaised 76 = .ok (.getfield 9, 3) := by decide +kernel
theorem dX3_shiftRaised_79 : decode cX3_shiftRaised 79 = .ok (.iconst 0, 1) := by decide +kernel
theorem dX3_shiftRaised_80 : decode cX3_shiftRaised 80 = .ok (.iaload, 1) := by decide +kernel
theorem dX3_shiftRaised_81 : decode cX3_shiftRaised 81 = .ok (.imul, 1) := by decide +kernel
theorem dX3_shiftRaised_82 : decode cX3_shiftRaised 82 = .ok (.aload_n 0, 1) := by decide +kernel
theorem dX3_shiftRaised_83 : decode cX3_shiftRaised 83 = .ok (.getfield 27, 3) := by decide +kernel
theorem dX3_shiftRaised_86 : decode cX3_shiftRaised 86 = .ok (.invokestatic 46, 3) := by decide +kernel
theorem dX3_shiftRaised_89 : decode cX3_shiftRaised 89 = .ok (.iastore, 1) := by decide +kernel
theorem dX3_shiftRaised_90 : decode cX3_shiftRaised 90 = .ok (.return_, 1) := by decide +kernel
set_option maxRecDepth 20000 in
theorem ggX3_hasNoFactorTwice_X11_leftOver : GoodIn wsX3_hasNoFactorTwice wsX11_leftOver := goodIn_r _ [8] (by decide +kernel) (by decide +kernel)
set_option maxRecDepth 20000 in
theorem gX3_hasNoFactorTwice_X11_leftOver_n46 : GoodIn wsX3_hasNoFactorTwice (wsX11_leftOver) := ggX3_hasNoFactorTwice_X11_leftOver
set_option maxRecDepth 20000 in
theorem ggX3_hasNoFactorTwice_X11_highestNotZero : GoodIn wsX3_hasNoFactorTwice wsX11_highestNotZero := goodIn_r _ [10, 11, 12, 13, 14] (by decide +kernel) (by decide +kernel)
set_option maxRecDepth 20000 in
theorem gX3_hasNoFactorTwice_X11_highestNotZero_n59 : GoodIn wsX3_hasNoFactorTwice (wsX11_highestNotZero) := ggX3_hasNoFactorTwice_X11_highestNotZero
set_option maxRecDepth 20000 in
theorem ggX3_hasNoFactorTwice_X3_divideOut : GoodIn wsX3_hasNoFactorTwice wsX3_divideOut := goodIn_r _ [19, 5, 20, 7, 21, 6, 8, 22, 23, 24, 25, 26, 27, 28] (by decide +kernel) (by decide +kernel)
set_option maxRecDepth 20000 in
theorem gX3_hasNoFactorTwice_X3_divideOut : GoodIn wsX3_hasNoFactorTwice (wsV RX3 63 RX3 yX3_divideOut wsX3_divideOut) := goodIn_app (goodIn_of _ (by decide +kernel)) ggX3_hasNoFactorTwice_X3_divideOut
theorem dX3_hasNoFactorTwice_0 : decode cX3_hasNoFactorTwice 0 = .ok (.iconst 0, 1) := by decide +kernel
theorem dX3_hasNoFactorTwice_1 : decode cX3_hasNoFactorTwice 1 = .ok (.istore_n 1, 1) := by decide +kernel
theorem dX3_hasNoFactorTwice_2 : decode cX3_hasNoFactorTwice 2 = .ok (.iload_n 1, 1) := by decide +kernel
theorem dX3_hasNoFactorTwice_3 : decode cX3_hasNoFactorTwice 3 = .ok (.aload_n 0, 1) := by decide +kernel
theorem dX3_hasNoFactorTwice_4 : decode cX3_hasNoFactorTwice 4 = .ok (.getfield 37, 3) := by decide +kernel
theorem dX3_hasNoFactorTwice_7 : decode cX3_hasNoFactorTwice 7 = .ok (.if_icmp .gt 48, 3) := by decide +kernel
theorem dX3_hasNoFactorTwice_10 : decode cX3_hasNoFactorTwice 10 = .ok (.aload_n 0, 1) := by decide +kernel
theorem dX3_hasNoFactorTwice_11 : decode cX3_hasNoFactorTwice 11 = .ok (.getfield 21, 3) := by decide +kernel
theorem dX3_hasNoFactorTwice_14 : decode cX3_hasNoFactorTwice 14 = .ok (.iload_n 1, 1) := by decide +kernel
theorem dX3_hasNoFactorTwice_15 : decode cX3_hasNoFactorTwice 15 = .ok (.aload_n 0, 1) := by decide +kernel
theorem dX3_hasNoFactorTwice_16 : decode cX3_hasNoFactorTwice 16 = .ok (.getfield 9, 3) := by decide +kernel
theorem dX3_hasNoFactorTwice_19 : decode cX3_hasNoFactorTwice 19 = .ok (.iload_n 1, 1) := by decide +kernel
theorem dX3_hasNoFactorTwice_20 : decode cX3_hasNoFactorTwice 20 = .ok (.iaload, 1) := by decide +kernel
theorem dX3_hasNoFactorTwice_21 : decode cX3_hasNoFactorTwice 21 = .ok (.iastore, 1) := by decide +kernel
theorem dX3_hasNoFactorTwice_22 : decode cX3_hasNoFactorTwice 22 = .ok (.iload_n 1, 1) := by decide +kernel
theorem dX3_hasNoFactorTwice_23 : decode cX3_hasNoFactorTwice 23 = .ok (.ifCond .le 26, 3) := by decide +kernel
theorem dX3_hasNoFactorTwice_26 : decode cX3_hasNoFactorTwice 26 = .ok (.aload_n 0, 1) := by decide +kernel
theorem dX3_hasNoFactorTwice_27 : decode cX3_hasNoFactorTwice 27 = .ok (.getfield 24, 3) := by decide +kernel
theorem dX3_hasNoFactorTwice_30 : decode cX3_hasNoFactorTwice 30 = .ok (.iload_n 1, 1) := by decide +kernel
theorem dX3_hasNoFactorTwice_31 : decode cX3_hasNoFactorTwice 31 = .ok (.iconst 1, 1) := by decide +kernel
theorem dX3_hasNoFactorTwice_32 : decode cX3_hasNoFactorTwice 32 = .ok (.isub, 1) := by decide +kernel
theorem dX3_hasNoFactorTwice_33 : decode cX3_hasNoFactorTwice 33 = .ok (.iload_n 1, 1) := by decide +kernel
theorem dX3_hasNoFactorTwice_34 : decode cX3_hasNoFactorTwice 34 = .ok (.aload_n 0, 1) := by decide +kernel
theorem dX3_hasNoFactorTwice_35 : decode cX3_hasNoFactorTwice 35 = .ok (.getfield 9, 3) := by decide +kernel
theorem dX3_hasNoFactorTwice_38 : decode cX3_hasNoFactorTwice 38 = .ok (.iload_n 1, 1) := by decide +kernel
theorem dX3_hasNoFactorTwice_39 : decode cX3_hasNoFactorTwice 39 = .ok (.iaload, 1) := by decide +kernel
theorem dX3_hasNoFactorTwice_40 : decode cX3_hasNoFactorTwice 40 = .ok (.imul, 1) := by decide +kernel
theorem dX3_hasNoFactorTwice_41 : decode cX3_hasNoFactorTwice 41 = .ok (.aload_n 0, 1) := by decide +kernel
theorem dX3_hasNoFactorTwice_42 : decode cX3_hasNoFactorTwice 42 = .ok (.getfield 27, 3) := by decide +kernel
theorem dX3_hasNoFactorTwice_45 : decode cX3_hasNoFactorTwice 45 = .ok (.invokestatic 46, 3) := by decide +kernel
theorem dX3_hasNoFactorTwice_48 : decode cX3_hasNoFactorTwice 48 = .ok (.iastore, 1) := by decide +kernel
theorem dX3_hasNoFactorTwice_49 : decode cX3_hasNoFactorTwice 49 = .ok (.iinc 1 1, 3) := by decide +kernel
theorem dX3_hasNoFactorTwice_52 : decode cX3_hasNoFactorTwice 52 = .ok (.goto (-50), 3) := by decide +kernel
theorem dX3_hasNoFactorTwice_55 : decode cX3_hasNoFactorTwice 55 = .ok (.aload_n 0, 1) := by decide +kernel
theorem dX3_hasNoFactorTwice_56 : decode cX3_hasNoFactorTwice 56 = .ok (.getfield 21, 3) := by decide +kernel
theorem dX3_hasNoFactorTwice_59 : decode cX3_hasNoFactorTwice 59 = .ok (.astore_n 1, 1) := by decide +kernel
theorem dX3_hasNoFactorTwice_60 : decode cX3_hasNoFactorTwice 60 = .ok (.aload_n 0, 1) := by decide +kernel
theorem dX3_hasNoFactorTwice_61 : decode cX3_hasNoFactorTwice 61 = .ok (.getfield 24, 3) := by decide +kernel
theorem dX3_hasNoFactorTwice_64 : decode cX3_hasNoFactorTwice 64 = .ok (.astore_n 2, 1) := by decide +kernel
theorem dX3_hasNoFactorTwice_65 : decode cX3_hasNoFactorTwice 65 = .ok (.aload_n 0, 1) := by decide +kernel
theorem dX3_hasNoFactorTwice_66 : decode cX3_hasNoFactorTwice 66 = .ok (.getfield 37, 3) := by decide +kernel
theorem dX3_hasNoFactorTwice_69 : decode cX3_hasNoFactorTwice 69 = .ok (.istore_n 3, 1) := by decide +kernel
theorem dX3_hasNoFactorTwice_70 : decode cX3_hasNoFactorTwice 70 = .ok (.iconst 0, 1) := by decide +kernel
theorem dX3_hasNoFactorTwice_71 : decode cX3_hasNoFactorTwice 71 = .ok (.istore 4, 2) := by decide +kernel
theorem dX3_hasNoFactorTwice_73 : decode cX3_hasNoFactorTwice 73 = .ok (.iload 4, 2) := by decide +kernel
theorem dX3_hasNoFactorTwice_75 : decode cX3_hasNoFactorTwice 75 = .ok (.bipush 9, 2) := by decide +kernel
theorem dX3_hasNoFactorTwice_77 : decode cX3_hasNoFactorTwice 77 = .ok (.if_icmp .gt 53, 3) := by decide +kernel
theorem dX3_hasNoFactorTwice_80 : decode cX3_hasNoFactorTwice 80 = .ok (.aload_n 2, 1) := by decide +kernel
theorem dX3_hasNoFactorTwice_81 : decode cX3_hasNoFactorTwice 81 = .ok (.iload_n 3, 1) := by decide +kernel
theorem dX3_hasNoFactorTwice_82 : decode cX3_hasNoFactorTwice 82 = .ok (.iconst 1, 1) := by decide +kernel
theorem dX3_hasNoFactorTwice_83 : decode cX3_hasNoFactorTwice 83 = .ok (.isub, 1) := by decide +kernel
theorem dX3_hasNoFactorTwice_84 : decode cX3_hasNoFactorTwice 84 = .ok (.invokestatic 59, 3) := by decide +kernel
theorem dX3_hasNoFactorTwice_87 : decode cX3_hasNoFactorTwice 87 = .ok (.istore 5, 2) := by decide +kernel
theorem dX3_hasNoFactorTwice_89 : decode cX3_hasNoFactorTwice 89 = .ok (.iload 5, 2) := by decide +kernel
theorem dX3_hasNoFactorTwice_91 : decode cX3_hasNoFactorTwice 91 = .ok (.ifCond .ge 13, 3) := by decide +kernel
theorem dX3_hasNoFactorTwice_94 : decode cX3_hasNoFactorTwice 94 = .ok (.iload_n 3, 1) := by decide +kernel
theorem dX3_hasNoFactorTwice_95 : decode cX3_hasNoFactorTwice 95 = .ok (.ifCond .ne 7, 3) := by decide +kernel
theorem dX3_hasNoFactorTwice_98 : decode cX3_hasNoFactorTwice 98 = .ok (.iconst 1, 1) := by decide +kernel
theorem dX3_hasNoFactorTwice_99 : decode cX3_hasNoFactorTwice 99 = .ok (.goto 4, 3) := by decide +kernel
theorem dX3_hasNoFactorTwice_102 : decode cX3_hasNoFactorTwice 102 = .ok (.iconst 0, 1) := by decide +kernel
theorem dX3_hasNoFactorTwice_103 : decode cX3_hasNoFactorTwice 103 = .ok (.ireturn, 1) := by decide +kernel
theorem dX3_hasNoFactorTwice_104 : decode cX3_hasNoFactorTwice 104 = .ok (.aload_n 0, 1) := by decide +kernel
theorem dX3_hasNoFactorTwice_105 : decode cX3_hasNoFactorTwice 105 = .ok (.aload_n 1, 1) := by decide +kernel
theorem dX3_hasNoFactorTwice_106 : decode cX3_hasNoFactorTwice 106 = .ok (.iload_n 3, 1) := by decide +kernel
theorem dX3_hasNoFactorTwice_107 : decode cX3_hasNoFactorTwice 107 = .ok (.aload_n 2, 1) := by decide +kernel
theorem dX3_hasNoFactorTwice_108 : decode cX3_hasNoFactorTwice 108 = .ok (.iload 5, 2) := by decide +kernel
theorem dX3_hasNoFactorTwice_110 : decode cX3_hasNoFactorTwice 110 = .ok (.invokevirtual 63, 3) := by decide +kernel
theorem dX3_hasNoFactorTwice_113 : decode cX3_hasNoFactorTwice 113 = .ok (.aload_n 1, 1) := by decide +kernel
theorem dX3_hasNoFactorTwice_114 : decode cX3_hasNoFactorTwice 114 = .ok (.astore 6, 2) := by decide +kernel
theorem dX3_hasNoFactorTwice_116 : decode cX3_hasNoFactorTwice 116 = .ok (.aload_n 2, 1) := by decide +kernel
theorem dX3_hasNoFactorTwice_117 : decode cX3_hasNoFactorTwice 117 = .ok (.astore_n 1, 1) := by decide +kernel
theorem dX3_hasNoFactorTwice_118 : decode cX3_hasNoFactorTwice 118 = .ok (.aload 6, 2) := by decide +kernel
theorem dX3_hasNoFactorTwice_120 : decode cX3_hasNoFactorTwice 120 = .ok (.astore_n 2, 1) := by decide +kernel
theorem dX3_hasNoFactorTwice_121 : decode cX3_hasNoFactorTwice 121 = .ok (.iload 5, 2) := by decide +kernel
theorem dX3_hasNoFactorTwice_123 : decode cX3_hasNoFactorTwice 123 = .ok (.istore_n 3, 1) := by decide +kernel
theorem dX3_hasNoFactorTwice_124 : decode cX3_hasNoFactorTwice 124 = .ok (.iinc 4 1, 3) := by decide +kernel
theorem dX3_hasNoFactorTwice_127 : decode cX3_hasNoFactorTwice 127 = .ok (.goto (-54), 3) := by decide +kernel
theorem dX3_hasNoFactorTwice_130 : decode cX3_hasNoFactorTwice 130 = .ok (.iload_n 3, 1) := by decide +kernel
theorem dX3_hasNoFactorTwice_131 : decode cX3_hasNoFactorTwice 131 = .ok (.ifCond .ne 7, 3) := by decide +kernel
theorem dX3_hasNoFactorTwice_134 : decode cX3_hasNoFactorTwice 134 = .ok (.iconst 1, 1) := by decide +kernel
theorem dX3_hasNoFactorTwice_135 : decode cX3_hasNoFactorTwice 135 = .ok (.goto 4, 3) := by decide +kernel
theorem dX3_hasNoFactorTwice_138 : decode cX3_hasNoFactorTwice 138 = .ok (.iconst 0, 1) := by decide +kernel
theorem dX3_hasNoFactorTwice_139 : decode cX3_hasNoFactorTwice 139 = .ok (.ireturn, 1) := by decide +kernel
set_option maxRecDepth 20000 in
theorem ggX3_divideOut_X11_inverse : GoodIn wsX3_divideOut wsX11_inverse := goodIn_r _ [4] (by decide +kernel) (by decide +kernel)
set_option maxRecDepth 20000 in
theorem gX3_divideOut_X11_inverse_n67 : GoodIn wsX3_divideOut (wsX11_inverse) := ggX3_divideOut_X11_inverse
set_option maxRecDepth 20000 in
theorem ggX3_divideOut_X11_leftOver : GoodIn wsX3_divideOut wsX11_leftOver := goodIn_r _ [6] (by decide +kernel) (by decide +kernel)
set_option maxRecDepth 20000 in
theorem gX3_divideOut_X11_leftOver_n46 : GoodIn wsX3_divideOut (wsX11_leftOver) := ggX3_divideOut_X11_leftOver
theorem dX3_divideOut_0 : decode cX3_divideOut 0 = .ok (.aload_n 3, 1) := by decide +kernel
theorem dX3_divideOut_1 : decode cX3_divideOut 1 = .ok (.iload 4, 2) := by decide +kernel
theorem dX3_divideOut_3 : decode cX3_divideOut 3 = .ok (.iaload, 1) := by decide +kernel
theorem dX3_divideOut_4 : decode cX3_divideOut 4 = .ok (.aload_n 0, 1) := by decide +kernel
theorem dX3_divideOut_5 : decode cX3_divideOut 5 = .ok (.getfield 27, 3) := by decide +kernel
theorem dX3_divideOut_8 : decode cX3_divideOut 8 = .ok (.invokestatic 67, 3) := by decide +kernel
theorem dX3_divideOut_11 : decode cX3_divideOut 11 = .ok (.istore 5, 2) := by decide +kernel
theorem dX3_divideOut_13 : decode cX3_divideOut 13 = .ok (.iload_n 2, 1) := by decide +kernel
theorem dX3_divideOut_14 : decode cX3_divideOut 14 = .ok (.istore 6, 2) := by decide +kernel
theorem dX3_divideOut_16 : decode cX3_divideOut 16 = .ok (.iload 6, 2) := by decide +kernel
theorem dX3_divideOut_18 : decode cX3_divideOut 18 = .ok (.iload 4, 2) := by decide +kernel
theorem dX3_divideOut_20 : decode cX3_divideOut 20 = .ok (.if_icmp .lt 76, 3) := by decide +kernel
theorem dX3_divideOut_23 : decode cX3_divideOut 23 = .ok (.aload_n 1, 1) := by decide +kernel
theorem dX3_divideOut_24 : decode cX3_divideOut 24 = .ok (.iload 6, 2) := by decide +kernel
theorem dX3_divideOut_26 : decode cX3_divideOut 26 = .ok (.iaload, 1) := by decide +kernel
theorem dX3_divideOut_27 : decode cX3_divideOut 27 = .ok (.iload 5, 2) := by decide +kernel
theorem dX3_divideOut_29 : decode cX3_divideOut 29 = .ok (.imul, 1) := by decide +kernel
theorem dX3_divideOut_30 : decode cX3_divideOut 30 = .ok (.aload_n 0, 1) := by decide +kernel
theorem dX3_divideOut_31 : decode cX3_divideOut 31 = .ok (.getfield 27, 3) := by decide +kernel
theorem dX3_divideOut_34 : decode cX3_divideOut 34 = .ok (.invokestatic 46, 3) := by decide +kernel
theorem dX3_divideOut_37 : decode cX3_divideOut 37 = .ok (.istore 7, 2) := by decide +kernel
theorem dX3_divideOut_39 : decode cX3_divideOut 39 = .ok (.iconst 0, 1) := by decide +kernel
theorem dX3_divideOut_40 : decode cX3_divideOut 40 = .ok (.istore 8, 2) := by decide +kernel
theorem dX3_divideOut_42 : decode cX3_divideOut 42 = .ok (.iload 8, 2) := by decide +kernel
theorem dX3_divideOut_44 : decode cX3_divideOut 44 = .ok (.iload 4, 2) := by decide +kernel
theorem dX3_divideOut_46 : decode cX3_divideOut 46 = .ok (.if_icmp .gt 44, 3) := by decide +kernel
theorem dX3_divideOut_49 : decode cX3_divideOut 49 = .ok (.aload_n 1, 1) := by decide +kernel
theorem dX3_divideOut_50 : decode cX3_divideOut 50 = .ok (.iload 6, 2) := by decide +kernel
theorem dX3_divideOut_52 : decode cX3_divideOut 52 = .ok (.iload 4, 2) := by decide +kernel
theorem dX3_divideOut_54 : decode cX3_divideOut 54 = .ok (.isub, 1) := by decide +kernel
theorem dX3_divideOut_55 : decode cX3_divideOut 55 = .ok (.iload 8, 2) := by decide +kernel
theorem dX3_divideOut_57 : decode cX3_divideOut 57 = .ok (.iadd, 1) := by decide +kernel
theorem dX3_divideOut_58 : decode cX3_divideOut 58 = .ok (.aload_n 1, 1) := by decide +kernel
theorem dX3_divideOut_59 : decode cX3_divideOut 59 = .ok (.iload 6, 2) := by decide +kernel
theorem dX3_divideOut_61 : decode cX3_divideOut 61 = .ok (.iload 4, 2) := by decide +kernel
theorem dX3_divideOut_63 : decode cX3_divideOut 63 = .ok (.isub, 1) := by decide +kernel
theorem dX3_divideOut_64 : decode cX3_divideOut 64 = .ok (.iload 8, 2) := by decide +kernel
theorem dX3_divideOut_66 : decode cX3_divideOut 66 = .ok (.iadd, 1) := by decide +kernel
theorem dX3_divideOut_67 : decode cX3_divideOut 67 = .ok (.iaload, 1) := by decide +kernel
theorem dX3_divideOut_68 : decode cX3_divideOut 68 = .ok (.iload 7, 2) := by decide +kernel
theorem dX3_divideOut_70 : decode cX3_divideOut 70 = .ok (.aload_n 3, 1) := by decide +kernel
theorem dX3_divideOut_71 : decode cX3_divideOut 71 = .ok (.iload 8, 2) := by decide +kernel
theorem dX3_divideOut_73 : decode cX3_divideOut 73 = .ok (.iaload, 1) := by decide +kernel
theorem dX3_divideOut_74 : decode cX3_divideOut 74 = .ok (.imul, 1) := by decide +kernel
theorem dX3_divideOut_75 : decode cX3_divideOut 75 = .ok (.isub, 1) := by decide +kernel
theorem dX3_divideOut_76 : decode cX3_divideOut 76 = .ok (.aload_n 0, 1) := by decide +kernel
theorem dX3_divideOut_77 : decode cX3_divideOut 77 = .ok (.getfield 27, 3) := by decide +kernel
theorem dX3_divideOut_80 : decode cX3_divideOut 80 = .ok (.invokestatic 46, 3) := by decide +kernel
theorem dX3_divideOut_83 : decode cX3_divideOut 83 = .ok (.iastore, 1) := by decide +kernel
theorem dX3_divideOut_84 : decode cX3_divideOut 84 = .ok (.iinc 8 1, 3) := by decide +kernel
theorem dX3_divideOut_87 : decode cX3_divideOut 87 = .ok (.goto (-45), 3) := by decide +kernel
theorem dX3_divideOut_90 : decode cX3_divideOut 90 = .ok (.iinc 6 (-1), 3) := by decide +kernel
theorem dX3_divideOut_93 : decode cX3_divideOut 93 = .ok (.goto (-77), 3) := by decide +kernel
theorem dX3_divideOut_96 : decode cX3_divideOut 96 = .ok (.return_, 1) := by decide +kernel
theorem dX4_init_0 : decode cX4_init 0 = .ok (.aload_n 0, 1) := by decide +kernel
theorem dX4_init_1 : decode cX4_init 1 = .ok (.invokespecial 3, 3) := by decide +kernel
theorem dX4_init_4 : decode cX4_init 4 = .ok (.aload_n 0, 1) := by decide +kernel
theorem dX4_init_5 : decode cX4_init 5 = .ok (.bipush 10, 2) := by decide +kernel
theorem dX4_init_7 : decode cX4_init 7 = .ok (.newarray .int, 2) := by decide +kernel
theorem dX4_init_9 : decode cX4_init 9 = .ok (.putfield 9, 3) := by decide +kernel
theorem dX4_init_12 : decode cX4_init 12 = .ok (.aload_n 0, 1) := by decide +kernel
theorem dX4_init_13 : decode cX4_init 13 = .ok (.bipush 10, 2) := by decide +kernel
theorem dX4_init_15 : decode cX4_init 15 = .ok (.newarray .int, 2) := by decide +kernel
theorem dX4_init_17 : decode cX4_init 17 = .ok (.putfield 15, 3) := by decide +kernel
theorem dX4_init_20 : decode cX4_init 20 = .ok (.aload_n 0, 1) := by decide +kernel
theorem dX4_init_21 : decode cX4_init 21 = .ok (.bipush 10, 2) := by decide +kernel
theorem dX4_init_23 : decode cX4_init 23 = .ok (.bipush 9, 2) := by decide +kernel
theorem dX4_init_25 : decode cX4_init 25 = .ok (.multianewarray 18 2, 4) := by decide +kernel
theorem dX4_init_29 : decode cX4_init 29 = .ok (.putfield 20, 3) := by decide +kernel
theorem dX4_init_32 : decode cX4_init 32 = .ok (.return_, 1) := by decide +kernel
set_option maxRecDepth 20000 in
theorem ggX4_bring_X11_clear : GoodIn wsX4_bring wsX11_clear := goodIn_r _ [7] (by decide +kernel) (by decide +kernel)
set_option maxRecDepth 20000 in
theorem gX4_bring_X11_clear_n27 : GoodIn wsX4_bring (wsX11_clear) := ggX4_bring_X11_clear
set_option maxRecDepth 20000 in
theorem ggX4_bring_X11_bringMultiple : GoodIn wsX4_bring wsX11_bringMultiple := goodIn_r _ [9] (by decide +kernel) (by decide +kernel)
set_option maxRecDepth 20000 in
theorem gX4_bring_X11_bringMultiple_n31 : GoodIn wsX4_bring (wsX11_bringMultiple) := ggX4_bring_X11_bringMultiple
theorem dX4_bring_0 : decode cX4_bring 0 = .ok (.aload_n 0, 1) := by decide +kernel
theorem dX4_bring_1 : decode cX4_bring 1 = .ok (.getfield 23, 3) := by decide +kernel
theorem dX4_bring_4 : decode cX4_bring 4 = .ok (.bipush 10, 2) := by decide +kernel
theorem dX4_bring_6 : decode cX4_bring 6 = .ok (.if_icmp .lt 4, 3) := by decide +kernel
theorem dX4_bring_9 : decode cX4_bring 9 = .ok (.return_, 1) := by decide +kernel
theorem dX4_bring_10 : decode cX4_bring 10 = .ok (.aload_n 0, 1) := by decide +kernel
theorem dX4_bring_11 : decode cX4_bring 11 = .ok (.getfield 9, 3) := by decide +kernel
theorem dX4_bring_14 : decode cX4_bring 14 = .ok (.aload_n 0, 1) := by decide +kernel
theorem dX4_bring_15 : decode cX4_bring 15 = .ok (.getfield 23, 3) := by decide +kernel
theorem dX4_bring_18 : decode cX4_bring 18 = .ok (.iload_n 1, 1) := by decide +kernel
theorem dX4_bring_19 : decode cX4_bring 19 = .ok (.iastore, 1) := by decide +kernel
theorem dX4_bring_20 : decode cX4_bring 20 = .ok (.aload_n 0, 1) := by decide +kernel
theorem dX4_bring_21 : decode cX4_bring 21 = .ok (.getfield 15, 3) := by decide +kernel
theorem dX4_bring_24 : decode cX4_bring 24 = .ok (.aload_n 0, 1) := by decide +kernel
theorem dX4_bring_25 : decode cX4_bring 25 = .ok (.getfield 23, 3) := by decide +kernel
theorem dX4_bring_28 : decode cX4_bring 28 = .ok (.iload_n 2, 1) := by decide +kernel
theorem dX4_bring_29 : decode cX4_bring 29 = .ok (.iastore, 1) := by decide +kernel
theorem dX4_bring_30 : decode cX4_bring 30 = .ok (.aload_n 0, 1) := by decide +kernel
theorem dX4_bring_31 : decode cX4_bring 31 = .ok (.getfield 20, 3) := by decide +kernel
theorem dX4_bring_34 : decode cX4_bring 34 = .ok (.aload_n 0, 1) := by decide +kernel
theorem dX4_bring_35 : decode cX4_bring 35 = .ok (.getfield 23, 3) := by decide +kernel
theorem dX4_bring_38 : decode cX4_bring 38 = .ok (.aaload, 1) := by decide +kernel
theorem dX4_bring_39 : decode cX4_bring 39 = .ok (.invokestatic 27, 3) := by decide +kernel
theorem dX4_bring_42 : decode cX4_bring 42 = .ok (.aload_n 0, 1) := by decide +kernel
theorem dX4_bring_43 : decode cX4_bring 43 = .ok (.getfield 20, 3) := by decide +kernel
theorem dX4_bring_46 : decode cX4_bring 46 = .ok (.aload_n 0, 1) := by decide +kernel
theorem dX4_bring_47 : decode cX4_bring 47 = .ok (.getfield 23, 3) := by decide +kernel
theorem dX4_bring_50 : decode cX4_bring 50 = .ok (.aaload, 1) := by decide +kernel
theorem dX4_bring_51 : decode cX4_bring 51 = .ok (.aload_n 3, 1) := by decide +kernel
theorem dX4_bring_52 : decode cX4_bring 52 = .ok (.iload 4, 2) := by decide +kernel
theorem dX4_bring_54 : decode cX4_bring 54 = .ok (.iconst 1, 1) := by decide +kernel
theorem dX4_bring_55 : decode cX4_bring 55 = .ok (.isub, 1) := by decide +kernel
theorem dX4_bring_56 : decode cX4_bring 56 = .ok (.iload 4, 2) := by decide +kernel
theorem dX4_bring_58 : decode cX4_bring 58 = .ok (.invokestatic 31, 3) := by decide +kernel
theorem dX4_bring_61 : decode cX4_bring 61 = .ok (.aload_n 0, 1) := by decide +kernel
theorem dX4_bring_62 : decode cX4_bring 62 = .ok (.dup, 1) := by decide +kernel
theorem dX4_bring_63 : decode cX4_bring 63 = .ok (.getfield 23, 3) := by decide +kernel
theorem dX4_bring_66 : decode cX4_bring 66 = .ok (.iconst 1, 1) := by decide +kernel
theorem dX4_bring_67 : decode cX4_bring 67 = .ok (.iadd, 1) := by decide +kernel
theorem dX4_bring_68 : decode cX4_bring 68 = .ok (.putfield 23, 3) := by decide +kernel
theorem dX4_bring_71 : decode cX4_bring 71 = .ok (.return_, 1) := by decide +kernel
theorem dX4_leadTo_0 : decode cX4_leadTo 0 = .ok (.iconst 0, 1) := by decide +kernel
theorem dX4_leadTo_1 : decode cX4_leadTo 1 = .ok (.istore_n 3, 1) := by decide +kernel
theorem dX4_leadTo_2 : decode cX4_leadTo 2 = .ok (.iload_n 3, 1) := by decide +kernel
theorem dX4_leadTo_3 : decode cX4_leadTo 3 = .ok (.aload_n 0, 1) := by decide +kernel
theorem dX4_leadTo_4 : decode cX4_leadTo 4 = .ok (.getfield 23, 3) := by decide +kernel
theorem dX4_leadTo_7 : decode cX4_leadTo 7 = .ok (.if_icmp .ge 31, 3) := by decide +kernel
theorem dX4_leadTo_10 : decode cX4_leadTo 10 = .ok (.aload_n 0, 1) := by decide +kernel
theorem dX4_leadTo_11 : decode cX4_leadTo 11 = .ok (.getfield 9, 3) := by decide +kernel
theorem dX4_leadTo_14 : decode cX4_leadTo 14 = .ok (.iload_n 3, 1) := by decide +kernel
theorem dX4_leadTo_15 : decode cX4_leadTo 15 = .ok (.iaload, 1) := by decide +kernel
theorem dX4_leadTo_16 : decode cX4_leadTo 16 = .ok (.iload_n 1, 1) := by decide +kernel
theorem dX4_leadTo_17 : decode cX4_leadTo 17 = .ok (.if_icmp .gt 15, 3) := by decide +kernel
theorem dX4_leadTo_20 : decode cX4_leadTo 20 = .ok (.aload_n 0, 1) := by decide +kernel
theorem dX4_leadTo_21 : decode cX4_leadTo 21 = .ok (.getfield 15, 3) := by decide +kernel
theorem dX4_leadTo_24 : decode cX4_leadTo 24 = .ok (.iload_n 3, 1) := by decide +kernel
theorem dX4_leadTo_25 : decode cX4_leadTo 25 = .ok (.iaload, 1) := by decide +kernel
theorem dX4_leadTo_26 : decode cX4_leadTo 26 = .ok (.iload_n 2, 1) := by decide +kernel
theorem dX4_leadTo_27 : decode cX4_leadTo 27 = .ok (.if_icmp .gt 5, 3) := by decide +kernel
theorem dX4_leadTo_30 : decode cX4_leadTo 30 = .ok (.iconst 1, 1) := by decide +kernel
theorem dX4_leadTo_31 : decode cX4_leadTo 31 = .ok (.ireturn, 1) := by decide +kernel
theorem dX4_leadTo_32 : decode cX4_leadTo 32 = .ok (.iinc 3 1, 3) := by decide +kernel
theorem dX4_leadTo_35 : decode cX4_leadTo 35 = .ok (.goto (-33), 3) := by decide +kernel
theorem dX4_leadTo_38 : decode cX4_leadTo 38 = .ok (.iconst 0, 1) := by decide +kernel
theorem dX4_leadTo_39 : decode cX4_leadTo 39 = .ok (.ireturn, 1) := by decide +kernel
theorem dX4_greatestSum_0 : decode cX4_greatestSum 0 = .ok (.iconst 0, 1) := by decide +kernel
theorem dX4_greatestSum_1 : decode cX4_greatestSum 1 = .ok (.istore_n 1, 1) := by decide +kernel
theorem dX4_greatestSum_2 : decode cX4_greatestSum 2 = .ok (.iconst 0, 1) := by decide +kernel
theorem dX4_greatestSum_3 : decode cX4_greatestSum 3 = .ok (.istore_n 2, 1) := by decide +kernel
theorem dX4_greatestSum_4 : decode cX4_greatestSum 4 = .ok (.iload_n 2, 1) := by decide +kernel
theorem dX4_greatestSum_5 : decode cX4_greatestSum 5 = .ok (.aload_n 0, 1) := by decide +kernel
theorem dX4_greatestSum_6 : decode cX4_greatestSum 6 = .ok (.getfield 23, 3) := by decide +kernel
theorem dX4_greatestSum_9 : decode cX4_greatestSum 9 = .ok (.if_icmp .ge 27, 3) := by decide +kernel
theorem dX4_greatestSum_12 : decode cX4_greatestSum 12 = .ok (.iload_n 1, 1) := by decide +kernel
theorem dX4_greatestSum_13 : decode cX4_greatestSum 13 = .ok (.aload_n 0, 1) := by decide +kernel
theorem dX4_greatestSum_14 : decode cX4_greatestSum 14 = .ok (.getfield 9, 3) := by decide +kernel
theorem dX4_greatestSum_17 : decode cX4_greatestSum 17 = .ok (.iload_n 2, 1) := by decide +kernel
theorem dX4_greatestSum_18 : decode cX4_greatestSum 18 = .ok (.iaload, 1) := by decide +kernel
theorem dX4_greatestSum_19 : decode cX4_greatestSum 19 = .ok (.aload_n 0, 1) := by decide +kernel
theorem dX4_greatestSum_20 : decode cX4_greatestSum 20 = .ok (.getfield 15, 3) := by decide +kernel
theorem dX4_greatestSum_23 : decode cX4_greatestSum 23 = .ok (.iload_n 2, 1) := by decide +kernel
theorem dX4_greatestSum_24 : decode cX4_greatestSum 24 = .ok (.iaload, 1) := by decide +kernel
theorem dX4_greatestSum_25 : decode cX4_greatestSum 25 = .ok (.iadd, 1) := by decide +kernel
theorem dX4_greatestSum_26 : decode cX4_greatestSum 26 = .ok (.invokestatic 35, 3) := by decide +kernel
theorem dX4_greatestSum_29 : decode cX4_greatestSum 29 = .ok (.istore_n 1, 1) := by decide +kernel
theorem dX4_greatestSum_30 : decode cX4_greatestSum 30 = .ok (.iinc 2 1, 3) := by decide +kernel
theorem dX4_greatestSum_33 : decode cX4_greatestSum 33 = .ok (.goto (-29), 3) := by decide +kernel
theorem dX4_greatestSum_36 : decode cX4_greatestSum 36 = .ok (.iload_n 1, 1) := by decide +kernel
theorem dX4_greatestSum_37 : decode cX4_greatestSum 37 = .ok (.ireturn, 1) := by decide +kernel
theorem dX4_countTerms_0 : decode cX4_countTerms 0 = .ok (.iconst 1, 1) := by decide +kernel
theorem dX4_countTerms_1 : decode cX4_countTerms 1 = .ok (.istore_n 2, 1) := by decide +kernel
theorem dX4_countTerms_2 : decode cX4_countTerms 2 = .ok (.iconst 0, 1) := by decide +kernel
theorem dX4_countTerms_3 : decode cX4_countTerms 3 = .ok (.istore_n 3, 1) := by decide +kernel
theorem dX4_countTerms_4 : decode cX4_countTerms 4 = .ok (.iload_n 3, 1) := by decide +kernel
theorem dX4_countTerms_5 : decode cX4_countTerms 5 = .ok (.bipush 9, 2) := by decide +kernel
theorem dX4_countTerms_7 : decode cX4_countTerms 7 = .ok (.if_icmp .ge 23, 3) := by decide +kernel
theorem dX4_countTerms_10 : decode cX4_countTerms 10 = .ok (.aload_n 0, 1) := by decide +kernel
theorem dX4_countTerms_11 : decode cX4_countTerms 11 = .ok (.getfield 20, 3) := by decide +kernel
theorem dX4_countTerms_14 : decode cX4_countTerms 14 = .ok (.iload_n 1, 1) := by decide +kernel
theorem dX4_countTerms_15 : decode cX4_countTerms 15 = .ok (.aaload, 1) := by decide +kernel
theorem dX4_countTerms_16 : decode cX4_countTerms 16 = .ok (.iload_n 3, 1) := by decide +kernel
theorem dX4_countTerms_17 : decode cX4_countTerms 17 = .ok (.iaload, 1) := by decide +kernel
theorem dX4_countTerms_18 : decode cX4_countTerms 18 = .ok (.ifCond .eq 6, 3) := by decide +kernel
theorem dX4_countTerms_21 : decode cX4_countTerms 21 = .ok (.iinc 2 1, 3) := by decide +kernel
theorem dX4_countTerms_24 : decode cX4_countTerms 24 = .ok (.iinc 3 1, 3) := by decide +kernel
theorem dX4_countTerms_27 : decode cX4_countTerms 27 = .ok (.goto (-23), 3) := by decide +kernel
theorem dX4_countTerms_30 : decode cX4_countTerms 30 = .ok (.iload_n 2, 1) := by decide +kernel
theorem dX4_countTerms_31 : decode cX4_countTerms 31 = .ok (.ireturn, 1) := by decide +kernel
set_option maxRecDepth 20000 in
theorem ggX4_moveToField_X11_leftOver : GoodIn wsX4_moveToField wsX11_leftOver := goodIn_r _ [5] (by decide +kernel) (by decide +kernel)
set_option maxRecDepth 20000 in
theorem gX4_moveToField_X11_leftOver_n41 : GoodIn wsX4_moveToField (wsX11_leftOver) := ggX4_moveToField_X11_leftOver
theorem dX4_moveToField_0 : decode cX4_moveToField 0 = .ok (.iconst 0, 1) := by decide +kernel
theorem dX4_moveToField_1 : decode cX4_moveToField 1 = .ok (.istore_n 2, 1) := by decide +kernel
theorem dX4_moveToField_2 : decode cX4_moveToField 2 = .ok (.iload_n 2, 1) := by decide +kernel
theorem dX4_moveToField_3 : decode cX4_moveToField 3 = .ok (.aload_n 0, 1) := by decide +kernel
theorem dX4_moveToField_4 : decode cX4_moveToField 4 = .ok (.getfield 23, 3) := by decide +kernel
theorem dX4_moveToField_7 : decode cX4_moveToField 7 = .ok (.if_icmp .ge 43, 3) := by decide +kernel
theorem dX4_moveToField_10 : decode cX4_moveToField 10 = .ok (.iconst 0, 1) := by decide +kernel
theorem dX4_moveToField_11 : decode cX4_moveToField 11 = .ok (.istore_n 3, 1) := by decide +kernel
theorem dX4_moveToField_12 : decode cX4_moveToField 12 = .ok (.iload_n 3, 1) := by decide +kernel
theorem dX4_moveToField_13 : decode cX4_moveToField 13 = .ok (.bipush 9, 2) := by decide +kernel
theorem dX4_moveToField_15 : decode cX4_moveToField 15 = .ok (.if_icmp .ge 29, 3) := by decide +kernel
theorem dX4_moveToField_18 : decode cX4_moveToField 18 = .ok (.aload_n 0, 1) := by decide +kernel
theorem dX4_moveToField_19 : decode cX4_moveToField 19 = .ok (.getfield 20, 3) := by decide +kernel
theorem dX4_moveToField_22 : decode cX4_moveToField 22 = .ok (.iload_n 2, 1) := by decide +kernel
theorem dX4_moveToField_23 : decode cX4_moveToField 23 = .ok (.aaload, 1) := by decide +kernel
theorem dX4_moveToField_24 : decode cX4_moveToField 24 = .ok (.iload_n 3, 1) := by decide +kernel
theorem dX4_moveToField_25 : decode cX4_moveToField 25 = .ok (.aload_n 0, 1) := by decide +kernel
theorem dX4_moveToField_26 : decode cX4_moveToField 26 = .ok (.getfield 20, 3) := by decide +kernel
theorem dX4_moveToField_29 : decode cX4_moveToField 29 = .ok (.iload_n 2, 1) := by decide +kernel
theorem dX4_moveToField_30 : decode cX4_moveToField 30 = .ok (.aaload, 1) := by decide +kernel
theorem dX4_moveToField_31 : decode cX4_moveToField 31 = .ok (.iload_n 3, 1) := by decide +kernel
theorem dX4_moveToField_32 : decode cX4_moveToField 32 = .ok (.iaload, 1) := by decide +kernel
theorem dX4_moveToField_33 : decode cX4_moveToField 33 = .ok (.iload_n 1, 1) := by decide +kernel
theorem dX4_moveToField_34 : decode cX4_moveToField 34 = .ok (.invokestatic 41, 3) := by decide +kernel
theorem dX4_moveToField_37 : decode cX4_moveToField 37 = .ok (.iastore, 1) := by decide +kernel
theorem dX4_moveToField_38 : decode cX4_moveToField 38 = .ok (.iinc 3 1, 3) := by decide +kernel
theorem dX4_moveToField_41 : decode cX4_moveToField 41 = .ok (.goto (-29), 3) := by decide +kernel
theorem dX4_moveToField_44 : decode cX4_moveToField 44 = .ok (.iinc 2 1, 3) := by decide +kernel
theorem dX4_moveToField_47 : decode cX4_moveToField 47 = .ok (.goto (-45), 3) := by decide +kernel
theorem dX4_moveToField_50 : decode cX4_moveToField 50 = .ok (.return_, 1) := by decide +kernel
theorem dX4_copyFrom_0 : decode cX4_copyFrom 0 = .ok (.aload_n 0, 1) := by decide +kernel
theorem dX4_copyFrom_1 : decode cX4_copyFrom 1 = .ok (.aload_n 1, 1) := by decide +kernel
theorem dX4_copyFrom_2 : decode cX4_copyFrom 2 = .ok (.getfield 23, 3) := by decide +kernel
theorem dX4_copyFrom_5 : decode cX4_copyFrom 5 = .ok (.putfield 23, 3) := by decide +kernel
theorem dX4_copyFrom_8 : decode cX4_copyFrom 8 = .ok (.iconst 0, 1) := by decide +kernel
theorem dX4_copyFrom_9 : decode cX4_copyFrom 9 = .ok (.istore_n 2, 1) := by decide +kernel
theorem dX4_copyFrom_10 : decode cX4_copyFrom 10 = .ok (.iload_n 2, 1) := by decide +kernel
theorem dX4_copyFrom_11 : decode cX4_copyFrom 11 = .ok (.aload_n 0, 1) := by decide +kernel
theorem dX4_copyFrom_12 : decode cX4_copyFrom 12 = .ok (.getfield 23, 3) := by decide +kernel
theorem dX4_copyFrom_15 : decode cX4_copyFrom 15 = .ok (.if_icmp .ge 63, 3) := by decide +kernel
theorem dX4_copyFrom_18 : decode cX4_copyFrom 18 = .ok (.aload_n 0, 1) := by decide +kernel
theorem dX4_copyFrom_19 : decode cX4_copyFrom 19 = .ok (.getfield 9, 3) := by decide +kernel
theorem dX4_copyFrom_22 : decode cX4_copyFrom 22 = .ok (.iload_n 2, 1) := by decide +kernel
theorem dX4_copyFrom_23 : decode cX4_copyFrom 23 = .ok (.aload_n 1, 1) := by decide +kernel
theorem dX4_copyFrom_24 : decode cX4_copyFrom 24 = .ok (.getfield 9, 3) := by decide +kernel
theorem dX4_copyFrom_27 : decode cX4_copyFrom 27 = .ok (.iload_n 2, 1) := by decide +kernel
theorem dX4_copyFrom_28 : decode cX4_copyFrom 28 = .ok (.iaload, 1) := by decide +kernel
theorem dX4_copyFrom_29 : decode cX4_copyFrom 29 = .ok (.iastore, 1) := by decide +kernel
theorem dX4_copyFrom_30 : decode cX4_copyFrom 30 = .ok (.aload_n 0, 1) := by decide +kernel
theorem dX4_copyFrom_31 : decode cX4_copyFrom 31 = .ok (.getfield 15, 3) := by decide +kernel
theorem dX4_copyFrom_34 : decode cX4_copyFrom 34 = .ok (.iload_n 2, 1) := by decide +kernel
theorem dX4_copyFrom_35 : decode cX4_copyFrom 35 = .ok (.aload_n 1, 1) := by decide +kernel
theorem dX4_copyFrom_36 : decode cX4_copyFrom 36 = .ok (.getfield 15, 3) := by decide +kernel
theorem dX4_copyFrom_39 : decode cX4_copyFrom 39 = .ok (.iload_n 2, 1) := by decide +kernel
theorem dX4_copyFrom_40 : decode cX4_copyFrom 40 = .ok (.iaload, 1) := by decide +kernel
theorem dX4_copyFrom_41 : decode cX4_copyFrom 41 = .ok (.iastore, 1) := by decide +kernel
theorem dX4_copyFrom_42 : decode cX4_copyFrom 42 = .ok (.iconst 0, 1) := by decide +kernel
theorem dX4_copyFrom_43 : decode cX4_copyFrom 43 = .ok (.istore_n 3, 1) := by decide +kernel
theorem dX4_copyFrom_44 : decode cX4_copyFrom 44 = .ok (.iload_n 3, 1) := by decide +kernel
theorem dX4_copyFrom_45 : decode cX4_copyFrom 45 = .ok (.bipush 9, 2) := by decide +kernel
theorem dX4_copyFrom_47 : decode cX4_copyFrom 47 = .ok (.if_icmp .ge 25, 3) := by decide +kernel
theorem dX4_copyFrom_50 : decode cX4_copyFrom 50 = .ok (.aload_n 0, 1) := by decide +kernel
theorem dX4_copyFrom_51 : decode cX4_copyFrom 51 = .ok (.getfield 20, 3) := by decide +kernel
theorem dX4_copyFrom_54 : decode cX4_copyFrom 54 = .ok (.iload_n 2, 1) := by decide +kernel
theorem dX4_copyFrom_55 : decode cX4_copyFrom 55 = .ok (.aaload, 1) := by decide +kernel
theorem dX4_copyFrom_56 : decode cX4_copyFrom 56 = .ok (.iload_n 3, 1) := by decide +kernel
theorem dX4_copyFrom_57 : decode cX4_copyFrom 57 = .ok (.aload_n 1, 1) := by decide +kernel
theorem dX4_copyFrom_58 : decode cX4_copyFrom 58 = .ok (.getfield 20, 3) := by decide +kernel
theorem dX4_copyFrom_61 : decode cX4_copyFrom 61 = .ok (.iload_n 2, 1) := by decide +kernel
theorem dX4_copyFrom_62 : decode cX4_copyFrom 62 = .ok (.aaload, 1) := by decide +kernel
theorem dX4_copyFrom_63 : decode cX4_copyFrom 63 = .ok (.iload_n 3, 1) := by decide +kernel
theorem dX4_copyFrom_64 : decode cX4_copyFrom 64 = .ok (.iaload, 1) := by decide +kernel
theorem dX4_copyFrom_65 : decode cX4_copyFrom 65 = .ok (.iastore, 1) := by decide +kernel
theorem dX4_copyFrom_66 : decode cX4_copyFrom 66 = .ok (.iinc 3 1, 3) := by decide +kernel
theorem dX4_copyFrom_69 : decode cX4_copyFrom 69 = .ok (.goto (-25), 3) := by decide +kernel
theorem dX4_copyFrom_72 : decode cX4_copyFrom 72 = .ok (.iinc 2 1, 3) := by decide +kernel
theorem dX4_copyFrom_75 : decode cX4_copyFrom 75 = .ok (.goto (-65), 3) := by decide +kernel
theorem dX4_copyFrom_78 : decode cX4_copyFrom 78 = .ok (.return_, 1) := by decide +kernel
set_option maxRecDepth 20000 in
theorem ggX4_isAs_X4_hasTail : GoodIn wsX4_isAs wsX4_hasTail := goodIn_r _ [9, 4, 10, 11, 12, 13] (by decide +kernel) (by decide +kernel)
set_option maxRecDepth 20000 in
theorem gX4_isAs_X4_hasTail : GoodIn wsX4_isAs (wsV RX4 44 RX4 yX4_hasTail wsX4_hasTail) := goodIn_app (goodIn_of _ (by decide +kernel)) ggX4_isAs_X4_hasTail
theorem dX4_isAs_0 : decode cX4_isAs 0 = .ok (.aload_n 0, 1) := by decide +kernel
theorem dX4_isAs_1 : decode cX4_isAs 1 = .ok (.getfield 23, 3) := by decide +kernel
theorem dX4_isAs_4 : decode cX4_isAs 4 = .ok (.aload_n 1, 1) := by decide +kernel
theorem dX4_isAs_5 : decode cX4_isAs 5 = .ok (.getfield 23, 3) := by decide +kernel
theorem dX4_isAs_8 : decode cX4_isAs 8 = .ok (.if_icmp .eq 5, 3) := by decide +kernel
theorem dX4_isAs_11 : decode cX4_isAs 11 = .ok (.iconst 0, 1) := by decide +kernel
theorem dX4_isAs_12 : decode cX4_isAs 12 = .ok (.ireturn, 1) := by decide +kernel
theorem dX4_isAs_13 : decode cX4_isAs 13 = .ok (.iconst 0, 1) := by decide +kernel
theorem dX4_isAs_14 : decode cX4_isAs 14 = .ok (.istore_n 2, 1) := by decide +kernel
theorem dX4_isAs_15 : decode cX4_isAs 15 = .ok (.iload_n 2, 1) := by decide +kernel
theorem dX4_isAs_16 : decode cX4_isAs 16 = .ok (.aload_n 0, 1) := by decide +kernel
theorem dX4_isAs_17 : decode cX4_isAs 17 = .ok (.getfield 23, 3) := by decide +kernel
theorem dX4_isAs_20 : decode cX4_isAs 20 = .ok (.if_icmp .ge 55, 3) := by decide +kernel
theorem dX4_isAs_23 : decode cX4_isAs 23 = .ok (.aload_n 0, 1) := by decide +kernel
theorem dX4_isAs_24 : decode cX4_isAs 24 = .ok (.getfield 9, 3) := by decide +kernel
theorem dX4_isAs_27 : decode cX4_isAs 27 = .ok (.iload_n 2, 1) := by decide +kernel
theorem dX4_isAs_28 : decode cX4_isAs 28 = .ok (.iaload, 1) := by decide +kernel
theorem dX4_isAs_29 : decode cX4_isAs 29 = .ok (.aload_n 1, 1) := by decide +kernel
theorem dX4_isAs_30 : decode cX4_isAs 30 = .ok (.getfield 9, 3) := by decide +kernel
theorem dX4_isAs_33 : decode cX4_isAs 33 = .ok (.iload_n 2, 1) := by decide +kernel
theorem dX4_isAs_34 : decode cX4_isAs 34 = .ok (.iaload, 1) := by decide +kernel
theorem dX4_isAs_35 : decode cX4_isAs 35 = .ok (.if_icmp .ne 32, 3) := by decide +kernel
theorem dX4_isAs_38 : decode cX4_isAs 38 = .ok (.aload_n 0, 1) := by decide +kernel
theorem dX4_isAs_39 : decode cX4_isAs 39 = .ok (.getfield 15, 3) := by decide +kernel
theorem dX4_isAs_42 : decode cX4_isAs 42 = .ok (.iload_n 2, 1) := by decide +kernel
theorem dX4_isAs_43 : decode cX4_isAs 43 = .ok (.iaload, 1) := by decide +kernel
theorem dX4_isAs_44 : decode cX4_isAs 44 = .ok (.aload_n 1, 1) := by decide +kernel
theorem dX4_isAs_45 : decode cX4_isAs 45 = .ok (.getfield 15, 3) := by decide +kernel
theorem dX4_isAs_48 : decode cX4_isAs 48 = .ok (.iload_n 2, 1) := by decide +kernel
theorem dX4_isAs_49 : decode cX4_isAs 49 = .ok (.iaload, 1) := by decide +kernel
theorem dX4_isAs_50 : decode cX4_isAs 50 = .ok (.if_icmp .ne 17, 3) := by decide +kernel
theorem dX4_isAs_53 : decode cX4_isAs 53 = .ok (.aload_n 0, 1) := by decide +kernel
theorem dX4_isAs_54 : decode cX4_isAs 54 = .ok (.iload_n 2, 1) := by decide +kernel
theorem dX4_isAs_55 : decode cX4_isAs 55 = .ok (.aload_n 1, 1) := by decide +kernel
theorem dX4_isAs_56 : decode cX4_isAs 56 = .ok (.getfield 20, 3) := by decide +kernel
theorem dX4_isAs_59 : decode cX4_isAs 59 = .ok (.iload_n 2, 1) := by decide +kernel
theorem dX4_isAs_60 : decode cX4_isAs 60 = .ok (.aaload, 1) := by decide +kernel
theorem dX4_isAs_61 : decode cX4_isAs 61 = .ok (.invokevirtual 44, 3) := by decide +kernel
theorem dX4_isAs_64 : decode cX4_isAs 64 = .ok (.ifCond .ne 5, 3) := by decide +kernel
theorem dX4_isAs_67 : decode cX4_isAs 67 = .ok (.iconst 0, 1) := by decide +kernel
theorem dX4_isAs_68 : decode cX4_isAs 68 = .ok (.ireturn, 1) := by decide +kernel
theorem dX4_isAs_69 : decode cX4_isAs 69 = .ok (.iinc 2 1, 3) := by decide +kernel
theorem dX4_isAs_72 : decode cX4_isAs 72 = .ok (.goto (-57), 3) := by decide +kernel
theorem dX4_isAs_75 : decode cX4_isAs 75 = .ok (.iconst 1, 1) := by decide +kernel
theorem dX4_isAs_76 : decode cX4_isAs 76 = .ok (.ireturn, 1) := by decide +kernel
theorem dX4_hasTail_0 : decode cX4_hasTail 0 = .ok (.iconst 0, 1) := by decide +kernel
theorem dX4_hasTail_1 : decode cX4_hasTail 1 = .ok (.istore_n 3, 1) := by decide +kernel
theorem dX4_hasTail_2 : decode cX4_hasTail 2 = .ok (.iload_n 3, 1) := by decide +kernel
theorem dX4_hasTail_3 : decode cX4_hasTail 3 = .ok (.bipush 9, 2) := by decide +kernel
theorem dX4_hasTail_5 : decode cX4_hasTail 5 = .ok (.if_icmp .ge 25, 3) := by decide +kernel
theorem dX4_hasTail_8 : decode cX4_hasTail 8 = .ok (.aload_n 0, 1) := by decide +kernel
theorem dX4_hasTail_9 : decode cX4_hasTail 9 = .ok (.getfield 20, 3) := by decide +kernel
theorem dX4_hasTail_12 : decode cX4_hasTail 12 = .ok (.iload_n 1, 1) := by decide +kernel
theorem dX4_hasTail_13 : decode cX4_hasTail 13 = .ok (.aaload, 1) := by decide +kernel
theorem dX4_hasTail_14 : decode cX4_hasTail 14 = .ok (.iload_n 3, 1) := by decide +kernel
theorem dX4_hasTail_15 : decode cX4_hasTail 15 = .ok (.iaload, 1) := by decide +kernel
theorem dX4_hasTail_16 : decode cX4_hasTail 16 = .ok (.aload_n 2, 1) := by decide +kernel
theorem dX4_hasTail_17 : decode cX4_hasTail 17 = .ok (.iload_n 3, 1) := by decide +kernel
theorem dX4_hasTail_18 : decode cX4_hasTail 18 = .ok (.iaload, 1) := by decide +kernel
theorem dX4_hasTail_19 : decode cX4_hasTail 19 = .ok (.if_icmp .eq 5, 3) := by decide +kernel
theorem dX4_hasTail_22 : decode cX4_hasTail 22 = .ok (.iconst 0, 1) := by decide +kernel
theorem dX4_hasTail_23 : decode cX4_hasTail 23 = .ok (.ireturn, 1) := by decide +kernel
theorem dX4_hasTail_24 : decode cX4_hasTail 24 = .ok (.iinc 3 1, 3) := by decide +kernel
theorem dX4_hasTail_27 : decode cX4_hasTail 27 = .ok (.goto (-25), 3) := by decide +kernel
theorem dX4_hasTail_30 : decode cX4_hasTail 30 = .ok (.iconst 1, 1) := by decide +kernel
theorem dX4_hasTail_31 : decode cX4_hasTail 31 = .ok (.ireturn, 1) := by decide +kernel
theorem dX5_init_0 : decode cX5_init 0 = .ok (.aload_n 0, 1) := by decide +kernel
theorem dX5_init_1 : decode cX5_init 1 = .ok (.invokespecial 3, 3) := by decide +kernel
theorem dX5_init_4 : decode cX5_init 4 = .ok (.iload_n 1, 1) := by decide +kernel
theorem dX5_init_5 : decode cX5_init 5 = .ok (.iconst 0, 1) := by decide +kernel
theorem dX5_init_6 : decode cX5_init 6 = .ok (.invokestatic 9, 3) := by decide +kernel
theorem dX5_init_9 : decode cX5_init 9 = .ok (.istore_n 2, 1) := by decide +kernel
theorem dX5_init_10 : decode cX5_init 10 = .ok (.aload_n 0, 1) := by decide +kernel
theorem dX5_init_11 : decode cX5_init 11 = .ok (.iload_n 2, 1) := by decide +kernel
theorem dX5_init_12 : decode cX5_init 12 = .ok (.newarray .int, 2) := by decide +kernel
theorem dX5_init_14 : decode cX5_init 14 = .ok (.putfield 15, 3) := by decide +kernel
theorem dX5_init_17 : decode cX5_init 17 = .ok (.aload_n 0, 1) := by decide +kernel
theorem dX5_init_18 : decode cX5_init 18 = .ok (.iload_n 2, 1) := by decide +kernel
theorem dX5_init_19 : decode cX5_init 19 = .ok (.newarray .int, 2) := by decide +kernel
theorem dX5_init_21 : decode cX5_init 21 = .ok (.putfield 21, 3) := by decide +kernel
theorem dX5_init_24 : decode cX5_init 24 = .ok (.aload_n 0, 1) := by decide +kernel
theorem dX5_init_25 : decode cX5_init 25 = .ok (.iload_n 2, 1) := by decide +kernel
theorem dX5_init_26 : decode cX5_init 26 = .ok (.newarray .int, 2) := by decide +kernel
theorem dX5_init_28 : decode cX5_init 28 = .ok (.putfield 24, 3) := by decide +kernel
theorem dX5_init_31 : decode cX5_init 31 = .ok (.return_, 1) := by decide +kernel
theorem dX5_empty_0 : decode cX5_empty 0 = .ok (.aload_n 0, 1) := by decide +kernel
theorem dX5_empty_1 : decode cX5_empty 1 = .ok (.iconst 0, 1) := by decide +kernel
theorem dX5_empty_2 : decode cX5_empty 2 = .ok (.putfield 27, 3) := by decide +kernel
theorem dX5_empty_5 : decode cX5_empty 5 = .ok (.return_, 1) := by decide +kernel
theorem dX5_copyFrom_0 : decode cX5_copyFrom 0 = .ok (.aload_n 0, 1) := by decide +kernel
theorem dX5_copyFrom_1 : decode cX5_copyFrom 1 = .ok (.aload_n 1, 1) := by decide +kernel
theorem dX5_copyFrom_2 : decode cX5_copyFrom 2 = .ok (.getfield 27, 3) := by decide +kernel
theorem dX5_copyFrom_5 : decode cX5_copyFrom 5 = .ok (.aload_n 0, 1) := by decide +kernel
theorem dX5_copyFrom_6 : decode cX5_copyFrom 6 = .ok (.getfield 15, 3) := by decide +kernel
theorem dX5_copyFrom_9 : decode cX5_copyFrom 9 = .ok (.arraylength, 1) := by decide +kernel
theorem dX5_copyFrom_10 : decode cX5_copyFrom 10 = .ok (.invokestatic 31, 3) := by decide +kernel
theorem dX5_copyFrom_13 : decode cX5_copyFrom 13 = .ok (.putfield 27, 3) := by decide +kernel
theorem dX5_copyFrom_16 : decode cX5_copyFrom 16 = .ok (.iconst 0, 1) := by decide +kernel
theorem dX5_copyFrom_17 : decode cX5_copyFrom 17 = .ok (.istore_n 2, 1) := by decide +kernel
theorem dX5_copyFrom_18 : decode cX5_copyFrom 18 = .ok (.iload_n 2, 1) := by decide +kernel
theorem dX5_copyFrom_19 : decode cX5_copyFrom 19 = .ok (.aload_n 0, 1) := by decide +kernel
theorem dX5_copyFrom_20 : decode cX5_copyFrom 20 = .ok (.getfield 27, 3) := by decide +kernel
theorem dX5_copyFrom_23 : decode cX5_copyFrom 23 = .ok (.if_icmp .ge 45, 3) := by decide +kernel
theorem dX5_copyFrom_26 : decode cX5_copyFrom 26 = .ok (.aload_n 0, 1) := by decide +kernel
theorem dX5_copyFrom_27 : decode cX5_copyFrom 27 = .ok (.getfield 15, 3) := by decide +kernel
theorem dX5_copyFrom_30 : decode cX5_copyFrom 30 = .ok (.iload_n 2, 1) := by decide +kernel
theorem dX5_copyFrom_31 : decode cX5_copyFrom 31 = .ok (.aload_n 1, 1) := by decide +kernel
theorem dX5_copyFrom_32 : decode cX5_copyFrom 32 = .ok (.getfield 15, 3) := by decide +kernel
theorem dX5_copyFrom_35 : decode cX5_copyFrom 35 = .ok (.iload_n 2, 1) := by decide +kernel
theorem dX5_copyFrom_36 : decode cX5_copyFrom 36 = .ok (.iaload, 1) := by decide +kernel
theorem dX5_copyFrom_37 : decode cX5_copyFrom 37 = .ok (.iastore, 1) := by decide +kernel
theorem dX5_copyFrom_38 : decode cX5_copyFrom 38 = .ok (.aload_n 0, 1) := by decide +kernel
theorem dX5_copyFrom_39 : decode cX5_copyFrom 39 = .ok (.getfield 21, 3) := by decide +kernel
theorem dX5_copyFrom_42 : decode cX5_copyFrom 42 = .ok (.iload_n 2, 1) := by decide +kernel
theorem dX5_copyFrom_43 : decode cX5_copyFrom 43 = .ok (.aload_n 1, 1) := by decide +kernel
theorem dX5_copyFrom_44 : decode cX5_copyFrom 44 = .ok (.getfield 21, 3) := by decide +kernel
theorem dX5_copyFrom_47 : decode cX5_copyFrom 47 = .ok (.iload_n 2, 1) := by decide +kernel
theorem dX5_copyFrom_48 : decode cX5_copyFrom 48 = .ok (.iaload, 1) := by decide +kernel
theorem dX5_copyFrom_49 : decode cX5_copyFrom 49 = .ok (.iastore, 1) := by decide +kernel
theorem dX5_copyFrom_50 : decode cX5_copyFrom 50 = .ok (.aload_n 0, 1) := by decide +kernel
theorem dX5_copyFrom_51 : decode cX5_copyFrom 51 = .ok (.getfield 24, 3) := by decide +kernel
theorem dX5_copyFrom_54 : decode cX5_copyFrom 54 = .ok (.iload_n 2, 1) := by decide +kernel
theorem dX5_copyFrom_55 : decode cX5_copyFrom 55 = .ok (.aload_n 1, 1) := by decide +kernel
theorem dX5_copyFrom_56 : decode cX5_copyFrom 56 = .ok (.getfield 24, 3) := by decide +kernel
theorem dX5_copyFrom_59 : decode cX5_copyFrom 59 = .ok (.iload_n 2, 1) := by decide +kernel
theorem dX5_copyFrom_60 : decode cX5_copyFrom 60 = .ok (.iaload, 1) := by decide +kernel
theorem dX5_copyFrom_61 : decode cX5_copyFrom 61 = .ok (.iastore, 1) := by decide +kernel
theorem dX5_copyFrom_62 : decode cX5_copyFrom 62 = .ok (.iinc 2 1, 3) := by decide +kernel
theorem dX5_copyFrom_65 : decode cX5_copyFrom 65 = .ok (.goto (-47), 3) := by decide +kernel
theorem dX5_copyFrom_68 : decode cX5_copyFrom 68 = .ok (.return_, 1) := by decide +kernel
set_option maxRecDepth 20000 in
theorem ggX5_bring_X11_leftOver : GoodIn wsX5_bring wsX11_leftOver := goodIn_r _ [7] (by decide +kernel) (by decide +kernel)
set_option maxRecDepth 20000 in
theorem gX5_bring_X11_leftOver_n34 : GoodIn wsX5_bring (wsX11_leftOver) := ggX5_bring_X11_leftOver
set_option maxRecDepth 20000 in
theorem ggX5_bring_X5_takeZerosAway : GoodIn wsX5_bring wsX5_takeZerosAway := goodIn_r _ [12, 1, 4, 2, 3, 17, 18, 19, 20] (by decide +kernel) (by decide +kernel)
set_option maxRecDepth 20000 in
theorem gX5_bring_X5_takeZerosAway : GoodIn wsX5_bring (wsV RX5 37 RX5 yX5_takeZerosAway wsX5_takeZerosAway) := goodIn_app (goodIn_of _ (by decide +kernel)) ggX5_bring_X5_takeZerosAway
set_option maxRecDepth 20000 in
theorem ggX5_bring_X5_insert : GoodIn wsX5_bring wsX5_insert := goodIn_r _ [16, 1, 4, 2, 3, 17, 18, 19, 20] (by decide +kernel) (by decide +kernel)
set_option maxRecDepth 20000 in
theorem gX5_bring_X5_insert : GoodIn wsX5_bring (wsV RX5 40 RX5 yX5_insert wsX5_insert) := goodIn_app (goodIn_of _ (by decide +kernel)) ggX5_bring_X5_insert
theorem dX5_bring_0 : decode cX5_bring 0 = .ok (.iconst 0, 1) := by decide +kernel
theorem dX5_bring_1 : decode cX5_bring 1 = .ok (.istore 5, 2) := by decide +kernel
