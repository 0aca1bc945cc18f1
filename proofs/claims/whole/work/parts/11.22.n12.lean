theorem dX12_image_69 : decode cX12_image 69 = .ok (.iadd, 1) := by decide +kernel
theorem dX12_image_70 : decode cX12_image 70 = .ok (.aload_n 0, 1) := by decide +kernel
theorem dX12_image_71 : decode cX12_image 71 = .ok (.getfield 22, 3) := by decide +kernel
theorem dX12_image_74 : decode cX12_image 74 = .ok (.iastore, 1) := by decide +kernel
theorem dX12_image_75 : decode cX12_image 75 = .ok (.iconst 0, 1) := by decide +kernel
theorem dX12_image_76 : decode cX12_image 76 = .ok (.istore_n 3, 1) := by decide +kernel
theorem dX12_image_77 : decode cX12_image 77 = .ok (.iload_n 3, 1) := by decide +kernel
theorem dX12_image_78 : decode cX12_image 78 = .ok (.bipush 18, 2) := by decide +kernel
theorem dX12_image_80 : decode cX12_image 80 = .ok (.if_icmp .ge 25, 3) := by decide +kernel
theorem dX12_image_83 : decode cX12_image 83 = .ok (.aload_n 0, 1) := by decide +kernel
theorem dX12_image_84 : decode cX12_image 84 = .ok (.getfield 62, 3) := by decide +kernel
theorem dX12_image_87 : decode cX12_image 87 = .ok (.iload_n 2, 1) := by decide +kernel
theorem dX12_image_88 : decode cX12_image 88 = .ok (.iconst 5, 1) := by decide +kernel
theorem dX12_image_89 : decode cX12_image 89 = .ok (.iadd, 1) := by decide +kernel
theorem dX12_image_90 : decode cX12_image 90 = .ok (.iload_n 3, 1) := by decide +kernel
theorem dX12_image_91 : decode cX12_image 91 = .ok (.iadd, 1) := by decide +kernel
theorem dX12_image_92 : decode cX12_image 92 = .ok (.aload_n 0, 1) := by decide +kernel
theorem dX12_image_93 : decode cX12_image 93 = .ok (.getfield 25, 3) := by decide +kernel
theorem dX12_image_96 : decode cX12_image 96 = .ok (.iload_n 3, 1) := by decide +kernel
theorem dX12_image_97 : decode cX12_image 97 = .ok (.iaload, 1) := by decide +kernel
theorem dX12_image_98 : decode cX12_image 98 = .ok (.iastore, 1) := by decide +kernel
theorem dX12_image_99 : decode cX12_image 99 = .ok (.iinc 3 1, 3) := by decide +kernel
theorem dX12_image_102 : decode cX12_image 102 = .ok (.goto (-25), 3) := by decide +kernel
theorem dX12_image_105 : decode cX12_image 105 = .ok (.aload_n 0, 1) := by decide +kernel
theorem dX12_image_106 : decode cX12_image 106 = .ok (.getfield 65, 3) := by decide +kernel
theorem dX12_image_109 : decode cX12_image 109 = .ok (.iload_n 1, 1) := by decide +kernel
theorem dX12_image_110 : decode cX12_image 110 = .ok (.iconst 1, 1) := by decide +kernel
theorem dX12_image_111 : decode cX12_image 111 = .ok (.bastore, 1) := by decide +kernel
theorem dX12_image_112 : decode cX12_image 112 = .ok (.aload_n 0, 1) := by decide +kernel
theorem dX12_image_113 : decode cX12_image 113 = .ok (.invokevirtual 168, 3) := by decide +kernel
theorem dX12_image_116 : decode cX12_image 116 = .ok (.ireturn, 1) := by decide +kernel
set_option maxRecDepth 20000 in
theorem ggX12_goBack_X12_in : GoodIn wsX12_goBack wsX12_in := goodIn_r _ [11] rfl (by decide +kernel)
set_option maxRecDepth 20000 in
theorem gX12_goBack_X12_in : GoodIn wsX12_goBack (va_wsS RX12 155 yX12_in wsX12_in) := goodIn_app (goodIn_of _ (by decide +kernel)) ggX12_goBack_X12_in
set_option maxRecDepth 20000 in
theorem ggX12_goBack_X12_becomesField : GoodIn wsX12_goBack wsX12_becomesField := goodIn_r _ [15, 16, 7, 17, 18, 19, 20, 21, 22, 10, 23, 24, 25, 26, 31, 32, 33, 34, 35, 36, 37, 38, 39, 40, 41, 42, 43, 44, 45, 46, 47, 48, 49, 50, 51, 52, 53, 54, 55, 56, 57, 58, 59, 60, 61, 62, 63, 64, 65, 66, 67, 68, 69, 70, 71, 72, 73, 74, 75, 76, 77, 78, 79, 80, 81, 82, 83, 84] rfl (by decide +kernel)
set_option maxRecDepth 20000 in
theorem gX12_goBack_X12_becomesField : GoodIn wsX12_goBack (wsV RX12 163 RX12 yX12_becomesField wsX12_becomesField) := goodIn_app (goodIn_of _ (by decide +kernel)) ggX12_goBack_X12_becomesField
set_option maxRecDepth 20000 in
theorem ggX12_goBack_X12_dimension : GoodIn wsX12_goBack wsX12_dimension := goodIn_r _ [30, 3, 4, 31, 32, 33, 34, 35, 36, 37, 38, 39, 40, 41, 42, 43, 44, 45, 46, 47, 48, 49, 50, 51, 52, 53, 54, 55, 56, 57, 58, 59, 60, 61, 62, 63, 64, 65, 66, 67, 68, 69, 70, 71, 72, 73, 74, 75, 76, 77, 78, 79, 80, 81, 82, 83, 84] rfl (by decide +kernel)
set_option maxRecDepth 20000 in
theorem gX12_goBack_X12_dimension : GoodIn wsX12_goBack (wsV RX12 168 RX12 yX12_dimension wsX12_dimension) := goodIn_app (goodIn_of _ (by decide +kernel)) ggX12_goBack_X12_dimension
theorem dX12_goBack_0 : decode cX12_goBack 0 = .ok (.iload_n 1, 1) := by decide +kernel
theorem dX12_goBack_1 : decode cX12_goBack 1 = .ok (.i2l, 1) := by decide +kernel
theorem dX12_goBack_2 : decode cX12_goBack 2 = .ok (.lconst 0, 1) := by decide +kernel
theorem dX12_goBack_3 : decode cX12_goBack 3 = .ok (.lconst 1, 1) := by decide +kernel
theorem dX12_goBack_4 : decode cX12_goBack 4 = .ok (.invokestatic 155, 3) := by decide +kernel
theorem dX12_goBack_7 : decode cX12_goBack 7 = .ok (.ifCond .ne 5, 3) := by decide +kernel
theorem dX12_goBack_10 : decode cX12_goBack 10 = .ok (.iconst (-1), 1) := by decide +kernel
theorem dX12_goBack_11 : decode cX12_goBack 11 = .ok (.ireturn, 1) := by decide +kernel
theorem dX12_goBack_12 : decode cX12_goBack 12 = .ok (.aload_n 0, 1) := by decide +kernel
theorem dX12_goBack_13 : decode cX12_goBack 13 = .ok (.getfield 65, 3) := by decide +kernel
theorem dX12_goBack_16 : decode cX12_goBack 16 = .ok (.iload_n 1, 1) := by decide +kernel
theorem dX12_goBack_17 : decode cX12_goBack 17 = .ok (.baload, 1) := by decide +kernel
theorem dX12_goBack_18 : decode cX12_goBack 18 = .ok (.ifCond .ne 6, 3) := by decide +kernel
theorem dX12_goBack_21 : decode cX12_goBack 21 = .ok (.bipush (-2), 2) := by decide +kernel
theorem dX12_goBack_23 : decode cX12_goBack 23 = .ok (.ireturn, 1) := by decide +kernel
theorem dX12_goBack_24 : decode cX12_goBack 24 = .ok (.bipush 23, 2) := by decide +kernel
theorem dX12_goBack_26 : decode cX12_goBack 26 = .ok (.iload_n 1, 1) := by decide +kernel
theorem dX12_goBack_27 : decode cX12_goBack 27 = .ok (.imul, 1) := by decide +kernel
theorem dX12_goBack_28 : decode cX12_goBack 28 = .ok (.istore_n 2, 1) := by decide +kernel
theorem dX12_goBack_29 : decode cX12_goBack 29 = .ok (.aload_n 0, 1) := by decide +kernel
theorem dX12_goBack_30 : decode cX12_goBack 30 = .ok (.aload_n 0, 1) := by decide +kernel
theorem dX12_goBack_31 : decode cX12_goBack 31 = .ok (.getfield 62, 3) := by decide +kernel
theorem dX12_goBack_34 : decode cX12_goBack 34 = .ok (.iload_n 2, 1) := by decide +kernel
theorem dX12_goBack_35 : decode cX12_goBack 35 = .ok (.iaload, 1) := by decide +kernel
theorem dX12_goBack_36 : decode cX12_goBack 36 = .ok (.invokevirtual 163, 3) := by decide +kernel
theorem dX12_goBack_39 : decode cX12_goBack 39 = .ok (.aload_n 0, 1) := by decide +kernel
theorem dX12_goBack_40 : decode cX12_goBack 40 = .ok (.aload_n 0, 1) := by decide +kernel
theorem dX12_goBack_41 : decode cX12_goBack 41 = .ok (.getfield 62, 3) := by decide +kernel
theorem dX12_goBack_44 : decode cX12_goBack 44 = .ok (.iload_n 2, 1) := by decide +kernel
theorem dX12_goBack_45 : decode cX12_goBack 45 = .ok (.iconst 1, 1) := by decide +kernel
theorem dX12_goBack_46 : decode cX12_goBack 46 = .ok (.iadd, 1) := by decide +kernel
theorem dX12_goBack_47 : decode cX12_goBack 47 = .ok (.iaload, 1) := by decide +kernel
theorem dX12_goBack_48 : decode cX12_goBack 48 = .ok (.putfield 13, 3) := by decide +kernel
theorem dX12_goBack_51 : decode cX12_goBack 51 = .ok (.aload_n 0, 1) := by decide +kernel
theorem dX12_goBack_52 : decode cX12_goBack 52 = .ok (.aload_n 0, 1) := by decide +kernel
theorem dX12_goBack_53 : decode cX12_goBack 53 = .ok (.getfield 62, 3) := by decide +kernel
theorem dX12_goBack_56 : decode cX12_goBack 56 = .ok (.iload_n 2, 1) := by decide +kernel
theorem dX12_goBack_57 : decode cX12_goBack 57 = .ok (.iconst 2, 1) := by decide +kernel
theorem dX12_goBack_58 : decode cX12_goBack 58 = .ok (.iadd, 1) := by decide +kernel
theorem dX12_goBack_59 : decode cX12_goBack 59 = .ok (.iaload, 1) := by decide +kernel
theorem dX12_goBack_60 : decode cX12_goBack 60 = .ok (.putfield 16, 3) := by decide +kernel
theorem dX12_goBack_63 : decode cX12_goBack 63 = .ok (.aload_n 0, 1) := by decide +kernel
theorem dX12_goBack_64 : decode cX12_goBack 64 = .ok (.aload_n 0, 1) := by decide +kernel
theorem dX12_goBack_65 : decode cX12_goBack 65 = .ok (.getfield 62, 3) := by decide +kernel
theorem dX12_goBack_68 : decode cX12_goBack 68 = .ok (.iload_n 2, 1) := by decide +kernel
theorem dX12_goBack_69 : decode cX12_goBack 69 = .ok (.iconst 3, 1) := by decide +kernel
theorem dX12_goBack_70 : decode cX12_goBack 70 = .ok (.iadd, 1) := by decide +kernel
theorem dX12_goBack_71 : decode cX12_goBack 71 = .ok (.iaload, 1) := by decide +kernel
theorem dX12_goBack_72 : decode cX12_goBack 72 = .ok (.putfield 19, 3) := by decide +kernel
theorem dX12_goBack_75 : decode cX12_goBack 75 = .ok (.aload_n 0, 1) := by decide +kernel
theorem dX12_goBack_76 : decode cX12_goBack 76 = .ok (.aload_n 0, 1) := by decide +kernel
theorem dX12_goBack_77 : decode cX12_goBack 77 = .ok (.getfield 62, 3) := by decide +kernel
theorem dX12_goBack_80 : decode cX12_goBack 80 = .ok (.iload_n 2, 1) := by decide +kernel
theorem dX12_goBack_81 : decode cX12_goBack 81 = .ok (.iconst 4, 1) := by decide +kernel
theorem dX12_goBack_82 : decode cX12_goBack 82 = .ok (.iadd, 1) := by decide +kernel
theorem dX12_goBack_83 : decode cX12_goBack 83 = .ok (.iaload, 1) := by decide +kernel
theorem dX12_goBack_84 : decode cX12_goBack 84 = .ok (.putfield 22, 3) := by decide +kernel
theorem dX12_goBack_87 : decode cX12_goBack 87 = .ok (.iconst 0, 1) := by decide +kernel
theorem dX12_goBack_88 : decode cX12_goBack 88 = .ok (.istore_n 3, 1) := by decide +kernel
theorem dX12_goBack_89 : decode cX12_goBack 89 = .ok (.iload_n 3, 1) := by decide +kernel
theorem dX12_goBack_90 : decode cX12_goBack 90 = .ok (.bipush 18, 2) := by decide +kernel
theorem dX12_goBack_92 : decode cX12_goBack 92 = .ok (.if_icmp .ge 25, 3) := by decide +kernel
theorem dX12_goBack_95 : decode cX12_goBack 95 = .ok (.aload_n 0, 1) := by decide +kernel
theorem dX12_goBack_96 : decode cX12_goBack 96 = .ok (.getfield 25, 3) := by decide +kernel
theorem dX12_goBack_99 : decode cX12_goBack 99 = .ok (.iload_n 3, 1) := by decide +kernel
theorem dX12_goBack_100 : decode cX12_goBack 100 = .ok (.aload_n 0, 1) := by decide +kernel
theorem dX12_goBack_101 : decode cX12_goBack 101 = .ok (.getfield 62, 3) := by decide +kernel
theorem dX12_goBack_104 : decode cX12_goBack 104 = .ok (.iload_n 2, 1) := by decide +kernel
theorem dX12_goBack_105 : decode cX12_goBack 105 = .ok (.iconst 5, 1) := by decide +kernel
theorem dX12_goBack_106 : decode cX12_goBack 106 = .ok (.iadd, 1) := by decide +kernel
theorem dX12_goBack_107 : decode cX12_goBack 107 = .ok (.iload_n 3, 1) := by decide +kernel
theorem dX12_goBack_108 : decode cX12_goBack 108 = .ok (.iadd, 1) := by decide +kernel
theorem dX12_goBack_109 : decode cX12_goBack 109 = .ok (.iaload, 1) := by decide +kernel
theorem dX12_goBack_110 : decode cX12_goBack 110 = .ok (.iastore, 1) := by decide +kernel
theorem dX12_goBack_111 : decode cX12_goBack 111 = .ok (.iinc 3 1, 3) := by decide +kernel
theorem dX12_goBack_114 : decode cX12_goBack 114 = .ok (.goto (-25), 3) := by decide +kernel
theorem dX12_goBack_117 : decode cX12_goBack 117 = .ok (.aload_n 0, 1) := by decide +kernel
theorem dX12_goBack_118 : decode cX12_goBack 118 = .ok (.invokevirtual 168, 3) := by decide +kernel
theorem dX12_goBack_121 : decode cX12_goBack 121 = .ok (.ireturn, 1) := by decide +kernel
theorem dJ9_max_7cf53_0 : decode cJ9_max_7cf53 0 = .ok (.iload_n 0, 1) := by decide +kernel
theorem dJ9_max_7cf53_1 : decode cJ9_max_7cf53 1 = .ok (.iload_n 1, 1) := by decide +kernel
theorem dJ9_max_7cf53_2 : decode cJ9_max_7cf53 2 = .ok (.if_icmp .lt 7, 3) := by decide +kernel
theorem dJ9_max_7cf53_5 : decode cJ9_max_7cf53 5 = .ok (.iload_n 0, 1) := by decide +kernel
theorem dJ9_max_7cf53_6 : decode cJ9_max_7cf53 6 = .ok (.goto 4, 3) := by decide +kernel
theorem dJ9_max_7cf53_9 : decode cJ9_max_7cf53 9 = .ok (.iload_n 1, 1) := by decide +kernel
theorem dJ9_max_7cf53_10 : decode cJ9_max_7cf53 10 = .ok (.ireturn, 1) := by decide +kernel
theorem dJ9_max_f86c9_0 : decode cJ9_max_f86c9 0 = .ok (.lload_n 0, 1) := by decide +kernel
theorem dJ9_max_f86c9_1 : decode cJ9_max_f86c9 1 = .ok (.lload_n 2, 1) := by decide +kernel
theorem dJ9_max_f86c9_2 : decode cJ9_max_f86c9 2 = .ok (.lcmp, 1) := by decide +kernel
theorem dJ9_max_f86c9_3 : decode cJ9_max_f86c9 3 = .ok (.ifCond .lt 7, 3) := by decide +kernel
theorem dJ9_max_f86c9_6 : decode cJ9_max_f86c9 6 = .ok (.lload_n 0, 1) := by decide +kernel
theorem dJ9_max_f86c9_7 : decode cJ9_max_f86c9 7 = .ok (.goto 4, 3) := by decide +kernel
theorem dJ9_max_f86c9_10 : decode cJ9_max_f86c9 10 = .ok (.lload_n 2, 1) := by decide +kernel
theorem dJ9_max_f86c9_11 : decode cJ9_max_f86c9 11 = .ok (.lreturn, 1) := by decide +kernel
theorem dJ9_min_7cf53_0 : decode cJ9_min_7cf53 0 = .ok (.iload_n 0, 1) := by decide +kernel
theorem dJ9_min_7cf53_1 : decode cJ9_min_7cf53 1 = .ok (.iload_n 1, 1) := by decide +kernel
theorem dJ9_min_7cf53_2 : decode cJ9_min_7cf53 2 = .ok (.if_icmp .gt 7, 3) := by decide +kernel
theorem dJ9_min_7cf53_5 : decode cJ9_min_7cf53 5 = .ok (.iload_n 0, 1) := by decide +kernel
theorem dJ9_min_7cf53_6 : decode cJ9_min_7cf53 6 = .ok (.goto 4, 3) := by decide +kernel
theorem dJ9_min_7cf53_9 : decode cJ9_min_7cf53 9 = .ok (.iload_n 1, 1) := by decide +kernel
theorem dJ9_min_7cf53_10 : decode cJ9_min_7cf53 10 = .ok (.ireturn, 1) := by decide +kernel
abbrev vwCl : List vw_C := [(RX0, TX0, 9), (RX1, TX1, 6), (RX2, TX2, 9), (RX3, TX3, 7), (RX4, TX4, 4), (RX5, TX5, 4), (RX6, TX6, 5), (RX7, TX7, 7), (RX8, TX8, 4), (RX9, TX9, 5), (RX10, TX10, 3), (RX11, TX11, 11), (RX12, TX12, 54)]
