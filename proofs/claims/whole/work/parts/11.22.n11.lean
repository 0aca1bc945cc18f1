theorem dX12_keepBase_93 : decode cX12_keepBase 93 = .ok (.aload_n 0, 1) := by decide +kernel
theorem dX12_keepBase_94 : decode cX12_keepBase 94 = .ok (.getfield 56, 3) := by decide +kernel
theorem dX12_keepBase_97 : decode cX12_keepBase 97 = .ok (.bipush 10, 2) := by decide +kernel
theorem dX12_keepBase_99 : decode cX12_keepBase 99 = .ok (.iload_n 1, 1) := by decide +kernel
theorem dX12_keepBase_100 : decode cX12_keepBase 100 = .ok (.imul, 1) := by decide +kernel
theorem dX12_keepBase_101 : decode cX12_keepBase 101 = .ok (.iload_n 3, 1) := by decide +kernel
theorem dX12_keepBase_102 : decode cX12_keepBase 102 = .ok (.iadd, 1) := by decide +kernel
theorem dX12_keepBase_103 : decode cX12_keepBase 103 = .ok (.aload_n 0, 1) := by decide +kernel
theorem dX12_keepBase_104 : decode cX12_keepBase 104 = .ok (.getfield 105, 3) := by decide +kernel
theorem dX12_keepBase_107 : decode cX12_keepBase 107 = .ok (.iload_n 3, 1) := by decide +kernel
theorem dX12_keepBase_108 : decode cX12_keepBase 108 = .ok (.iaload, 1) := by decide +kernel
theorem dX12_keepBase_109 : decode cX12_keepBase 109 = .ok (.iastore, 1) := by decide +kernel
theorem dX12_keepBase_110 : decode cX12_keepBase 110 = .ok (.iconst 0, 1) := by decide +kernel
theorem dX12_keepBase_111 : decode cX12_keepBase 111 = .ok (.istore 4, 2) := by decide +kernel
theorem dX12_keepBase_113 : decode cX12_keepBase 113 = .ok (.iload 4, 2) := by decide +kernel
theorem dX12_keepBase_115 : decode cX12_keepBase 115 = .ok (.bipush 9, 2) := by decide +kernel
theorem dX12_keepBase_117 : decode cX12_keepBase 117 = .ok (.if_icmp .ge 38, 3) := by decide +kernel
theorem dX12_keepBase_120 : decode cX12_keepBase 120 = .ok (.aload_n 0, 1) := by decide +kernel
theorem dX12_keepBase_121 : decode cX12_keepBase 121 = .ok (.getfield 59, 3) := by decide +kernel
theorem dX12_keepBase_124 : decode cX12_keepBase 124 = .ok (.bipush 90, 2) := by decide +kernel
theorem dX12_keepBase_126 : decode cX12_keepBase 126 = .ok (.iload_n 1, 1) := by decide +kernel
theorem dX12_keepBase_127 : decode cX12_keepBase 127 = .ok (.imul, 1) := by decide +kernel
theorem dX12_keepBase_128 : decode cX12_keepBase 128 = .ok (.bipush 9, 2) := by decide +kernel
theorem dX12_keepBase_130 : decode cX12_keepBase 130 = .ok (.iload_n 3, 1) := by decide +kernel
theorem dX12_keepBase_131 : decode cX12_keepBase 131 = .ok (.imul, 1) := by decide +kernel
theorem dX12_keepBase_132 : decode cX12_keepBase 132 = .ok (.iadd, 1) := by decide +kernel
theorem dX12_keepBase_133 : decode cX12_keepBase 133 = .ok (.iload 4, 2) := by decide +kernel
theorem dX12_keepBase_135 : decode cX12_keepBase 135 = .ok (.iadd, 1) := by decide +kernel
theorem dX12_keepBase_136 : decode cX12_keepBase 136 = .ok (.aload_n 0, 1) := by decide +kernel
theorem dX12_keepBase_137 : decode cX12_keepBase 137 = .ok (.getfield 108, 3) := by decide +kernel
theorem dX12_keepBase_140 : decode cX12_keepBase 140 = .ok (.bipush 9, 2) := by decide +kernel
theorem dX12_keepBase_142 : decode cX12_keepBase 142 = .ok (.iload_n 3, 1) := by decide +kernel
theorem dX12_keepBase_143 : decode cX12_keepBase 143 = .ok (.imul, 1) := by decide +kernel
theorem dX12_keepBase_144 : decode cX12_keepBase 144 = .ok (.iload 4, 2) := by decide +kernel
theorem dX12_keepBase_146 : decode cX12_keepBase 146 = .ok (.iadd, 1) := by decide +kernel
theorem dX12_keepBase_147 : decode cX12_keepBase 147 = .ok (.iaload, 1) := by decide +kernel
theorem dX12_keepBase_148 : decode cX12_keepBase 148 = .ok (.iastore, 1) := by decide +kernel
theorem dX12_keepBase_149 : decode cX12_keepBase 149 = .ok (.iinc 4 1, 3) := by decide +kernel
theorem dX12_keepBase_152 : decode cX12_keepBase 152 = .ok (.goto (-39), 3) := by decide +kernel
theorem dX12_keepBase_155 : decode cX12_keepBase 155 = .ok (.iinc 3 1, 3) := by decide +kernel
theorem dX12_keepBase_158 : decode cX12_keepBase 158 = .ok (.goto (-90), 3) := by decide +kernel
theorem dX12_keepBase_161 : decode cX12_keepBase 161 = .ok (.aload_n 0, 1) := by decide +kernel
theorem dX12_keepBase_162 : decode cX12_keepBase 162 = .ok (.getfield 230, 3) := by decide +kernel
theorem dX12_keepBase_165 : decode cX12_keepBase 165 = .ok (.ireturn, 1) := by decide +kernel
set_option maxRecDepth 20000 in
theorem ggX12_drop_X12_isSlot : GoodIn wsX12_drop wsX12_isSlot := goodIn_r _ [5, 6, 7, 8, 4, 9] rfl (by decide +kernel)
set_option maxRecDepth 20000 in
theorem gX12_drop_X12_isSlot : GoodIn wsX12_drop (va_wsS RX12 305 yX12_isSlot wsX12_isSlot) := goodIn_app (goodIn_of _ (by decide +kernel)) ggX12_drop_X12_isSlot
theorem dX12_drop_0 : decode cX12_drop 0 = .ok (.iload_n 1, 1) := by decide +kernel
theorem dX12_drop_1 : decode cX12_drop 1 = .ok (.invokestatic 305, 3) := by decide +kernel
theorem dX12_drop_4 : decode cX12_drop 4 = .ok (.ifCond .ne 5, 3) := by decide +kernel
theorem dX12_drop_7 : decode cX12_drop 7 = .ok (.iconst (-1), 1) := by decide +kernel
theorem dX12_drop_8 : decode cX12_drop 8 = .ok (.ireturn, 1) := by decide +kernel
theorem dX12_drop_9 : decode cX12_drop 9 = .ok (.aload_n 0, 1) := by decide +kernel
theorem dX12_drop_10 : decode cX12_drop 10 = .ok (.getfield 29, 3) := by decide +kernel
theorem dX12_drop_13 : decode cX12_drop 13 = .ok (.iload_n 1, 1) := by decide +kernel
theorem dX12_drop_14 : decode cX12_drop 14 = .ok (.iaload, 1) := by decide +kernel
theorem dX12_drop_15 : decode cX12_drop 15 = .ok (.istore_n 2, 1) := by decide +kernel
theorem dX12_drop_16 : decode cX12_drop 16 = .ok (.aload_n 0, 1) := by decide +kernel
theorem dX12_drop_17 : decode cX12_drop 17 = .ok (.getfield 29, 3) := by decide +kernel
theorem dX12_drop_20 : decode cX12_drop 20 = .ok (.iload_n 1, 1) := by decide +kernel
theorem dX12_drop_21 : decode cX12_drop 21 = .ok (.iconst 0, 1) := by decide +kernel
theorem dX12_drop_22 : decode cX12_drop 22 = .ok (.iastore, 1) := by decide +kernel
theorem dX12_drop_23 : decode cX12_drop 23 = .ok (.iload_n 2, 1) := by decide +kernel
theorem dX12_drop_24 : decode cX12_drop 24 = .ok (.ireturn, 1) := by decide +kernel
theorem dX12_lacks_0 : decode cX12_lacks 0 = .ok (.aload_n 0, 1) := by decide +kernel
theorem dX12_lacks_1 : decode cX12_lacks 1 = .ok (.getfield 29, 3) := by decide +kernel
theorem dX12_lacks_4 : decode cX12_lacks 4 = .ok (.iload_n 1, 1) := by decide +kernel
theorem dX12_lacks_5 : decode cX12_lacks 5 = .ok (.iaload, 1) := by decide +kernel
theorem dX12_lacks_6 : decode cX12_lacks 6 = .ok (.ifCond .ne 8, 3) := by decide +kernel
theorem dX12_lacks_9 : decode cX12_lacks 9 = .ok (.bipush (-11), 2) := by decide +kernel
theorem dX12_lacks_11 : decode cX12_lacks 11 = .ok (.goto 19, 3) := by decide +kernel
theorem dX12_lacks_14 : decode cX12_lacks 14 = .ok (.aload_n 0, 1) := by decide +kernel
theorem dX12_lacks_15 : decode cX12_lacks 15 = .ok (.getfield 29, 3) := by decide +kernel
theorem dX12_lacks_18 : decode cX12_lacks 18 = .ok (.iload_n 1, 1) := by decide +kernel
theorem dX12_lacks_19 : decode cX12_lacks 19 = .ok (.iaload, 1) := by decide +kernel
theorem dX12_lacks_20 : decode cX12_lacks 20 = .ok (.iload_n 2, 1) := by decide +kernel
theorem dX12_lacks_21 : decode cX12_lacks 21 = .ok (.if_icmp .eq 8, 3) := by decide +kernel
theorem dX12_lacks_24 : decode cX12_lacks 24 = .ok (.bipush (-12), 2) := by decide +kernel
theorem dX12_lacks_26 : decode cX12_lacks 26 = .ok (.goto 4, 3) := by decide +kernel
theorem dX12_lacks_29 : decode cX12_lacks 29 = .ok (.iconst 0, 1) := by decide +kernel
theorem dX12_lacks_30 : decode cX12_lacks 30 = .ok (.ireturn, 1) := by decide +kernel
set_option maxRecDepth 20000 in
theorem ggX12_takes_X12_comes : GoodIn wsX12_takes wsX12_comes := goodIn_r _ [10, 1, 11, 12, 13, 14, 15, 16, 17, 18, 19, 20, 21, 22, 23, 24, 25, 26, 27, 28, 29, 30, 31, 32, 33, 34, 35, 36, 37, 38, 39, 40, 41, 42, 43, 44, 45, 46, 47, 48, 49, 50, 51, 52, 53, 54, 55, 56, 57, 58, 59, 60, 61, 62, 63, 64, 65, 66, 67, 68] rfl (by decide +kernel)
set_option maxRecDepth 20000 in
theorem gX12_takes_X12_comes : GoodIn wsX12_takes (wsV RX12 311 RX12 yX12_comes wsX12_comes) := goodIn_app (goodIn_of _ (by decide +kernel)) ggX12_takes_X12_comes
theorem dX12_takes_0 : decode cX12_takes 0 = .ok (.aload_n 0, 1) := by decide +kernel
theorem dX12_takes_1 : decode cX12_takes 1 = .ok (.iconst 0, 1) := by decide +kernel
theorem dX12_takes_2 : decode cX12_takes 2 = .ok (.putfield 308, 3) := by decide +kernel
theorem dX12_takes_5 : decode cX12_takes 5 = .ok (.bipush 8, 2) := by decide +kernel
theorem dX12_takes_7 : decode cX12_takes 7 = .ok (.iload_n 1, 1) := by decide +kernel
theorem dX12_takes_8 : decode cX12_takes 8 = .ok (.imul, 1) := by decide +kernel
theorem dX12_takes_9 : decode cX12_takes 9 = .ok (.istore_n 2, 1) := by decide +kernel
theorem dX12_takes_10 : decode cX12_takes 10 = .ok (.iload_n 2, 1) := by decide +kernel
theorem dX12_takes_11 : decode cX12_takes 11 = .ok (.bipush 8, 2) := by decide +kernel
theorem dX12_takes_13 : decode cX12_takes 13 = .ok (.iload_n 1, 1) := by decide +kernel
theorem dX12_takes_14 : decode cX12_takes 14 = .ok (.imul, 1) := by decide +kernel
theorem dX12_takes_15 : decode cX12_takes 15 = .ok (.aload_n 0, 1) := by decide +kernel
theorem dX12_takes_16 : decode cX12_takes 16 = .ok (.getfield 32, 3) := by decide +kernel
theorem dX12_takes_19 : decode cX12_takes 19 = .ok (.iload_n 1, 1) := by decide +kernel
theorem dX12_takes_20 : decode cX12_takes 20 = .ok (.iaload, 1) := by decide +kernel
theorem dX12_takes_21 : decode cX12_takes 21 = .ok (.iadd, 1) := by decide +kernel
theorem dX12_takes_22 : decode cX12_takes 22 = .ok (.if_icmp .ge 31, 3) := by decide +kernel
theorem dX12_takes_25 : decode cX12_takes 25 = .ok (.aload_n 0, 1) := by decide +kernel
theorem dX12_takes_26 : decode cX12_takes 26 = .ok (.aload_n 0, 1) := by decide +kernel
theorem dX12_takes_27 : decode cX12_takes 27 = .ok (.getfield 35, 3) := by decide +kernel
theorem dX12_takes_30 : decode cX12_takes 30 = .ok (.iload_n 2, 1) := by decide +kernel
theorem dX12_takes_31 : decode cX12_takes 31 = .ok (.iaload, 1) := by decide +kernel
theorem dX12_takes_32 : decode cX12_takes 32 = .ok (.aload_n 0, 1) := by decide +kernel
theorem dX12_takes_33 : decode cX12_takes 33 = .ok (.getfield 38, 3) := by decide +kernel
theorem dX12_takes_36 : decode cX12_takes 36 = .ok (.iload_n 2, 1) := by decide +kernel
theorem dX12_takes_37 : decode cX12_takes 37 = .ok (.iaload, 1) := by decide +kernel
theorem dX12_takes_38 : decode cX12_takes 38 = .ok (.aload_n 0, 1) := by decide +kernel
theorem dX12_takes_39 : decode cX12_takes 39 = .ok (.getfield 41, 3) := by decide +kernel
theorem dX12_takes_42 : decode cX12_takes 42 = .ok (.iload_n 2, 1) := by decide +kernel
theorem dX12_takes_43 : decode cX12_takes 43 = .ok (.iaload, 1) := by decide +kernel
theorem dX12_takes_44 : decode cX12_takes 44 = .ok (.invokevirtual 311, 3) := by decide +kernel
theorem dX12_takes_47 : decode cX12_takes 47 = .ok (.iinc 2 1, 3) := by decide +kernel
theorem dX12_takes_50 : decode cX12_takes 50 = .ok (.goto (-40), 3) := by decide +kernel
theorem dX12_takes_53 : decode cX12_takes 53 = .ok (.return_, 1) := by decide +kernel
theorem dX12_comes_0 : decode cX12_comes 0 = .ok (.iconst 0, 1) := by decide +kernel
theorem dX12_comes_1 : decode cX12_comes 1 = .ok (.istore 4, 2) := by decide +kernel
theorem dX12_comes_3 : decode cX12_comes 3 = .ok (.iload 4, 2) := by decide +kernel
theorem dX12_comes_5 : decode cX12_comes 5 = .ok (.aload_n 0, 1) := by decide +kernel
theorem dX12_comes_6 : decode cX12_comes 6 = .ok (.getfield 308, 3) := by decide +kernel
theorem dX12_comes_9 : decode cX12_comes 9 = .ok (.if_icmp .ge 42, 3) := by decide +kernel
theorem dX12_comes_12 : decode cX12_comes 12 = .ok (.aload_n 0, 1) := by decide +kernel
theorem dX12_comes_13 : decode cX12_comes 13 = .ok (.getfield 138, 3) := by decide +kernel
theorem dX12_comes_16 : decode cX12_comes 16 = .ok (.iload 4, 2) := by decide +kernel
theorem dX12_comes_18 : decode cX12_comes 18 = .ok (.iaload, 1) := by decide +kernel
theorem dX12_comes_19 : decode cX12_comes 19 = .ok (.iload_n 2, 1) := by decide +kernel
theorem dX12_comes_20 : decode cX12_comes 20 = .ok (.if_icmp .gt 25, 3) := by decide +kernel
theorem dX12_comes_23 : decode cX12_comes 23 = .ok (.aload_n 0, 1) := by decide +kernel
theorem dX12_comes_24 : decode cX12_comes 24 = .ok (.getfield 138, 3) := by decide +kernel
theorem dX12_comes_27 : decode cX12_comes 27 = .ok (.iload 4, 2) := by decide +kernel
theorem dX12_comes_29 : decode cX12_comes 29 = .ok (.iaload, 1) := by decide +kernel
theorem dX12_comes_30 : decode cX12_comes 30 = .ok (.iload_n 2, 1) := by decide +kernel
theorem dX12_comes_31 : decode cX12_comes 31 = .ok (.if_icmp .ne 20, 3) := by decide +kernel
theorem dX12_comes_34 : decode cX12_comes 34 = .ok (.aload_n 0, 1) := by decide +kernel
theorem dX12_comes_35 : decode cX12_comes 35 = .ok (.getfield 141, 3) := by decide +kernel
theorem dX12_comes_38 : decode cX12_comes 38 = .ok (.iload 4, 2) := by decide +kernel
theorem dX12_comes_40 : decode cX12_comes 40 = .ok (.iaload, 1) := by decide +kernel
theorem dX12_comes_41 : decode cX12_comes 41 = .ok (.iload_n 3, 1) := by decide +kernel
theorem dX12_comes_42 : decode cX12_comes 42 = .ok (.if_icmp .le 9, 3) := by decide +kernel
theorem dX12_comes_45 : decode cX12_comes 45 = .ok (.iinc 4 1, 3) := by decide +kernel
theorem dX12_comes_48 : decode cX12_comes 48 = .ok (.goto (-45), 3) := by decide +kernel
theorem dX12_comes_51 : decode cX12_comes 51 = .ok (.iload 4, 2) := by decide +kernel
theorem dX12_comes_53 : decode cX12_comes 53 = .ok (.aload_n 0, 1) := by decide +kernel
theorem dX12_comes_54 : decode cX12_comes 54 = .ok (.getfield 308, 3) := by decide +kernel
theorem dX12_comes_57 : decode cX12_comes 57 = .ok (.if_icmp .eq 25, 3) := by decide +kernel
theorem dX12_comes_60 : decode cX12_comes 60 = .ok (.aload_n 0, 1) := by decide +kernel
theorem dX12_comes_61 : decode cX12_comes 61 = .ok (.getfield 138, 3) := by decide +kernel
theorem dX12_comes_64 : decode cX12_comes 64 = .ok (.iload 4, 2) := by decide +kernel
theorem dX12_comes_66 : decode cX12_comes 66 = .ok (.iaload, 1) := by decide +kernel
theorem dX12_comes_67 : decode cX12_comes 67 = .ok (.iload_n 2, 1) := by decide +kernel
theorem dX12_comes_68 : decode cX12_comes 68 = .ok (.if_icmp .ne 14, 3) := by decide +kernel
theorem dX12_comes_71 : decode cX12_comes 71 = .ok (.aload_n 0, 1) := by decide +kernel
theorem dX12_comes_72 : decode cX12_comes 72 = .ok (.getfield 141, 3) := by decide +kernel
theorem dX12_comes_75 : decode cX12_comes 75 = .ok (.iload 4, 2) := by decide +kernel
theorem dX12_comes_77 : decode cX12_comes 77 = .ok (.iaload, 1) := by decide +kernel
theorem dX12_comes_78 : decode cX12_comes 78 = .ok (.iload_n 3, 1) := by decide +kernel
theorem dX12_comes_79 : decode cX12_comes 79 = .ok (.if_icmp .eq 104, 3) := by decide +kernel
theorem dX12_comes_82 : decode cX12_comes 82 = .ok (.aload_n 0, 1) := by decide +kernel
theorem dX12_comes_83 : decode cX12_comes 83 = .ok (.getfield 308, 3) := by decide +kernel
theorem dX12_comes_86 : decode cX12_comes 86 = .ok (.istore 5, 2) := by decide +kernel
theorem dX12_comes_88 : decode cX12_comes 88 = .ok (.iload 5, 2) := by decide +kernel
theorem dX12_comes_90 : decode cX12_comes 90 = .ok (.iload 4, 2) := by decide +kernel
theorem dX12_comes_92 : decode cX12_comes 92 = .ok (.if_icmp .le 57, 3) := by decide +kernel
theorem dX12_comes_95 : decode cX12_comes 95 = .ok (.aload_n 0, 1) := by decide +kernel
theorem dX12_comes_96 : decode cX12_comes 96 = .ok (.getfield 135, 3) := by decide +kernel
theorem dX12_comes_99 : decode cX12_comes 99 = .ok (.iload 5, 2) := by decide +kernel
theorem dX12_comes_101 : decode cX12_comes 101 = .ok (.aload_n 0, 1) := by decide +kernel
theorem dX12_comes_102 : decode cX12_comes 102 = .ok (.getfield 135, 3) := by decide +kernel
theorem dX12_comes_105 : decode cX12_comes 105 = .ok (.iload 5, 2) := by decide +kernel
theorem dX12_comes_107 : decode cX12_comes 107 = .ok (.iconst 1, 1) := by decide +kernel
theorem dX12_comes_108 : decode cX12_comes 108 = .ok (.isub, 1) := by decide +kernel
theorem dX12_comes_109 : decode cX12_comes 109 = .ok (.iaload, 1) := by decide +kernel
theorem dX12_comes_110 : decode cX12_comes 110 = .ok (.iastore, 1) := by decide +kernel
theorem dX12_comes_111 : decode cX12_comes 111 = .ok (.aload_n 0, 1) := by decide +kernel
theorem dX12_comes_112 : decode cX12_comes 112 = .ok (.getfield 138, 3) := by decide +kernel
theorem dX12_comes_115 : decode cX12_comes 115 = .ok (.iload 5, 2) := by decide +kernel
theorem dX12_comes_117 : decode cX12_comes 117 = .ok (.aload_n 0, 1) := by decide +kernel
theorem dX12_comes_118 : decode cX12_comes 118 = .ok (.getfield 138, 3) := by decide +kernel
theorem dX12_comes_121 : decode cX12_comes 121 = .ok (.iload 5, 2) := by decide +kernel
theorem dX12_comes_123 : decode cX12_comes 123 = .ok (.iconst 1, 1) := by decide +kernel
theorem dX12_comes_124 : decode cX12_comes 124 = .ok (.isub, 1) := by decide +kernel
theorem dX12_comes_125 : decode cX12_comes 125 = .ok (.iaload, 1) := by decide +kernel
theorem dX12_comes_126 : decode cX12_comes 126 = .ok (.iastore, 1) := by decide +kernel
theorem dX12_comes_127 : decode cX12_comes 127 = .ok (.aload_n 0, 1) := by decide +kernel
theorem dX12_comes_128 : decode cX12_comes 128 = .ok (.getfield 141, 3) := by decide +kernel
theorem dX12_comes_131 : decode cX12_comes 131 = .ok (.iload 5, 2) := by decide +kernel
theorem dX12_comes_133 : decode cX12_comes 133 = .ok (.aload_n 0, 1) := by decide +kernel
theorem dX12_comes_134 : decode cX12_comes 134 = .ok (.getfield 141, 3) := by decide +kernel
theorem dX12_comes_137 : decode cX12_comes 137 = .ok (.iload 5, 2) := by decide +kernel
theorem dX12_comes_139 : decode cX12_comes 139 = .ok (.iconst 1, 1) := by decide +kernel
theorem dX12_comes_140 : decode cX12_comes 140 = .ok (.isub, 1) := by decide +kernel
theorem dX12_comes_141 : decode cX12_comes 141 = .ok (.iaload, 1) := by decide +kernel
theorem dX12_comes_142 : decode cX12_comes 142 = .ok (.iastore, 1) := by decide +kernel
theorem dX12_comes_143 : decode cX12_comes 143 = .ok (.iinc 5 (-1), 3) := by decide +kernel
theorem dX12_comes_146 : decode cX12_comes 146 = .ok (.goto (-58), 3) := by decide +kernel
theorem dX12_comes_149 : decode cX12_comes 149 = .ok (.aload_n 0, 1) := by decide +kernel
theorem dX12_comes_150 : decode cX12_comes 150 = .ok (.dup, 1) := by decide +kernel
theorem dX12_comes_151 : decode cX12_comes 151 = .ok (.getfield 308, 3) := by decide +kernel
theorem dX12_comes_154 : decode cX12_comes 154 = .ok (.iconst 1, 1) := by decide +kernel
theorem dX12_comes_155 : decode cX12_comes 155 = .ok (.iadd, 1) := by decide +kernel
theorem dX12_comes_156 : decode cX12_comes 156 = .ok (.putfield 308, 3) := by decide +kernel
theorem dX12_comes_159 : decode cX12_comes 159 = .ok (.aload_n 0, 1) := by decide +kernel
theorem dX12_comes_160 : decode cX12_comes 160 = .ok (.getfield 135, 3) := by decide +kernel
theorem dX12_comes_163 : decode cX12_comes 163 = .ok (.iload 4, 2) := by decide +kernel
theorem dX12_comes_165 : decode cX12_comes 165 = .ok (.iconst 0, 1) := by decide +kernel
theorem dX12_comes_166 : decode cX12_comes 166 = .ok (.iastore, 1) := by decide +kernel
theorem dX12_comes_167 : decode cX12_comes 167 = .ok (.aload_n 0, 1) := by decide +kernel
theorem dX12_comes_168 : decode cX12_comes 168 = .ok (.getfield 138, 3) := by decide +kernel
theorem dX12_comes_171 : decode cX12_comes 171 = .ok (.iload 4, 2) := by decide +kernel
theorem dX12_comes_173 : decode cX12_comes 173 = .ok (.iload_n 2, 1) := by decide +kernel
theorem dX12_comes_174 : decode cX12_comes 174 = .ok (.iastore, 1) := by decide +kernel
theorem dX12_comes_175 : decode cX12_comes 175 = .ok (.aload_n 0, 1) := by decide +kernel
theorem dX12_comes_176 : decode cX12_comes 176 = .ok (.getfield 141, 3) := by decide +kernel
theorem dX12_comes_179 : decode cX12_comes 179 = .ok (.iload 4, 2) := by decide +kernel
theorem dX12_comes_181 : decode cX12_comes 181 = .ok (.iload_n 3, 1) := by decide +kernel
theorem dX12_comes_182 : decode cX12_comes 182 = .ok (.iastore, 1) := by decide +kernel
theorem dX12_comes_183 : decode cX12_comes 183 = .ok (.aload_n 0, 1) := by decide +kernel
theorem dX12_comes_184 : decode cX12_comes 184 = .ok (.getfield 135, 3) := by decide +kernel
theorem dX12_comes_187 : decode cX12_comes 187 = .ok (.iload 4, 2) := by decide +kernel
theorem dX12_comes_189 : decode cX12_comes 189 = .ok (.aload_n 0, 1) := by decide +kernel
theorem dX12_comes_190 : decode cX12_comes 190 = .ok (.getfield 135, 3) := by decide +kernel
theorem dX12_comes_193 : decode cX12_comes 193 = .ok (.iload 4, 2) := by decide +kernel
theorem dX12_comes_195 : decode cX12_comes 195 = .ok (.iaload, 1) := by decide +kernel
theorem dX12_comes_196 : decode cX12_comes 196 = .ok (.iload_n 1, 1) := by decide +kernel
theorem dX12_comes_197 : decode cX12_comes 197 = .ok (.iadd, 1) := by decide +kernel
theorem dX12_comes_198 : decode cX12_comes 198 = .ok (.aload_n 0, 1) := by decide +kernel
theorem dX12_comes_199 : decode cX12_comes 199 = .ok (.getfield 7, 3) := by decide +kernel
theorem dX12_comes_202 : decode cX12_comes 202 = .ok (.irem, 1) := by decide +kernel
theorem dX12_comes_203 : decode cX12_comes 203 = .ok (.iastore, 1) := by decide +kernel
theorem dX12_comes_204 : decode cX12_comes 204 = .ok (.return_, 1) := by decide +kernel
theorem dX12_gives_0 : decode cX12_gives 0 = .ok (.iconst 0, 1) := by decide +kernel
theorem dX12_gives_1 : decode cX12_gives 1 = .ok (.istore_n 2, 1) := by decide +kernel
theorem dX12_gives_2 : decode cX12_gives 2 = .ok (.iconst 0, 1) := by decide +kernel
theorem dX12_gives_3 : decode cX12_gives 3 = .ok (.istore_n 3, 1) := by decide +kernel
theorem dX12_gives_4 : decode cX12_gives 4 = .ok (.iload_n 3, 1) := by decide +kernel
theorem dX12_gives_5 : decode cX12_gives 5 = .ok (.aload_n 0, 1) := by decide +kernel
theorem dX12_gives_6 : decode cX12_gives 6 = .ok (.getfield 308, 3) := by decide +kernel
theorem dX12_gives_9 : decode cX12_gives 9 = .ok (.if_icmp .ge 26, 3) := by decide +kernel
theorem dX12_gives_12 : decode cX12_gives 12 = .ok (.iload_n 2, 1) := by decide +kernel
theorem dX12_gives_13 : decode cX12_gives 13 = .ok (.aload_n 0, 1) := by decide +kernel
theorem dX12_gives_14 : decode cX12_gives 14 = .ok (.getfield 135, 3) := by decide +kernel
theorem dX12_gives_17 : decode cX12_gives 17 = .ok (.iload_n 3, 1) := by decide +kernel
theorem dX12_gives_18 : decode cX12_gives 18 = .ok (.iaload, 1) := by decide +kernel
theorem dX12_gives_19 : decode cX12_gives 19 = .ok (.ifCond .eq 7, 3) := by decide +kernel
theorem dX12_gives_22 : decode cX12_gives 22 = .ok (.iconst 1, 1) := by decide +kernel
theorem dX12_gives_23 : decode cX12_gives 23 = .ok (.goto 4, 3) := by decide +kernel
theorem dX12_gives_26 : decode cX12_gives 26 = .ok (.iconst 0, 1) := by decide +kernel
theorem dX12_gives_27 : decode cX12_gives 27 = .ok (.iadd, 1) := by decide +kernel
theorem dX12_gives_28 : decode cX12_gives 28 = .ok (.istore_n 2, 1) := by decide +kernel
theorem dX12_gives_29 : decode cX12_gives 29 = .ok (.iinc 3 1, 3) := by decide +kernel
theorem dX12_gives_32 : decode cX12_gives 32 = .ok (.goto (-28), 3) := by decide +kernel
theorem dX12_gives_35 : decode cX12_gives 35 = .ok (.iload_n 2, 1) := by decide +kernel
theorem dX12_gives_36 : decode cX12_gives 36 = .ok (.bipush 8, 2) := by decide +kernel
theorem dX12_gives_38 : decode cX12_gives 38 = .ok (.if_icmp .le 6, 3) := by decide +kernel
theorem dX12_gives_41 : decode cX12_gives 41 = .ok (.bipush (-3), 2) := by decide +kernel
theorem dX12_gives_43 : decode cX12_gives 43 = .ok (.ireturn, 1) := by decide +kernel
theorem dX12_gives_44 : decode cX12_gives 44 = .ok (.iconst 0, 1) := by decide +kernel
theorem dX12_gives_45 : decode cX12_gives 45 = .ok (.istore_n 2, 1) := by decide +kernel
theorem dX12_gives_46 : decode cX12_gives 46 = .ok (.iconst 0, 1) := by decide +kernel
theorem dX12_gives_47 : decode cX12_gives 47 = .ok (.istore_n 3, 1) := by decide +kernel
theorem dX12_gives_48 : decode cX12_gives 48 = .ok (.iload_n 3, 1) := by decide +kernel
theorem dX12_gives_49 : decode cX12_gives 49 = .ok (.aload_n 0, 1) := by decide +kernel
theorem dX12_gives_50 : decode cX12_gives 50 = .ok (.getfield 308, 3) := by decide +kernel
theorem dX12_gives_53 : decode cX12_gives 53 = .ok (.if_icmp .ge 72, 3) := by decide +kernel
theorem dX12_gives_56 : decode cX12_gives 56 = .ok (.aload_n 0, 1) := by decide +kernel
theorem dX12_gives_57 : decode cX12_gives 57 = .ok (.getfield 135, 3) := by decide +kernel
theorem dX12_gives_60 : decode cX12_gives 60 = .ok (.iload_n 3, 1) := by decide +kernel
theorem dX12_gives_61 : decode cX12_gives 61 = .ok (.iaload, 1) := by decide +kernel
theorem dX12_gives_62 : decode cX12_gives 62 = .ok (.ifCond .eq 57, 3) := by decide +kernel
theorem dX12_gives_65 : decode cX12_gives 65 = .ok (.aload_n 0, 1) := by decide +kernel
theorem dX12_gives_66 : decode cX12_gives 66 = .ok (.getfield 35, 3) := by decide +kernel
theorem dX12_gives_69 : decode cX12_gives 69 = .ok (.bipush 8, 2) := by decide +kernel
theorem dX12_gives_71 : decode cX12_gives 71 = .ok (.iload_n 1, 1) := by decide +kernel
theorem dX12_gives_72 : decode cX12_gives 72 = .ok (.imul, 1) := by decide +kernel
theorem dX12_gives_73 : decode cX12_gives 73 = .ok (.iload_n 2, 1) := by decide +kernel
theorem dX12_gives_74 : decode cX12_gives 74 = .ok (.iadd, 1) := by decide +kernel
theorem dX12_gives_75 : decode cX12_gives 75 = .ok (.aload_n 0, 1) := by decide +kernel
theorem dX12_gives_76 : decode cX12_gives 76 = .ok (.getfield 135, 3) := by decide +kernel
theorem dX12_gives_79 : decode cX12_gives 79 = .ok (.iload_n 3, 1) := by decide +kernel
theorem dX12_gives_80 : decode cX12_gives 80 = .ok (.iaload, 1) := by decide +kernel
theorem dX12_gives_81 : decode cX12_gives 81 = .ok (.iastore, 1) := by decide +kernel
theorem dX12_gives_82 : decode cX12_gives 82 = .ok (.aload_n 0, 1) := by decide +kernel
theorem dX12_gives_83 : decode cX12_gives 83 = .ok (.getfield 38, 3) := by decide +kernel
theorem dX12_gives_86 : decode cX12_gives 86 = .ok (.bipush 8, 2) := by decide +kernel
theorem dX12_gives_88 : decode cX12_gives 88 = .ok (.iload_n 1, 1) := by decide +kernel
theorem dX12_gives_89 : decode cX12_gives 89 = .ok (.imul, 1) := by decide +kernel
theorem dX12_gives_90 : decode cX12_gives 90 = .ok (.iload_n 2, 1) := by decide +kernel
theorem dX12_gives_91 : decode cX12_gives 91 = .ok (.iadd, 1) := by decide +kernel
theorem dX12_gives_92 : decode cX12_gives 92 = .ok (.aload_n 0, 1) := by decide +kernel
theorem dX12_gives_93 : decode cX12_gives 93 = .ok (.getfield 138, 3) := by decide +kernel
theorem dX12_gives_96 : decode cX12_gives 96 = .ok (.iload_n 3, 1) := by decide +kernel
theorem dX12_gives_97 : decode cX12_gives 97 = .ok (.iaload, 1) := by decide +kernel
theorem dX12_gives_98 : decode cX12_gives 98 = .ok (.iastore, 1) := by decide +kernel
theorem dX12_gives_99 : decode cX12_gives 99 = .ok (.aload_n 0, 1) := by decide +kernel
theorem dX12_gives_100 : decode cX12_gives 100 = .ok (.getfield 41, 3) := by decide +kernel
theorem dX12_gives_103 : decode cX12_gives 103 = .ok (.bipush 8, 2) := by decide +kernel
theorem dX12_gives_105 : decode cX12_gives 105 = .ok (.iload_n 1, 1) := by decide +kernel
theorem dX12_gives_106 : decode cX12_gives 106 = .ok (.imul, 1) := by decide +kernel
theorem dX12_gives_107 : decode cX12_gives 107 = .ok (.iload_n 2, 1) := by decide +kernel
theorem dX12_gives_108 : decode cX12_gives 108 = .ok (.iadd, 1) := by decide +kernel
theorem dX12_gives_109 : decode cX12_gives 109 = .ok (.aload_n 0, 1) := by decide +kernel
theorem dX12_gives_110 : decode cX12_gives 110 = .ok (.getfield 141, 3) := by decide +kernel
theorem dX12_gives_113 : decode cX12_gives 113 = .ok (.iload_n 3, 1) := by decide +kernel
theorem dX12_gives_114 : decode cX12_gives 114 = .ok (.iaload, 1) := by decide +kernel
theorem dX12_gives_115 : decode cX12_gives 115 = .ok (.iastore, 1) := by decide +kernel
theorem dX12_gives_116 : decode cX12_gives 116 = .ok (.iinc 2 1, 3) := by decide +kernel
theorem dX12_gives_119 : decode cX12_gives 119 = .ok (.iinc 3 1, 3) := by decide +kernel
theorem dX12_gives_122 : decode cX12_gives 122 = .ok (.goto (-74), 3) := by decide +kernel
theorem dX12_gives_125 : decode cX12_gives 125 = .ok (.aload_n 0, 1) := by decide +kernel
theorem dX12_gives_126 : decode cX12_gives 126 = .ok (.getfield 32, 3) := by decide +kernel
theorem dX12_gives_129 : decode cX12_gives 129 = .ok (.iload_n 1, 1) := by decide +kernel
theorem dX12_gives_130 : decode cX12_gives 130 = .ok (.iload_n 2, 1) := by decide +kernel
theorem dX12_gives_131 : decode cX12_gives 131 = .ok (.iastore, 1) := by decide +kernel
theorem dX12_gives_132 : decode cX12_gives 132 = .ok (.iload_n 2, 1) := by decide +kernel
theorem dX12_gives_133 : decode cX12_gives 133 = .ok (.ireturn, 1) := by decide +kernel
set_option maxRecDepth 20000 in
theorem ggX12_add_X12_isSlot : GoodIn wsX12_add wsX12_isSlot := goodIn_r _ [5, 6, 7, 8, 4, 9] rfl (by decide +kernel)
set_option maxRecDepth 20000 in
theorem gX12_add_X12_isSlot : GoodIn wsX12_add (va_wsS RX12 305 yX12_isSlot wsX12_isSlot) := goodIn_app (goodIn_of _ (by decide +kernel)) ggX12_add_X12_isSlot
set_option maxRecDepth 20000 in
theorem ggX12_add_X12_in : GoodIn wsX12_add wsX12_in := goodIn_r _ [9] rfl (by decide +kernel)
set_option maxRecDepth 20000 in
theorem gX12_add_X12_in : GoodIn wsX12_add (va_wsS RX12 155 yX12_in wsX12_in) := goodIn_app (goodIn_of _ (by decide +kernel)) ggX12_add_X12_in
set_option maxRecDepth 20000 in
theorem ggX12_add_X12_lacks : GoodIn wsX12_add wsX12_lacks := goodIn_r _ [13, 14, 35, 36, 37, 38, 39, 40, 41, 42, 43, 44, 45, 46, 47, 48, 49, 50, 51, 52, 53, 54, 55, 56, 57, 58, 59, 60, 61, 62, 63, 64, 65, 66, 67, 68, 69, 70, 71, 72, 73, 74, 75, 76, 77, 78, 79, 80, 81, 82, 83, 84, 85, 86, 87, 88] rfl (by decide +kernel)
set_option maxRecDepth 20000 in
theorem gX12_add_X12_lacks : GoodIn wsX12_add (wsV RX12 314 RX12 yX12_lacks wsX12_lacks) := goodIn_app (goodIn_of _ (by decide +kernel)) ggX12_add_X12_lacks
set_option maxRecDepth 20000 in
theorem ggX12_add_X12_takes : GoodIn wsX12_add wsX12_takes := goodIn_r _ [18, 19, 20, 21, 22, 23, 24, 25, 26, 4, 27, 28, 29, 30, 1, 35, 36, 37, 38, 39, 40, 41, 42, 43, 44, 45, 46, 47, 48, 49, 50, 51, 52, 53, 54, 55, 56, 57, 58, 59, 60, 61, 62, 63, 64, 65, 66, 67, 68, 69, 70, 71, 72, 73, 74, 75, 76, 77, 78, 79, 80, 81, 82, 83, 84, 85, 86, 87, 88] rfl (by decide +kernel)
set_option maxRecDepth 20000 in
theorem gX12_add_X12_takes : GoodIn wsX12_add (wsV RX12 317 RX12 yX12_takes wsX12_takes) := goodIn_app (goodIn_of _ (by decide +kernel)) ggX12_add_X12_takes
set_option maxRecDepth 20000 in
theorem ggX12_add_X12_comes : GoodIn wsX12_add wsX12_comes := goodIn_r _ [27, 19, 28, 29, 30, 1, 35, 36, 37, 38, 39, 40, 41, 42, 43, 44, 45, 46, 47, 48, 49, 50, 51, 52, 53, 54, 55, 56, 57, 58, 59, 60, 61, 62, 63, 64, 65, 66, 67, 68, 69, 70, 71, 72, 73, 74, 75, 76, 77, 78, 79, 80, 81, 82, 83, 84, 85, 86, 87, 88] rfl (by decide +kernel)
set_option maxRecDepth 20000 in
theorem gX12_add_X12_comes : GoodIn wsX12_add (wsV RX12 311 RX12 yX12_comes wsX12_comes) := goodIn_app (goodIn_of _ (by decide +kernel)) ggX12_add_X12_comes
set_option maxRecDepth 20000 in
theorem ggX12_add_X12_gives : GoodIn wsX12_add wsX12_gives := goodIn_r _ [34, 19, 30, 21, 22, 28, 23, 29, 20, 35, 36, 37, 38, 39, 40, 41, 42, 43, 44, 45, 46, 47, 48, 49, 50, 51, 52, 53, 54, 55, 56, 57, 58, 59, 60, 61, 62, 63, 64, 65, 66, 67, 68, 69, 70, 71, 72, 73, 74, 75, 76, 77, 78, 79, 80, 81, 82, 83, 84, 85, 86, 87, 88] rfl (by decide +kernel)
set_option maxRecDepth 20000 in
theorem gX12_add_X12_gives : GoodIn wsX12_add (wsV RX12 320 RX12 yX12_gives wsX12_gives) := goodIn_app (goodIn_of _ (by decide +kernel)) ggX12_add_X12_gives
theorem dX12_add_0 : decode cX12_add 0 = .ok (.iload_n 1, 1) := by decide +kernel
theorem dX12_add_1 : decode cX12_add 1 = .ok (.invokestatic 305, 3) := by decide +kernel
theorem dX12_add_4 : decode cX12_add 4 = .ok (.ifCond .eq 28, 3) := by decide +kernel
theorem dX12_add_7 : decode cX12_add 7 = .ok (.iload_n 2, 1) := by decide +kernel
theorem dX12_add_8 : decode cX12_add 8 = .ok (.i2l, 1) := by decide +kernel
theorem dX12_add_9 : decode cX12_add 9 = .ok (.lconst 0, 1) := by decide +kernel
theorem dX12_add_10 : decode cX12_add 10 = .ok (.aload_n 0, 1) := by decide +kernel
theorem dX12_add_11 : decode cX12_add 11 = .ok (.getfield 7, 3) := by decide +kernel
theorem dX12_add_14 : decode cX12_add 14 = .ok (.iconst 1, 1) := by decide +kernel
theorem dX12_add_15 : decode cX12_add 15 = .ok (.isub, 1) := by decide +kernel
theorem dX12_add_16 : decode cX12_add 16 = .ok (.i2l, 1) := by decide +kernel
theorem dX12_add_17 : decode cX12_add 17 = .ok (.invokestatic 155, 3) := by decide +kernel
theorem dX12_add_20 : decode cX12_add 20 = .ok (.ifCond .eq 12, 3) := by decide +kernel
theorem dX12_add_23 : decode cX12_add 23 = .ok (.iload_n 3, 1) := by decide +kernel
theorem dX12_add_24 : decode cX12_add 24 = .ok (.ifCond .lt 8, 3) := by decide +kernel
theorem dX12_add_27 : decode cX12_add 27 = .ok (.iload 4, 2) := by decide +kernel
theorem dX12_add_29 : decode cX12_add 29 = .ok (.ifCond .ge 5, 3) := by decide +kernel
theorem dX12_add_32 : decode cX12_add 32 = .ok (.iconst (-1), 1) := by decide +kernel
theorem dX12_add_33 : decode cX12_add 33 = .ok (.ireturn, 1) := by decide +kernel
theorem dX12_add_34 : decode cX12_add 34 = .ok (.aload_n 0, 1) := by decide +kernel
theorem dX12_add_35 : decode cX12_add 35 = .ok (.iload_n 1, 1) := by decide +kernel
theorem dX12_add_36 : decode cX12_add 36 = .ok (.iconst 1, 1) := by decide +kernel
theorem dX12_add_37 : decode cX12_add 37 = .ok (.invokevirtual 314, 3) := by decide +kernel
theorem dX12_add_40 : decode cX12_add 40 = .ok (.istore 5, 2) := by decide +kernel
theorem dX12_add_42 : decode cX12_add 42 = .ok (.iload 5, 2) := by decide +kernel
theorem dX12_add_44 : decode cX12_add 44 = .ok (.ifCond .ge 6, 3) := by decide +kernel
theorem dX12_add_47 : decode cX12_add 47 = .ok (.iload 5, 2) := by decide +kernel
theorem dX12_add_49 : decode cX12_add 49 = .ok (.ireturn, 1) := by decide +kernel
theorem dX12_add_50 : decode cX12_add 50 = .ok (.aload_n 0, 1) := by decide +kernel
theorem dX12_add_51 : decode cX12_add 51 = .ok (.iload_n 1, 1) := by decide +kernel
theorem dX12_add_52 : decode cX12_add 52 = .ok (.invokevirtual 317, 3) := by decide +kernel
theorem dX12_add_55 : decode cX12_add 55 = .ok (.aload_n 0, 1) := by decide +kernel
theorem dX12_add_56 : decode cX12_add 56 = .ok (.iload_n 2, 1) := by decide +kernel
theorem dX12_add_57 : decode cX12_add 57 = .ok (.iload_n 3, 1) := by decide +kernel
theorem dX12_add_58 : decode cX12_add 58 = .ok (.iload 4, 2) := by decide +kernel
theorem dX12_add_60 : decode cX12_add 60 = .ok (.invokevirtual 311, 3) := by decide +kernel
theorem dX12_add_63 : decode cX12_add 63 = .ok (.aload_n 0, 1) := by decide +kernel
theorem dX12_add_64 : decode cX12_add 64 = .ok (.iload_n 1, 1) := by decide +kernel
theorem dX12_add_65 : decode cX12_add 65 = .ok (.invokevirtual 320, 3) := by decide +kernel
theorem dX12_add_68 : decode cX12_add 68 = .ok (.ireturn, 1) := by decide +kernel
set_option maxRecDepth 20000 in
theorem ggX12_term_X12_isSlot : GoodIn wsX12_term wsX12_isSlot := goodIn_r _ [9, 10, 11, 12, 8, 13] rfl (by decide +kernel)
set_option maxRecDepth 20000 in
theorem gX12_term_X12_isSlot : GoodIn wsX12_term (va_wsS RX12 305 yX12_isSlot wsX12_isSlot) := goodIn_app (goodIn_of _ (by decide +kernel)) ggX12_term_X12_isSlot
set_option maxRecDepth 20000 in
theorem ggX12_term_X12_in : GoodIn wsX12_term wsX12_in := goodIn_r _ [13] rfl (by decide +kernel)
set_option maxRecDepth 20000 in
theorem gX12_term_X12_in : GoodIn wsX12_term (va_wsS RX12 155 yX12_in wsX12_in) := goodIn_app (goodIn_of _ (by decide +kernel)) ggX12_term_X12_in
set_option maxRecDepth 20000 in
theorem ggX12_term_X12_lacks : GoodIn wsX12_term wsX12_lacks := goodIn_r _ [17, 18, 19, 20, 21, 22, 23, 24, 25, 26, 27, 28, 29, 30, 31, 32, 33, 34, 35, 36, 37, 38, 39, 40, 41, 42, 43, 44, 45, 46, 47, 48, 49, 50, 51, 52, 53, 54, 55, 56, 57, 58, 59, 60, 61, 62, 63, 64, 65, 66, 67, 68, 69, 70, 71, 72] rfl (by decide +kernel)
set_option maxRecDepth 20000 in
theorem gX12_term_X12_lacks : GoodIn wsX12_term (wsV RX12 314 RX12 yX12_lacks wsX12_lacks) := goodIn_app (goodIn_of _ (by decide +kernel)) ggX12_term_X12_lacks
theorem dX12_term_0 : decode cX12_term 0 = .ok (.iload_n 1, 1) := by decide +kernel
theorem dX12_term_1 : decode cX12_term 1 = .ok (.invokestatic 305, 3) := by decide +kernel
theorem dX12_term_4 : decode cX12_term 4 = .ok (.ifCond .eq 19, 3) := by decide +kernel
theorem dX12_term_7 : decode cX12_term 7 = .ok (.iload_n 2, 1) := by decide +kernel
theorem dX12_term_8 : decode cX12_term 8 = .ok (.ifCond .lt 15, 3) := by decide +kernel
theorem dX12_term_11 : decode cX12_term 11 = .ok (.iload_n 3, 1) := by decide +kernel
theorem dX12_term_12 : decode cX12_term 12 = .ok (.i2l, 1) := by decide +kernel
theorem dX12_term_13 : decode cX12_term 13 = .ok (.lconst 0, 1) := by decide +kernel
theorem dX12_term_14 : decode cX12_term 14 = .ok (.ldc2_w 151, 3) := by decide +kernel
theorem dX12_term_17 : decode cX12_term 17 = .ok (.invokestatic 155, 3) := by decide +kernel
theorem dX12_term_20 : decode cX12_term 20 = .ok (.ifCond .ne 5, 3) := by decide +kernel
theorem dX12_term_23 : decode cX12_term 23 = .ok (.iconst (-1), 1) := by decide +kernel
theorem dX12_term_24 : decode cX12_term 24 = .ok (.ireturn, 1) := by decide +kernel
theorem dX12_term_25 : decode cX12_term 25 = .ok (.aload_n 0, 1) := by decide +kernel
theorem dX12_term_26 : decode cX12_term 26 = .ok (.iload_n 1, 1) := by decide +kernel
theorem dX12_term_27 : decode cX12_term 27 = .ok (.iconst 1, 1) := by decide +kernel
theorem dX12_term_28 : decode cX12_term 28 = .ok (.invokevirtual 314, 3) := by decide +kernel
theorem dX12_term_31 : decode cX12_term 31 = .ok (.istore 4, 2) := by decide +kernel
theorem dX12_term_33 : decode cX12_term 33 = .ok (.iload 4, 2) := by decide +kernel
theorem dX12_term_35 : decode cX12_term 35 = .ok (.ifCond .ge 6, 3) := by decide +kernel
theorem dX12_term_38 : decode cX12_term 38 = .ok (.iload 4, 2) := by decide +kernel
theorem dX12_term_40 : decode cX12_term 40 = .ok (.ireturn, 1) := by decide +kernel
theorem dX12_term_41 : decode cX12_term 41 = .ok (.bipush 8, 2) := by decide +kernel
theorem dX12_term_43 : decode cX12_term 43 = .ok (.iload_n 1, 1) := by decide +kernel
theorem dX12_term_44 : decode cX12_term 44 = .ok (.imul, 1) := by decide +kernel
theorem dX12_term_45 : decode cX12_term 45 = .ok (.iload_n 2, 1) := by decide +kernel
theorem dX12_term_46 : decode cX12_term 46 = .ok (.iadd, 1) := by decide +kernel
theorem dX12_term_47 : decode cX12_term 47 = .ok (.istore 5, 2) := by decide +kernel
theorem dX12_term_49 : decode cX12_term 49 = .ok (.iload_n 2, 1) := by decide +kernel
theorem dX12_term_50 : decode cX12_term 50 = .ok (.aload_n 0, 1) := by decide +kernel
theorem dX12_term_51 : decode cX12_term 51 = .ok (.getfield 32, 3) := by decide +kernel
theorem dX12_term_54 : decode cX12_term 54 = .ok (.iload_n 1, 1) := by decide +kernel
theorem dX12_term_55 : decode cX12_term 55 = .ok (.iaload, 1) := by decide +kernel
theorem dX12_term_56 : decode cX12_term 56 = .ok (.if_icmp .lt 8, 3) := by decide +kernel
theorem dX12_term_59 : decode cX12_term 59 = .ok (.bipush (-4), 2) := by decide +kernel
theorem dX12_term_61 : decode cX12_term 61 = .ok (.goto 39, 3) := by decide +kernel
theorem dX12_term_64 : decode cX12_term 64 = .ok (.iload_n 3, 1) := by decide +kernel
theorem dX12_term_65 : decode cX12_term 65 = .ok (.ifCond .ne 13, 3) := by decide +kernel
theorem dX12_term_68 : decode cX12_term 68 = .ok (.aload_n 0, 1) := by decide +kernel
theorem dX12_term_69 : decode cX12_term 69 = .ok (.getfield 35, 3) := by decide +kernel
theorem dX12_term_72 : decode cX12_term 72 = .ok (.iload 5, 2) := by decide +kernel
theorem dX12_term_74 : decode cX12_term 74 = .ok (.iaload, 1) := by decide +kernel
theorem dX12_term_75 : decode cX12_term 75 = .ok (.goto 25, 3) := by decide +kernel
theorem dX12_term_78 : decode cX12_term 78 = .ok (.iload_n 3, 1) := by decide +kernel
theorem dX12_term_79 : decode cX12_term 79 = .ok (.iconst 1, 1) := by decide +kernel
theorem dX12_term_80 : decode cX12_term 80 = .ok (.if_icmp .ne 13, 3) := by decide +kernel
theorem dX12_term_83 : decode cX12_term 83 = .ok (.aload_n 0, 1) := by decide +kernel
theorem dX12_term_84 : decode cX12_term 84 = .ok (.getfield 38, 3) := by decide +kernel
theorem dX12_term_87 : decode cX12_term 87 = .ok (.iload 5, 2) := by decide +kernel
theorem dX12_term_89 : decode cX12_term 89 = .ok (.iaload, 1) := by decide +kernel
theorem dX12_term_90 : decode cX12_term 90 = .ok (.goto 10, 3) := by decide +kernel
theorem dX12_term_93 : decode cX12_term 93 = .ok (.aload_n 0, 1) := by decide +kernel
theorem dX12_term_94 : decode cX12_term 94 = .ok (.getfield 41, 3) := by decide +kernel
theorem dX12_term_97 : decode cX12_term 97 = .ok (.iload 5, 2) := by decide +kernel
theorem dX12_term_99 : decode cX12_term 99 = .ok (.iaload, 1) := by decide +kernel
theorem dX12_term_100 : decode cX12_term 100 = .ok (.ireturn, 1) := by decide +kernel
set_option maxRecDepth 20000 in
theorem ggX12_size_X12_isSlot : GoodIn wsX12_size wsX12_isSlot := goodIn_r _ [6, 7, 8, 9, 5, 10] rfl (by decide +kernel)
set_option maxRecDepth 20000 in
theorem gX12_size_X12_isSlot : GoodIn wsX12_size (va_wsS RX12 305 yX12_isSlot wsX12_isSlot) := goodIn_app (goodIn_of _ (by decide +kernel)) ggX12_size_X12_isSlot
theorem dX12_size_0 : decode cX12_size 0 = .ok (.iload_n 1, 1) := by decide +kernel
theorem dX12_size_1 : decode cX12_size 1 = .ok (.invokestatic 305, 3) := by decide +kernel
theorem dX12_size_4 : decode cX12_size 4 = .ok (.ifCond .ne 7, 3) := by decide +kernel
theorem dX12_size_7 : decode cX12_size 7 = .ok (.iconst (-1), 1) := by decide +kernel
theorem dX12_size_8 : decode cX12_size 8 = .ok (.goto 23, 3) := by decide +kernel
theorem dX12_size_11 : decode cX12_size 11 = .ok (.aload_n 0, 1) := by decide +kernel
theorem dX12_size_12 : decode cX12_size 12 = .ok (.getfield 29, 3) := by decide +kernel
theorem dX12_size_15 : decode cX12_size 15 = .ok (.iload_n 1, 1) := by decide +kernel
theorem dX12_size_16 : decode cX12_size 16 = .ok (.iaload, 1) := by decide +kernel
theorem dX12_size_17 : decode cX12_size 17 = .ok (.ifCond .ne 8, 3) := by decide +kernel
theorem dX12_size_20 : decode cX12_size 20 = .ok (.bipush (-11), 2) := by decide +kernel
theorem dX12_size_22 : decode cX12_size 22 = .ok (.goto 9, 3) := by decide +kernel
theorem dX12_size_25 : decode cX12_size 25 = .ok (.aload_n 0, 1) := by decide +kernel
theorem dX12_size_26 : decode cX12_size 26 = .ok (.getfield 32, 3) := by decide +kernel
theorem dX12_size_29 : decode cX12_size 29 = .ok (.iload_n 1, 1) := by decide +kernel
theorem dX12_size_30 : decode cX12_size 30 = .ok (.iaload, 1) := by decide +kernel
theorem dX12_size_31 : decode cX12_size 31 = .ok (.ireturn, 1) := by decide +kernel
set_option maxRecDepth 20000 in
theorem ggX12_times_X12_isSlot : GoodIn wsX12_times wsX12_isSlot := goodIn_r _ [8, 9, 10, 11, 7, 12] rfl (by decide +kernel)
set_option maxRecDepth 20000 in
theorem gX12_times_X12_isSlot : GoodIn wsX12_times (va_wsS RX12 305 yX12_isSlot wsX12_isSlot) := goodIn_app (goodIn_of _ (by decide +kernel)) ggX12_times_X12_isSlot
set_option maxRecDepth 20000 in
theorem ggX12_times_X12_lacks : GoodIn wsX12_times wsX12_lacks := goodIn_r _ [16, 17, 18, 19, 20, 21, 22, 23, 24, 25, 26, 27, 28, 29, 30, 31, 32, 33, 34, 35, 36, 37, 38, 39, 40, 41, 42, 43, 44, 45, 46, 47, 48, 49, 50, 51, 52, 53, 54, 55, 56, 57, 58, 59, 60, 61, 62, 63, 64, 65, 66, 67, 68, 69, 70, 71] rfl (by decide +kernel)
set_option maxRecDepth 20000 in
theorem gX12_times_X12_lacks : GoodIn wsX12_times (wsV RX12 314 RX12 yX12_lacks wsX12_lacks) := goodIn_app (goodIn_of _ (by decide +kernel)) ggX12_times_X12_lacks
theorem dX12_times_0 : decode cX12_times 0 = .ok (.iload_n 1, 1) := by decide +kernel
theorem dX12_times_1 : decode cX12_times 1 = .ok (.invokestatic 305, 3) := by decide +kernel
theorem dX12_times_4 : decode cX12_times 4 = .ok (.ifCond .eq 11, 3) := by decide +kernel
theorem dX12_times_7 : decode cX12_times 7 = .ok (.iload_n 2, 1) := by decide +kernel
theorem dX12_times_8 : decode cX12_times 8 = .ok (.ifCond .lt 7, 3) := by decide +kernel
theorem dX12_times_11 : decode cX12_times 11 = .ok (.iload_n 3, 1) := by decide +kernel
theorem dX12_times_12 : decode cX12_times 12 = .ok (.ifCond .ge 5, 3) := by decide +kernel
theorem dX12_times_15 : decode cX12_times 15 = .ok (.iconst (-1), 1) := by decide +kernel
theorem dX12_times_16 : decode cX12_times 16 = .ok (.ireturn, 1) := by decide +kernel
theorem dX12_times_17 : decode cX12_times 17 = .ok (.aload_n 0, 1) := by decide +kernel
theorem dX12_times_18 : decode cX12_times 18 = .ok (.iload_n 1, 1) := by decide +kernel
theorem dX12_times_19 : decode cX12_times 19 = .ok (.iconst 1, 1) := by decide +kernel
theorem dX12_times_20 : decode cX12_times 20 = .ok (.invokevirtual 314, 3) := by decide +kernel
theorem dX12_times_23 : decode cX12_times 23 = .ok (.istore 4, 2) := by decide +kernel
theorem dX12_times_25 : decode cX12_times 25 = .ok (.iload 4, 2) := by decide +kernel
theorem dX12_times_27 : decode cX12_times 27 = .ok (.ifCond .ge 6, 3) := by decide +kernel
theorem dX12_times_30 : decode cX12_times 30 = .ok (.iload 4, 2) := by decide +kernel
theorem dX12_times_32 : decode cX12_times 32 = .ok (.ireturn, 1) := by decide +kernel
theorem dX12_times_33 : decode cX12_times 33 = .ok (.bipush 8, 2) := by decide +kernel
theorem dX12_times_35 : decode cX12_times 35 = .ok (.iload_n 1, 1) := by decide +kernel
theorem dX12_times_36 : decode cX12_times 36 = .ok (.imul, 1) := by decide +kernel
theorem dX12_times_37 : decode cX12_times 37 = .ok (.istore 5, 2) := by decide +kernel
theorem dX12_times_39 : decode cX12_times 39 = .ok (.iload 5, 2) := by decide +kernel
theorem dX12_times_41 : decode cX12_times 41 = .ok (.bipush 8, 2) := by decide +kernel
theorem dX12_times_43 : decode cX12_times 43 = .ok (.iload_n 1, 1) := by decide +kernel
theorem dX12_times_44 : decode cX12_times 44 = .ok (.imul, 1) := by decide +kernel
theorem dX12_times_45 : decode cX12_times 45 = .ok (.aload_n 0, 1) := by decide +kernel
theorem dX12_times_46 : decode cX12_times 46 = .ok (.getfield 32, 3) := by decide +kernel
theorem dX12_times_49 : decode cX12_times 49 = .ok (.iload_n 1, 1) := by decide +kernel
theorem dX12_times_50 : decode cX12_times 50 = .ok (.iaload, 1) := by decide +kernel
theorem dX12_times_51 : decode cX12_times 51 = .ok (.iadd, 1) := by decide +kernel
theorem dX12_times_52 : decode cX12_times 52 = .ok (.if_icmp .ge 48, 3) := by decide +kernel
theorem dX12_times_55 : decode cX12_times 55 = .ok (.aload_n 0, 1) := by decide +kernel
theorem dX12_times_56 : decode cX12_times 56 = .ok (.getfield 38, 3) := by decide +kernel
theorem dX12_times_59 : decode cX12_times 59 = .ok (.iload 5, 2) := by decide +kernel
theorem dX12_times_61 : decode cX12_times 61 = .ok (.iaload, 1) := by decide +kernel
theorem dX12_times_62 : decode cX12_times 62 = .ok (.i2l, 1) := by decide +kernel
theorem dX12_times_63 : decode cX12_times 63 = .ok (.iload_n 2, 1) := by decide +kernel
theorem dX12_times_64 : decode cX12_times 64 = .ok (.i2l, 1) := by decide +kernel
theorem dX12_times_65 : decode cX12_times 65 = .ok (.ladd, 1) := by decide +kernel
theorem dX12_times_66 : decode cX12_times 66 = .ok (.ldc2_w 182, 3) := by decide +kernel
theorem dX12_times_69 : decode cX12_times 69 = .ok (.lcmp, 1) := by decide +kernel
theorem dX12_times_70 : decode cX12_times 70 = .ok (.ifCond .gt 21, 3) := by decide +kernel
theorem dX12_times_73 : decode cX12_times 73 = .ok (.aload_n 0, 1) := by decide +kernel
theorem dX12_times_74 : decode cX12_times 74 = .ok (.getfield 41, 3) := by decide +kernel
theorem dX12_times_77 : decode cX12_times 77 = .ok (.iload 5, 2) := by decide +kernel
theorem dX12_times_79 : decode cX12_times 79 = .ok (.iaload, 1) := by decide +kernel
theorem dX12_times_80 : decode cX12_times 80 = .ok (.i2l, 1) := by decide +kernel
theorem dX12_times_81 : decode cX12_times 81 = .ok (.iload_n 3, 1) := by decide +kernel
theorem dX12_times_82 : decode cX12_times 82 = .ok (.i2l, 1) := by decide +kernel
theorem dX12_times_83 : decode cX12_times 83 = .ok (.ladd, 1) := by decide +kernel
theorem dX12_times_84 : decode cX12_times 84 = .ok (.ldc2_w 182, 3) := by decide +kernel
theorem dX12_times_87 : decode cX12_times 87 = .ok (.lcmp, 1) := by decide +kernel
theorem dX12_times_88 : decode cX12_times 88 = .ok (.ifCond .le 6, 3) := by decide +kernel
theorem dX12_times_91 : decode cX12_times 91 = .ok (.bipush (-13), 2) := by decide +kernel
theorem dX12_times_93 : decode cX12_times 93 = .ok (.ireturn, 1) := by decide +kernel
theorem dX12_times_94 : decode cX12_times 94 = .ok (.iinc 5 1, 3) := by decide +kernel
theorem dX12_times_97 : decode cX12_times 97 = .ok (.goto (-58), 3) := by decide +kernel
theorem dX12_times_100 : decode cX12_times 100 = .ok (.bipush 8, 2) := by decide +kernel
theorem dX12_times_102 : decode cX12_times 102 = .ok (.iload_n 1, 1) := by decide +kernel
theorem dX12_times_103 : decode cX12_times 103 = .ok (.imul, 1) := by decide +kernel
theorem dX12_times_104 : decode cX12_times 104 = .ok (.istore 5, 2) := by decide +kernel
theorem dX12_times_106 : decode cX12_times 106 = .ok (.iload 5, 2) := by decide +kernel
theorem dX12_times_108 : decode cX12_times 108 = .ok (.bipush 8, 2) := by decide +kernel
theorem dX12_times_110 : decode cX12_times 110 = .ok (.iload_n 1, 1) := by decide +kernel
theorem dX12_times_111 : decode cX12_times 111 = .ok (.imul, 1) := by decide +kernel
theorem dX12_times_112 : decode cX12_times 112 = .ok (.aload_n 0, 1) := by decide +kernel
theorem dX12_times_113 : decode cX12_times 113 = .ok (.getfield 32, 3) := by decide +kernel
theorem dX12_times_116 : decode cX12_times 116 = .ok (.iload_n 1, 1) := by decide +kernel
theorem dX12_times_117 : decode cX12_times 117 = .ok (.iaload, 1) := by decide +kernel
theorem dX12_times_118 : decode cX12_times 118 = .ok (.iadd, 1) := by decide +kernel
theorem dX12_times_119 : decode cX12_times 119 = .ok (.if_icmp .ge 31, 3) := by decide +kernel
theorem dX12_times_122 : decode cX12_times 122 = .ok (.aload_n 0, 1) := by decide +kernel
theorem dX12_times_123 : decode cX12_times 123 = .ok (.getfield 38, 3) := by decide +kernel
theorem dX12_times_126 : decode cX12_times 126 = .ok (.iload 5, 2) := by decide +kernel
theorem dX12_times_128 : decode cX12_times 128 = .ok (.dup2, 1) := by decide +kernel
theorem dX12_times_129 : decode cX12_times 129 = .ok (.iaload, 1) := by decide +kernel
theorem dX12_times_130 : decode cX12_times 130 = .ok (.iload_n 2, 1) := by decide +kernel
theorem dX12_times_131 : decode cX12_times 131 = .ok (.iadd, 1) := by decide +kernel
theorem dX12_times_132 : decode cX12_times 132 = .ok (.iastore, 1) := by decide +kernel
theorem dX12_times_133 : decode cX12_times 133 = .ok (.aload_n 0, 1) := by decide +kernel
theorem dX12_times_134 : decode cX12_times 134 = .ok (.getfield 41, 3) := by decide +kernel
theorem dX12_times_137 : decode cX12_times 137 = .ok (.iload 5, 2) := by decide +kernel
theorem dX12_times_139 : decode cX12_times 139 = .ok (.dup2, 1) := by decide +kernel
theorem dX12_times_140 : decode cX12_times 140 = .ok (.iaload, 1) := by decide +kernel
theorem dX12_times_141 : decode cX12_times 141 = .ok (.iload_n 3, 1) := by decide +kernel
theorem dX12_times_142 : decode cX12_times 142 = .ok (.iadd, 1) := by decide +kernel
theorem dX12_times_143 : decode cX12_times 143 = .ok (.iastore, 1) := by decide +kernel
theorem dX12_times_144 : decode cX12_times 144 = .ok (.iinc 5 1, 3) := by decide +kernel
theorem dX12_times_147 : decode cX12_times 147 = .ok (.goto (-41), 3) := by decide +kernel
theorem dX12_times_150 : decode cX12_times 150 = .ok (.aload_n 0, 1) := by decide +kernel
theorem dX12_times_151 : decode cX12_times 151 = .ok (.getfield 32, 3) := by decide +kernel
theorem dX12_times_154 : decode cX12_times 154 = .ok (.iload_n 1, 1) := by decide +kernel
theorem dX12_times_155 : decode cX12_times 155 = .ok (.iaload, 1) := by decide +kernel
theorem dX12_times_156 : decode cX12_times 156 = .ok (.ireturn, 1) := by decide +kernel
set_option maxRecDepth 20000 in
theorem ggX12_plus_X12_isSlot : GoodIn wsX12_plus wsX12_isSlot := goodIn_r _ [10, 11, 12, 13, 9, 14] rfl (by decide +kernel)
set_option maxRecDepth 20000 in
theorem gX12_plus_X12_isSlot : GoodIn wsX12_plus (va_wsS RX12 305 yX12_isSlot wsX12_isSlot) := goodIn_app (goodIn_of _ (by decide +kernel)) ggX12_plus_X12_isSlot
set_option maxRecDepth 20000 in
theorem ggX12_plus_X12_in : GoodIn wsX12_plus wsX12_in := goodIn_r _ [14] rfl (by decide +kernel)
set_option maxRecDepth 20000 in
theorem gX12_plus_X12_in : GoodIn wsX12_plus (va_wsS RX12 155 yX12_in wsX12_in) := goodIn_app (goodIn_of _ (by decide +kernel)) ggX12_plus_X12_in
set_option maxRecDepth 20000 in
theorem ggX12_plus_X12_takes : GoodIn wsX12_plus wsX12_takes := goodIn_r _ [18, 19, 3, 4, 5, 6, 20, 21, 22, 9, 23, 24, 25, 26, 1, 31, 32, 33, 34, 35, 36, 37, 38, 39, 40, 41, 42, 43, 44, 45, 46, 47, 48, 49, 50, 51, 52, 53, 54, 55, 56, 57, 58, 59, 60, 61, 62, 63, 64, 65, 66, 67, 68, 69, 70, 71, 72, 73, 74, 75, 76, 77, 78, 79, 80, 81, 82, 83, 84] rfl (by decide +kernel)
set_option maxRecDepth 20000 in
theorem gX12_plus_X12_takes : GoodIn wsX12_plus (wsV RX12 317 RX12 yX12_takes wsX12_takes) := goodIn_app (goodIn_of _ (by decide +kernel)) ggX12_plus_X12_takes
set_option maxRecDepth 20000 in
theorem ggX12_plus_X12_comes : GoodIn wsX12_plus wsX12_comes := goodIn_r _ [23, 19, 24, 25, 26, 1, 31, 32, 33, 34, 35, 36, 37, 38, 39, 40, 41, 42, 43, 44, 45, 46, 47, 48, 49, 50, 51, 52, 53, 54, 55, 56, 57, 58, 59, 60, 61, 62, 63, 64, 65, 66, 67, 68, 69, 70, 71, 72, 73, 74, 75, 76, 77, 78, 79, 80, 81, 82, 83, 84] rfl (by decide +kernel)
set_option maxRecDepth 20000 in
theorem gX12_plus_X12_comes : GoodIn wsX12_plus (wsV RX12 311 RX12 yX12_comes wsX12_comes) := goodIn_app (goodIn_of _ (by decide +kernel)) ggX12_plus_X12_comes
set_option maxRecDepth 20000 in
theorem ggX12_plus_X12_gives : GoodIn wsX12_plus wsX12_gives := goodIn_r _ [30, 19, 26, 4, 5, 24, 6, 25, 3, 31, 32, 33, 34, 35, 36, 37, 38, 39, 40, 41, 42, 43, 44, 45, 46, 47, 48, 49, 50, 51, 52, 53, 54, 55, 56, 57, 58, 59, 60, 61, 62, 63, 64, 65, 66, 67, 68, 69, 70, 71, 72, 73, 74, 75, 76, 77, 78, 79, 80, 81, 82, 83, 84] rfl (by decide +kernel)
set_option maxRecDepth 20000 in
theorem gX12_plus_X12_gives : GoodIn wsX12_plus (wsV RX12 320 RX12 yX12_gives wsX12_gives) := goodIn_app (goodIn_of _ (by decide +kernel)) ggX12_plus_X12_gives
theorem dX12_plus_0 : decode cX12_plus 0 = .ok (.iload_n 1, 1) := by decide +kernel
theorem dX12_plus_1 : decode cX12_plus 1 = .ok (.invokestatic 305, 3) := by decide +kernel
theorem dX12_plus_4 : decode cX12_plus 4 = .ok (.ifCond .eq 26, 3) := by decide +kernel
theorem dX12_plus_7 : decode cX12_plus 7 = .ok (.iload_n 2, 1) := by decide +kernel
theorem dX12_plus_8 : decode cX12_plus 8 = .ok (.invokestatic 305, 3) := by decide +kernel
theorem dX12_plus_11 : decode cX12_plus 11 = .ok (.ifCond .eq 19, 3) := by decide +kernel
theorem dX12_plus_14 : decode cX12_plus 14 = .ok (.iload_n 3, 1) := by decide +kernel
theorem dX12_plus_15 : decode cX12_plus 15 = .ok (.i2l, 1) := by decide +kernel
theorem dX12_plus_16 : decode cX12_plus 16 = .ok (.lconst 0, 1) := by decide +kernel
theorem dX12_plus_17 : decode cX12_plus 17 = .ok (.aload_n 0, 1) := by decide +kernel
theorem dX12_plus_18 : decode cX12_plus 18 = .ok (.getfield 7, 3) := by decide +kernel
theorem dX12_plus_21 : decode cX12_plus 21 = .ok (.iconst 1, 1) := by decide +kernel
theorem dX12_plus_22 : decode cX12_plus 22 = .ok (.isub, 1) := by decide +kernel
theorem dX12_plus_23 : decode cX12_plus 23 = .ok (.i2l, 1) := by decide +kernel
theorem dX12_plus_24 : decode cX12_plus 24 = .ok (.invokestatic 155, 3) := by decide +kernel
theorem dX12_plus_27 : decode cX12_plus 27 = .ok (.ifCond .ne 5, 3) := by decide +kernel
theorem dX12_plus_30 : decode cX12_plus 30 = .ok (.iconst (-1), 1) := by decide +kernel
theorem dX12_plus_31 : decode cX12_plus 31 = .ok (.ireturn, 1) := by decide +kernel
theorem dX12_plus_32 : decode cX12_plus 32 = .ok (.aload_n 0, 1) := by decide +kernel
theorem dX12_plus_33 : decode cX12_plus 33 = .ok (.getfield 29, 3) := by decide +kernel
theorem dX12_plus_36 : decode cX12_plus 36 = .ok (.iload_n 1, 1) := by decide +kernel
theorem dX12_plus_37 : decode cX12_plus 37 = .ok (.iaload, 1) := by decide +kernel
theorem dX12_plus_38 : decode cX12_plus 38 = .ok (.ifCond .eq 12, 3) := by decide +kernel
theorem dX12_plus_41 : decode cX12_plus 41 = .ok (.aload_n 0, 1) := by decide +kernel
theorem dX12_plus_42 : decode cX12_plus 42 = .ok (.getfield 29, 3) := by decide +kernel
theorem dX12_plus_45 : decode cX12_plus 45 = .ok (.iload_n 2, 1) := by decide +kernel
theorem dX12_plus_46 : decode cX12_plus 46 = .ok (.iaload, 1) := by decide +kernel
theorem dX12_plus_47 : decode cX12_plus 47 = .ok (.ifCond .ne 6, 3) := by decide +kernel
theorem dX12_plus_50 : decode cX12_plus 50 = .ok (.bipush (-11), 2) := by decide +kernel
theorem dX12_plus_52 : decode cX12_plus 52 = .ok (.ireturn, 1) := by decide +kernel
theorem dX12_plus_53 : decode cX12_plus 53 = .ok (.aload_n 0, 1) := by decide +kernel
theorem dX12_plus_54 : decode cX12_plus 54 = .ok (.getfield 29, 3) := by decide +kernel
theorem dX12_plus_57 : decode cX12_plus 57 = .ok (.iload_n 1, 1) := by decide +kernel
theorem dX12_plus_58 : decode cX12_plus 58 = .ok (.iaload, 1) := by decide +kernel
theorem dX12_plus_59 : decode cX12_plus 59 = .ok (.iconst 1, 1) := by decide +kernel
theorem dX12_plus_60 : decode cX12_plus 60 = .ok (.if_icmp .ne 13, 3) := by decide +kernel
theorem dX12_plus_63 : decode cX12_plus 63 = .ok (.aload_n 0, 1) := by decide +kernel
theorem dX12_plus_64 : decode cX12_plus 64 = .ok (.getfield 29, 3) := by decide +kernel
theorem dX12_plus_67 : decode cX12_plus 67 = .ok (.iload_n 2, 1) := by decide +kernel
theorem dX12_plus_68 : decode cX12_plus 68 = .ok (.iaload, 1) := by decide +kernel
theorem dX12_plus_69 : decode cX12_plus 69 = .ok (.iconst 1, 1) := by decide +kernel
theorem dX12_plus_70 : decode cX12_plus 70 = .ok (.if_icmp .eq 6, 3) := by decide +kernel
theorem dX12_plus_73 : decode cX12_plus 73 = .ok (.bipush (-12), 2) := by decide +kernel
theorem dX12_plus_75 : decode cX12_plus 75 = .ok (.ireturn, 1) := by decide +kernel
theorem dX12_plus_76 : decode cX12_plus 76 = .ok (.aload_n 0, 1) := by decide +kernel
theorem dX12_plus_77 : decode cX12_plus 77 = .ok (.iload_n 1, 1) := by decide +kernel
theorem dX12_plus_78 : decode cX12_plus 78 = .ok (.invokevirtual 317, 3) := by decide +kernel
theorem dX12_plus_81 : decode cX12_plus 81 = .ok (.bipush 8, 2) := by decide +kernel
theorem dX12_plus_83 : decode cX12_plus 83 = .ok (.iload_n 2, 1) := by decide +kernel
theorem dX12_plus_84 : decode cX12_plus 84 = .ok (.imul, 1) := by decide +kernel
theorem dX12_plus_85 : decode cX12_plus 85 = .ok (.istore 4, 2) := by decide +kernel
theorem dX12_plus_87 : decode cX12_plus 87 = .ok (.iload 4, 2) := by decide +kernel
theorem dX12_plus_89 : decode cX12_plus 89 = .ok (.bipush 8, 2) := by decide +kernel
theorem dX12_plus_91 : decode cX12_plus 91 = .ok (.iload_n 2, 1) := by decide +kernel
theorem dX12_plus_92 : decode cX12_plus 92 = .ok (.imul, 1) := by decide +kernel
theorem dX12_plus_93 : decode cX12_plus 93 = .ok (.aload_n 0, 1) := by decide +kernel
theorem dX12_plus_94 : decode cX12_plus 94 = .ok (.getfield 32, 3) := by decide +kernel
theorem dX12_plus_97 : decode cX12_plus 97 = .ok (.iload_n 2, 1) := by decide +kernel
theorem dX12_plus_98 : decode cX12_plus 98 = .ok (.iaload, 1) := by decide +kernel
theorem dX12_plus_99 : decode cX12_plus 99 = .ok (.iadd, 1) := by decide +kernel
theorem dX12_plus_100 : decode cX12_plus 100 = .ok (.if_icmp .ge 41, 3) := by decide +kernel
theorem dX12_plus_103 : decode cX12_plus 103 = .ok (.aload_n 0, 1) := by decide +kernel
theorem dX12_plus_104 : decode cX12_plus 104 = .ok (.iload_n 3, 1) := by decide +kernel
theorem dX12_plus_105 : decode cX12_plus 105 = .ok (.aload_n 0, 1) := by decide +kernel
theorem dX12_plus_106 : decode cX12_plus 106 = .ok (.getfield 35, 3) := by decide +kernel
theorem dX12_plus_109 : decode cX12_plus 109 = .ok (.iload 4, 2) := by decide +kernel
theorem dX12_plus_111 : decode cX12_plus 111 = .ok (.iaload, 1) := by decide +kernel
theorem dX12_plus_112 : decode cX12_plus 112 = .ok (.imul, 1) := by decide +kernel
theorem dX12_plus_113 : decode cX12_plus 113 = .ok (.aload_n 0, 1) := by decide +kernel
theorem dX12_plus_114 : decode cX12_plus 114 = .ok (.getfield 7, 3) := by decide +kernel
theorem dX12_plus_117 : decode cX12_plus 117 = .ok (.irem, 1) := by decide +kernel
theorem dX12_plus_118 : decode cX12_plus 118 = .ok (.aload_n 0, 1) := by decide +kernel
theorem dX12_plus_119 : decode cX12_plus 119 = .ok (.getfield 38, 3) := by decide +kernel
theorem dX12_plus_122 : decode cX12_plus 122 = .ok (.iload 4, 2) := by decide +kernel
theorem dX12_plus_124 : decode cX12_plus 124 = .ok (.iaload, 1) := by decide +kernel
theorem dX12_plus_125 : decode cX12_plus 125 = .ok (.aload_n 0, 1) := by decide +kernel
theorem dX12_plus_126 : decode cX12_plus 126 = .ok (.getfield 41, 3) := by decide +kernel
theorem dX12_plus_129 : decode cX12_plus 129 = .ok (.iload 4, 2) := by decide +kernel
theorem dX12_plus_131 : decode cX12_plus 131 = .ok (.iaload, 1) := by decide +kernel
theorem dX12_plus_132 : decode cX12_plus 132 = .ok (.invokevirtual 311, 3) := by decide +kernel
theorem dX12_plus_135 : decode cX12_plus 135 = .ok (.iinc 4 1, 3) := by decide +kernel
theorem dX12_plus_138 : decode cX12_plus 138 = .ok (.goto (-51), 3) := by decide +kernel
theorem dX12_plus_141 : decode cX12_plus 141 = .ok (.aload_n 0, 1) := by decide +kernel
theorem dX12_plus_142 : decode cX12_plus 142 = .ok (.iload_n 1, 1) := by decide +kernel
theorem dX12_plus_143 : decode cX12_plus 143 = .ok (.invokevirtual 320, 3) := by decide +kernel
theorem dX12_plus_146 : decode cX12_plus 146 = .ok (.ireturn, 1) := by decide +kernel
set_option maxRecDepth 20000 in
theorem ggX12_degree_X12_isSlot : GoodIn wsX12_degree wsX12_isSlot := goodIn_r _ [9, 10, 11, 12, 8, 13] rfl (by decide +kernel)
set_option maxRecDepth 20000 in
theorem gX12_degree_X12_isSlot : GoodIn wsX12_degree (va_wsS RX12 305 yX12_isSlot wsX12_isSlot) := goodIn_app (goodIn_of _ (by decide +kernel)) ggX12_degree_X12_isSlot
set_option maxRecDepth 20000 in
theorem ggX12_degree_X12_lacks : GoodIn wsX12_degree wsX12_lacks := goodIn_r _ [17, 18, 19, 20, 21, 22, 23, 24, 25, 26, 27, 28, 29, 30, 31, 32, 33, 34, 35, 36, 37, 38, 39, 40, 41, 42, 43, 44, 45, 46, 47, 48, 49, 50, 51, 52, 53, 54, 55, 56, 57, 58, 59, 60, 61, 62, 63, 64, 65, 66, 67, 68, 69, 70, 71, 72] rfl (by decide +kernel)
set_option maxRecDepth 20000 in
theorem gX12_degree_X12_lacks : GoodIn wsX12_degree (wsV RX12 314 RX12 yX12_lacks wsX12_lacks) := goodIn_app (goodIn_of _ (by decide +kernel)) ggX12_degree_X12_lacks
theorem dX12_degree_0 : decode cX12_degree 0 = .ok (.iload_n 1, 1) := by decide +kernel
theorem dX12_degree_1 : decode cX12_degree 1 = .ok (.invokestatic 305, 3) := by decide +kernel
theorem dX12_degree_4 : decode cX12_degree 4 = .ok (.ifCond .ne 5, 3) := by decide +kernel
theorem dX12_degree_7 : decode cX12_degree 7 = .ok (.iconst (-1), 1) := by decide +kernel
theorem dX12_degree_8 : decode cX12_degree 8 = .ok (.ireturn, 1) := by decide +kernel
theorem dX12_degree_9 : decode cX12_degree 9 = .ok (.aload_n 0, 1) := by decide +kernel
theorem dX12_degree_10 : decode cX12_degree 10 = .ok (.iload_n 1, 1) := by decide +kernel
theorem dX12_degree_11 : decode cX12_degree 11 = .ok (.iconst 1, 1) := by decide +kernel
theorem dX12_degree_12 : decode cX12_degree 12 = .ok (.invokevirtual 314, 3) := by decide +kernel
theorem dX12_degree_15 : decode cX12_degree 15 = .ok (.istore_n 2, 1) := by decide +kernel
theorem dX12_degree_16 : decode cX12_degree 16 = .ok (.iload_n 2, 1) := by decide +kernel
theorem dX12_degree_17 : decode cX12_degree 17 = .ok (.ifCond .ge 5, 3) := by decide +kernel
theorem dX12_degree_20 : decode cX12_degree 20 = .ok (.iload_n 2, 1) := by decide +kernel
theorem dX12_degree_21 : decode cX12_degree 21 = .ok (.ireturn, 1) := by decide +kernel
theorem dX12_degree_22 : decode cX12_degree 22 = .ok (.ldc2_w 323, 3) := by decide +kernel
theorem dX12_degree_25 : decode cX12_degree 25 = .ok (.lstore_n 3, 1) := by decide +kernel
theorem dX12_degree_26 : decode cX12_degree 26 = .ok (.bipush 8, 2) := by decide +kernel
theorem dX12_degree_28 : decode cX12_degree 28 = .ok (.iload_n 1, 1) := by decide +kernel
theorem dX12_degree_29 : decode cX12_degree 29 = .ok (.imul, 1) := by decide +kernel
theorem dX12_degree_30 : decode cX12_degree 30 = .ok (.istore 5, 2) := by decide +kernel
theorem dX12_degree_32 : decode cX12_degree 32 = .ok (.iload 5, 2) := by decide +kernel
theorem dX12_degree_34 : decode cX12_degree 34 = .ok (.bipush 8, 2) := by decide +kernel
theorem dX12_degree_36 : decode cX12_degree 36 = .ok (.iload_n 1, 1) := by decide +kernel
theorem dX12_degree_37 : decode cX12_degree 37 = .ok (.imul, 1) := by decide +kernel
theorem dX12_degree_38 : decode cX12_degree 38 = .ok (.aload_n 0, 1) := by decide +kernel
theorem dX12_degree_39 : decode cX12_degree 39 = .ok (.getfield 32, 3) := by decide +kernel
theorem dX12_degree_42 : decode cX12_degree 42 = .ok (.iload_n 1, 1) := by decide +kernel
theorem dX12_degree_43 : decode cX12_degree 43 = .ok (.iaload, 1) := by decide +kernel
theorem dX12_degree_44 : decode cX12_degree 44 = .ok (.iadd, 1) := by decide +kernel
theorem dX12_degree_45 : decode cX12_degree 45 = .ok (.if_icmp .ge 42, 3) := by decide +kernel
theorem dX12_degree_48 : decode cX12_degree 48 = .ok (.aload_n 0, 1) := by decide +kernel
theorem dX12_degree_49 : decode cX12_degree 49 = .ok (.getfield 38, 3) := by decide +kernel
theorem dX12_degree_52 : decode cX12_degree 52 = .ok (.iload 5, 2) := by decide +kernel
theorem dX12_degree_54 : decode cX12_degree 54 = .ok (.iaload, 1) := by decide +kernel
theorem dX12_degree_55 : decode cX12_degree 55 = .ok (.i2l, 1) := by decide +kernel
theorem dX12_degree_56 : decode cX12_degree 56 = .ok (.aload_n 0, 1) := by decide +kernel
theorem dX12_degree_57 : decode cX12_degree 57 = .ok (.getfield 41, 3) := by decide +kernel
theorem dX12_degree_60 : decode cX12_degree 60 = .ok (.iload 5, 2) := by decide +kernel
theorem dX12_degree_62 : decode cX12_degree 62 = .ok (.iaload, 1) := by decide +kernel
theorem dX12_degree_63 : decode cX12_degree 63 = .ok (.i2l, 1) := by decide +kernel
theorem dX12_degree_64 : decode cX12_degree 64 = .ok (.ladd, 1) := by decide +kernel
theorem dX12_degree_65 : decode cX12_degree 65 = .ok (.lstore 6, 2) := by decide +kernel
theorem dX12_degree_67 : decode cX12_degree 67 = .ok (.lload 6, 2) := by decide +kernel
theorem dX12_degree_69 : decode cX12_degree 69 = .ok (.lload_n 3, 1) := by decide +kernel
theorem dX12_degree_70 : decode cX12_degree 70 = .ok (.lcmp, 1) := by decide +kernel
theorem dX12_degree_71 : decode cX12_degree 71 = .ok (.ifCond .le 8, 3) := by decide +kernel
theorem dX12_degree_74 : decode cX12_degree 74 = .ok (.lload 6, 2) := by decide +kernel
theorem dX12_degree_76 : decode cX12_degree 76 = .ok (.goto 4, 3) := by decide +kernel
theorem dX12_degree_79 : decode cX12_degree 79 = .ok (.lload_n 3, 1) := by decide +kernel
theorem dX12_degree_80 : decode cX12_degree 80 = .ok (.lstore_n 3, 1) := by decide +kernel
theorem dX12_degree_81 : decode cX12_degree 81 = .ok (.iinc 5 1, 3) := by decide +kernel
theorem dX12_degree_84 : decode cX12_degree 84 = .ok (.goto (-52), 3) := by decide +kernel
theorem dX12_degree_87 : decode cX12_degree 87 = .ok (.lload_n 3, 1) := by decide +kernel
theorem dX12_degree_88 : decode cX12_degree 88 = .ok (.ldc2_w 182, 3) := by decide +kernel
theorem dX12_degree_91 : decode cX12_degree 91 = .ok (.lcmp, 1) := by decide +kernel
theorem dX12_degree_92 : decode cX12_degree 92 = .ok (.ifCond .le 8, 3) := by decide +kernel
theorem dX12_degree_95 : decode cX12_degree 95 = .ok (.bipush (-13), 2) := by decide +kernel
theorem dX12_degree_97 : decode cX12_degree 97 = .ok (.goto 5, 3) := by decide +kernel
theorem dX12_degree_100 : decode cX12_degree 100 = .ok (.lload_n 3, 1) := by decide +kernel
theorem dX12_degree_101 : decode cX12_degree 101 = .ok (.l2i, 1) := by decide +kernel
theorem dX12_degree_102 : decode cX12_degree 102 = .ok (.ireturn, 1) := by decide +kernel
set_option maxRecDepth 20000 in
theorem ggX12_leads_X12_isSlot : GoodIn wsX12_leads wsX12_isSlot := goodIn_r _ [13, 14, 15, 16, 12, 17] rfl (by decide +kernel)
set_option maxRecDepth 20000 in
theorem gX12_leads_X12_isSlot : GoodIn wsX12_leads (va_wsS RX12 305 yX12_isSlot wsX12_isSlot) := goodIn_app (goodIn_of _ (by decide +kernel)) ggX12_leads_X12_isSlot
set_option maxRecDepth 20000 in
theorem ggX12_leads_X12_isOrder : GoodIn wsX12_leads wsX12_isOrder := goodIn_r _ [21, 22, 15, 16, 12, 17] rfl (by decide +kernel)
set_option maxRecDepth 20000 in
theorem gX12_leads_X12_isOrder : GoodIn wsX12_leads (wsV RX12 265 RX12 yX12_isOrder wsX12_isOrder) := goodIn_app (goodIn_of _ (by decide +kernel)) ggX12_leads_X12_isOrder
set_option maxRecDepth 20000 in
theorem ggX12_leads_X12_lacks : GoodIn wsX12_leads wsX12_lacks := goodIn_r _ [26, 27, 35, 36, 37, 38, 39, 40, 41, 42, 43, 44, 45, 46, 47, 48, 49, 50, 51, 52, 53, 54, 55, 56, 57, 58, 59, 60, 61, 62, 63, 64, 65, 66, 67, 68, 69, 70, 71, 72, 73, 74, 75, 76, 77, 78, 79, 80, 81, 82, 83, 84, 85, 86, 87, 88] rfl (by decide +kernel)
set_option maxRecDepth 20000 in
theorem gX12_leads_X12_lacks : GoodIn wsX12_leads (wsV RX12 314 RX12 yX12_lacks wsX12_lacks) := goodIn_app (goodIn_of _ (by decide +kernel)) ggX12_leads_X12_lacks
set_option maxRecDepth 20000 in
theorem ggX12_leads_X12_by : GoodIn wsX12_leads wsX12_by := goodIn_r _ [30] rfl (by decide +kernel)
set_option maxRecDepth 20000 in
theorem gX12_leads_X12_by : GoodIn wsX12_leads (va_wsS RX12 216 yX12_by wsX12_by) := goodIn_app (goodIn_of _ (by decide +kernel)) ggX12_leads_X12_by
set_option maxRecDepth 20000 in
theorem ggX12_leads_X12_isLess : GoodIn wsX12_leads wsX12_isLess := goodIn_r _ [34, 1, 3, 5, 28, 29, 12, 30, 35, 36, 37, 38, 39, 40, 41, 42, 43, 44, 45, 46, 47, 48, 49, 50, 51, 52, 53, 54, 55, 56, 57, 58, 59, 60, 61, 62, 63, 64, 65, 66, 67, 68, 69, 70, 71, 72, 73, 74, 75, 76, 77, 78, 79, 80, 81, 82, 83, 84, 85, 86, 87, 88] rfl (by decide +kernel)
set_option maxRecDepth 20000 in
theorem gX12_leads_X12_isLess : GoodIn wsX12_leads (wsV RX12 236 RX12 yX12_isLess wsX12_isLess) := goodIn_app (goodIn_of _ (by decide +kernel)) ggX12_leads_X12_isLess
theorem dX12_leads_0 : decode cX12_leads 0 = .ok (.iload_n 1, 1) := by decide +kernel
theorem dX12_leads_1 : decode cX12_leads 1 = .ok (.invokestatic 305, 3) := by decide +kernel
theorem dX12_leads_4 : decode cX12_leads 4 = .ok (.ifCond .eq 11, 3) := by decide +kernel
theorem dX12_leads_7 : decode cX12_leads 7 = .ok (.aload_n 0, 1) := by decide +kernel
theorem dX12_leads_8 : decode cX12_leads 8 = .ok (.iload_n 2, 1) := by decide +kernel
theorem dX12_leads_9 : decode cX12_leads 9 = .ok (.invokevirtual 265, 3) := by decide +kernel
theorem dX12_leads_12 : decode cX12_leads 12 = .ok (.ifCond .ne 5, 3) := by decide +kernel
theorem dX12_leads_15 : decode cX12_leads 15 = .ok (.iconst (-1), 1) := by decide +kernel
theorem dX12_leads_16 : decode cX12_leads 16 = .ok (.ireturn, 1) := by decide +kernel
theorem dX12_leads_17 : decode cX12_leads 17 = .ok (.aload_n 0, 1) := by decide +kernel
theorem dX12_leads_18 : decode cX12_leads 18 = .ok (.iload_n 1, 1) := by decide +kernel
theorem dX12_leads_19 : decode cX12_leads 19 = .ok (.iconst 1, 1) := by decide +kernel
theorem dX12_leads_20 : decode cX12_leads 20 = .ok (.invokevirtual 314, 3) := by decide +kernel
theorem dX12_leads_23 : decode cX12_leads 23 = .ok (.istore_n 3, 1) := by decide +kernel
theorem dX12_leads_24 : decode cX12_leads 24 = .ok (.iload_n 3, 1) := by decide +kernel
theorem dX12_leads_25 : decode cX12_leads 25 = .ok (.ifCond .ge 5, 3) := by decide +kernel
theorem dX12_leads_28 : decode cX12_leads 28 = .ok (.iload_n 3, 1) := by decide +kernel
theorem dX12_leads_29 : decode cX12_leads 29 = .ok (.ireturn, 1) := by decide +kernel
theorem dX12_leads_30 : decode cX12_leads 30 = .ok (.aload_n 0, 1) := by decide +kernel
theorem dX12_leads_31 : decode cX12_leads 31 = .ok (.iload_n 2, 1) := by decide +kernel
theorem dX12_leads_32 : decode cX12_leads 32 = .ok (.putfield 207, 3) := by decide +kernel
theorem dX12_leads_35 : decode cX12_leads 35 = .ok (.aload_n 0, 1) := by decide +kernel
theorem dX12_leads_36 : decode cX12_leads 36 = .ok (.aload_n 0, 1) := by decide +kernel
theorem dX12_leads_37 : decode cX12_leads 37 = .ok (.getfield 19, 3) := by decide +kernel
theorem dX12_leads_40 : decode cX12_leads 40 = .ok (.putfield 210, 3) := by decide +kernel
theorem dX12_leads_43 : decode cX12_leads 43 = .ok (.aload_n 0, 1) := by decide +kernel
theorem dX12_leads_44 : decode cX12_leads 44 = .ok (.aload_n 0, 1) := by decide +kernel
theorem dX12_leads_45 : decode cX12_leads 45 = .ok (.getfield 22, 3) := by decide +kernel
theorem dX12_leads_48 : decode cX12_leads 48 = .ok (.putfield 213, 3) := by decide +kernel
theorem dX12_leads_51 : decode cX12_leads 51 = .ok (.bipush (-4), 2) := by decide +kernel
theorem dX12_leads_53 : decode cX12_leads 53 = .ok (.istore 4, 2) := by decide +kernel
theorem dX12_leads_55 : decode cX12_leads 55 = .ok (.iconst 0, 1) := by decide +kernel
theorem dX12_leads_56 : decode cX12_leads 56 = .ok (.istore 5, 2) := by decide +kernel
theorem dX12_leads_58 : decode cX12_leads 58 = .ok (.iload 5, 2) := by decide +kernel
theorem dX12_leads_60 : decode cX12_leads 60 = .ok (.aload_n 0, 1) := by decide +kernel
theorem dX12_leads_61 : decode cX12_leads 61 = .ok (.getfield 32, 3) := by decide +kernel
theorem dX12_leads_64 : decode cX12_leads 64 = .ok (.iload_n 1, 1) := by decide +kernel
theorem dX12_leads_65 : decode cX12_leads 65 = .ok (.iaload, 1) := by decide +kernel
theorem dX12_leads_66 : decode cX12_leads 66 = .ok (.if_icmp .ge 117, 3) := by decide +kernel
theorem dX12_leads_69 : decode cX12_leads 69 = .ok (.bipush 8, 2) := by decide +kernel
theorem dX12_leads_71 : decode cX12_leads 71 = .ok (.iload_n 1, 1) := by decide +kernel
theorem dX12_leads_72 : decode cX12_leads 72 = .ok (.imul, 1) := by decide +kernel
theorem dX12_leads_73 : decode cX12_leads 73 = .ok (.iload 5, 2) := by decide +kernel
theorem dX12_leads_75 : decode cX12_leads 75 = .ok (.iadd, 1) := by decide +kernel
theorem dX12_leads_76 : decode cX12_leads 76 = .ok (.istore 6, 2) := by decide +kernel
theorem dX12_leads_78 : decode cX12_leads 78 = .ok (.iload_n 2, 1) := by decide +kernel
theorem dX12_leads_79 : decode cX12_leads 79 = .ok (.aload_n 0, 1) := by decide +kernel
theorem dX12_leads_80 : decode cX12_leads 80 = .ok (.getfield 38, 3) := by decide +kernel
theorem dX12_leads_83 : decode cX12_leads 83 = .ok (.iload 6, 2) := by decide +kernel
theorem dX12_leads_85 : decode cX12_leads 85 = .ok (.iaload, 1) := by decide +kernel
theorem dX12_leads_86 : decode cX12_leads 86 = .ok (.i2l, 1) := by decide +kernel
theorem dX12_leads_87 : decode cX12_leads 87 = .ok (.aload_n 0, 1) := by decide +kernel
theorem dX12_leads_88 : decode cX12_leads 88 = .ok (.getfield 41, 3) := by decide +kernel
theorem dX12_leads_91 : decode cX12_leads 91 = .ok (.iload 6, 2) := by decide +kernel
theorem dX12_leads_93 : decode cX12_leads 93 = .ok (.iaload, 1) := by decide +kernel
theorem dX12_leads_94 : decode cX12_leads 94 = .ok (.i2l, 1) := by decide +kernel
theorem dX12_leads_95 : decode cX12_leads 95 = .ok (.aload_n 0, 1) := by decide +kernel
theorem dX12_leads_96 : decode cX12_leads 96 = .ok (.getfield 19, 3) := by decide +kernel
theorem dX12_leads_99 : decode cX12_leads 99 = .ok (.aload_n 0, 1) := by decide +kernel
theorem dX12_leads_100 : decode cX12_leads 100 = .ok (.getfield 22, 3) := by decide +kernel
theorem dX12_leads_103 : decode cX12_leads 103 = .ok (.invokestatic 216, 3) := by decide +kernel
theorem dX12_leads_106 : decode cX12_leads 106 = .ok (.ldc2_w 182, 3) := by decide +kernel
theorem dX12_leads_109 : decode cX12_leads 109 = .ok (.lcmp, 1) := by decide +kernel
theorem dX12_leads_110 : decode cX12_leads 110 = .ok (.ifCond .le 6, 3) := by decide +kernel
theorem dX12_leads_113 : decode cX12_leads 113 = .ok (.bipush (-13), 2) := by decide +kernel
theorem dX12_leads_115 : decode cX12_leads 115 = .ok (.ireturn, 1) := by decide +kernel
theorem dX12_leads_116 : decode cX12_leads 116 = .ok (.iload 4, 2) := by decide +kernel
theorem dX12_leads_118 : decode cX12_leads 118 = .ok (.bipush (-4), 2) := by decide +kernel
theorem dX12_leads_120 : decode cX12_leads 120 = .ok (.if_icmp .eq 48, 3) := by decide +kernel
theorem dX12_leads_123 : decode cX12_leads 123 = .ok (.aload_n 0, 1) := by decide +kernel
theorem dX12_leads_124 : decode cX12_leads 124 = .ok (.aload_n 0, 1) := by decide +kernel
theorem dX12_leads_125 : decode cX12_leads 125 = .ok (.getfield 38, 3) := by decide +kernel
theorem dX12_leads_128 : decode cX12_leads 128 = .ok (.bipush 8, 2) := by decide +kernel
theorem dX12_leads_130 : decode cX12_leads 130 = .ok (.iload_n 1, 1) := by decide +kernel
theorem dX12_leads_131 : decode cX12_leads 131 = .ok (.imul, 1) := by decide +kernel
theorem dX12_leads_132 : decode cX12_leads 132 = .ok (.iload 4, 2) := by decide +kernel
theorem dX12_leads_134 : decode cX12_leads 134 = .ok (.iadd, 1) := by decide +kernel
theorem dX12_leads_135 : decode cX12_leads 135 = .ok (.iaload, 1) := by decide +kernel
theorem dX12_leads_136 : decode cX12_leads 136 = .ok (.aload_n 0, 1) := by decide +kernel
theorem dX12_leads_137 : decode cX12_leads 137 = .ok (.getfield 41, 3) := by decide +kernel
theorem dX12_leads_140 : decode cX12_leads 140 = .ok (.bipush 8, 2) := by decide +kernel
theorem dX12_leads_142 : decode cX12_leads 142 = .ok (.iload_n 1, 1) := by decide +kernel
theorem dX12_leads_143 : decode cX12_leads 143 = .ok (.imul, 1) := by decide +kernel
theorem dX12_leads_144 : decode cX12_leads 144 = .ok (.iload 4, 2) := by decide +kernel
theorem dX12_leads_146 : decode cX12_leads 146 = .ok (.iadd, 1) := by decide +kernel
theorem dX12_leads_147 : decode cX12_leads 147 = .ok (.iaload, 1) := by decide +kernel
theorem dX12_leads_148 : decode cX12_leads 148 = .ok (.aload_n 0, 1) := by decide +kernel
theorem dX12_leads_149 : decode cX12_leads 149 = .ok (.getfield 38, 3) := by decide +kernel
theorem dX12_leads_152 : decode cX12_leads 152 = .ok (.iload 6, 2) := by decide +kernel
theorem dX12_leads_154 : decode cX12_leads 154 = .ok (.iaload, 1) := by decide +kernel
theorem dX12_leads_155 : decode cX12_leads 155 = .ok (.aload_n 0, 1) := by decide +kernel
theorem dX12_leads_156 : decode cX12_leads 156 = .ok (.getfield 41, 3) := by decide +kernel
theorem dX12_leads_159 : decode cX12_leads 159 = .ok (.iload 6, 2) := by decide +kernel
theorem dX12_leads_161 : decode cX12_leads 161 = .ok (.iaload, 1) := by decide +kernel
theorem dX12_leads_162 : decode cX12_leads 162 = .ok (.invokevirtual 236, 3) := by decide +kernel
theorem dX12_leads_165 : decode cX12_leads 165 = .ok (.ifCond .eq 8, 3) := by decide +kernel
theorem dX12_leads_168 : decode cX12_leads 168 = .ok (.iload 5, 2) := by decide +kernel
theorem dX12_leads_170 : decode cX12_leads 170 = .ok (.goto 5, 3) := by decide +kernel
theorem dX12_leads_173 : decode cX12_leads 173 = .ok (.iload 4, 2) := by decide +kernel
theorem dX12_leads_175 : decode cX12_leads 175 = .ok (.istore 4, 2) := by decide +kernel
theorem dX12_leads_177 : decode cX12_leads 177 = .ok (.iinc 5 1, 3) := by decide +kernel
theorem dX12_leads_180 : decode cX12_leads 180 = .ok (.goto (-122), 3) := by decide +kernel
theorem dX12_leads_183 : decode cX12_leads 183 = .ok (.iload 4, 2) := by decide +kernel
theorem dX12_leads_185 : decode cX12_leads 185 = .ok (.ireturn, 1) := by decide +kernel
set_option maxRecDepth 20000 in
theorem ggX12_formOfSlot_X12_formOf : GoodIn wsX12_formOfSlot wsX12_formOf := goodIn_r _ [12, 6, 13, 14, 15, 16, 17, 11, 18, 19, 20, 21, 22, 23, 24, 7, 25, 26, 27, 28, 29, 30, 31, 32, 33, 34, 35, 36, 37, 38, 39, 40, 41, 42, 43, 44, 45, 46, 47, 48, 49, 50, 51, 52, 53, 54, 55, 56, 57, 58, 59, 60, 61, 62, 63, 64, 65, 66, 67, 68, 69, 70, 71, 72, 73, 74, 75, 76, 77, 78, 79, 80, 81, 82, 83, 84, 85, 86, 87, 88, 89] rfl (by decide +kernel)
set_option maxRecDepth 20000 in
theorem gX12_formOfSlot_X12_formOf : GoodIn wsX12_formOfSlot (wsV RX12 247 RX12 yX12_formOf wsX12_formOf) := goodIn_app (goodIn_of _ (by decide +kernel)) ggX12_formOfSlot_X12_formOf
theorem dX12_formOfSlot_0 : decode cX12_formOfSlot 0 = .ok (.iconst 0, 1) := by decide +kernel
theorem dX12_formOfSlot_1 : decode cX12_formOfSlot 1 = .ok (.istore_n 2, 1) := by decide +kernel
theorem dX12_formOfSlot_2 : decode cX12_formOfSlot 2 = .ok (.iload_n 2, 1) := by decide +kernel
theorem dX12_formOfSlot_3 : decode cX12_formOfSlot 3 = .ok (.bipush 9, 2) := by decide +kernel
theorem dX12_formOfSlot_5 : decode cX12_formOfSlot 5 = .ok (.if_icmp .ge 16, 3) := by decide +kernel
theorem dX12_formOfSlot_8 : decode cX12_formOfSlot 8 = .ok (.aload_n 0, 1) := by decide +kernel
theorem dX12_formOfSlot_9 : decode cX12_formOfSlot 9 = .ok (.getfield 144, 3) := by decide +kernel
theorem dX12_formOfSlot_12 : decode cX12_formOfSlot 12 = .ok (.iload_n 2, 1) := by decide +kernel
theorem dX12_formOfSlot_13 : decode cX12_formOfSlot 13 = .ok (.iconst 0, 1) := by decide +kernel
theorem dX12_formOfSlot_14 : decode cX12_formOfSlot 14 = .ok (.iastore, 1) := by decide +kernel
theorem dX12_formOfSlot_15 : decode cX12_formOfSlot 15 = .ok (.iinc 2 1, 3) := by decide +kernel
theorem dX12_formOfSlot_18 : decode cX12_formOfSlot 18 = .ok (.goto (-16), 3) := by decide +kernel
theorem dX12_formOfSlot_21 : decode cX12_formOfSlot 21 = .ok (.bipush 8, 2) := by decide +kernel
theorem dX12_formOfSlot_23 : decode cX12_formOfSlot 23 = .ok (.iload_n 1, 1) := by decide +kernel
theorem dX12_formOfSlot_24 : decode cX12_formOfSlot 24 = .ok (.imul, 1) := by decide +kernel
theorem dX12_formOfSlot_25 : decode cX12_formOfSlot 25 = .ok (.istore_n 2, 1) := by decide +kernel
theorem dX12_formOfSlot_26 : decode cX12_formOfSlot 26 = .ok (.iload_n 2, 1) := by decide +kernel
theorem dX12_formOfSlot_27 : decode cX12_formOfSlot 27 = .ok (.bipush 8, 2) := by decide +kernel
theorem dX12_formOfSlot_29 : decode cX12_formOfSlot 29 = .ok (.iload_n 1, 1) := by decide +kernel
theorem dX12_formOfSlot_30 : decode cX12_formOfSlot 30 = .ok (.imul, 1) := by decide +kernel
theorem dX12_formOfSlot_31 : decode cX12_formOfSlot 31 = .ok (.aload_n 0, 1) := by decide +kernel
theorem dX12_formOfSlot_32 : decode cX12_formOfSlot 32 = .ok (.getfield 32, 3) := by decide +kernel
theorem dX12_formOfSlot_35 : decode cX12_formOfSlot 35 = .ok (.iload_n 1, 1) := by decide +kernel
theorem dX12_formOfSlot_36 : decode cX12_formOfSlot 36 = .ok (.iaload, 1) := by decide +kernel
theorem dX12_formOfSlot_37 : decode cX12_formOfSlot 37 = .ok (.iadd, 1) := by decide +kernel
theorem dX12_formOfSlot_38 : decode cX12_formOfSlot 38 = .ok (.if_icmp .ge 70, 3) := by decide +kernel
theorem dX12_formOfSlot_41 : decode cX12_formOfSlot 41 = .ok (.aload_n 0, 1) := by decide +kernel
theorem dX12_formOfSlot_42 : decode cX12_formOfSlot 42 = .ok (.aload_n 0, 1) := by decide +kernel
theorem dX12_formOfSlot_43 : decode cX12_formOfSlot 43 = .ok (.getfield 38, 3) := by decide +kernel
theorem dX12_formOfSlot_46 : decode cX12_formOfSlot 46 = .ok (.iload_n 2, 1) := by decide +kernel
theorem dX12_formOfSlot_47 : decode cX12_formOfSlot 47 = .ok (.iaload, 1) := by decide +kernel
theorem dX12_formOfSlot_48 : decode cX12_formOfSlot 48 = .ok (.aload_n 0, 1) := by decide +kernel
theorem dX12_formOfSlot_49 : decode cX12_formOfSlot 49 = .ok (.getfield 41, 3) := by decide +kernel
theorem dX12_formOfSlot_52 : decode cX12_formOfSlot 52 = .ok (.iload_n 2, 1) := by decide +kernel
theorem dX12_formOfSlot_53 : decode cX12_formOfSlot 53 = .ok (.iaload, 1) := by decide +kernel
theorem dX12_formOfSlot_54 : decode cX12_formOfSlot 54 = .ok (.invokevirtual 247, 3) := by decide +kernel
theorem dX12_formOfSlot_57 : decode cX12_formOfSlot 57 = .ok (.iconst 0, 1) := by decide +kernel
theorem dX12_formOfSlot_58 : decode cX12_formOfSlot 58 = .ok (.istore_n 3, 1) := by decide +kernel
theorem dX12_formOfSlot_59 : decode cX12_formOfSlot 59 = .ok (.iload_n 3, 1) := by decide +kernel
theorem dX12_formOfSlot_60 : decode cX12_formOfSlot 60 = .ok (.bipush 9, 2) := by decide +kernel
theorem dX12_formOfSlot_62 : decode cX12_formOfSlot 62 = .ok (.if_icmp .ge 40, 3) := by decide +kernel
theorem dX12_formOfSlot_65 : decode cX12_formOfSlot 65 = .ok (.aload_n 0, 1) := by decide +kernel
theorem dX12_formOfSlot_66 : decode cX12_formOfSlot 66 = .ok (.getfield 144, 3) := by decide +kernel
theorem dX12_formOfSlot_69 : decode cX12_formOfSlot 69 = .ok (.iload_n 3, 1) := by decide +kernel
theorem dX12_formOfSlot_70 : decode cX12_formOfSlot 70 = .ok (.aload_n 0, 1) := by decide +kernel
theorem dX12_formOfSlot_71 : decode cX12_formOfSlot 71 = .ok (.getfield 144, 3) := by decide +kernel
theorem dX12_formOfSlot_74 : decode cX12_formOfSlot 74 = .ok (.iload_n 3, 1) := by decide +kernel
theorem dX12_formOfSlot_75 : decode cX12_formOfSlot 75 = .ok (.iaload, 1) := by decide +kernel
theorem dX12_formOfSlot_76 : decode cX12_formOfSlot 76 = .ok (.aload_n 0, 1) := by decide +kernel
theorem dX12_formOfSlot_77 : decode cX12_formOfSlot 77 = .ok (.getfield 35, 3) := by decide +kernel
theorem dX12_formOfSlot_80 : decode cX12_formOfSlot 80 = .ok (.iload_n 2, 1) := by decide +kernel
theorem dX12_formOfSlot_81 : decode cX12_formOfSlot 81 = .ok (.iaload, 1) := by decide +kernel
theorem dX12_formOfSlot_82 : decode cX12_formOfSlot 82 = .ok (.aload_n 0, 1) := by decide +kernel
theorem dX12_formOfSlot_83 : decode cX12_formOfSlot 83 = .ok (.getfield 84, 3) := by decide +kernel
theorem dX12_formOfSlot_86 : decode cX12_formOfSlot 86 = .ok (.iload_n 3, 1) := by decide +kernel
theorem dX12_formOfSlot_87 : decode cX12_formOfSlot 87 = .ok (.iaload, 1) := by decide +kernel
theorem dX12_formOfSlot_88 : decode cX12_formOfSlot 88 = .ok (.imul, 1) := by decide +kernel
theorem dX12_formOfSlot_89 : decode cX12_formOfSlot 89 = .ok (.iadd, 1) := by decide +kernel
theorem dX12_formOfSlot_90 : decode cX12_formOfSlot 90 = .ok (.aload_n 0, 1) := by decide +kernel
theorem dX12_formOfSlot_91 : decode cX12_formOfSlot 91 = .ok (.getfield 7, 3) := by decide +kernel
theorem dX12_formOfSlot_94 : decode cX12_formOfSlot 94 = .ok (.irem, 1) := by decide +kernel
theorem dX12_formOfSlot_95 : decode cX12_formOfSlot 95 = .ok (.iastore, 1) := by decide +kernel
theorem dX12_formOfSlot_96 : decode cX12_formOfSlot 96 = .ok (.iinc 3 1, 3) := by decide +kernel
theorem dX12_formOfSlot_99 : decode cX12_formOfSlot 99 = .ok (.goto (-40), 3) := by decide +kernel
theorem dX12_formOfSlot_102 : decode cX12_formOfSlot 102 = .ok (.iinc 2 1, 3) := by decide +kernel
theorem dX12_formOfSlot_105 : decode cX12_formOfSlot 105 = .ok (.goto (-79), 3) := by decide +kernel
theorem dX12_formOfSlot_108 : decode cX12_formOfSlot 108 = .ok (.iconst 0, 1) := by decide +kernel
theorem dX12_formOfSlot_109 : decode cX12_formOfSlot 109 = .ok (.istore_n 2, 1) := by decide +kernel
theorem dX12_formOfSlot_110 : decode cX12_formOfSlot 110 = .ok (.iload_n 2, 1) := by decide +kernel
theorem dX12_formOfSlot_111 : decode cX12_formOfSlot 111 = .ok (.bipush 9, 2) := by decide +kernel
theorem dX12_formOfSlot_113 : decode cX12_formOfSlot 113 = .ok (.if_icmp .ge 21, 3) := by decide +kernel
theorem dX12_formOfSlot_116 : decode cX12_formOfSlot 116 = .ok (.aload_n 0, 1) := by decide +kernel
theorem dX12_formOfSlot_117 : decode cX12_formOfSlot 117 = .ok (.getfield 84, 3) := by decide +kernel
theorem dX12_formOfSlot_120 : decode cX12_formOfSlot 120 = .ok (.iload_n 2, 1) := by decide +kernel
theorem dX12_formOfSlot_121 : decode cX12_formOfSlot 121 = .ok (.aload_n 0, 1) := by decide +kernel
theorem dX12_formOfSlot_122 : decode cX12_formOfSlot 122 = .ok (.getfield 144, 3) := by decide +kernel
theorem dX12_formOfSlot_125 : decode cX12_formOfSlot 125 = .ok (.iload_n 2, 1) := by decide +kernel
theorem dX12_formOfSlot_126 : decode cX12_formOfSlot 126 = .ok (.iaload, 1) := by decide +kernel
theorem dX12_formOfSlot_127 : decode cX12_formOfSlot 127 = .ok (.iastore, 1) := by decide +kernel
theorem dX12_formOfSlot_128 : decode cX12_formOfSlot 128 = .ok (.iinc 2 1, 3) := by decide +kernel
theorem dX12_formOfSlot_131 : decode cX12_formOfSlot 131 = .ok (.goto (-21), 3) := by decide +kernel
theorem dX12_formOfSlot_134 : decode cX12_formOfSlot 134 = .ok (.return_, 1) := by decide +kernel
set_option maxRecDepth 20000 in
theorem ggX12_reduce_X12_isSlot : GoodIn wsX12_reduce wsX12_isSlot := goodIn_r _ [9, 10, 11, 12, 8, 13] rfl (by decide +kernel)
set_option maxRecDepth 20000 in
theorem gX12_reduce_X12_isSlot : GoodIn wsX12_reduce (va_wsS RX12 305 yX12_isSlot wsX12_isSlot) := goodIn_app (goodIn_of _ (by decide +kernel)) ggX12_reduce_X12_isSlot
set_option maxRecDepth 20000 in
theorem ggX12_reduce_X12_isOrder : GoodIn wsX12_reduce wsX12_isOrder := goodIn_r _ [17, 18, 11, 12, 8, 13] rfl (by decide +kernel)
set_option maxRecDepth 20000 in
theorem gX12_reduce_X12_isOrder : GoodIn wsX12_reduce (wsV RX12 265 RX12 yX12_isOrder wsX12_isOrder) := goodIn_app (goodIn_of _ (by decide +kernel)) ggX12_reduce_X12_isOrder
set_option maxRecDepth 20000 in
theorem ggX12_reduce_X12_lacks : GoodIn wsX12_reduce wsX12_lacks := goodIn_r _ [22, 23, 144, 145, 146, 147, 148, 149, 150, 151, 152, 153, 154, 155, 156, 157, 158, 159, 160, 161, 162, 163, 164, 165, 166, 167, 168, 169, 170, 171, 172, 173, 174, 175, 176, 177, 178, 179, 180, 181, 182, 183, 184, 185, 186, 187, 188, 189, 190, 191, 192, 193, 194, 195, 196, 197] rfl (by decide +kernel)
set_option maxRecDepth 20000 in
theorem gX12_reduce_X12_lacks : GoodIn wsX12_reduce (wsV RX12 314 RX12 yX12_lacks wsX12_lacks) := goodIn_app (goodIn_of _ (by decide +kernel)) ggX12_reduce_X12_lacks
set_option maxRecDepth 20000 in
theorem ggX12_reduce_X12_walksNow : GoodIn wsX12_reduce wsX12_walksNow := goodIn_r _ [27, 28, 29, 30, 31, 32, 8, 33, 34, 35, 36, 2, 37, 38, 39, 40, 41, 42, 43, 44, 45, 46, 47, 48, 49, 50, 51, 52, 53, 54, 55, 56, 57, 58, 59, 60, 61, 62, 63, 64, 65, 66, 67, 68, 69, 70, 71, 72, 73, 74, 75, 76, 77, 78, 79, 80, 4, 5, 81, 82, 83, 84, 85, 86, 87, 88, 89, 90, 91, 92, 93, 94, 95, 96, 97, 98, 99, 100, 101, 102, 103, 104, 105, 106, 107, 108, 3, 109, 110, 111, 112, 113, 114, 115, 116, 117, 118, 119, 120, 121, 122, 123, 144, 145, 146, 147, 148, 149, 150, 151, 152, 153, 154, 155, 156, 157, 158, 159, 160, 161, 162, 163, 164, 165, 166, 167, 168, 169, 170, 171, 172, 173, 174, 175, 176, 177, 178, 179, 180, 181, 182, 183, 184, 185, 186, 187, 188, 189, 190, 191, 192, 193, 194, 195, 196, 197] rfl (by decide +kernel)
set_option maxRecDepth 20000 in
theorem gX12_reduce_X12_walksNow : GoodIn wsX12_reduce (wsV RX12 268 RX12 yX12_walksNow wsX12_walksNow) := goodIn_app (goodIn_of _ (by decide +kernel)) ggX12_reduce_X12_walksNow
set_option maxRecDepth 20000 in
theorem ggX12_reduce_X12_formOfSlot : GoodIn wsX12_reduce wsX12_formOfSlot := goodIn_r _ [127, 128, 129, 130, 131, 132, 85, 63, 81, 82, 83, 8, 84, 47, 49, 86, 87, 88, 89, 90, 91, 92, 93, 94, 95, 96, 97, 98, 99, 46, 45, 100, 101, 102, 103, 104, 144, 145, 146, 147, 148, 149, 150, 151, 152, 153, 154, 155, 156, 157, 158, 159, 160, 161, 162, 163, 164, 165, 166, 167, 168, 169, 170, 171, 172, 173, 174, 175, 176, 177, 178, 179, 180, 181, 182, 183, 184, 185, 186, 187, 188, 189, 190, 191, 192, 193, 194, 195, 196, 197] rfl (by decide +kernel)
set_option maxRecDepth 20000 in
theorem gX12_reduce_X12_formOfSlot : GoodIn wsX12_reduce (wsV RX12 325 RX12 yX12_formOfSlot wsX12_formOfSlot) := goodIn_app (goodIn_of _ (by decide +kernel)) ggX12_reduce_X12_formOfSlot
set_option maxRecDepth 20000 in
theorem ggX12_reduce_X12_isLeft : GoodIn wsX12_reduce wsX12_isLeft := goodIn_r _ [108, 3, 2, 85, 109, 110, 59, 60, 61, 8, 62, 63, 144, 145, 146, 147, 148, 149, 150, 151, 152, 153, 154, 155, 156, 157, 158, 159, 160, 161, 162, 163, 164, 165, 166, 167, 168, 169, 170, 171, 172, 173, 174, 175, 176, 177, 178, 179, 180, 181, 182, 183, 184, 185, 186, 187, 188, 189, 190, 191, 192, 193, 194, 195, 196, 197] rfl (by decide +kernel)
set_option maxRecDepth 20000 in
theorem gX12_reduce_X12_isLeft : GoodIn wsX12_reduce (wsV RX12 250 RX12 yX12_isLeft wsX12_isLeft) := goodIn_app (goodIn_of _ (by decide +kernel)) ggX12_reduce_X12_isLeft
set_option maxRecDepth 20000 in
theorem ggX12_reduce_X12_mod : GoodIn wsX12_reduce wsX12_mod := goodIn_r _ [62, 63, 144, 145, 146, 147, 148, 149, 150, 151, 152, 153, 154, 155, 156, 157, 158, 159, 160, 161, 162, 163, 164, 165, 166, 167, 168, 169, 170, 171, 172, 173, 174, 175, 176, 177, 178, 179, 180, 181, 182, 183, 184, 185, 186, 187, 188, 189, 190, 191, 192, 193, 194, 195, 196, 197] rfl (by decide +kernel)
set_option maxRecDepth 20000 in
theorem gX12_reduce_X12_mod : GoodIn wsX12_reduce (wsV RX12 188 RX12 yX12_mod wsX12_mod) := goodIn_app (goodIn_of _ (by decide +kernel)) ggX12_reduce_X12_mod
set_option maxRecDepth 20000 in
theorem ggX12_reduce_X12_comes : GoodIn wsX12_reduce wsX12_comes := goodIn_r _ [136, 1, 137, 138, 139, 63, 144, 145, 146, 147, 148, 149, 150, 151, 152, 153, 154, 155, 156, 157, 158, 159, 160, 161, 162, 163, 164, 165, 166, 167, 168, 169, 170, 171, 172, 173, 174, 175, 176, 177, 178, 179, 180, 181, 182, 183, 184, 185, 186, 187, 188, 189, 190, 191, 192, 193, 194, 195, 196, 197] rfl (by decide +kernel)
set_option maxRecDepth 20000 in
theorem gX12_reduce_X12_comes : GoodIn wsX12_reduce (wsV RX12 311 RX12 yX12_comes wsX12_comes) := goodIn_app (goodIn_of _ (by decide +kernel)) ggX12_reduce_X12_comes
set_option maxRecDepth 20000 in
theorem ggX12_reduce_X12_gives : GoodIn wsX12_reduce wsX12_gives := goodIn_r _ [143, 1, 139, 132, 130, 137, 131, 138, 129, 144, 145, 146, 147, 148, 149, 150, 151, 152, 153, 154, 155, 156, 157, 158, 159, 160, 161, 162, 163, 164, 165, 166, 167, 168, 169, 170, 171, 172, 173, 174, 175, 176, 177, 178, 179, 180, 181, 182, 183, 184, 185, 186, 187, 188, 189, 190, 191, 192, 193, 194, 195, 196, 197] rfl (by decide +kernel)
set_option maxRecDepth 20000 in
theorem gX12_reduce_X12_gives : GoodIn wsX12_reduce (wsV RX12 320 RX12 yX12_gives wsX12_gives) := goodIn_app (goodIn_of _ (by decide +kernel)) ggX12_reduce_X12_gives
theorem dX12_reduce_0 : decode cX12_reduce 0 = .ok (.iload_n 1, 1) := by decide +kernel
theorem dX12_reduce_1 : decode cX12_reduce 1 = .ok (.invokestatic 305, 3) := by decide +kernel
theorem dX12_reduce_4 : decode cX12_reduce 4 = .ok (.ifCond .eq 11, 3) := by decide +kernel
theorem dX12_reduce_7 : decode cX12_reduce 7 = .ok (.aload_n 0, 1) := by decide +kernel
theorem dX12_reduce_8 : decode cX12_reduce 8 = .ok (.iload_n 2, 1) := by decide +kernel
theorem dX12_reduce_9 : decode cX12_reduce 9 = .ok (.invokevirtual 265, 3) := by decide +kernel
theorem dX12_reduce_12 : decode cX12_reduce 12 = .ok (.ifCond .ne 5, 3) := by decide +kernel
theorem dX12_reduce_15 : decode cX12_reduce 15 = .ok (.iconst (-1), 1) := by decide +kernel
theorem dX12_reduce_16 : decode cX12_reduce 16 = .ok (.ireturn, 1) := by decide +kernel
theorem dX12_reduce_17 : decode cX12_reduce 17 = .ok (.aload_n 0, 1) := by decide +kernel
theorem dX12_reduce_18 : decode cX12_reduce 18 = .ok (.iload_n 1, 1) := by decide +kernel
theorem dX12_reduce_19 : decode cX12_reduce 19 = .ok (.iconst 1, 1) := by decide +kernel
theorem dX12_reduce_20 : decode cX12_reduce 20 = .ok (.invokevirtual 314, 3) := by decide +kernel
theorem dX12_reduce_23 : decode cX12_reduce 23 = .ok (.istore_n 3, 1) := by decide +kernel
theorem dX12_reduce_24 : decode cX12_reduce 24 = .ok (.iload_n 3, 1) := by decide +kernel
theorem dX12_reduce_25 : decode cX12_reduce 25 = .ok (.ifCond .ge 5, 3) := by decide +kernel
theorem dX12_reduce_28 : decode cX12_reduce 28 = .ok (.iload_n 3, 1) := by decide +kernel
theorem dX12_reduce_29 : decode cX12_reduce 29 = .ok (.ireturn, 1) := by decide +kernel
theorem dX12_reduce_30 : decode cX12_reduce 30 = .ok (.aload_n 0, 1) := by decide +kernel
theorem dX12_reduce_31 : decode cX12_reduce 31 = .ok (.iload_n 2, 1) := by decide +kernel
theorem dX12_reduce_32 : decode cX12_reduce 32 = .ok (.invokevirtual 268, 3) := by decide +kernel
theorem dX12_reduce_35 : decode cX12_reduce 35 = .ok (.aload_n 0, 1) := by decide +kernel
theorem dX12_reduce_36 : decode cX12_reduce 36 = .ok (.iload_n 1, 1) := by decide +kernel
theorem dX12_reduce_37 : decode cX12_reduce 37 = .ok (.invokevirtual 325, 3) := by decide +kernel
theorem dX12_reduce_40 : decode cX12_reduce 40 = .ok (.aload_n 0, 1) := by decide +kernel
theorem dX12_reduce_41 : decode cX12_reduce 41 = .ok (.iconst 0, 1) := by decide +kernel
theorem dX12_reduce_42 : decode cX12_reduce 42 = .ok (.putfield 308, 3) := by decide +kernel
theorem dX12_reduce_45 : decode cX12_reduce 45 = .ok (.aload_n 0, 1) := by decide +kernel
theorem dX12_reduce_46 : decode cX12_reduce 46 = .ok (.invokevirtual 250, 3) := by decide +kernel
theorem dX12_reduce_49 : decode cX12_reduce 49 = .ok (.bipush (-4), 2) := by decide +kernel
theorem dX12_reduce_51 : decode cX12_reduce 51 = .ok (.if_icmp .eq 5, 3) := by decide +kernel
theorem dX12_reduce_54 : decode cX12_reduce 54 = .ok (.iconst (-1), 1) := by decide +kernel
theorem dX12_reduce_55 : decode cX12_reduce 55 = .ok (.ireturn, 1) := by decide +kernel
theorem dX12_reduce_56 : decode cX12_reduce 56 = .ok (.iconst 0, 1) := by decide +kernel
theorem dX12_reduce_57 : decode cX12_reduce 57 = .ok (.istore 4, 2) := by decide +kernel
theorem dX12_reduce_59 : decode cX12_reduce 59 = .ok (.iload 4, 2) := by decide +kernel
theorem dX12_reduce_61 : decode cX12_reduce 61 = .ok (.aload_n 0, 1) := by decide +kernel
theorem dX12_reduce_62 : decode cX12_reduce 62 = .ok (.getfield 220, 3) := by decide +kernel
theorem dX12_reduce_65 : decode cX12_reduce 65 = .ok (.if_icmp .ge 40, 3) := by decide +kernel
theorem dX12_reduce_68 : decode cX12_reduce 68 = .ok (.aload_n 0, 1) := by decide +kernel
theorem dX12_reduce_69 : decode cX12_reduce 69 = .ok (.aload_n 0, 1) := by decide +kernel
theorem dX12_reduce_70 : decode cX12_reduce 70 = .ok (.aload_n 0, 1) := by decide +kernel
theorem dX12_reduce_71 : decode cX12_reduce 71 = .ok (.getfield 117, 3) := by decide +kernel
theorem dX12_reduce_74 : decode cX12_reduce 74 = .ok (.iload 4, 2) := by decide +kernel
theorem dX12_reduce_76 : decode cX12_reduce 76 = .ok (.iaload, 1) := by decide +kernel
theorem dX12_reduce_77 : decode cX12_reduce 77 = .ok (.ineg, 1) := by decide +kernel
theorem dX12_reduce_78 : decode cX12_reduce 78 = .ok (.i2l, 1) := by decide +kernel
theorem dX12_reduce_79 : decode cX12_reduce 79 = .ok (.invokevirtual 188, 3) := by decide +kernel
theorem dX12_reduce_82 : decode cX12_reduce 82 = .ok (.aload_n 0, 1) := by decide +kernel
theorem dX12_reduce_83 : decode cX12_reduce 83 = .ok (.getfield 90, 3) := by decide +kernel
theorem dX12_reduce_86 : decode cX12_reduce 86 = .ok (.iload 4, 2) := by decide +kernel
theorem dX12_reduce_88 : decode cX12_reduce 88 = .ok (.iaload, 1) := by decide +kernel
theorem dX12_reduce_89 : decode cX12_reduce 89 = .ok (.aload_n 0, 1) := by decide +kernel
theorem dX12_reduce_90 : decode cX12_reduce 90 = .ok (.getfield 93, 3) := by decide +kernel
theorem dX12_reduce_93 : decode cX12_reduce 93 = .ok (.iload 4, 2) := by decide +kernel
theorem dX12_reduce_95 : decode cX12_reduce 95 = .ok (.iaload, 1) := by decide +kernel
theorem dX12_reduce_96 : decode cX12_reduce 96 = .ok (.invokevirtual 311, 3) := by decide +kernel
theorem dX12_reduce_99 : decode cX12_reduce 99 = .ok (.iinc 4 1, 3) := by decide +kernel
theorem dX12_reduce_102 : decode cX12_reduce 102 = .ok (.goto (-43), 3) := by decide +kernel
theorem dX12_reduce_105 : decode cX12_reduce 105 = .ok (.aload_n 0, 1) := by decide +kernel
theorem dX12_reduce_106 : decode cX12_reduce 106 = .ok (.iload_n 1, 1) := by decide +kernel
theorem dX12_reduce_107 : decode cX12_reduce 107 = .ok (.invokevirtual 320, 3) := by decide +kernel
theorem dX12_reduce_110 : decode cX12_reduce 110 = .ok (.ireturn, 1) := by decide +kernel
set_option maxRecDepth 20000 in
theorem ggX12_belongs_X12_isSlot : GoodIn wsX12_belongs wsX12_isSlot := goodIn_r _ [5, 6, 7, 8, 4, 9] rfl (by decide +kernel)
set_option maxRecDepth 20000 in
theorem gX12_belongs_X12_isSlot : GoodIn wsX12_belongs (va_wsS RX12 305 yX12_isSlot wsX12_isSlot) := goodIn_app (goodIn_of _ (by decide +kernel)) ggX12_belongs_X12_isSlot
set_option maxRecDepth 20000 in
theorem ggX12_belongs_X12_lacks : GoodIn wsX12_belongs wsX12_lacks := goodIn_r _ [13, 14, 70, 71, 72, 73, 74, 75, 76, 77, 78, 79, 80, 81, 82, 83, 84, 85, 86, 87, 88, 89, 90, 91, 92, 93, 94, 95, 96, 97, 98, 99, 100, 101, 102, 103, 104, 105, 106, 107, 108, 109, 110, 111, 112, 113, 114, 115, 116, 117, 118, 119, 120, 121, 122, 123] rfl (by decide +kernel)
set_option maxRecDepth 20000 in
theorem gX12_belongs_X12_lacks : GoodIn wsX12_belongs (wsV RX12 314 RX12 yX12_lacks wsX12_lacks) := goodIn_app (goodIn_of _ (by decide +kernel)) ggX12_belongs_X12_lacks
set_option maxRecDepth 20000 in
theorem ggX12_belongs_X12_laysForms : GoodIn wsX12_belongs wsX12_laysForms := goodIn_r _ [18, 19, 20, 21, 22, 23, 24, 25, 26, 4, 27, 28, 29, 30, 31, 32, 33, 34, 35, 36, 37, 70, 71, 72, 73, 74, 75, 76, 77, 78, 79, 80, 81, 82, 83, 84, 85, 86, 87, 88, 89, 90, 91, 92, 93, 94, 95, 96, 97, 98, 99, 100, 101, 102, 103, 104, 105, 106, 107, 108, 109, 110, 111, 112, 113, 114, 115, 116, 117, 118, 119, 120, 121, 122, 123] rfl (by decide +kernel)
set_option maxRecDepth 20000 in
theorem gX12_belongs_X12_laysForms : GoodIn wsX12_belongs (wsV RX12 233 RX12 yX12_laysForms wsX12_laysForms) := goodIn_app (goodIn_of _ (by decide +kernel)) ggX12_belongs_X12_laysForms
set_option maxRecDepth 20000 in
theorem ggX12_belongs_X12_formOfSlot : GoodIn wsX12_belongs wsX12_formOfSlot := goodIn_r _ [41, 42, 43, 44, 45, 46, 1, 37, 47, 48, 49, 4, 50, 21, 23, 51, 52, 53, 54, 55, 56, 57, 58, 59, 60, 61, 62, 63, 64, 20, 19, 65, 66, 67, 68, 69, 70, 71, 72, 73, 74, 75, 76, 77, 78, 79, 80, 81, 82, 83, 84, 85, 86, 87, 88, 89, 90, 91, 92, 93, 94, 95, 96, 97, 98, 99, 100, 101, 102, 103, 104, 105, 106, 107, 108, 109, 110, 111, 112, 113, 114, 115, 116, 117, 118, 119, 120, 121, 122, 123] rfl (by decide +kernel)
set_option maxRecDepth 20000 in
theorem gX12_belongs_X12_formOfSlot : GoodIn wsX12_belongs (wsV RX12 325 RX12 yX12_formOfSlot wsX12_formOfSlot) := goodIn_app (goodIn_of _ (by decide +kernel)) ggX12_belongs_X12_formOfSlot
theorem dX12_belongs_0 : decode cX12_belongs 0 = .ok (.iload_n 1, 1) := by decide +kernel
theorem dX12_belongs_1 : decode cX12_belongs 1 = .ok (.invokestatic 305, 3) := by decide +kernel
theorem dX12_belongs_4 : decode cX12_belongs 4 = .ok (.ifCond .ne 5, 3) := by decide +kernel
theorem dX12_belongs_7 : decode cX12_belongs 7 = .ok (.iconst (-1), 1) := by decide +kernel
theorem dX12_belongs_8 : decode cX12_belongs 8 = .ok (.ireturn, 1) := by decide +kernel
theorem dX12_belongs_9 : decode cX12_belongs 9 = .ok (.aload_n 0, 1) := by decide +kernel
theorem dX12_belongs_10 : decode cX12_belongs 10 = .ok (.iload_n 1, 1) := by decide +kernel
theorem dX12_belongs_11 : decode cX12_belongs 11 = .ok (.iconst 1, 1) := by decide +kernel
theorem dX12_belongs_12 : decode cX12_belongs 12 = .ok (.invokevirtual 314, 3) := by decide +kernel
theorem dX12_belongs_15 : decode cX12_belongs 15 = .ok (.istore_n 2, 1) := by decide +kernel
theorem dX12_belongs_16 : decode cX12_belongs 16 = .ok (.iload_n 2, 1) := by decide +kernel
theorem dX12_belongs_17 : decode cX12_belongs 17 = .ok (.ifCond .ge 5, 3) := by decide +kernel
theorem dX12_belongs_20 : decode cX12_belongs 20 = .ok (.iload_n 2, 1) := by decide +kernel
theorem dX12_belongs_21 : decode cX12_belongs 21 = .ok (.ireturn, 1) := by decide +kernel
theorem dX12_belongs_22 : decode cX12_belongs 22 = .ok (.aload_n 0, 1) := by decide +kernel
theorem dX12_belongs_23 : decode cX12_belongs 23 = .ok (.invokevirtual 233, 3) := by decide +kernel
theorem dX12_belongs_26 : decode cX12_belongs 26 = .ok (.aload_n 0, 1) := by decide +kernel
theorem dX12_belongs_27 : decode cX12_belongs 27 = .ok (.iload_n 1, 1) := by decide +kernel
theorem dX12_belongs_28 : decode cX12_belongs 28 = .ok (.invokevirtual 325, 3) := by decide +kernel
theorem dX12_belongs_31 : decode cX12_belongs 31 = .ok (.iconst 0, 1) := by decide +kernel
theorem dX12_belongs_32 : decode cX12_belongs 32 = .ok (.istore_n 3, 1) := by decide +kernel
theorem dX12_belongs_33 : decode cX12_belongs 33 = .ok (.iconst 0, 1) := by decide +kernel
theorem dX12_belongs_34 : decode cX12_belongs 34 = .ok (.istore 4, 2) := by decide +kernel
theorem dX12_belongs_36 : decode cX12_belongs 36 = .ok (.iload 4, 2) := by decide +kernel
theorem dX12_belongs_38 : decode cX12_belongs 38 = .ok (.bipush 9, 2) := by decide +kernel
theorem dX12_belongs_40 : decode cX12_belongs 40 = .ok (.if_icmp .ge 19, 3) := by decide +kernel
theorem dX12_belongs_43 : decode cX12_belongs 43 = .ok (.iload_n 3, 1) := by decide +kernel
theorem dX12_belongs_44 : decode cX12_belongs 44 = .ok (.aload_n 0, 1) := by decide +kernel
theorem dX12_belongs_45 : decode cX12_belongs 45 = .ok (.getfield 84, 3) := by decide +kernel
theorem dX12_belongs_48 : decode cX12_belongs 48 = .ok (.iload 4, 2) := by decide +kernel
theorem dX12_belongs_50 : decode cX12_belongs 50 = .ok (.iaload, 1) := by decide +kernel
theorem dX12_belongs_51 : decode cX12_belongs 51 = .ok (.iadd, 1) := by decide +kernel
theorem dX12_belongs_52 : decode cX12_belongs 52 = .ok (.istore_n 3, 1) := by decide +kernel
theorem dX12_belongs_53 : decode cX12_belongs 53 = .ok (.iinc 4 1, 3) := by decide +kernel
theorem dX12_belongs_56 : decode cX12_belongs 56 = .ok (.goto (-20), 3) := by decide +kernel
theorem dX12_belongs_59 : decode cX12_belongs 59 = .ok (.iload_n 3, 1) := by decide +kernel
theorem dX12_belongs_60 : decode cX12_belongs 60 = .ok (.ifCond .ne 7, 3) := by decide +kernel
theorem dX12_belongs_63 : decode cX12_belongs 63 = .ok (.iconst 1, 1) := by decide +kernel
theorem dX12_belongs_64 : decode cX12_belongs 64 = .ok (.goto 4, 3) := by decide +kernel
theorem dX12_belongs_67 : decode cX12_belongs 67 = .ok (.iconst 0, 1) := by decide +kernel
theorem dX12_belongs_68 : decode cX12_belongs 68 = .ok (.ireturn, 1) := by decide +kernel
set_option maxRecDepth 20000 in
theorem ggX12_stands_X12_isSlot : GoodIn wsX12_stands wsX12_isSlot := goodIn_r _ [16, 17, 18, 19, 15, 20] rfl (by decide +kernel)
set_option maxRecDepth 20000 in
theorem gX12_stands_X12_isSlot : GoodIn wsX12_stands (va_wsS RX12 305 yX12_isSlot wsX12_isSlot) := goodIn_app (goodIn_of _ (by decide +kernel)) ggX12_stands_X12_isSlot
set_option maxRecDepth 20000 in
theorem ggX12_stands_X12_lacks : GoodIn wsX12_stands wsX12_lacks := goodIn_r _ [24, 25, 119, 120, 121, 122, 123, 124, 125, 126, 127, 128, 129, 130, 131, 132, 133, 134, 135, 136, 137, 138, 139, 140, 141, 142, 143, 144, 145, 146, 147, 148, 149, 150, 151, 152, 153, 154, 155, 156, 157, 158, 159, 160, 161, 162, 163, 164, 165, 166, 167, 168, 169, 170, 171, 172] rfl (by decide +kernel)
set_option maxRecDepth 20000 in
theorem gX12_stands_X12_lacks : GoodIn wsX12_stands (wsV RX12 314 RX12 yX12_lacks wsX12_lacks) := goodIn_app (goodIn_of _ (by decide +kernel)) ggX12_stands_X12_lacks
set_option maxRecDepth 20000 in
theorem ggX12_stands_X12_walks : GoodIn wsX12_stands wsX12_walks := goodIn_r _ [29, 30, 31, 32, 10, 4, 33, 34, 35, 36, 37, 38, 15, 39, 40, 41, 42, 43, 44, 45, 46, 47, 48, 49, 50, 51, 52, 53, 54, 55, 56, 57, 58, 59, 60, 61, 62, 63, 64, 65, 66, 67, 68, 69, 7, 9, 70, 71, 72, 73, 74, 75, 76, 77, 78, 79, 80, 81, 82, 83, 84, 85, 86, 87, 88, 89, 90, 91, 92, 93, 94, 95, 96, 97, 98, 99, 100, 101, 102, 103, 104, 105, 106, 107, 108, 109, 110, 12, 111, 112, 113, 114, 115, 116, 117, 118, 119, 120, 121, 122, 123, 124, 125, 126, 127, 128, 129, 130, 131, 132, 133, 134, 135, 136, 137, 138, 139, 140, 141, 142, 143, 144, 145, 146, 147, 148, 149, 150, 151, 152, 153, 154, 155, 156, 157, 158, 159, 160, 161, 162, 163, 164, 165, 166, 167, 168, 169, 170, 171, 172] rfl (by decide +kernel)
set_option maxRecDepth 20000 in
theorem gX12_stands_X12_walks : GoodIn wsX12_stands (wsV RX12 262 RX12 yX12_walks wsX12_walks) := goodIn_app (goodIn_of _ (by decide +kernel)) ggX12_stands_X12_walks
theorem dX12_stands_0 : decode cX12_stands 0 = .ok (.iload_n 1, 1) := by decide +kernel
theorem dX12_stands_1 : decode cX12_stands 1 = .ok (.invokestatic 305, 3) := by decide +kernel
theorem dX12_stands_4 : decode cX12_stands 4 = .ok (.ifCond .ne 5, 3) := by decide +kernel
theorem dX12_stands_7 : decode cX12_stands 7 = .ok (.iconst (-1), 1) := by decide +kernel
theorem dX12_stands_8 : decode cX12_stands 8 = .ok (.ireturn, 1) := by decide +kernel
theorem dX12_stands_9 : decode cX12_stands 9 = .ok (.aload_n 0, 1) := by decide +kernel
theorem dX12_stands_10 : decode cX12_stands 10 = .ok (.iload_n 1, 1) := by decide +kernel
theorem dX12_stands_11 : decode cX12_stands 11 = .ok (.iconst 2, 1) := by decide +kernel
theorem dX12_stands_12 : decode cX12_stands 12 = .ok (.invokevirtual 314, 3) := by decide +kernel
theorem dX12_stands_15 : decode cX12_stands 15 = .ok (.istore_n 2, 1) := by decide +kernel
theorem dX12_stands_16 : decode cX12_stands 16 = .ok (.iload_n 2, 1) := by decide +kernel
theorem dX12_stands_17 : decode cX12_stands 17 = .ok (.ifCond .ge 5, 3) := by decide +kernel
theorem dX12_stands_20 : decode cX12_stands 20 = .ok (.iload_n 2, 1) := by decide +kernel
theorem dX12_stands_21 : decode cX12_stands 21 = .ok (.ireturn, 1) := by decide +kernel
theorem dX12_stands_22 : decode cX12_stands 22 = .ok (.aload_n 0, 1) := by decide +kernel
theorem dX12_stands_23 : decode cX12_stands 23 = .ok (.aload_n 0, 1) := by decide +kernel
theorem dX12_stands_24 : decode cX12_stands 24 = .ok (.getfield 44, 3) := by decide +kernel
theorem dX12_stands_27 : decode cX12_stands 27 = .ok (.iload_n 1, 1) := by decide +kernel
theorem dX12_stands_28 : decode cX12_stands 28 = .ok (.iaload, 1) := by decide +kernel
theorem dX12_stands_29 : decode cX12_stands 29 = .ok (.aload_n 0, 1) := by decide +kernel
theorem dX12_stands_30 : decode cX12_stands 30 = .ok (.getfield 47, 3) := by decide +kernel
theorem dX12_stands_33 : decode cX12_stands 33 = .ok (.iload_n 1, 1) := by decide +kernel
theorem dX12_stands_34 : decode cX12_stands 34 = .ok (.iaload, 1) := by decide +kernel
theorem dX12_stands_35 : decode cX12_stands 35 = .ok (.aload_n 0, 1) := by decide +kernel
theorem dX12_stands_36 : decode cX12_stands 36 = .ok (.getfield 50, 3) := by decide +kernel
theorem dX12_stands_39 : decode cX12_stands 39 = .ok (.iload_n 1, 1) := by decide +kernel
theorem dX12_stands_40 : decode cX12_stands 40 = .ok (.iaload, 1) := by decide +kernel
theorem dX12_stands_41 : decode cX12_stands 41 = .ok (.invokevirtual 262, 3) := by decide +kernel
theorem dX12_stands_44 : decode cX12_stands 44 = .ok (.aload_n 0, 1) := by decide +kernel
theorem dX12_stands_45 : decode cX12_stands 45 = .ok (.getfield 230, 3) := by decide +kernel
theorem dX12_stands_48 : decode cX12_stands 48 = .ok (.aload_n 0, 1) := by decide +kernel
theorem dX12_stands_49 : decode cX12_stands 49 = .ok (.getfield 32, 3) := by decide +kernel
theorem dX12_stands_52 : decode cX12_stands 52 = .ok (.iload_n 1, 1) := by decide +kernel
theorem dX12_stands_53 : decode cX12_stands 53 = .ok (.iaload, 1) := by decide +kernel
theorem dX12_stands_54 : decode cX12_stands 54 = .ok (.if_icmp .ne 7, 3) := by decide +kernel
theorem dX12_stands_57 : decode cX12_stands 57 = .ok (.iconst 1, 1) := by decide +kernel
theorem dX12_stands_58 : decode cX12_stands 58 = .ok (.goto 4, 3) := by decide +kernel
theorem dX12_stands_61 : decode cX12_stands 61 = .ok (.iconst 0, 1) := by decide +kernel
theorem dX12_stands_62 : decode cX12_stands 62 = .ok (.istore_n 3, 1) := by decide +kernel
theorem dX12_stands_63 : decode cX12_stands 63 = .ok (.iconst 0, 1) := by decide +kernel
theorem dX12_stands_64 : decode cX12_stands 64 = .ok (.istore 4, 2) := by decide +kernel
theorem dX12_stands_66 : decode cX12_stands 66 = .ok (.iload 4, 2) := by decide +kernel
theorem dX12_stands_68 : decode cX12_stands 68 = .ok (.aload_n 0, 1) := by decide +kernel
theorem dX12_stands_69 : decode cX12_stands 69 = .ok (.getfield 230, 3) := by decide +kernel
theorem dX12_stands_72 : decode cX12_stands 72 = .ok (.if_icmp .ge 63, 3) := by decide +kernel
theorem dX12_stands_75 : decode cX12_stands 75 = .ok (.iload_n 3, 1) := by decide +kernel
theorem dX12_stands_76 : decode cX12_stands 76 = .ok (.ifCond .eq 59, 3) := by decide +kernel
theorem dX12_stands_79 : decode cX12_stands 79 = .ok (.aload_n 0, 1) := by decide +kernel
theorem dX12_stands_80 : decode cX12_stands 80 = .ok (.getfield 53, 3) := by decide +kernel
theorem dX12_stands_83 : decode cX12_stands 83 = .ok (.bipush 10, 2) := by decide +kernel
theorem dX12_stands_85 : decode cX12_stands 85 = .ok (.iload_n 1, 1) := by decide +kernel
theorem dX12_stands_86 : decode cX12_stands 86 = .ok (.imul, 1) := by decide +kernel
theorem dX12_stands_87 : decode cX12_stands 87 = .ok (.iload 4, 2) := by decide +kernel
theorem dX12_stands_89 : decode cX12_stands 89 = .ok (.iadd, 1) := by decide +kernel
theorem dX12_stands_90 : decode cX12_stands 90 = .ok (.iaload, 1) := by decide +kernel
theorem dX12_stands_91 : decode cX12_stands 91 = .ok (.aload_n 0, 1) := by decide +kernel
theorem dX12_stands_92 : decode cX12_stands 92 = .ok (.getfield 102, 3) := by decide +kernel
theorem dX12_stands_95 : decode cX12_stands 95 = .ok (.iload 4, 2) := by decide +kernel
theorem dX12_stands_97 : decode cX12_stands 97 = .ok (.iaload, 1) := by decide +kernel
theorem dX12_stands_98 : decode cX12_stands 98 = .ok (.if_icmp .ne 29, 3) := by decide +kernel
theorem dX12_stands_101 : decode cX12_stands 101 = .ok (.aload_n 0, 1) := by decide +kernel
theorem dX12_stands_102 : decode cX12_stands 102 = .ok (.getfield 56, 3) := by decide +kernel
theorem dX12_stands_105 : decode cX12_stands 105 = .ok (.bipush 10, 2) := by decide +kernel
theorem dX12_stands_107 : decode cX12_stands 107 = .ok (.iload_n 1, 1) := by decide +kernel
theorem dX12_stands_108 : decode cX12_stands 108 = .ok (.imul, 1) := by decide +kernel
theorem dX12_stands_109 : decode cX12_stands 109 = .ok (.iload 4, 2) := by decide +kernel
theorem dX12_stands_111 : decode cX12_stands 111 = .ok (.iadd, 1) := by decide +kernel
theorem dX12_stands_112 : decode cX12_stands 112 = .ok (.iaload, 1) := by decide +kernel
theorem dX12_stands_113 : decode cX12_stands 113 = .ok (.aload_n 0, 1) := by decide +kernel
theorem dX12_stands_114 : decode cX12_stands 114 = .ok (.getfield 105, 3) := by decide +kernel
theorem dX12_stands_117 : decode cX12_stands 117 = .ok (.iload 4, 2) := by decide +kernel
theorem dX12_stands_119 : decode cX12_stands 119 = .ok (.iaload, 1) := by decide +kernel
theorem dX12_stands_120 : decode cX12_stands 120 = .ok (.if_icmp .ne 7, 3) := by decide +kernel
theorem dX12_stands_123 : decode cX12_stands 123 = .ok (.iconst 1, 1) := by decide +kernel
theorem dX12_stands_124 : decode cX12_stands 124 = .ok (.goto 4, 3) := by decide +kernel
theorem dX12_stands_127 : decode cX12_stands 127 = .ok (.iconst 0, 1) := by decide +kernel
theorem dX12_stands_128 : decode cX12_stands 128 = .ok (.istore_n 3, 1) := by decide +kernel
theorem dX12_stands_129 : decode cX12_stands 129 = .ok (.iinc 4 1, 3) := by decide +kernel
theorem dX12_stands_132 : decode cX12_stands 132 = .ok (.goto (-66), 3) := by decide +kernel
theorem dX12_stands_135 : decode cX12_stands 135 = .ok (.iconst 0, 1) := by decide +kernel
theorem dX12_stands_136 : decode cX12_stands 136 = .ok (.istore 4, 2) := by decide +kernel
theorem dX12_stands_138 : decode cX12_stands 138 = .ok (.iload 4, 2) := by decide +kernel
theorem dX12_stands_140 : decode cX12_stands 140 = .ok (.aload_n 0, 1) := by decide +kernel
theorem dX12_stands_141 : decode cX12_stands 141 = .ok (.getfield 230, 3) := by decide +kernel
theorem dX12_stands_144 : decode cX12_stands 144 = .ok (.if_icmp .ge 75, 3) := by decide +kernel
theorem dX12_stands_147 : decode cX12_stands 147 = .ok (.iload_n 3, 1) := by decide +kernel
theorem dX12_stands_148 : decode cX12_stands 148 = .ok (.ifCond .eq 71, 3) := by decide +kernel
theorem dX12_stands_151 : decode cX12_stands 151 = .ok (.iconst 0, 1) := by decide +kernel
theorem dX12_stands_152 : decode cX12_stands 152 = .ok (.istore 5, 2) := by decide +kernel
theorem dX12_stands_154 : decode cX12_stands 154 = .ok (.iload 5, 2) := by decide +kernel
theorem dX12_stands_156 : decode cX12_stands 156 = .ok (.aload_n 0, 1) := by decide +kernel
theorem dX12_stands_157 : decode cX12_stands 157 = .ok (.getfield 220, 3) := by decide +kernel
theorem dX12_stands_160 : decode cX12_stands 160 = .ok (.if_icmp .ge 53, 3) := by decide +kernel
theorem dX12_stands_163 : decode cX12_stands 163 = .ok (.iload_n 3, 1) := by decide +kernel
theorem dX12_stands_164 : decode cX12_stands 164 = .ok (.ifCond .eq 41, 3) := by decide +kernel
theorem dX12_stands_167 : decode cX12_stands 167 = .ok (.aload_n 0, 1) := by decide +kernel
theorem dX12_stands_168 : decode cX12_stands 168 = .ok (.getfield 59, 3) := by decide +kernel
theorem dX12_stands_171 : decode cX12_stands 171 = .ok (.bipush 90, 2) := by decide +kernel
theorem dX12_stands_173 : decode cX12_stands 173 = .ok (.iload_n 1, 1) := by decide +kernel
theorem dX12_stands_174 : decode cX12_stands 174 = .ok (.imul, 1) := by decide +kernel
theorem dX12_stands_175 : decode cX12_stands 175 = .ok (.bipush 9, 2) := by decide +kernel
theorem dX12_stands_177 : decode cX12_stands 177 = .ok (.iload 4, 2) := by decide +kernel
theorem dX12_stands_179 : decode cX12_stands 179 = .ok (.imul, 1) := by decide +kernel
theorem dX12_stands_180 : decode cX12_stands 180 = .ok (.iadd, 1) := by decide +kernel
theorem dX12_stands_181 : decode cX12_stands 181 = .ok (.iload 5, 2) := by decide +kernel
theorem dX12_stands_183 : decode cX12_stands 183 = .ok (.iadd, 1) := by decide +kernel
theorem dX12_stands_184 : decode cX12_stands 184 = .ok (.iaload, 1) := by decide +kernel
theorem dX12_stands_185 : decode cX12_stands 185 = .ok (.aload_n 0, 1) := by decide +kernel
theorem dX12_stands_186 : decode cX12_stands 186 = .ok (.getfield 108, 3) := by decide +kernel
theorem dX12_stands_189 : decode cX12_stands 189 = .ok (.bipush 9, 2) := by decide +kernel
theorem dX12_stands_191 : decode cX12_stands 191 = .ok (.iload 4, 2) := by decide +kernel
theorem dX12_stands_193 : decode cX12_stands 193 = .ok (.imul, 1) := by decide +kernel
theorem dX12_stands_194 : decode cX12_stands 194 = .ok (.iload 5, 2) := by decide +kernel
theorem dX12_stands_196 : decode cX12_stands 196 = .ok (.iadd, 1) := by decide +kernel
theorem dX12_stands_197 : decode cX12_stands 197 = .ok (.iaload, 1) := by decide +kernel
theorem dX12_stands_198 : decode cX12_stands 198 = .ok (.if_icmp .ne 7, 3) := by decide +kernel
theorem dX12_stands_201 : decode cX12_stands 201 = .ok (.iconst 1, 1) := by decide +kernel
theorem dX12_stands_202 : decode cX12_stands 202 = .ok (.goto 4, 3) := by decide +kernel
theorem dX12_stands_205 : decode cX12_stands 205 = .ok (.iconst 0, 1) := by decide +kernel
theorem dX12_stands_206 : decode cX12_stands 206 = .ok (.istore_n 3, 1) := by decide +kernel
theorem dX12_stands_207 : decode cX12_stands 207 = .ok (.iinc 5 1, 3) := by decide +kernel
theorem dX12_stands_210 : decode cX12_stands 210 = .ok (.goto (-56), 3) := by decide +kernel
theorem dX12_stands_213 : decode cX12_stands 213 = .ok (.iinc 4 1, 3) := by decide +kernel
theorem dX12_stands_216 : decode cX12_stands 216 = .ok (.goto (-78), 3) := by decide +kernel
theorem dX12_stands_219 : decode cX12_stands 219 = .ok (.iload_n 3, 1) := by decide +kernel
theorem dX12_stands_220 : decode cX12_stands 220 = .ok (.ifCond .eq 7, 3) := by decide +kernel
theorem dX12_stands_223 : decode cX12_stands 223 = .ok (.iconst 1, 1) := by decide +kernel
theorem dX12_stands_224 : decode cX12_stands 224 = .ok (.goto 4, 3) := by decide +kernel
theorem dX12_stands_227 : decode cX12_stands 227 = .ok (.iconst 0, 1) := by decide +kernel
theorem dX12_stands_228 : decode cX12_stands 228 = .ok (.ireturn, 1) := by decide +kernel
set_option maxRecDepth 20000 in
theorem ggX12_kept_X12_isSlot : GoodIn wsX12_kept wsX12_isSlot := goodIn_r _ [7, 8, 9, 10, 6, 11] rfl (by decide +kernel)
set_option maxRecDepth 20000 in
theorem gX12_kept_X12_isSlot : GoodIn wsX12_kept (va_wsS RX12 305 yX12_isSlot wsX12_isSlot) := goodIn_app (goodIn_of _ (by decide +kernel)) ggX12_kept_X12_isSlot
set_option maxRecDepth 20000 in
theorem ggX12_kept_X12_in : GoodIn wsX12_kept wsX12_in := goodIn_r _ [11] rfl (by decide +kernel)
set_option maxRecDepth 20000 in
theorem gX12_kept_X12_in : GoodIn wsX12_kept (va_wsS RX12 155 yX12_in wsX12_in) := goodIn_app (goodIn_of _ (by decide +kernel)) ggX12_kept_X12_in
set_option maxRecDepth 20000 in
theorem ggX12_kept_X12_lacks : GoodIn wsX12_kept wsX12_lacks := goodIn_r _ [15, 16, 17, 18, 19, 20, 21, 22, 23, 24, 25, 26, 27, 28, 29, 30, 31, 32, 33, 34, 35, 36, 37, 38, 39, 40, 41, 42, 43, 44, 45, 46, 47, 48, 49, 50, 51, 52, 53, 54, 55, 56, 57, 58, 59, 60, 61, 62, 63, 64, 65, 66, 67, 68, 69, 70] rfl (by decide +kernel)
set_option maxRecDepth 20000 in
theorem gX12_kept_X12_lacks : GoodIn wsX12_kept (wsV RX12 314 RX12 yX12_lacks wsX12_lacks) := goodIn_app (goodIn_of _ (by decide +kernel)) ggX12_kept_X12_lacks
theorem dX12_kept_0 : decode cX12_kept 0 = .ok (.iload_n 1, 1) := by decide +kernel
theorem dX12_kept_1 : decode cX12_kept 1 = .ok (.invokestatic 305, 3) := by decide +kernel
theorem dX12_kept_4 : decode cX12_kept 4 = .ok (.ifCond .eq 13, 3) := by decide +kernel
theorem dX12_kept_7 : decode cX12_kept 7 = .ok (.iload_n 2, 1) := by decide +kernel
theorem dX12_kept_8 : decode cX12_kept 8 = .ok (.i2l, 1) := by decide +kernel
theorem dX12_kept_9 : decode cX12_kept 9 = .ok (.lconst 0, 1) := by decide +kernel
theorem dX12_kept_10 : decode cX12_kept 10 = .ok (.lconst 1, 1) := by decide +kernel
theorem dX12_kept_11 : decode cX12_kept 11 = .ok (.invokestatic 155, 3) := by decide +kernel
theorem dX12_kept_14 : decode cX12_kept 14 = .ok (.ifCond .ne 5, 3) := by decide +kernel
theorem dX12_kept_17 : decode cX12_kept 17 = .ok (.iconst (-1), 1) := by decide +kernel
theorem dX12_kept_18 : decode cX12_kept 18 = .ok (.ireturn, 1) := by decide +kernel
theorem dX12_kept_19 : decode cX12_kept 19 = .ok (.aload_n 0, 1) := by decide +kernel
theorem dX12_kept_20 : decode cX12_kept 20 = .ok (.iload_n 1, 1) := by decide +kernel
theorem dX12_kept_21 : decode cX12_kept 21 = .ok (.iconst 2, 1) := by decide +kernel
theorem dX12_kept_22 : decode cX12_kept 22 = .ok (.invokevirtual 314, 3) := by decide +kernel
theorem dX12_kept_25 : decode cX12_kept 25 = .ok (.istore_n 3, 1) := by decide +kernel
theorem dX12_kept_26 : decode cX12_kept 26 = .ok (.iload_n 3, 1) := by decide +kernel
theorem dX12_kept_27 : decode cX12_kept 27 = .ok (.ifCond .ge 5, 3) := by decide +kernel
theorem dX12_kept_30 : decode cX12_kept 30 = .ok (.iload_n 3, 1) := by decide +kernel
theorem dX12_kept_31 : decode cX12_kept 31 = .ok (.ireturn, 1) := by decide +kernel
theorem dX12_kept_32 : decode cX12_kept 32 = .ok (.iload_n 2, 1) := by decide +kernel
theorem dX12_kept_33 : decode cX12_kept 33 = .ok (.ifCond .ne 12, 3) := by decide +kernel
theorem dX12_kept_36 : decode cX12_kept 36 = .ok (.aload_n 0, 1) := by decide +kernel
theorem dX12_kept_37 : decode cX12_kept 37 = .ok (.getfield 44, 3) := by decide +kernel
theorem dX12_kept_40 : decode cX12_kept 40 = .ok (.iload_n 1, 1) := by decide +kernel
theorem dX12_kept_41 : decode cX12_kept 41 = .ok (.iaload, 1) := by decide +kernel
theorem dX12_kept_42 : decode cX12_kept 42 = .ok (.goto 19, 3) := by decide +kernel
theorem dX12_kept_45 : decode cX12_kept 45 = .ok (.bipush 10, 2) := by decide +kernel
theorem dX12_kept_47 : decode cX12_kept 47 = .ok (.aload_n 0, 1) := by decide +kernel
theorem dX12_kept_48 : decode cX12_kept 48 = .ok (.getfield 47, 3) := by decide +kernel
theorem dX12_kept_51 : decode cX12_kept 51 = .ok (.iload_n 1, 1) := by decide +kernel
theorem dX12_kept_52 : decode cX12_kept 52 = .ok (.iaload, 1) := by decide +kernel
theorem dX12_kept_53 : decode cX12_kept 53 = .ok (.imul, 1) := by decide +kernel
theorem dX12_kept_54 : decode cX12_kept 54 = .ok (.aload_n 0, 1) := by decide +kernel
theorem dX12_kept_55 : decode cX12_kept 55 = .ok (.getfield 50, 3) := by decide +kernel
theorem dX12_kept_58 : decode cX12_kept 58 = .ok (.iload_n 1, 1) := by decide +kernel
theorem dX12_kept_59 : decode cX12_kept 59 = .ok (.iaload, 1) := by decide +kernel
theorem dX12_kept_60 : decode cX12_kept 60 = .ok (.iadd, 1) := by decide +kernel
theorem dX12_kept_61 : decode cX12_kept 61 = .ok (.ireturn, 1) := by decide +kernel
set_option maxRecDepth 20000 in
theorem ggX12_image_X12_in : GoodIn wsX12_image wsX12_in := goodIn_r _ [12] rfl (by decide +kernel)
set_option maxRecDepth 20000 in
theorem gX12_image_X12_in : GoodIn wsX12_image (va_wsS RX12 155 yX12_in wsX12_in) := goodIn_app (goodIn_of _ (by decide +kernel)) ggX12_image_X12_in
set_option maxRecDepth 20000 in
theorem ggX12_image_X12_dimension : GoodIn wsX12_image wsX12_dimension := goodIn_r _ [16, 3, 4, 17, 18, 19, 20, 21, 22, 23, 24, 25, 26, 27, 28, 29, 30, 31, 32, 33, 34, 35, 36, 37, 38, 39, 40, 41, 42, 43, 44, 45, 46, 47, 48, 49, 50, 51, 52, 53, 54, 55, 56, 57, 58, 59, 60, 61, 62, 63, 64, 65, 66, 67, 68, 69, 70] rfl (by decide +kernel)
set_option maxRecDepth 20000 in
theorem gX12_image_X12_dimension : GoodIn wsX12_image (wsV RX12 168 RX12 yX12_dimension wsX12_dimension) := goodIn_app (goodIn_of _ (by decide +kernel)) ggX12_image_X12_dimension
theorem dX12_image_0 : decode cX12_image 0 = .ok (.iload_n 1, 1) := by decide +kernel
theorem dX12_image_1 : decode cX12_image 1 = .ok (.i2l, 1) := by decide +kernel
theorem dX12_image_2 : decode cX12_image 2 = .ok (.lconst 0, 1) := by decide +kernel
theorem dX12_image_3 : decode cX12_image 3 = .ok (.lconst 1, 1) := by decide +kernel
theorem dX12_image_4 : decode cX12_image 4 = .ok (.invokestatic 155, 3) := by decide +kernel
theorem dX12_image_7 : decode cX12_image 7 = .ok (.ifCond .ne 5, 3) := by decide +kernel
theorem dX12_image_10 : decode cX12_image 10 = .ok (.iconst (-1), 1) := by decide +kernel
theorem dX12_image_11 : decode cX12_image 11 = .ok (.ireturn, 1) := by decide +kernel
theorem dX12_image_12 : decode cX12_image 12 = .ok (.bipush 23, 2) := by decide +kernel
theorem dX12_image_14 : decode cX12_image 14 = .ok (.iload_n 1, 1) := by decide +kernel
theorem dX12_image_15 : decode cX12_image 15 = .ok (.imul, 1) := by decide +kernel
theorem dX12_image_16 : decode cX12_image 16 = .ok (.istore_n 2, 1) := by decide +kernel
theorem dX12_image_17 : decode cX12_image 17 = .ok (.aload_n 0, 1) := by decide +kernel
theorem dX12_image_18 : decode cX12_image 18 = .ok (.getfield 62, 3) := by decide +kernel
theorem dX12_image_21 : decode cX12_image 21 = .ok (.iload_n 2, 1) := by decide +kernel
theorem dX12_image_22 : decode cX12_image 22 = .ok (.aload_n 0, 1) := by decide +kernel
theorem dX12_image_23 : decode cX12_image 23 = .ok (.getfield 7, 3) := by decide +kernel
theorem dX12_image_26 : decode cX12_image 26 = .ok (.iastore, 1) := by decide +kernel
theorem dX12_image_27 : decode cX12_image 27 = .ok (.aload_n 0, 1) := by decide +kernel
theorem dX12_image_28 : decode cX12_image 28 = .ok (.getfield 62, 3) := by decide +kernel
theorem dX12_image_31 : decode cX12_image 31 = .ok (.iload_n 2, 1) := by decide +kernel
theorem dX12_image_32 : decode cX12_image 32 = .ok (.iconst 1, 1) := by decide +kernel
theorem dX12_image_33 : decode cX12_image 33 = .ok (.iadd, 1) := by decide +kernel
theorem dX12_image_34 : decode cX12_image 34 = .ok (.aload_n 0, 1) := by decide +kernel
theorem dX12_image_35 : decode cX12_image 35 = .ok (.getfield 13, 3) := by decide +kernel
theorem dX12_image_38 : decode cX12_image 38 = .ok (.iastore, 1) := by decide +kernel
theorem dX12_image_39 : decode cX12_image 39 = .ok (.aload_n 0, 1) := by decide +kernel
theorem dX12_image_40 : decode cX12_image 40 = .ok (.getfield 62, 3) := by decide +kernel
theorem dX12_image_43 : decode cX12_image 43 = .ok (.iload_n 2, 1) := by decide +kernel
theorem dX12_image_44 : decode cX12_image 44 = .ok (.iconst 2, 1) := by decide +kernel
theorem dX12_image_45 : decode cX12_image 45 = .ok (.iadd, 1) := by decide +kernel
theorem dX12_image_46 : decode cX12_image 46 = .ok (.aload_n 0, 1) := by decide +kernel
theorem dX12_image_47 : decode cX12_image 47 = .ok (.getfield 16, 3) := by decide +kernel
theorem dX12_image_50 : decode cX12_image 50 = .ok (.iastore, 1) := by decide +kernel
theorem dX12_image_51 : decode cX12_image 51 = .ok (.aload_n 0, 1) := by decide +kernel
theorem dX12_image_52 : decode cX12_image 52 = .ok (.getfield 62, 3) := by decide +kernel
theorem dX12_image_55 : decode cX12_image 55 = .ok (.iload_n 2, 1) := by decide +kernel
theorem dX12_image_56 : decode cX12_image 56 = .ok (.iconst 3, 1) := by decide +kernel
theorem dX12_image_57 : decode cX12_image 57 = .ok (.iadd, 1) := by decide +kernel
theorem dX12_image_58 : decode cX12_image 58 = .ok (.aload_n 0, 1) := by decide +kernel
theorem dX12_image_59 : decode cX12_image 59 = .ok (.getfield 19, 3) := by decide +kernel
theorem dX12_image_62 : decode cX12_image 62 = .ok (.iastore, 1) := by decide +kernel
theorem dX12_image_63 : decode cX12_image 63 = .ok (.aload_n 0, 1) := by decide +kernel
theorem dX12_image_64 : decode cX12_image 64 = .ok (.getfield 62, 3) := by decide +kernel
theorem dX12_image_67 : decode cX12_image 67 = .ok (.iload_n 2, 1) := by decide +kernel
theorem dX12_image_68 : decode cX12_image 68 = .ok (.iconst 4, 1) := by decide +kernel
