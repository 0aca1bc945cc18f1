theorem dX12_walks_143 : decode cX12_walks 143 = .ok (.iconst 1, 1) := by decide +kernel
theorem dX12_walks_144 : decode cX12_walks 144 = .ok (.isub, 1) := by decide +kernel
theorem dX12_walks_145 : decode cX12_walks 145 = .ok (.putfield 227, 3) := by decide +kernel
theorem dX12_walks_148 : decode cX12_walks 148 = .ok (.aload_n 0, 1) := by decide +kernel
theorem dX12_walks_149 : decode cX12_walks 149 = .ok (.getfield 111, 3) := by decide +kernel
theorem dX12_walks_152 : decode cX12_walks 152 = .ok (.iload 4, 2) := by decide +kernel
theorem dX12_walks_154 : decode cX12_walks 154 = .ok (.aload_n 0, 1) := by decide +kernel
theorem dX12_walks_155 : decode cX12_walks 155 = .ok (.getfield 111, 3) := by decide +kernel
theorem dX12_walks_158 : decode cX12_walks 158 = .ok (.aload_n 0, 1) := by decide +kernel
theorem dX12_walks_159 : decode cX12_walks 159 = .ok (.getfield 227, 3) := by decide +kernel
theorem dX12_walks_162 : decode cX12_walks 162 = .ok (.iaload, 1) := by decide +kernel
theorem dX12_walks_163 : decode cX12_walks 163 = .ok (.iastore, 1) := by decide +kernel
theorem dX12_walks_164 : decode cX12_walks 164 = .ok (.aload_n 0, 1) := by decide +kernel
theorem dX12_walks_165 : decode cX12_walks 165 = .ok (.getfield 114, 3) := by decide +kernel
theorem dX12_walks_168 : decode cX12_walks 168 = .ok (.iload 4, 2) := by decide +kernel
theorem dX12_walks_170 : decode cX12_walks 170 = .ok (.aload_n 0, 1) := by decide +kernel
theorem dX12_walks_171 : decode cX12_walks 171 = .ok (.getfield 114, 3) := by decide +kernel
theorem dX12_walks_174 : decode cX12_walks 174 = .ok (.aload_n 0, 1) := by decide +kernel
theorem dX12_walks_175 : decode cX12_walks 175 = .ok (.getfield 227, 3) := by decide +kernel
theorem dX12_walks_178 : decode cX12_walks 178 = .ok (.iaload, 1) := by decide +kernel
theorem dX12_walks_179 : decode cX12_walks 179 = .ok (.iastore, 1) := by decide +kernel
theorem dX12_walks_180 : decode cX12_walks 180 = .ok (.aload_n 0, 1) := by decide +kernel
theorem dX12_walks_181 : decode cX12_walks 181 = .ok (.iload 5, 2) := by decide +kernel
theorem dX12_walks_183 : decode cX12_walks 183 = .ok (.iload 6, 2) := by decide +kernel
theorem dX12_walks_185 : decode cX12_walks 185 = .ok (.invokevirtual 240, 3) := by decide +kernel
theorem dX12_walks_188 : decode cX12_walks 188 = .ok (.ifCond .ne 56, 3) := by decide +kernel
theorem dX12_walks_191 : decode cX12_walks 191 = .ok (.aload_n 0, 1) := by decide +kernel
theorem dX12_walks_192 : decode cX12_walks 192 = .ok (.iload 5, 2) := by decide +kernel
theorem dX12_walks_194 : decode cX12_walks 194 = .ok (.iload 6, 2) := by decide +kernel
theorem dX12_walks_196 : decode cX12_walks 196 = .ok (.invokevirtual 244, 3) := by decide +kernel
theorem dX12_walks_199 : decode cX12_walks 199 = .ok (.ifCond .ne 45, 3) := by decide +kernel
theorem dX12_walks_202 : decode cX12_walks 202 = .ok (.aload_n 0, 1) := by decide +kernel
theorem dX12_walks_203 : decode cX12_walks 203 = .ok (.iload 5, 2) := by decide +kernel
theorem dX12_walks_205 : decode cX12_walks 205 = .ok (.iload 6, 2) := by decide +kernel
theorem dX12_walks_207 : decode cX12_walks 207 = .ok (.invokevirtual 247, 3) := by decide +kernel
theorem dX12_walks_210 : decode cX12_walks 210 = .ok (.aload_n 0, 1) := by decide +kernel
theorem dX12_walks_211 : decode cX12_walks 211 = .ok (.invokevirtual 250, 3) := by decide +kernel
theorem dX12_walks_214 : decode cX12_walks 214 = .ok (.istore 7, 2) := by decide +kernel
theorem dX12_walks_216 : decode cX12_walks 216 = .ok (.iload 7, 2) := by decide +kernel
theorem dX12_walks_218 : decode cX12_walks 218 = .ok (.bipush (-4), 2) := by decide +kernel
theorem dX12_walks_220 : decode cX12_walks 220 = .ok (.if_icmp .ne 14, 3) := by decide +kernel
theorem dX12_walks_223 : decode cX12_walks 223 = .ok (.aload_n 0, 1) := by decide +kernel
theorem dX12_walks_224 : decode cX12_walks 224 = .ok (.iload 5, 2) := by decide +kernel
theorem dX12_walks_226 : decode cX12_walks 226 = .ok (.iload 6, 2) := by decide +kernel
theorem dX12_walks_228 : decode cX12_walks 228 = .ok (.invokevirtual 253, 3) := by decide +kernel
theorem dX12_walks_231 : decode cX12_walks 231 = .ok (.goto 13, 3) := by decide +kernel
theorem dX12_walks_234 : decode cX12_walks 234 = .ok (.aload_n 0, 1) := by decide +kernel
theorem dX12_walks_235 : decode cX12_walks 235 = .ok (.iload 5, 2) := by decide +kernel
theorem dX12_walks_237 : decode cX12_walks 237 = .ok (.iload 6, 2) := by decide +kernel
theorem dX12_walks_239 : decode cX12_walks 239 = .ok (.iload 7, 2) := by decide +kernel
theorem dX12_walks_241 : decode cX12_walks 241 = .ok (.invokevirtual 256, 3) := by decide +kernel
theorem dX12_walks_244 : decode cX12_walks 244 = .ok (.goto (-196), 3) := by decide +kernel
theorem dX12_walks_247 : decode cX12_walks 247 = .ok (.return_, 1) := by decide +kernel
set_option maxRecDepth 20000 in
theorem ggX12_isOrder_X12_in : GoodIn wsX12_isOrder wsX12_in := goodIn_r _ [5] rfl (by decide +kernel)
set_option maxRecDepth 20000 in
theorem gX12_isOrder_X12_in : GoodIn wsX12_isOrder (va_wsS RX12 155 yX12_in wsX12_in) := goodIn_app (goodIn_of _ (by decide +kernel)) ggX12_isOrder_X12_in
theorem dX12_isOrder_0 : decode cX12_isOrder 0 = .ok (.iload_n 1, 1) := by decide +kernel
theorem dX12_isOrder_1 : decode cX12_isOrder 1 = .ok (.i2l, 1) := by decide +kernel
theorem dX12_isOrder_2 : decode cX12_isOrder 2 = .ok (.lconst 0, 1) := by decide +kernel
theorem dX12_isOrder_3 : decode cX12_isOrder 3 = .ok (.ldc2_w 260, 3) := by decide +kernel
theorem dX12_isOrder_6 : decode cX12_isOrder 6 = .ok (.invokestatic 155, 3) := by decide +kernel
theorem dX12_isOrder_9 : decode cX12_isOrder 9 = .ok (.ireturn, 1) := by decide +kernel
set_option maxRecDepth 20000 in
theorem ggX12_walksNow_X12_walks : GoodIn wsX12_walksNow wsX12_walks := goodIn_r _ [7, 8, 9, 10, 11, 12, 13, 14, 15, 16, 17, 18, 6, 19, 20, 21, 22, 23, 24, 25, 26, 27, 28, 29, 30, 31, 32, 33, 34, 35, 36, 37, 38, 39, 40, 41, 42, 43, 44, 45, 46, 47, 48, 49, 50, 51, 52, 53, 54, 55, 56, 57, 58, 59, 60, 61, 62, 63, 64, 65, 66, 67, 68, 69, 70, 71, 72, 73, 74, 75, 76, 77, 78, 79, 80, 81, 82, 83, 84, 85, 86, 87, 88, 89, 90, 91, 92, 93, 94, 95, 96, 97, 98, 99, 100, 101, 102, 103, 104, 105, 106, 107, 108, 109, 110, 111, 112, 113, 114, 115, 116, 117, 118, 119, 120, 121, 122, 123, 124, 125, 126, 127, 128, 129, 130, 131, 132, 133, 134, 135, 136, 137, 138, 139, 140, 141, 142, 143, 144, 145, 146, 147, 148, 149, 150, 151, 152, 153, 154, 155] rfl (by decide +kernel)
set_option maxRecDepth 20000 in
theorem gX12_walksNow_X12_walks : GoodIn wsX12_walksNow (wsV RX12 262 RX12 yX12_walks wsX12_walks) := goodIn_app (goodIn_of _ (by decide +kernel)) ggX12_walksNow_X12_walks
theorem dX12_walksNow_0 : decode cX12_walksNow 0 = .ok (.aload_n 0, 1) := by decide +kernel
theorem dX12_walksNow_1 : decode cX12_walksNow 1 = .ok (.iload_n 1, 1) := by decide +kernel
theorem dX12_walksNow_2 : decode cX12_walksNow 2 = .ok (.aload_n 0, 1) := by decide +kernel
theorem dX12_walksNow_3 : decode cX12_walksNow 3 = .ok (.getfield 19, 3) := by decide +kernel
theorem dX12_walksNow_6 : decode cX12_walksNow 6 = .ok (.aload_n 0, 1) := by decide +kernel
theorem dX12_walksNow_7 : decode cX12_walksNow 7 = .ok (.getfield 22, 3) := by decide +kernel
theorem dX12_walksNow_10 : decode cX12_walksNow 10 = .ok (.invokevirtual 262, 3) := by decide +kernel
theorem dX12_walksNow_13 : decode cX12_walksNow 13 = .ok (.return_, 1) := by decide +kernel
theorem dX12_highest_0 : decode cX12_highest 0 = .ok (.iconst 0, 1) := by decide +kernel
theorem dX12_highest_1 : decode cX12_highest 1 = .ok (.istore_n 3, 1) := by decide +kernel
theorem dX12_highest_2 : decode cX12_highest 2 = .ok (.iconst 0, 1) := by decide +kernel
theorem dX12_highest_3 : decode cX12_highest 3 = .ok (.istore 4, 2) := by decide +kernel
theorem dX12_highest_5 : decode cX12_highest 5 = .ok (.iload 4, 2) := by decide +kernel
theorem dX12_highest_7 : decode cX12_highest 7 = .ok (.iload_n 2, 1) := by decide +kernel
theorem dX12_highest_8 : decode cX12_highest 8 = .ok (.if_icmp .ge 36, 3) := by decide +kernel
theorem dX12_highest_11 : decode cX12_highest 11 = .ok (.aload_n 0, 1) := by decide +kernel
theorem dX12_highest_12 : decode cX12_highest 12 = .ok (.iload 4, 2) := by decide +kernel
theorem dX12_highest_14 : decode cX12_highest 14 = .ok (.iaload, 1) := by decide +kernel
theorem dX12_highest_15 : decode cX12_highest 15 = .ok (.aload_n 1, 1) := by decide +kernel
theorem dX12_highest_16 : decode cX12_highest 16 = .ok (.iload 4, 2) := by decide +kernel
theorem dX12_highest_18 : decode cX12_highest 18 = .ok (.iaload, 1) := by decide +kernel
theorem dX12_highest_19 : decode cX12_highest 19 = .ok (.iadd, 1) := by decide +kernel
theorem dX12_highest_20 : decode cX12_highest 20 = .ok (.iload_n 3, 1) := by decide +kernel
theorem dX12_highest_21 : decode cX12_highest 21 = .ok (.if_icmp .le 15, 3) := by decide +kernel
theorem dX12_highest_24 : decode cX12_highest 24 = .ok (.aload_n 0, 1) := by decide +kernel
theorem dX12_highest_25 : decode cX12_highest 25 = .ok (.iload 4, 2) := by decide +kernel
theorem dX12_highest_27 : decode cX12_highest 27 = .ok (.iaload, 1) := by decide +kernel
theorem dX12_highest_28 : decode cX12_highest 28 = .ok (.aload_n 1, 1) := by decide +kernel
theorem dX12_highest_29 : decode cX12_highest 29 = .ok (.iload 4, 2) := by decide +kernel
theorem dX12_highest_31 : decode cX12_highest 31 = .ok (.iaload, 1) := by decide +kernel
theorem dX12_highest_32 : decode cX12_highest 32 = .ok (.iadd, 1) := by decide +kernel
theorem dX12_highest_33 : decode cX12_highest 33 = .ok (.goto 4, 3) := by decide +kernel
theorem dX12_highest_36 : decode cX12_highest 36 = .ok (.iload_n 3, 1) := by decide +kernel
theorem dX12_highest_37 : decode cX12_highest 37 = .ok (.istore_n 3, 1) := by decide +kernel
theorem dX12_highest_38 : decode cX12_highest 38 = .ok (.iinc 4 1, 3) := by decide +kernel
theorem dX12_highest_41 : decode cX12_highest 41 = .ok (.goto (-36), 3) := by decide +kernel
theorem dX12_highest_44 : decode cX12_highest 44 = .ok (.iload_n 3, 1) := by decide +kernel
theorem dX12_highest_45 : decode cX12_highest 45 = .ok (.ireturn, 1) := by decide +kernel
set_option maxRecDepth 20000 in
theorem ggX12_base_X12_isOrder : GoodIn wsX12_base wsX12_isOrder := goodIn_r _ [12, 13, 14, 15, 11, 16] rfl (by decide +kernel)
set_option maxRecDepth 20000 in
theorem gX12_base_X12_isOrder : GoodIn wsX12_base (wsV RX12 265 RX12 yX12_isOrder wsX12_isOrder) := goodIn_app (goodIn_of _ (by decide +kernel)) ggX12_base_X12_isOrder
set_option maxRecDepth 20000 in
theorem ggX12_base_X12_in : GoodIn wsX12_base wsX12_in := goodIn_r _ [16] rfl (by decide +kernel)
set_option maxRecDepth 20000 in
theorem gX12_base_X12_in : GoodIn wsX12_base (va_wsS RX12 155 yX12_in wsX12_in) := goodIn_app (goodIn_of _ (by decide +kernel)) ggX12_base_X12_in
set_option maxRecDepth 20000 in
theorem ggX12_base_X12_walksNow : GoodIn wsX12_base wsX12_walksNow := goodIn_r _ [20, 21, 22, 23, 24, 25, 11, 26, 27, 28, 29, 7, 2, 30, 31, 32, 33, 34, 35, 36, 37, 38, 39, 40, 41, 42, 43, 44, 45, 46, 47, 48, 49, 50, 51, 52, 53, 54, 55, 56, 57, 58, 59, 60, 61, 62, 63, 64, 65, 66, 3, 4, 67, 68, 69, 70, 5, 6, 71, 72, 73, 74, 75, 76, 77, 78, 79, 80, 81, 82, 83, 84, 85, 86, 87, 88, 89, 90, 91, 92, 93, 94, 95, 96, 97, 98, 99, 100, 101, 102, 103, 104, 105, 106, 107, 108, 109, 110, 111, 112, 113, 114, 118, 119, 120, 121, 122, 123, 124, 125, 126, 127, 128, 129, 130, 131, 132, 133, 134, 135, 136, 137, 138, 139, 140, 141, 142, 143, 144, 145, 146, 147, 148, 149, 150, 151, 152, 153, 154, 155, 156, 157, 158, 159, 160, 161, 162, 163, 164, 165, 166, 167, 168, 169, 170, 171] rfl (by decide +kernel)
set_option maxRecDepth 20000 in
theorem gX12_base_X12_walksNow : GoodIn wsX12_base (wsV RX12 268 RX12 yX12_walksNow wsX12_walksNow) := goodIn_app (goodIn_of _ (by decide +kernel)) ggX12_base_X12_walksNow
set_option maxRecDepth 20000 in
theorem ggX12_base_X12_highest : GoodIn wsX12_base wsX12_highest := goodIn_r _ [117] rfl (by decide +kernel)
set_option maxRecDepth 20000 in
theorem gX12_base_X12_highest : GoodIn wsX12_base (va_wsS RX12 271 yX12_highest wsX12_highest) := goodIn_app (goodIn_of _ (by decide +kernel)) ggX12_base_X12_highest
theorem dX12_base_0 : decode cX12_base 0 = .ok (.aload_n 0, 1) := by decide +kernel
theorem dX12_base_1 : decode cX12_base 1 = .ok (.iload_n 1, 1) := by decide +kernel
theorem dX12_base_2 : decode cX12_base 2 = .ok (.invokevirtual 265, 3) := by decide +kernel
theorem dX12_base_5 : decode cX12_base 5 = .ok (.ifCond .eq 15, 3) := by decide +kernel
theorem dX12_base_8 : decode cX12_base 8 = .ok (.iload_n 2, 1) := by decide +kernel
theorem dX12_base_9 : decode cX12_base 9 = .ok (.i2l, 1) := by decide +kernel
theorem dX12_base_10 : decode cX12_base 10 = .ok (.lconst 0, 1) := by decide +kernel
theorem dX12_base_11 : decode cX12_base 11 = .ok (.ldc2_w 151, 3) := by decide +kernel
theorem dX12_base_14 : decode cX12_base 14 = .ok (.invokestatic 155, 3) := by decide +kernel
theorem dX12_base_17 : decode cX12_base 17 = .ok (.ifCond .ne 5, 3) := by decide +kernel
theorem dX12_base_20 : decode cX12_base 20 = .ok (.iconst (-1), 1) := by decide +kernel
theorem dX12_base_21 : decode cX12_base 21 = .ok (.ireturn, 1) := by decide +kernel
theorem dX12_base_22 : decode cX12_base 22 = .ok (.aload_n 0, 1) := by decide +kernel
theorem dX12_base_23 : decode cX12_base 23 = .ok (.iload_n 1, 1) := by decide +kernel
theorem dX12_base_24 : decode cX12_base 24 = .ok (.invokevirtual 268, 3) := by decide +kernel
theorem dX12_base_27 : decode cX12_base 27 = .ok (.iload_n 2, 1) := by decide +kernel
theorem dX12_base_28 : decode cX12_base 28 = .ok (.ifCond .ne 10, 3) := by decide +kernel
theorem dX12_base_31 : decode cX12_base 31 = .ok (.aload_n 0, 1) := by decide +kernel
theorem dX12_base_32 : decode cX12_base 32 = .ok (.getfield 230, 3) := by decide +kernel
theorem dX12_base_35 : decode cX12_base 35 = .ok (.goto 41, 3) := by decide +kernel
theorem dX12_base_38 : decode cX12_base 38 = .ok (.iload_n 2, 1) := by decide +kernel
theorem dX12_base_39 : decode cX12_base 39 = .ok (.iconst 1, 1) := by decide +kernel
theorem dX12_base_40 : decode cX12_base 40 = .ok (.if_icmp .ne 21, 3) := by decide +kernel
theorem dX12_base_43 : decode cX12_base 43 = .ok (.aload_n 0, 1) := by decide +kernel
theorem dX12_base_44 : decode cX12_base 44 = .ok (.getfield 102, 3) := by decide +kernel
theorem dX12_base_47 : decode cX12_base 47 = .ok (.aload_n 0, 1) := by decide +kernel
theorem dX12_base_48 : decode cX12_base 48 = .ok (.getfield 105, 3) := by decide +kernel
theorem dX12_base_51 : decode cX12_base 51 = .ok (.aload_n 0, 1) := by decide +kernel
theorem dX12_base_52 : decode cX12_base 52 = .ok (.getfield 230, 3) := by decide +kernel
theorem dX12_base_55 : decode cX12_base 55 = .ok (.invokestatic 271, 3) := by decide +kernel
theorem dX12_base_58 : decode cX12_base 58 = .ok (.goto 18, 3) := by decide +kernel
theorem dX12_base_61 : decode cX12_base 61 = .ok (.aload_n 0, 1) := by decide +kernel
theorem dX12_base_62 : decode cX12_base 62 = .ok (.getfield 90, 3) := by decide +kernel
theorem dX12_base_65 : decode cX12_base 65 = .ok (.aload_n 0, 1) := by decide +kernel
theorem dX12_base_66 : decode cX12_base 66 = .ok (.getfield 93, 3) := by decide +kernel
theorem dX12_base_69 : decode cX12_base 69 = .ok (.aload_n 0, 1) := by decide +kernel
theorem dX12_base_70 : decode cX12_base 70 = .ok (.getfield 220, 3) := by decide +kernel
theorem dX12_base_73 : decode cX12_base 73 = .ok (.invokestatic 271, 3) := by decide +kernel
theorem dX12_base_76 : decode cX12_base 76 = .ok (.ireturn, 1) := by decide +kernel
set_option maxRecDepth 20000 in
theorem ggX12_member_X12_isOrder : GoodIn wsX12_member wsX12_isOrder := goodIn_r _ [11, 12, 13, 14, 10, 15] rfl (by decide +kernel)
set_option maxRecDepth 20000 in
theorem gX12_member_X12_isOrder : GoodIn wsX12_member (wsV RX12 265 RX12 yX12_isOrder wsX12_isOrder) := goodIn_app (goodIn_of _ (by decide +kernel)) ggX12_member_X12_isOrder
set_option maxRecDepth 20000 in
theorem ggX12_member_X12_in : GoodIn wsX12_member wsX12_in := goodIn_r _ [15] rfl (by decide +kernel)
set_option maxRecDepth 20000 in
theorem gX12_member_X12_in : GoodIn wsX12_member (va_wsS RX12 155 yX12_in wsX12_in) := goodIn_app (goodIn_of _ (by decide +kernel)) ggX12_member_X12_in
set_option maxRecDepth 20000 in
theorem ggX12_member_X12_walksNow : GoodIn wsX12_member wsX12_walksNow := goodIn_r _ [19, 20, 21, 22, 23, 24, 10, 25, 26, 27, 28, 3, 2, 29, 30, 31, 32, 33, 34, 35, 36, 37, 38, 39, 40, 41, 42, 43, 44, 45, 46, 47, 48, 49, 50, 51, 52, 53, 54, 55, 56, 57, 58, 59, 60, 61, 62, 63, 64, 65, 5, 6, 66, 67, 68, 69, 70, 71, 72, 73, 74, 75, 76, 77, 78, 79, 80, 81, 82, 83, 84, 85, 86, 87, 88, 89, 90, 91, 92, 93, 94, 95, 96, 97, 98, 99, 100, 101, 102, 103, 104, 105, 106, 4, 107, 108, 109, 110, 111, 112, 113, 114, 115, 116, 117, 118, 119, 120, 121, 122, 123, 124, 125, 126, 127, 128, 129, 130, 131, 132, 133, 134, 135, 136, 137, 138, 139, 140, 141, 142, 143, 144, 145, 146, 147, 148, 149, 150, 151, 152, 153, 154, 155, 156, 157, 158, 159, 160, 161, 162, 163, 164, 165, 166, 167, 168] rfl (by decide +kernel)
set_option maxRecDepth 20000 in
theorem gX12_member_X12_walksNow : GoodIn wsX12_member (wsV RX12 268 RX12 yX12_walksNow wsX12_walksNow) := goodIn_app (goodIn_of _ (by decide +kernel)) ggX12_member_X12_walksNow
theorem dX12_member_0 : decode cX12_member 0 = .ok (.aload_n 0, 1) := by decide +kernel
theorem dX12_member_1 : decode cX12_member 1 = .ok (.iload_n 1, 1) := by decide +kernel
theorem dX12_member_2 : decode cX12_member 2 = .ok (.invokevirtual 265, 3) := by decide +kernel
theorem dX12_member_5 : decode cX12_member 5 = .ok (.ifCond .eq 15, 3) := by decide +kernel
theorem dX12_member_8 : decode cX12_member 8 = .ok (.iload_n 3, 1) := by decide +kernel
theorem dX12_member_9 : decode cX12_member 9 = .ok (.i2l, 1) := by decide +kernel
theorem dX12_member_10 : decode cX12_member 10 = .ok (.lconst 0, 1) := by decide +kernel
theorem dX12_member_11 : decode cX12_member 11 = .ok (.ldc2_w 151, 3) := by decide +kernel
theorem dX12_member_14 : decode cX12_member 14 = .ok (.invokestatic 155, 3) := by decide +kernel
theorem dX12_member_17 : decode cX12_member 17 = .ok (.ifCond .ne 5, 3) := by decide +kernel
theorem dX12_member_20 : decode cX12_member 20 = .ok (.iconst (-1), 1) := by decide +kernel
theorem dX12_member_21 : decode cX12_member 21 = .ok (.ireturn, 1) := by decide +kernel
theorem dX12_member_22 : decode cX12_member 22 = .ok (.aload_n 0, 1) := by decide +kernel
theorem dX12_member_23 : decode cX12_member 23 = .ok (.iload_n 1, 1) := by decide +kernel
theorem dX12_member_24 : decode cX12_member 24 = .ok (.invokevirtual 268, 3) := by decide +kernel
theorem dX12_member_27 : decode cX12_member 27 = .ok (.iload_n 2, 1) := by decide +kernel
theorem dX12_member_28 : decode cX12_member 28 = .ok (.i2l, 1) := by decide +kernel
theorem dX12_member_29 : decode cX12_member 29 = .ok (.lconst 0, 1) := by decide +kernel
theorem dX12_member_30 : decode cX12_member 30 = .ok (.aload_n 0, 1) := by decide +kernel
theorem dX12_member_31 : decode cX12_member 31 = .ok (.getfield 230, 3) := by decide +kernel
theorem dX12_member_34 : decode cX12_member 34 = .ok (.iconst 1, 1) := by decide +kernel
theorem dX12_member_35 : decode cX12_member 35 = .ok (.isub, 1) := by decide +kernel
theorem dX12_member_36 : decode cX12_member 36 = .ok (.i2l, 1) := by decide +kernel
theorem dX12_member_37 : decode cX12_member 37 = .ok (.invokestatic 155, 3) := by decide +kernel
theorem dX12_member_40 : decode cX12_member 40 = .ok (.ifCond .ne 5, 3) := by decide +kernel
theorem dX12_member_43 : decode cX12_member 43 = .ok (.iconst (-1), 1) := by decide +kernel
theorem dX12_member_44 : decode cX12_member 44 = .ok (.ireturn, 1) := by decide +kernel
theorem dX12_member_45 : decode cX12_member 45 = .ok (.iconst 1, 1) := by decide +kernel
theorem dX12_member_46 : decode cX12_member 46 = .ok (.istore 4, 2) := by decide +kernel
theorem dX12_member_48 : decode cX12_member 48 = .ok (.iconst 0, 1) := by decide +kernel
theorem dX12_member_49 : decode cX12_member 49 = .ok (.istore 5, 2) := by decide +kernel
theorem dX12_member_51 : decode cX12_member 51 = .ok (.iload 5, 2) := by decide +kernel
theorem dX12_member_53 : decode cX12_member 53 = .ok (.aload_n 0, 1) := by decide +kernel
theorem dX12_member_54 : decode cX12_member 54 = .ok (.getfield 220, 3) := by decide +kernel
theorem dX12_member_57 : decode cX12_member 57 = .ok (.if_icmp .ge 34, 3) := by decide +kernel
theorem dX12_member_60 : decode cX12_member 60 = .ok (.iload 4, 2) := by decide +kernel
theorem dX12_member_62 : decode cX12_member 62 = .ok (.aload_n 0, 1) := by decide +kernel
theorem dX12_member_63 : decode cX12_member 63 = .ok (.getfield 108, 3) := by decide +kernel
theorem dX12_member_66 : decode cX12_member 66 = .ok (.bipush 9, 2) := by decide +kernel
theorem dX12_member_68 : decode cX12_member 68 = .ok (.iload_n 2, 1) := by decide +kernel
theorem dX12_member_69 : decode cX12_member 69 = .ok (.imul, 1) := by decide +kernel
theorem dX12_member_70 : decode cX12_member 70 = .ok (.iload 5, 2) := by decide +kernel
theorem dX12_member_72 : decode cX12_member 72 = .ok (.iadd, 1) := by decide +kernel
theorem dX12_member_73 : decode cX12_member 73 = .ok (.iaload, 1) := by decide +kernel
theorem dX12_member_74 : decode cX12_member 74 = .ok (.ifCond .eq 7, 3) := by decide +kernel
theorem dX12_member_77 : decode cX12_member 77 = .ok (.iconst 1, 1) := by decide +kernel
theorem dX12_member_78 : decode cX12_member 78 = .ok (.goto 4, 3) := by decide +kernel
theorem dX12_member_81 : decode cX12_member 81 = .ok (.iconst 0, 1) := by decide +kernel
theorem dX12_member_82 : decode cX12_member 82 = .ok (.iadd, 1) := by decide +kernel
theorem dX12_member_83 : decode cX12_member 83 = .ok (.istore 4, 2) := by decide +kernel
theorem dX12_member_85 : decode cX12_member 85 = .ok (.iinc 5 1, 3) := by decide +kernel
theorem dX12_member_88 : decode cX12_member 88 = .ok (.goto (-37), 3) := by decide +kernel
theorem dX12_member_91 : decode cX12_member 91 = .ok (.iload_n 3, 1) := by decide +kernel
theorem dX12_member_92 : decode cX12_member 92 = .ok (.ifCond .ne 12, 3) := by decide +kernel
theorem dX12_member_95 : decode cX12_member 95 = .ok (.aload_n 0, 1) := by decide +kernel
theorem dX12_member_96 : decode cX12_member 96 = .ok (.getfield 102, 3) := by decide +kernel
theorem dX12_member_99 : decode cX12_member 99 = .ok (.iload_n 2, 1) := by decide +kernel
theorem dX12_member_100 : decode cX12_member 100 = .ok (.iaload, 1) := by decide +kernel
theorem dX12_member_101 : decode cX12_member 101 = .ok (.goto 19, 3) := by decide +kernel
theorem dX12_member_104 : decode cX12_member 104 = .ok (.iload_n 3, 1) := by decide +kernel
theorem dX12_member_105 : decode cX12_member 105 = .ok (.iconst 1, 1) := by decide +kernel
theorem dX12_member_106 : decode cX12_member 106 = .ok (.if_icmp .ne 12, 3) := by decide +kernel
theorem dX12_member_109 : decode cX12_member 109 = .ok (.aload_n 0, 1) := by decide +kernel
theorem dX12_member_110 : decode cX12_member 110 = .ok (.getfield 105, 3) := by decide +kernel
theorem dX12_member_113 : decode cX12_member 113 = .ok (.iload_n 2, 1) := by decide +kernel
theorem dX12_member_114 : decode cX12_member 114 = .ok (.iaload, 1) := by decide +kernel
theorem dX12_member_115 : decode cX12_member 115 = .ok (.goto 5, 3) := by decide +kernel
theorem dX12_member_118 : decode cX12_member 118 = .ok (.iload 4, 2) := by decide +kernel
theorem dX12_member_120 : decode cX12_member 120 = .ok (.ireturn, 1) := by decide +kernel
set_option maxRecDepth 20000 in
theorem ggX12_tail_X12_isOrder : GoodIn wsX12_tail wsX12_isOrder := goodIn_r _ [7, 8, 9, 10, 6, 11] rfl (by decide +kernel)
set_option maxRecDepth 20000 in
theorem gX12_tail_X12_isOrder : GoodIn wsX12_tail (wsV RX12 265 RX12 yX12_isOrder wsX12_isOrder) := goodIn_app (goodIn_of _ (by decide +kernel)) ggX12_tail_X12_isOrder
set_option maxRecDepth 20000 in
theorem ggX12_tail_X12_dimension : GoodIn wsX12_tail wsX12_dimension := goodIn_r _ [15, 16, 17, 114, 115, 116, 117, 118, 119, 120, 121, 122, 123, 124, 125, 126, 127, 128, 129, 130, 131, 132, 133, 134, 135, 136, 137, 138, 139, 140, 141, 142, 143, 144, 145, 146, 147, 148, 149, 150, 151, 152, 153, 154, 155, 156, 157, 158, 159, 160, 161, 162, 163, 164, 165, 166, 167] rfl (by decide +kernel)
set_option maxRecDepth 20000 in
theorem gX12_tail_X12_dimension : GoodIn wsX12_tail (wsV RX12 168 RX12 yX12_dimension wsX12_dimension) := goodIn_app (goodIn_of _ (by decide +kernel)) ggX12_tail_X12_dimension
set_option maxRecDepth 20000 in
theorem ggX12_tail_X12_in : GoodIn wsX12_tail wsX12_in := goodIn_r _ [11] rfl (by decide +kernel)
set_option maxRecDepth 20000 in
theorem gX12_tail_X12_in : GoodIn wsX12_tail (va_wsS RX12 155 yX12_in wsX12_in) := goodIn_app (goodIn_of _ (by decide +kernel)) ggX12_tail_X12_in
set_option maxRecDepth 20000 in
theorem ggX12_tail_X12_walksNow : GoodIn wsX12_tail wsX12_walksNow := goodIn_r _ [21, 22, 23, 24, 25, 26, 6, 27, 28, 29, 30, 31, 1, 32, 33, 34, 35, 36, 37, 38, 17, 16, 39, 40, 41, 42, 43, 44, 45, 46, 47, 48, 49, 50, 51, 52, 53, 54, 55, 56, 57, 58, 59, 60, 61, 62, 63, 64, 65, 66, 67, 68, 69, 70, 71, 72, 73, 74, 75, 76, 77, 78, 79, 80, 81, 82, 83, 84, 85, 86, 87, 88, 89, 12, 13, 14, 15, 90, 91, 92, 93, 94, 95, 96, 97, 98, 99, 100, 101, 102, 103, 104, 105, 2, 106, 107, 108, 109, 110, 111, 112, 113, 114, 115, 116, 117, 118, 119, 120, 121, 122, 123, 124, 125, 126, 127, 128, 129, 130, 131, 132, 133, 134, 135, 136, 137, 138, 139, 140, 141, 142, 143, 144, 145, 146, 147, 148, 149, 150, 151, 152, 153, 154, 155, 156, 157, 158, 159, 160, 161, 162, 163, 164, 165, 166, 167] rfl (by decide +kernel)
set_option maxRecDepth 20000 in
theorem gX12_tail_X12_walksNow : GoodIn wsX12_tail (wsV RX12 268 RX12 yX12_walksNow wsX12_walksNow) := goodIn_app (goodIn_of _ (by decide +kernel)) ggX12_tail_X12_walksNow
theorem dX12_tail_0 : decode cX12_tail 0 = .ok (.aload_n 0, 1) := by decide +kernel
theorem dX12_tail_1 : decode cX12_tail 1 = .ok (.iload_n 1, 1) := by decide +kernel
theorem dX12_tail_2 : decode cX12_tail 2 = .ok (.invokevirtual 265, 3) := by decide +kernel
theorem dX12_tail_5 : decode cX12_tail 5 = .ok (.ifCond .eq 19, 3) := by decide +kernel
theorem dX12_tail_8 : decode cX12_tail 8 = .ok (.iload_n 3, 1) := by decide +kernel
theorem dX12_tail_9 : decode cX12_tail 9 = .ok (.i2l, 1) := by decide +kernel
theorem dX12_tail_10 : decode cX12_tail 10 = .ok (.lconst 0, 1) := by decide +kernel
theorem dX12_tail_11 : decode cX12_tail 11 = .ok (.aload_n 0, 1) := by decide +kernel
theorem dX12_tail_12 : decode cX12_tail 12 = .ok (.invokevirtual 168, 3) := by decide +kernel
theorem dX12_tail_15 : decode cX12_tail 15 = .ok (.iconst 1, 1) := by decide +kernel
theorem dX12_tail_16 : decode cX12_tail 16 = .ok (.isub, 1) := by decide +kernel
theorem dX12_tail_17 : decode cX12_tail 17 = .ok (.i2l, 1) := by decide +kernel
theorem dX12_tail_18 : decode cX12_tail 18 = .ok (.invokestatic 155, 3) := by decide +kernel
theorem dX12_tail_21 : decode cX12_tail 21 = .ok (.ifCond .ne 5, 3) := by decide +kernel
theorem dX12_tail_24 : decode cX12_tail 24 = .ok (.iconst (-1), 1) := by decide +kernel
theorem dX12_tail_25 : decode cX12_tail 25 = .ok (.ireturn, 1) := by decide +kernel
theorem dX12_tail_26 : decode cX12_tail 26 = .ok (.aload_n 0, 1) := by decide +kernel
theorem dX12_tail_27 : decode cX12_tail 27 = .ok (.iload_n 1, 1) := by decide +kernel
theorem dX12_tail_28 : decode cX12_tail 28 = .ok (.invokevirtual 268, 3) := by decide +kernel
theorem dX12_tail_31 : decode cX12_tail 31 = .ok (.iload_n 2, 1) := by decide +kernel
theorem dX12_tail_32 : decode cX12_tail 32 = .ok (.i2l, 1) := by decide +kernel
theorem dX12_tail_33 : decode cX12_tail 33 = .ok (.lconst 0, 1) := by decide +kernel
theorem dX12_tail_34 : decode cX12_tail 34 = .ok (.aload_n 0, 1) := by decide +kernel
theorem dX12_tail_35 : decode cX12_tail 35 = .ok (.getfield 230, 3) := by decide +kernel
theorem dX12_tail_38 : decode cX12_tail 38 = .ok (.iconst 1, 1) := by decide +kernel
theorem dX12_tail_39 : decode cX12_tail 39 = .ok (.isub, 1) := by decide +kernel
theorem dX12_tail_40 : decode cX12_tail 40 = .ok (.i2l, 1) := by decide +kernel
theorem dX12_tail_41 : decode cX12_tail 41 = .ok (.invokestatic 155, 3) := by decide +kernel
theorem dX12_tail_44 : decode cX12_tail 44 = .ok (.ifCond .eq 17, 3) := by decide +kernel
theorem dX12_tail_47 : decode cX12_tail 47 = .ok (.aload_n 0, 1) := by decide +kernel
theorem dX12_tail_48 : decode cX12_tail 48 = .ok (.getfield 108, 3) := by decide +kernel
theorem dX12_tail_51 : decode cX12_tail 51 = .ok (.bipush 9, 2) := by decide +kernel
theorem dX12_tail_53 : decode cX12_tail 53 = .ok (.iload_n 2, 1) := by decide +kernel
theorem dX12_tail_54 : decode cX12_tail 54 = .ok (.imul, 1) := by decide +kernel
theorem dX12_tail_55 : decode cX12_tail 55 = .ok (.iload_n 3, 1) := by decide +kernel
theorem dX12_tail_56 : decode cX12_tail 56 = .ok (.iadd, 1) := by decide +kernel
theorem dX12_tail_57 : decode cX12_tail 57 = .ok (.iaload, 1) := by decide +kernel
theorem dX12_tail_58 : decode cX12_tail 58 = .ok (.goto 4, 3) := by decide +kernel
theorem dX12_tail_61 : decode cX12_tail 61 = .ok (.iconst (-1), 1) := by decide +kernel
theorem dX12_tail_62 : decode cX12_tail 62 = .ok (.ireturn, 1) := by decide +kernel
set_option maxRecDepth 20000 in
theorem ggX12_stair_X12_isOrder : GoodIn wsX12_stair wsX12_isOrder := goodIn_r _ [7, 8, 9, 10, 6, 11] rfl (by decide +kernel)
set_option maxRecDepth 20000 in
theorem gX12_stair_X12_isOrder : GoodIn wsX12_stair (wsV RX12 265 RX12 yX12_isOrder wsX12_isOrder) := goodIn_app (goodIn_of _ (by decide +kernel)) ggX12_stair_X12_isOrder
set_option maxRecDepth 20000 in
theorem ggX12_stair_X12_dimension : GoodIn wsX12_stair wsX12_dimension := goodIn_r _ [15, 16, 17, 114, 115, 116, 117, 118, 119, 120, 121, 122, 123, 124, 125, 126, 127, 128, 129, 130, 131, 132, 133, 134, 135, 136, 137, 138, 139, 140, 141, 142, 143, 144, 145, 146, 147, 148, 149, 150, 151, 152, 153, 154, 155, 156, 157, 158, 159, 160, 161, 162, 163, 164, 165, 166, 167] rfl (by decide +kernel)
set_option maxRecDepth 20000 in
theorem gX12_stair_X12_dimension : GoodIn wsX12_stair (wsV RX12 168 RX12 yX12_dimension wsX12_dimension) := goodIn_app (goodIn_of _ (by decide +kernel)) ggX12_stair_X12_dimension
set_option maxRecDepth 20000 in
theorem ggX12_stair_X12_in : GoodIn wsX12_stair wsX12_in := goodIn_r _ [11] rfl (by decide +kernel)
set_option maxRecDepth 20000 in
theorem gX12_stair_X12_in : GoodIn wsX12_stair (va_wsS RX12 155 yX12_in wsX12_in) := goodIn_app (goodIn_of _ (by decide +kernel)) ggX12_stair_X12_in
set_option maxRecDepth 20000 in
theorem ggX12_stair_X12_walksNow : GoodIn wsX12_stair wsX12_walksNow := goodIn_r _ [21, 22, 23, 24, 25, 26, 6, 27, 28, 29, 30, 31, 32, 33, 34, 35, 36, 37, 38, 39, 17, 16, 40, 41, 42, 43, 44, 45, 46, 47, 48, 49, 50, 51, 52, 53, 54, 55, 56, 57, 58, 59, 60, 61, 62, 63, 64, 65, 66, 67, 68, 69, 70, 71, 72, 73, 1, 2, 74, 75, 76, 77, 78, 79, 80, 81, 82, 83, 84, 85, 86, 87, 88, 12, 13, 14, 15, 89, 90, 91, 92, 93, 94, 95, 96, 97, 98, 99, 100, 101, 102, 103, 104, 105, 106, 107, 108, 109, 110, 111, 112, 113, 114, 115, 116, 117, 118, 119, 120, 121, 122, 123, 124, 125, 126, 127, 128, 129, 130, 131, 132, 133, 134, 135, 136, 137, 138, 139, 140, 141, 142, 143, 144, 145, 146, 147, 148, 149, 150, 151, 152, 153, 154, 155, 156, 157, 158, 159, 160, 161, 162, 163, 164, 165, 166, 167] rfl (by decide +kernel)
set_option maxRecDepth 20000 in
theorem gX12_stair_X12_walksNow : GoodIn wsX12_stair (wsV RX12 268 RX12 yX12_walksNow wsX12_walksNow) := goodIn_app (goodIn_of _ (by decide +kernel)) ggX12_stair_X12_walksNow
theorem dX12_stair_0 : decode cX12_stair 0 = .ok (.aload_n 0, 1) := by decide +kernel
theorem dX12_stair_1 : decode cX12_stair 1 = .ok (.iload_n 1, 1) := by decide +kernel
theorem dX12_stair_2 : decode cX12_stair 2 = .ok (.invokevirtual 265, 3) := by decide +kernel
theorem dX12_stair_5 : decode cX12_stair 5 = .ok (.ifCond .eq 29, 3) := by decide +kernel
theorem dX12_stair_8 : decode cX12_stair 8 = .ok (.iload_n 2, 1) := by decide +kernel
theorem dX12_stair_9 : decode cX12_stair 9 = .ok (.i2l, 1) := by decide +kernel
theorem dX12_stair_10 : decode cX12_stair 10 = .ok (.lconst 0, 1) := by decide +kernel
theorem dX12_stair_11 : decode cX12_stair 11 = .ok (.aload_n 0, 1) := by decide +kernel
theorem dX12_stair_12 : decode cX12_stair 12 = .ok (.invokevirtual 168, 3) := by decide +kernel
theorem dX12_stair_15 : decode cX12_stair 15 = .ok (.iconst 1, 1) := by decide +kernel
theorem dX12_stair_16 : decode cX12_stair 16 = .ok (.isub, 1) := by decide +kernel
theorem dX12_stair_17 : decode cX12_stair 17 = .ok (.i2l, 1) := by decide +kernel
theorem dX12_stair_18 : decode cX12_stair 18 = .ok (.invokestatic 155, 3) := by decide +kernel
theorem dX12_stair_21 : decode cX12_stair 21 = .ok (.ifCond .eq 13, 3) := by decide +kernel
theorem dX12_stair_24 : decode cX12_stair 24 = .ok (.iload_n 3, 1) := by decide +kernel
theorem dX12_stair_25 : decode cX12_stair 25 = .ok (.i2l, 1) := by decide +kernel
theorem dX12_stair_26 : decode cX12_stair 26 = .ok (.lconst 0, 1) := by decide +kernel
theorem dX12_stair_27 : decode cX12_stair 27 = .ok (.lconst 1, 1) := by decide +kernel
theorem dX12_stair_28 : decode cX12_stair 28 = .ok (.invokestatic 155, 3) := by decide +kernel
theorem dX12_stair_31 : decode cX12_stair 31 = .ok (.ifCond .ne 5, 3) := by decide +kernel
theorem dX12_stair_34 : decode cX12_stair 34 = .ok (.iconst (-1), 1) := by decide +kernel
theorem dX12_stair_35 : decode cX12_stair 35 = .ok (.ireturn, 1) := by decide +kernel
theorem dX12_stair_36 : decode cX12_stair 36 = .ok (.aload_n 0, 1) := by decide +kernel
theorem dX12_stair_37 : decode cX12_stair 37 = .ok (.iload_n 1, 1) := by decide +kernel
theorem dX12_stair_38 : decode cX12_stair 38 = .ok (.invokevirtual 268, 3) := by decide +kernel
theorem dX12_stair_41 : decode cX12_stair 41 = .ok (.iload_n 3, 1) := by decide +kernel
theorem dX12_stair_42 : decode cX12_stair 42 = .ok (.ifCond .ne 12, 3) := by decide +kernel
theorem dX12_stair_45 : decode cX12_stair 45 = .ok (.aload_n 0, 1) := by decide +kernel
theorem dX12_stair_46 : decode cX12_stair 46 = .ok (.getfield 90, 3) := by decide +kernel
theorem dX12_stair_49 : decode cX12_stair 49 = .ok (.iload_n 2, 1) := by decide +kernel
theorem dX12_stair_50 : decode cX12_stair 50 = .ok (.iaload, 1) := by decide +kernel
theorem dX12_stair_51 : decode cX12_stair 51 = .ok (.goto 9, 3) := by decide +kernel
theorem dX12_stair_54 : decode cX12_stair 54 = .ok (.aload_n 0, 1) := by decide +kernel
theorem dX12_stair_55 : decode cX12_stair 55 = .ok (.getfield 93, 3) := by decide +kernel
theorem dX12_stair_58 : decode cX12_stair 58 = .ok (.iload_n 2, 1) := by decide +kernel
theorem dX12_stair_59 : decode cX12_stair 59 = .ok (.iaload, 1) := by decide +kernel
theorem dX12_stair_60 : decode cX12_stair 60 = .ok (.ireturn, 1) := by decide +kernel
set_option maxRecDepth 20000 in
theorem ggX12_normal_X12_isOrder : GoodIn wsX12_normal wsX12_isOrder := goodIn_r _ [6, 7, 8, 9, 5, 10] rfl (by decide +kernel)
set_option maxRecDepth 20000 in
theorem gX12_normal_X12_isOrder : GoodIn wsX12_normal (wsV RX12 265 RX12 yX12_isOrder wsX12_isOrder) := goodIn_app (goodIn_of _ (by decide +kernel)) ggX12_normal_X12_isOrder
set_option maxRecDepth 20000 in
theorem ggX12_normal_X12_dimension : GoodIn wsX12_normal wsX12_dimension := goodIn_r _ [14, 15, 16, 114, 115, 116, 117, 118, 119, 120, 121, 122, 123, 124, 125, 126, 127, 128, 129, 130, 131, 132, 133, 134, 135, 136, 137, 138, 139, 140, 141, 142, 143, 144, 145, 146, 147, 148, 149, 150, 151, 152, 153, 154, 155, 156, 157, 158, 159, 160, 161, 162, 163, 164, 165, 166, 167] rfl (by decide +kernel)
set_option maxRecDepth 20000 in
theorem gX12_normal_X12_dimension : GoodIn wsX12_normal (wsV RX12 168 RX12 yX12_dimension wsX12_dimension) := goodIn_app (goodIn_of _ (by decide +kernel)) ggX12_normal_X12_dimension
set_option maxRecDepth 20000 in
theorem ggX12_normal_X12_in : GoodIn wsX12_normal wsX12_in := goodIn_r _ [10] rfl (by decide +kernel)
set_option maxRecDepth 20000 in
theorem gX12_normal_X12_in : GoodIn wsX12_normal (va_wsS RX12 155 yX12_in wsX12_in) := goodIn_app (goodIn_of _ (by decide +kernel)) ggX12_normal_X12_in
set_option maxRecDepth 20000 in
theorem ggX12_normal_X12_walksNow : GoodIn wsX12_normal wsX12_walksNow := goodIn_r _ [20, 21, 22, 23, 24, 25, 5, 26, 27, 28, 29, 30, 31, 32, 33, 34, 35, 36, 37, 38, 16, 15, 39, 40, 41, 42, 43, 44, 45, 46, 47, 48, 49, 50, 51, 52, 53, 54, 55, 56, 57, 58, 59, 60, 61, 62, 63, 64, 65, 66, 67, 68, 69, 70, 71, 72, 73, 74, 75, 76, 77, 78, 79, 80, 81, 82, 83, 84, 85, 86, 87, 88, 89, 11, 12, 13, 14, 90, 91, 92, 93, 94, 95, 96, 97, 98, 1, 99, 100, 101, 102, 103, 104, 105, 106, 107, 108, 109, 110, 111, 112, 113, 114, 115, 116, 117, 118, 119, 120, 121, 122, 123, 124, 125, 126, 127, 128, 129, 130, 131, 132, 133, 134, 135, 136, 137, 138, 139, 140, 141, 142, 143, 144, 145, 146, 147, 148, 149, 150, 151, 152, 153, 154, 155, 156, 157, 158, 159, 160, 161, 162, 163, 164, 165, 166, 167] rfl (by decide +kernel)
set_option maxRecDepth 20000 in
theorem gX12_normal_X12_walksNow : GoodIn wsX12_normal (wsV RX12 268 RX12 yX12_walksNow wsX12_walksNow) := goodIn_app (goodIn_of _ (by decide +kernel)) ggX12_normal_X12_walksNow
set_option maxRecDepth 20000 in
theorem ggX12_normal_X12_formOf : GoodIn wsX12_normal wsX12_formOf := goodIn_r _ [78, 79, 39, 41, 80, 81, 82, 5, 83, 84, 85, 86, 87, 88, 89, 55, 11, 12, 13, 14, 15, 16, 90, 91, 92, 93, 94, 114, 115, 116, 117, 118, 119, 120, 121, 122, 123, 124, 125, 126, 127, 128, 129, 130, 131, 132, 133, 134, 135, 136, 137, 138, 139, 140, 141, 142, 143, 144, 145, 146, 147, 148, 149, 150, 151, 152, 153, 154, 155, 156, 157, 158, 159, 160, 161, 162, 163, 164, 165, 166, 167] rfl (by decide +kernel)
set_option maxRecDepth 20000 in
theorem gX12_normal_X12_formOf : GoodIn wsX12_normal (wsV RX12 247 RX12 yX12_formOf wsX12_formOf) := goodIn_app (goodIn_of _ (by decide +kernel)) ggX12_normal_X12_formOf
set_option maxRecDepth 20000 in
theorem ggX12_normal_X12_isLeft : GoodIn wsX12_normal wsX12_isLeft := goodIn_r _ [98, 1, 30, 79, 99, 100, 51, 52, 53, 5, 54, 55, 114, 115, 116, 117, 118, 119, 120, 121, 122, 123, 124, 125, 126, 127, 128, 129, 130, 131, 132, 133, 134, 135, 136, 137, 138, 139, 140, 141, 142, 143, 144, 145, 146, 147, 148, 149, 150, 151, 152, 153, 154, 155, 156, 157, 158, 159, 160, 161, 162, 163, 164, 165, 166, 167] rfl (by decide +kernel)
set_option maxRecDepth 20000 in
theorem gX12_normal_X12_isLeft : GoodIn wsX12_normal (wsV RX12 250 RX12 yX12_isLeft wsX12_isLeft) := goodIn_app (goodIn_of _ (by decide +kernel)) ggX12_normal_X12_isLeft
set_option maxRecDepth 20000 in
theorem ggX12_normal_X12_mod : GoodIn wsX12_normal wsX12_mod := goodIn_r _ [54, 55, 114, 115, 116, 117, 118, 119, 120, 121, 122, 123, 124, 125, 126, 127, 128, 129, 130, 131, 132, 133, 134, 135, 136, 137, 138, 139, 140, 141, 142, 143, 144, 145, 146, 147, 148, 149, 150, 151, 152, 153, 154, 155, 156, 157, 158, 159, 160, 161, 162, 163, 164, 165, 166, 167] rfl (by decide +kernel)
set_option maxRecDepth 20000 in
theorem gX12_normal_X12_mod : GoodIn wsX12_normal (wsV RX12 188 RX12 yX12_mod wsX12_mod) := goodIn_app (goodIn_of _ (by decide +kernel)) ggX12_normal_X12_mod
theorem dX12_normal_0 : decode cX12_normal 0 = .ok (.aload_n 0, 1) := by decide +kernel
theorem dX12_normal_1 : decode cX12_normal 1 = .ok (.iload_n 1, 1) := by decide +kernel
theorem dX12_normal_2 : decode cX12_normal 2 = .ok (.invokevirtual 265, 3) := by decide +kernel
theorem dX12_normal_5 : decode cX12_normal 5 = .ok (.ifCond .eq 28, 3) := by decide +kernel
theorem dX12_normal_8 : decode cX12_normal 8 = .ok (.iload_n 2, 1) := by decide +kernel
theorem dX12_normal_9 : decode cX12_normal 9 = .ok (.ifCond .lt 24, 3) := by decide +kernel
theorem dX12_normal_12 : decode cX12_normal 12 = .ok (.iload_n 3, 1) := by decide +kernel
theorem dX12_normal_13 : decode cX12_normal 13 = .ok (.ifCond .lt 20, 3) := by decide +kernel
theorem dX12_normal_16 : decode cX12_normal 16 = .ok (.iload 4, 2) := by decide +kernel
theorem dX12_normal_18 : decode cX12_normal 18 = .ok (.i2l, 1) := by decide +kernel
theorem dX12_normal_19 : decode cX12_normal 19 = .ok (.lconst 0, 1) := by decide +kernel
theorem dX12_normal_20 : decode cX12_normal 20 = .ok (.aload_n 0, 1) := by decide +kernel
theorem dX12_normal_21 : decode cX12_normal 21 = .ok (.invokevirtual 168, 3) := by decide +kernel
theorem dX12_normal_24 : decode cX12_normal 24 = .ok (.iconst 1, 1) := by decide +kernel
theorem dX12_normal_25 : decode cX12_normal 25 = .ok (.isub, 1) := by decide +kernel
theorem dX12_normal_26 : decode cX12_normal 26 = .ok (.i2l, 1) := by decide +kernel
theorem dX12_normal_27 : decode cX12_normal 27 = .ok (.invokestatic 155, 3) := by decide +kernel
theorem dX12_normal_30 : decode cX12_normal 30 = .ok (.ifCond .ne 5, 3) := by decide +kernel
theorem dX12_normal_33 : decode cX12_normal 33 = .ok (.iconst (-1), 1) := by decide +kernel
theorem dX12_normal_34 : decode cX12_normal 34 = .ok (.ireturn, 1) := by decide +kernel
theorem dX12_normal_35 : decode cX12_normal 35 = .ok (.aload_n 0, 1) := by decide +kernel
theorem dX12_normal_36 : decode cX12_normal 36 = .ok (.iload_n 1, 1) := by decide +kernel
theorem dX12_normal_37 : decode cX12_normal 37 = .ok (.invokevirtual 268, 3) := by decide +kernel
theorem dX12_normal_40 : decode cX12_normal 40 = .ok (.aload_n 0, 1) := by decide +kernel
theorem dX12_normal_41 : decode cX12_normal 41 = .ok (.iload_n 2, 1) := by decide +kernel
theorem dX12_normal_42 : decode cX12_normal 42 = .ok (.iload_n 3, 1) := by decide +kernel
theorem dX12_normal_43 : decode cX12_normal 43 = .ok (.invokevirtual 247, 3) := by decide +kernel
theorem dX12_normal_46 : decode cX12_normal 46 = .ok (.aload_n 0, 1) := by decide +kernel
theorem dX12_normal_47 : decode cX12_normal 47 = .ok (.invokevirtual 250, 3) := by decide +kernel
theorem dX12_normal_50 : decode cX12_normal 50 = .ok (.istore 5, 2) := by decide +kernel
theorem dX12_normal_52 : decode cX12_normal 52 = .ok (.iload 5, 2) := by decide +kernel
theorem dX12_normal_54 : decode cX12_normal 54 = .ok (.bipush (-4), 2) := by decide +kernel
theorem dX12_normal_56 : decode cX12_normal 56 = .ok (.if_icmp .ne 19, 3) := by decide +kernel
theorem dX12_normal_59 : decode cX12_normal 59 = .ok (.aload_n 0, 1) := by decide +kernel
theorem dX12_normal_60 : decode cX12_normal 60 = .ok (.aload_n 0, 1) := by decide +kernel
theorem dX12_normal_61 : decode cX12_normal 61 = .ok (.getfield 117, 3) := by decide +kernel
theorem dX12_normal_64 : decode cX12_normal 64 = .ok (.iload 4, 2) := by decide +kernel
theorem dX12_normal_66 : decode cX12_normal 66 = .ok (.iaload, 1) := by decide +kernel
theorem dX12_normal_67 : decode cX12_normal 67 = .ok (.ineg, 1) := by decide +kernel
theorem dX12_normal_68 : decode cX12_normal 68 = .ok (.i2l, 1) := by decide +kernel
theorem dX12_normal_69 : decode cX12_normal 69 = .ok (.invokevirtual 188, 3) := by decide +kernel
theorem dX12_normal_72 : decode cX12_normal 72 = .ok (.goto 4, 3) := by decide +kernel
theorem dX12_normal_75 : decode cX12_normal 75 = .ok (.iconst (-1), 1) := by decide +kernel
theorem dX12_normal_76 : decode cX12_normal 76 = .ok (.ireturn, 1) := by decide +kernel
set_option maxRecDepth 20000 in
theorem ggX12_table_X12_isOrder : GoodIn wsX12_table wsX12_isOrder := goodIn_r _ [8, 9, 10, 11, 7, 12] rfl (by decide +kernel)
set_option maxRecDepth 20000 in
theorem gX12_table_X12_isOrder : GoodIn wsX12_table (wsV RX12 265 RX12 yX12_isOrder wsX12_isOrder) := goodIn_app (goodIn_of _ (by decide +kernel)) ggX12_table_X12_isOrder
set_option maxRecDepth 20000 in
theorem ggX12_table_X12_in : GoodIn wsX12_table wsX12_in := goodIn_r _ [12] rfl (by decide +kernel)
set_option maxRecDepth 20000 in
theorem gX12_table_X12_in : GoodIn wsX12_table (va_wsS RX12 155 yX12_in wsX12_in) := goodIn_app (goodIn_of _ (by decide +kernel)) ggX12_table_X12_in
set_option maxRecDepth 20000 in
theorem ggX12_table_X12_dimension : GoodIn wsX12_table wsX12_dimension := goodIn_r _ [16, 17, 18, 114, 115, 116, 117, 118, 119, 120, 121, 122, 123, 124, 125, 126, 127, 128, 129, 130, 131, 132, 133, 134, 135, 136, 137, 138, 139, 140, 141, 142, 143, 144, 145, 146, 147, 148, 149, 150, 151, 152, 153, 154, 155, 156, 157, 158, 159, 160, 161, 162, 163, 164, 165, 166, 167] rfl (by decide +kernel)
set_option maxRecDepth 20000 in
theorem gX12_table_X12_dimension : GoodIn wsX12_table (wsV RX12 168 RX12 yX12_dimension wsX12_dimension) := goodIn_app (goodIn_of _ (by decide +kernel)) ggX12_table_X12_dimension
set_option maxRecDepth 20000 in
theorem ggX12_table_X12_walksNow : GoodIn wsX12_table wsX12_walksNow := goodIn_r _ [22, 23, 24, 25, 26, 27, 7, 28, 29, 30, 31, 32, 33, 34, 35, 36, 37, 38, 39, 40, 18, 17, 41, 42, 43, 44, 45, 46, 47, 48, 49, 50, 51, 52, 53, 54, 55, 56, 57, 58, 59, 60, 61, 62, 63, 64, 65, 66, 67, 68, 69, 70, 71, 72, 73, 74, 1, 2, 75, 76, 77, 78, 79, 80, 81, 82, 83, 84, 85, 86, 87, 88, 89, 13, 14, 15, 16, 90, 91, 92, 93, 94, 95, 96, 97, 98, 3, 99, 100, 101, 102, 103, 104, 105, 106, 107, 108, 109, 110, 111, 112, 113, 114, 115, 116, 117, 118, 119, 120, 121, 122, 123, 124, 125, 126, 127, 128, 129, 130, 131, 132, 133, 134, 135, 136, 137, 138, 139, 140, 141, 142, 143, 144, 145, 146, 147, 148, 149, 150, 151, 152, 153, 154, 155, 156, 157, 158, 159, 160, 161, 162, 163, 164, 165, 166, 167] rfl (by decide +kernel)
set_option maxRecDepth 20000 in
theorem gX12_table_X12_walksNow : GoodIn wsX12_table (wsV RX12 268 RX12 yX12_walksNow wsX12_walksNow) := goodIn_app (goodIn_of _ (by decide +kernel)) ggX12_table_X12_walksNow
set_option maxRecDepth 20000 in
theorem ggX12_table_X12_formOf : GoodIn wsX12_table wsX12_formOf := goodIn_r _ [78, 79, 41, 43, 80, 81, 82, 7, 83, 84, 85, 86, 87, 88, 89, 57, 13, 14, 15, 16, 17, 18, 90, 91, 92, 93, 94, 114, 115, 116, 117, 118, 119, 120, 121, 122, 123, 124, 125, 126, 127, 128, 129, 130, 131, 132, 133, 134, 135, 136, 137, 138, 139, 140, 141, 142, 143, 144, 145, 146, 147, 148, 149, 150, 151, 152, 153, 154, 155, 156, 157, 158, 159, 160, 161, 162, 163, 164, 165, 166, 167] rfl (by decide +kernel)
set_option maxRecDepth 20000 in
theorem gX12_table_X12_formOf : GoodIn wsX12_table (wsV RX12 247 RX12 yX12_formOf wsX12_formOf) := goodIn_app (goodIn_of _ (by decide +kernel)) ggX12_table_X12_formOf
set_option maxRecDepth 20000 in
theorem ggX12_table_X12_isLeft : GoodIn wsX12_table wsX12_isLeft := goodIn_r _ [98, 3, 32, 79, 99, 100, 53, 54, 55, 7, 56, 57, 114, 115, 116, 117, 118, 119, 120, 121, 122, 123, 124, 125, 126, 127, 128, 129, 130, 131, 132, 133, 134, 135, 136, 137, 138, 139, 140, 141, 142, 143, 144, 145, 146, 147, 148, 149, 150, 151, 152, 153, 154, 155, 156, 157, 158, 159, 160, 161, 162, 163, 164, 165, 166, 167] rfl (by decide +kernel)
set_option maxRecDepth 20000 in
theorem gX12_table_X12_isLeft : GoodIn wsX12_table (wsV RX12 250 RX12 yX12_isLeft wsX12_isLeft) := goodIn_app (goodIn_of _ (by decide +kernel)) ggX12_table_X12_isLeft
set_option maxRecDepth 20000 in
theorem ggX12_table_X12_mod : GoodIn wsX12_table wsX12_mod := goodIn_r _ [56, 57, 114, 115, 116, 117, 118, 119, 120, 121, 122, 123, 124, 125, 126, 127, 128, 129, 130, 131, 132, 133, 134, 135, 136, 137, 138, 139, 140, 141, 142, 143, 144, 145, 146, 147, 148, 149, 150, 151, 152, 153, 154, 155, 156, 157, 158, 159, 160, 161, 162, 163, 164, 165, 166, 167] rfl (by decide +kernel)
set_option maxRecDepth 20000 in
theorem gX12_table_X12_mod : GoodIn wsX12_table (wsV RX12 188 RX12 yX12_mod wsX12_mod) := goodIn_app (goodIn_of _ (by decide +kernel)) ggX12_table_X12_mod
theorem dX12_table_0 : decode cX12_table 0 = .ok (.aload_n 0, 1) := by decide +kernel
theorem dX12_table_1 : decode cX12_table 1 = .ok (.iload_n 1, 1) := by decide +kernel
theorem dX12_table_2 : decode cX12_table 2 = .ok (.invokevirtual 265, 3) := by decide +kernel
theorem dX12_table_5 : decode cX12_table 5 = .ok (.ifCond .eq 46, 3) := by decide +kernel
theorem dX12_table_8 : decode cX12_table 8 = .ok (.iload_n 2, 1) := by decide +kernel
theorem dX12_table_9 : decode cX12_table 9 = .ok (.i2l, 1) := by decide +kernel
theorem dX12_table_10 : decode cX12_table 10 = .ok (.lconst 0, 1) := by decide +kernel
theorem dX12_table_11 : decode cX12_table 11 = .ok (.lconst 1, 1) := by decide +kernel
theorem dX12_table_12 : decode cX12_table 12 = .ok (.invokestatic 155, 3) := by decide +kernel
theorem dX12_table_15 : decode cX12_table 15 = .ok (.ifCond .eq 36, 3) := by decide +kernel
theorem dX12_table_18 : decode cX12_table 18 = .ok (.iload_n 3, 1) := by decide +kernel
theorem dX12_table_19 : decode cX12_table 19 = .ok (.i2l, 1) := by decide +kernel
theorem dX12_table_20 : decode cX12_table 20 = .ok (.lconst 0, 1) := by decide +kernel
theorem dX12_table_21 : decode cX12_table 21 = .ok (.aload_n 0, 1) := by decide +kernel
theorem dX12_table_22 : decode cX12_table 22 = .ok (.invokevirtual 168, 3) := by decide +kernel
theorem dX12_table_25 : decode cX12_table 25 = .ok (.iconst 1, 1) := by decide +kernel
theorem dX12_table_26 : decode cX12_table 26 = .ok (.isub, 1) := by decide +kernel
theorem dX12_table_27 : decode cX12_table 27 = .ok (.i2l, 1) := by decide +kernel
theorem dX12_table_28 : decode cX12_table 28 = .ok (.invokestatic 155, 3) := by decide +kernel
theorem dX12_table_31 : decode cX12_table 31 = .ok (.ifCond .eq 20, 3) := by decide +kernel
theorem dX12_table_34 : decode cX12_table 34 = .ok (.iload 4, 2) := by decide +kernel
theorem dX12_table_36 : decode cX12_table 36 = .ok (.i2l, 1) := by decide +kernel
theorem dX12_table_37 : decode cX12_table 37 = .ok (.lconst 0, 1) := by decide +kernel
theorem dX12_table_38 : decode cX12_table 38 = .ok (.aload_n 0, 1) := by decide +kernel
theorem dX12_table_39 : decode cX12_table 39 = .ok (.invokevirtual 168, 3) := by decide +kernel
theorem dX12_table_42 : decode cX12_table 42 = .ok (.iconst 1, 1) := by decide +kernel
theorem dX12_table_43 : decode cX12_table 43 = .ok (.isub, 1) := by decide +kernel
theorem dX12_table_44 : decode cX12_table 44 = .ok (.i2l, 1) := by decide +kernel
theorem dX12_table_45 : decode cX12_table 45 = .ok (.invokestatic 155, 3) := by decide +kernel
theorem dX12_table_48 : decode cX12_table 48 = .ok (.ifCond .ne 5, 3) := by decide +kernel
theorem dX12_table_51 : decode cX12_table 51 = .ok (.iconst (-1), 1) := by decide +kernel
theorem dX12_table_52 : decode cX12_table 52 = .ok (.ireturn, 1) := by decide +kernel
theorem dX12_table_53 : decode cX12_table 53 = .ok (.aload_n 0, 1) := by decide +kernel
theorem dX12_table_54 : decode cX12_table 54 = .ok (.iload_n 1, 1) := by decide +kernel
theorem dX12_table_55 : decode cX12_table 55 = .ok (.invokevirtual 268, 3) := by decide +kernel
theorem dX12_table_58 : decode cX12_table 58 = .ok (.aload_n 0, 1) := by decide +kernel
theorem dX12_table_59 : decode cX12_table 59 = .ok (.aload_n 0, 1) := by decide +kernel
theorem dX12_table_60 : decode cX12_table 60 = .ok (.getfield 90, 3) := by decide +kernel
theorem dX12_table_63 : decode cX12_table 63 = .ok (.iload_n 3, 1) := by decide +kernel
theorem dX12_table_64 : decode cX12_table 64 = .ok (.iaload, 1) := by decide +kernel
theorem dX12_table_65 : decode cX12_table 65 = .ok (.iload_n 2, 1) := by decide +kernel
theorem dX12_table_66 : decode cX12_table 66 = .ok (.ifCond .ne 7, 3) := by decide +kernel
theorem dX12_table_69 : decode cX12_table 69 = .ok (.iconst 1, 1) := by decide +kernel
theorem dX12_table_70 : decode cX12_table 70 = .ok (.goto 4, 3) := by decide +kernel
theorem dX12_table_73 : decode cX12_table 73 = .ok (.iconst 0, 1) := by decide +kernel
theorem dX12_table_74 : decode cX12_table 74 = .ok (.iadd, 1) := by decide +kernel
theorem dX12_table_75 : decode cX12_table 75 = .ok (.aload_n 0, 1) := by decide +kernel
theorem dX12_table_76 : decode cX12_table 76 = .ok (.getfield 93, 3) := by decide +kernel
theorem dX12_table_79 : decode cX12_table 79 = .ok (.iload_n 3, 1) := by decide +kernel
theorem dX12_table_80 : decode cX12_table 80 = .ok (.iaload, 1) := by decide +kernel
theorem dX12_table_81 : decode cX12_table 81 = .ok (.iload_n 2, 1) := by decide +kernel
theorem dX12_table_82 : decode cX12_table 82 = .ok (.iadd, 1) := by decide +kernel
theorem dX12_table_83 : decode cX12_table 83 = .ok (.invokevirtual 247, 3) := by decide +kernel
theorem dX12_table_86 : decode cX12_table 86 = .ok (.aload_n 0, 1) := by decide +kernel
theorem dX12_table_87 : decode cX12_table 87 = .ok (.invokevirtual 250, 3) := by decide +kernel
theorem dX12_table_90 : decode cX12_table 90 = .ok (.istore 5, 2) := by decide +kernel
theorem dX12_table_92 : decode cX12_table 92 = .ok (.iload 5, 2) := by decide +kernel
theorem dX12_table_94 : decode cX12_table 94 = .ok (.bipush (-4), 2) := by decide +kernel
theorem dX12_table_96 : decode cX12_table 96 = .ok (.if_icmp .ne 19, 3) := by decide +kernel
theorem dX12_table_99 : decode cX12_table 99 = .ok (.aload_n 0, 1) := by decide +kernel
theorem dX12_table_100 : decode cX12_table 100 = .ok (.aload_n 0, 1) := by decide +kernel
theorem dX12_table_101 : decode cX12_table 101 = .ok (.getfield 117, 3) := by decide +kernel
theorem dX12_table_104 : decode cX12_table 104 = .ok (.iload 4, 2) := by decide +kernel
theorem dX12_table_106 : decode cX12_table 106 = .ok (.iaload, 1) := by decide +kernel
theorem dX12_table_107 : decode cX12_table 107 = .ok (.ineg, 1) := by decide +kernel
theorem dX12_table_108 : decode cX12_table 108 = .ok (.i2l, 1) := by decide +kernel
theorem dX12_table_109 : decode cX12_table 109 = .ok (.invokevirtual 188, 3) := by decide +kernel
theorem dX12_table_112 : decode cX12_table 112 = .ok (.goto 4, 3) := by decide +kernel
theorem dX12_table_115 : decode cX12_table 115 = .ok (.iconst (-1), 1) := by decide +kernel
theorem dX12_table_116 : decode cX12_table 116 = .ok (.ireturn, 1) := by decide +kernel
set_option maxRecDepth 20000 in
theorem ggX12_place_X12_isOrder : GoodIn wsX12_place wsX12_isOrder := goodIn_r _ [8, 9, 10, 11, 7, 12] rfl (by decide +kernel)
set_option maxRecDepth 20000 in
theorem gX12_place_X12_isOrder : GoodIn wsX12_place (wsV RX12 265 RX12 yX12_isOrder wsX12_isOrder) := goodIn_app (goodIn_of _ (by decide +kernel)) ggX12_place_X12_isOrder
set_option maxRecDepth 20000 in
theorem ggX12_place_X12_walksNow : GoodIn wsX12_place wsX12_walksNow := goodIn_r _ [16, 17, 18, 19, 20, 21, 7, 22, 23, 24, 25, 1, 26, 27, 28, 29, 30, 31, 32, 33, 34, 35, 36, 37, 38, 39, 40, 41, 42, 43, 44, 45, 46, 47, 48, 49, 50, 51, 52, 53, 54, 55, 56, 57, 58, 59, 60, 61, 62, 63, 64, 65, 66, 67, 68, 69, 2, 3, 70, 71, 72, 73, 74, 75, 76, 77, 78, 79, 80, 81, 82, 83, 84, 85, 86, 87, 88, 89, 90, 91, 92, 93, 94, 95, 96, 97, 98, 99, 100, 101, 102, 103, 104, 105, 106, 107, 108, 109, 110, 111, 112, 113, 114, 115, 116, 117, 118, 119, 120, 121, 122, 123, 124, 125, 126, 127, 128, 129, 130, 131, 132, 133, 134, 135, 136, 137, 138, 139, 140, 141, 142, 143, 144, 145, 146, 147, 148, 149, 150, 151, 152, 153, 154, 155, 156, 157, 158, 159, 160, 161, 162, 163, 164, 165, 166, 167] rfl (by decide +kernel)
set_option maxRecDepth 20000 in
theorem gX12_place_X12_walksNow : GoodIn wsX12_place (wsV RX12 268 RX12 yX12_walksNow wsX12_walksNow) := goodIn_app (goodIn_of _ (by decide +kernel)) ggX12_place_X12_walksNow
theorem dX12_place_0 : decode cX12_place 0 = .ok (.aload_n 0, 1) := by decide +kernel
theorem dX12_place_1 : decode cX12_place 1 = .ok (.iload_n 1, 1) := by decide +kernel
theorem dX12_place_2 : decode cX12_place 2 = .ok (.invokevirtual 265, 3) := by decide +kernel
theorem dX12_place_5 : decode cX12_place 5 = .ok (.ifCond .eq 11, 3) := by decide +kernel
theorem dX12_place_8 : decode cX12_place 8 = .ok (.iload_n 2, 1) := by decide +kernel
theorem dX12_place_9 : decode cX12_place 9 = .ok (.ifCond .lt 7, 3) := by decide +kernel
theorem dX12_place_12 : decode cX12_place 12 = .ok (.iload_n 3, 1) := by decide +kernel
theorem dX12_place_13 : decode cX12_place 13 = .ok (.ifCond .ge 5, 3) := by decide +kernel
theorem dX12_place_16 : decode cX12_place 16 = .ok (.iconst (-1), 1) := by decide +kernel
theorem dX12_place_17 : decode cX12_place 17 = .ok (.ireturn, 1) := by decide +kernel
theorem dX12_place_18 : decode cX12_place 18 = .ok (.aload_n 0, 1) := by decide +kernel
theorem dX12_place_19 : decode cX12_place 19 = .ok (.iload_n 1, 1) := by decide +kernel
theorem dX12_place_20 : decode cX12_place 20 = .ok (.invokevirtual 268, 3) := by decide +kernel
theorem dX12_place_23 : decode cX12_place 23 = .ok (.iconst 0, 1) := by decide +kernel
theorem dX12_place_24 : decode cX12_place 24 = .ok (.istore 4, 2) := by decide +kernel
theorem dX12_place_26 : decode cX12_place 26 = .ok (.iload 4, 2) := by decide +kernel
theorem dX12_place_28 : decode cX12_place 28 = .ok (.aload_n 0, 1) := by decide +kernel
theorem dX12_place_29 : decode cX12_place 29 = .ok (.getfield 220, 3) := by decide +kernel
theorem dX12_place_32 : decode cX12_place 32 = .ok (.if_icmp .ge 34, 3) := by decide +kernel
theorem dX12_place_35 : decode cX12_place 35 = .ok (.aload_n 0, 1) := by decide +kernel
theorem dX12_place_36 : decode cX12_place 36 = .ok (.getfield 90, 3) := by decide +kernel
theorem dX12_place_39 : decode cX12_place 39 = .ok (.iload 4, 2) := by decide +kernel
theorem dX12_place_41 : decode cX12_place 41 = .ok (.iaload, 1) := by decide +kernel
theorem dX12_place_42 : decode cX12_place 42 = .ok (.iload_n 2, 1) := by decide +kernel
theorem dX12_place_43 : decode cX12_place 43 = .ok (.if_icmp .ne 17, 3) := by decide +kernel
theorem dX12_place_46 : decode cX12_place 46 = .ok (.aload_n 0, 1) := by decide +kernel
theorem dX12_place_47 : decode cX12_place 47 = .ok (.getfield 93, 3) := by decide +kernel
theorem dX12_place_50 : decode cX12_place 50 = .ok (.iload 4, 2) := by decide +kernel
theorem dX12_place_52 : decode cX12_place 52 = .ok (.iaload, 1) := by decide +kernel
theorem dX12_place_53 : decode cX12_place 53 = .ok (.iload_n 3, 1) := by decide +kernel
theorem dX12_place_54 : decode cX12_place 54 = .ok (.if_icmp .ne 6, 3) := by decide +kernel
theorem dX12_place_57 : decode cX12_place 57 = .ok (.iload 4, 2) := by decide +kernel
theorem dX12_place_59 : decode cX12_place 59 = .ok (.ireturn, 1) := by decide +kernel
theorem dX12_place_60 : decode cX12_place 60 = .ok (.iinc 4 1, 3) := by decide +kernel
theorem dX12_place_63 : decode cX12_place 63 = .ok (.goto (-37), 3) := by decide +kernel
theorem dX12_place_66 : decode cX12_place 66 = .ok (.bipush (-4), 2) := by decide +kernel
theorem dX12_place_68 : decode cX12_place 68 = .ok (.ireturn, 1) := by decide +kernel
set_option maxRecDepth 20000 in
theorem ggX12_findsLeast_X12_walks : GoodIn wsX12_findsLeast wsX12_walks := goodIn_r _ [10, 11, 12, 13, 14, 15, 16, 17, 18, 19, 20, 21, 9, 22, 23, 24, 25, 26, 27, 28, 29, 30, 31, 32, 33, 34, 35, 36, 37, 38, 39, 40, 41, 42, 43, 44, 45, 46, 47, 48, 49, 50, 51, 52, 1, 2, 53, 54, 55, 56, 57, 58, 59, 60, 61, 62, 63, 64, 65, 66, 67, 68, 69, 70, 71, 72, 73, 74, 75, 76, 77, 78, 79, 80, 81, 82, 83, 84, 85, 86, 87, 88, 89, 90, 91, 92, 93, 5, 94, 95, 96, 97, 98, 99, 100, 101, 102, 103, 104, 105, 106, 107, 108, 109, 110, 111, 112, 113, 114, 115, 116, 117, 118, 119, 120, 121, 122, 123, 124, 125, 126, 127, 128, 129, 130, 131, 132, 133, 134, 135, 136, 137, 138, 139, 140, 141, 142, 143, 144, 145, 146, 147, 148, 149, 150, 151, 152, 153, 154, 155] rfl (by decide +kernel)
set_option maxRecDepth 20000 in
theorem gX12_findsLeast_X12_walks : GoodIn wsX12_findsLeast (wsV RX12 262 RX12 yX12_walks wsX12_walks) := goodIn_app (goodIn_of _ (by decide +kernel)) ggX12_findsLeast_X12_walks
theorem dX12_findsLeast_0 : decode cX12_findsLeast 0 = .ok (.aload_n 0, 1) := by decide +kernel
theorem dX12_findsLeast_1 : decode cX12_findsLeast 1 = .ok (.iload_n 1, 1) := by decide +kernel
theorem dX12_findsLeast_2 : decode cX12_findsLeast 2 = .ok (.ifCond .ne 7, 3) := by decide +kernel
theorem dX12_findsLeast_5 : decode cX12_findsLeast 5 = .ok (.iconst 1, 1) := by decide +kernel
theorem dX12_findsLeast_6 : decode cX12_findsLeast 6 = .ok (.goto 4, 3) := by decide +kernel
theorem dX12_findsLeast_9 : decode cX12_findsLeast 9 = .ok (.iconst 0, 1) := by decide +kernel
theorem dX12_findsLeast_10 : decode cX12_findsLeast 10 = .ok (.iconst 1, 1) := by decide +kernel
theorem dX12_findsLeast_11 : decode cX12_findsLeast 11 = .ok (.iconst 1, 1) := by decide +kernel
theorem dX12_findsLeast_12 : decode cX12_findsLeast 12 = .ok (.invokevirtual 262, 3) := by decide +kernel
theorem dX12_findsLeast_15 : decode cX12_findsLeast 15 = .ok (.aload_n 0, 1) := by decide +kernel
theorem dX12_findsLeast_16 : decode cX12_findsLeast 16 = .ok (.iload_n 1, 1) := by decide +kernel
theorem dX12_findsLeast_17 : decode cX12_findsLeast 17 = .ok (.ifCond .ne 12, 3) := by decide +kernel
theorem dX12_findsLeast_20 : decode cX12_findsLeast 20 = .ok (.aload_n 0, 1) := by decide +kernel
theorem dX12_findsLeast_21 : decode cX12_findsLeast 21 = .ok (.getfield 102, 3) := by decide +kernel
theorem dX12_findsLeast_24 : decode cX12_findsLeast 24 = .ok (.iconst 0, 1) := by decide +kernel
theorem dX12_findsLeast_25 : decode cX12_findsLeast 25 = .ok (.iaload, 1) := by decide +kernel
theorem dX12_findsLeast_26 : decode cX12_findsLeast 26 = .ok (.goto 9, 3) := by decide +kernel
theorem dX12_findsLeast_29 : decode cX12_findsLeast 29 = .ok (.aload_n 0, 1) := by decide +kernel
theorem dX12_findsLeast_30 : decode cX12_findsLeast 30 = .ok (.getfield 105, 3) := by decide +kernel
theorem dX12_findsLeast_33 : decode cX12_findsLeast 33 = .ok (.iconst 0, 1) := by decide +kernel
theorem dX12_findsLeast_34 : decode cX12_findsLeast 34 = .ok (.iaload, 1) := by decide +kernel
theorem dX12_findsLeast_35 : decode cX12_findsLeast 35 = .ok (.putfield 275, 3) := by decide +kernel
theorem dX12_findsLeast_38 : decode cX12_findsLeast 38 = .ok (.iconst 0, 1) := by decide +kernel
theorem dX12_findsLeast_39 : decode cX12_findsLeast 39 = .ok (.istore_n 2, 1) := by decide +kernel
theorem dX12_findsLeast_40 : decode cX12_findsLeast 40 = .ok (.iload_n 2, 1) := by decide +kernel
theorem dX12_findsLeast_41 : decode cX12_findsLeast 41 = .ok (.aload_n 0, 1) := by decide +kernel
theorem dX12_findsLeast_42 : decode cX12_findsLeast 42 = .ok (.getfield 275, 3) := by decide +kernel
theorem dX12_findsLeast_45 : decode cX12_findsLeast 45 = .ok (.if_icmp .ge 21, 3) := by decide +kernel
theorem dX12_findsLeast_48 : decode cX12_findsLeast 48 = .ok (.aload_n 0, 1) := by decide +kernel
theorem dX12_findsLeast_49 : decode cX12_findsLeast 49 = .ok (.getfield 120, 3) := by decide +kernel
theorem dX12_findsLeast_52 : decode cX12_findsLeast 52 = .ok (.iload_n 2, 1) := by decide +kernel
theorem dX12_findsLeast_53 : decode cX12_findsLeast 53 = .ok (.aload_n 0, 1) := by decide +kernel
theorem dX12_findsLeast_54 : decode cX12_findsLeast 54 = .ok (.getfield 108, 3) := by decide +kernel
theorem dX12_findsLeast_57 : decode cX12_findsLeast 57 = .ok (.iload_n 2, 1) := by decide +kernel
theorem dX12_findsLeast_58 : decode cX12_findsLeast 58 = .ok (.iaload, 1) := by decide +kernel
theorem dX12_findsLeast_59 : decode cX12_findsLeast 59 = .ok (.iastore, 1) := by decide +kernel
theorem dX12_findsLeast_60 : decode cX12_findsLeast 60 = .ok (.iinc 2 1, 3) := by decide +kernel
theorem dX12_findsLeast_63 : decode cX12_findsLeast 63 = .ok (.goto (-23), 3) := by decide +kernel
theorem dX12_findsLeast_66 : decode cX12_findsLeast 66 = .ok (.aload_n 0, 1) := by decide +kernel
theorem dX12_findsLeast_67 : decode cX12_findsLeast 67 = .ok (.getfield 120, 3) := by decide +kernel
theorem dX12_findsLeast_70 : decode cX12_findsLeast 70 = .ok (.aload_n 0, 1) := by decide +kernel
theorem dX12_findsLeast_71 : decode cX12_findsLeast 71 = .ok (.getfield 275, 3) := by decide +kernel
theorem dX12_findsLeast_74 : decode cX12_findsLeast 74 = .ok (.iconst 1, 1) := by decide +kernel
theorem dX12_findsLeast_75 : decode cX12_findsLeast 75 = .ok (.iastore, 1) := by decide +kernel
theorem dX12_findsLeast_76 : decode cX12_findsLeast 76 = .ok (.return_, 1) := by decide +kernel
set_option maxRecDepth 20000 in
theorem ggX12_least_X12_in : GoodIn wsX12_least wsX12_in := goodIn_r _ [6] rfl (by decide +kernel)
set_option maxRecDepth 20000 in
theorem gX12_least_X12_in : GoodIn wsX12_least (va_wsS RX12 155 yX12_in wsX12_in) := goodIn_app (goodIn_of _ (by decide +kernel)) ggX12_least_X12_in
set_option maxRecDepth 20000 in
theorem ggX12_least_X12_findsLeast : GoodIn wsX12_least wsX12_findsLeast := goodIn_r _ [10, 11, 12, 1, 2, 13, 14, 15, 16, 5, 17, 18, 19, 20, 21, 22, 23, 24, 25, 26, 27, 28, 29, 30, 31, 32, 33, 34, 35, 36, 37, 38, 39, 40, 41, 42, 43, 44, 45, 46, 47, 48, 49, 50, 51, 52, 53, 54, 55, 56, 57, 58, 59, 60, 61, 62, 63, 64, 65, 66, 67, 68, 69, 70, 71, 72, 73, 74, 75, 76, 77, 78, 79, 80, 81, 82, 83, 84, 85, 86, 87, 88, 89, 90, 91, 92, 93, 94, 95, 96, 97, 98, 99, 100, 101, 102, 103, 104, 105, 106, 107, 108, 109, 110, 111, 112, 113, 114, 115, 116, 117, 118, 119, 120, 121, 122, 123, 124, 125, 126, 127, 128, 129, 130, 131, 132, 133, 134, 135, 136, 137, 138, 139, 140, 141, 142, 143, 144, 145, 146, 147, 148, 149, 150, 151, 152, 153, 154, 155, 156, 157, 158, 159, 160, 161, 162] rfl (by decide +kernel)
set_option maxRecDepth 20000 in
theorem gX12_least_X12_findsLeast : GoodIn wsX12_least (wsV RX12 278 RX12 yX12_findsLeast wsX12_findsLeast) := goodIn_app (goodIn_of _ (by decide +kernel)) ggX12_least_X12_findsLeast
theorem dX12_least_0 : decode cX12_least 0 = .ok (.iload_n 1, 1) := by decide +kernel
theorem dX12_least_1 : decode cX12_least 1 = .ok (.i2l, 1) := by decide +kernel
theorem dX12_least_2 : decode cX12_least 2 = .ok (.lconst 0, 1) := by decide +kernel
theorem dX12_least_3 : decode cX12_least 3 = .ok (.lconst 1, 1) := by decide +kernel
theorem dX12_least_4 : decode cX12_least 4 = .ok (.invokestatic 155, 3) := by decide +kernel
theorem dX12_least_7 : decode cX12_least 7 = .ok (.ifCond .ne 5, 3) := by decide +kernel
theorem dX12_least_10 : decode cX12_least 10 = .ok (.iconst (-1), 1) := by decide +kernel
theorem dX12_least_11 : decode cX12_least 11 = .ok (.ireturn, 1) := by decide +kernel
theorem dX12_least_12 : decode cX12_least 12 = .ok (.aload_n 0, 1) := by decide +kernel
theorem dX12_least_13 : decode cX12_least 13 = .ok (.iload_n 1, 1) := by decide +kernel
theorem dX12_least_14 : decode cX12_least 14 = .ok (.invokevirtual 278, 3) := by decide +kernel
theorem dX12_least_17 : decode cX12_least 17 = .ok (.iload_n 2, 1) := by decide +kernel
theorem dX12_least_18 : decode cX12_least 18 = .ok (.iconst (-1), 1) := by decide +kernel
theorem dX12_least_19 : decode cX12_least 19 = .ok (.if_icmp .ne 10, 3) := by decide +kernel
theorem dX12_least_22 : decode cX12_least 22 = .ok (.aload_n 0, 1) := by decide +kernel
theorem dX12_least_23 : decode cX12_least 23 = .ok (.getfield 275, 3) := by decide +kernel
theorem dX12_least_26 : decode cX12_least 26 = .ok (.goto 27, 3) := by decide +kernel
theorem dX12_least_29 : decode cX12_least 29 = .ok (.iload_n 2, 1) := by decide +kernel
theorem dX12_least_30 : decode cX12_least 30 = .ok (.i2l, 1) := by decide +kernel
theorem dX12_least_31 : decode cX12_least 31 = .ok (.lconst 0, 1) := by decide +kernel
theorem dX12_least_32 : decode cX12_least 32 = .ok (.aload_n 0, 1) := by decide +kernel
theorem dX12_least_33 : decode cX12_least 33 = .ok (.getfield 275, 3) := by decide +kernel
theorem dX12_least_36 : decode cX12_least 36 = .ok (.i2l, 1) := by decide +kernel
theorem dX12_least_37 : decode cX12_least 37 = .ok (.invokestatic 155, 3) := by decide +kernel
theorem dX12_least_40 : decode cX12_least 40 = .ok (.ifCond .eq 12, 3) := by decide +kernel
theorem dX12_least_43 : decode cX12_least 43 = .ok (.aload_n 0, 1) := by decide +kernel
theorem dX12_least_44 : decode cX12_least 44 = .ok (.getfield 120, 3) := by decide +kernel
theorem dX12_least_47 : decode cX12_least 47 = .ok (.iload_n 2, 1) := by decide +kernel
theorem dX12_least_48 : decode cX12_least 48 = .ok (.iaload, 1) := by decide +kernel
theorem dX12_least_49 : decode cX12_least 49 = .ok (.goto 4, 3) := by decide +kernel
theorem dX12_least_52 : decode cX12_least 52 = .ok (.iconst (-1), 1) := by decide +kernel
theorem dX12_least_53 : decode cX12_least 53 = .ok (.ireturn, 1) := by decide +kernel
theorem dX12_highOf_0 : decode cX12_highOf 0 = .ok (.bipush 9, 2) := by decide +kernel
theorem dX12_highOf_2 : decode cX12_highOf 2 = .ok (.istore_n 1, 1) := by decide +kernel
theorem dX12_highOf_3 : decode cX12_highOf 3 = .ok (.iload_n 1, 1) := by decide +kernel
theorem dX12_highOf_4 : decode cX12_highOf 4 = .ok (.ifCond .lt 15, 3) := by decide +kernel
theorem dX12_highOf_7 : decode cX12_highOf 7 = .ok (.aload_n 0, 1) := by decide +kernel
theorem dX12_highOf_8 : decode cX12_highOf 8 = .ok (.iload_n 1, 1) := by decide +kernel
theorem dX12_highOf_9 : decode cX12_highOf 9 = .ok (.iaload, 1) := by decide +kernel
theorem dX12_highOf_10 : decode cX12_highOf 10 = .ok (.ifCond .ne 9, 3) := by decide +kernel
theorem dX12_highOf_13 : decode cX12_highOf 13 = .ok (.iinc 1 (-1), 3) := by decide +kernel
theorem dX12_highOf_16 : decode cX12_highOf 16 = .ok (.goto (-13), 3) := by decide +kernel
theorem dX12_highOf_19 : decode cX12_highOf 19 = .ok (.iload_n 1, 1) := by decide +kernel
theorem dX12_highOf_20 : decode cX12_highOf 20 = .ok (.ireturn, 1) := by decide +kernel
set_option maxRecDepth 20000 in
theorem ggX12_hasTwice_X12_findsLeast : GoodIn wsX12_hasTwice wsX12_findsLeast := goodIn_r _ [10, 11, 12, 2, 3, 13, 14, 15, 16, 9, 17, 18, 19, 20, 21, 22, 23, 24, 25, 26, 27, 28, 29, 30, 31, 32, 33, 34, 35, 36, 37, 38, 39, 40, 41, 42, 43, 44, 45, 46, 47, 5, 48, 49, 50, 51, 52, 53, 54, 55, 56, 57, 58, 59, 60, 61, 62, 63, 64, 65, 66, 67, 68, 69, 70, 71, 72, 73, 74, 75, 76, 77, 78, 79, 80, 81, 82, 83, 84, 85, 86, 87, 88, 89, 90, 91, 92, 93, 94, 95, 96, 97, 98, 99, 100, 101, 102, 103, 104, 105, 106, 107, 111, 112, 113, 114, 115, 116, 117, 118, 119, 120, 121, 122, 123, 124, 125, 126, 127, 128, 129, 130, 131, 132, 133, 134, 135, 136, 137, 138, 139, 140, 141, 142, 143, 144, 145, 146, 147, 148, 149, 150, 151, 152, 153, 154, 155, 156, 157, 158, 159, 160, 161, 162, 163, 164] rfl (by decide +kernel)
set_option maxRecDepth 20000 in
theorem gX12_hasTwice_X12_findsLeast : GoodIn wsX12_hasTwice (wsV RX12 278 RX12 yX12_findsLeast wsX12_findsLeast) := goodIn_app (goodIn_of _ (by decide +kernel)) ggX12_hasTwice_X12_findsLeast
set_option maxRecDepth 20000 in
theorem ggX12_hasTwice_X12_highOf : GoodIn wsX12_hasTwice wsX12_highOf := goodIn_r _ [110] rfl (by decide +kernel)
set_option maxRecDepth 20000 in
theorem gX12_hasTwice_X12_highOf : GoodIn wsX12_hasTwice (va_wsS RX12 281 yX12_highOf wsX12_highOf) := goodIn_app (goodIn_of _ (by decide +kernel)) ggX12_hasTwice_X12_highOf
set_option maxRecDepth 20000 in
theorem ggX12_hasTwice_X12_inverse : GoodIn wsX12_hasTwice wsX12_inverse := goodIn_r _ [107, 5, 111, 112, 113, 114, 115, 116, 117, 118, 119, 120, 121, 122, 123, 124, 125, 126, 127, 128, 129, 130, 131, 132, 133, 134, 135, 136, 137, 138, 139, 140, 141, 142, 143, 144, 145, 146, 147, 148, 149, 150, 151, 152, 153, 154, 155, 156, 157, 158, 159, 160, 161, 162, 163, 164] rfl (by decide +kernel)
set_option maxRecDepth 20000 in
theorem gX12_hasTwice_X12_inverse : GoodIn wsX12_hasTwice (wsV RX12 223 RX12 yX12_inverse wsX12_inverse) := goodIn_app (goodIn_of _ (by decide +kernel)) ggX12_hasTwice_X12_inverse
set_option maxRecDepth 20000 in
theorem ggX12_hasTwice_X12_mod : GoodIn wsX12_hasTwice wsX12_mod := goodIn_r _ [47, 5, 111, 112, 113, 114, 115, 116, 117, 118, 119, 120, 121, 122, 123, 124, 125, 126, 127, 128, 129, 130, 131, 132, 133, 134, 135, 136, 137, 138, 139, 140, 141, 142, 143, 144, 145, 146, 147, 148, 149, 150, 151, 152, 153, 154, 155, 156, 157, 158, 159, 160, 161, 162, 163, 164] rfl (by decide +kernel)
set_option maxRecDepth 20000 in
theorem gX12_hasTwice_X12_mod : GoodIn wsX12_hasTwice (wsV RX12 188 RX12 yX12_mod wsX12_mod) := goodIn_app (goodIn_of _ (by decide +kernel)) ggX12_hasTwice_X12_mod
theorem dX12_hasTwice_0 : decode cX12_hasTwice 0 = .ok (.aload_n 0, 1) := by decide +kernel
theorem dX12_hasTwice_1 : decode cX12_hasTwice 1 = .ok (.iload_n 1, 1) := by decide +kernel
theorem dX12_hasTwice_2 : decode cX12_hasTwice 2 = .ok (.invokevirtual 278, 3) := by decide +kernel
theorem dX12_hasTwice_5 : decode cX12_hasTwice 5 = .ok (.iconst 0, 1) := by decide +kernel
theorem dX12_hasTwice_6 : decode cX12_hasTwice 6 = .ok (.istore_n 2, 1) := by decide +kernel
theorem dX12_hasTwice_7 : decode cX12_hasTwice 7 = .ok (.iload_n 2, 1) := by decide +kernel
theorem dX12_hasTwice_8 : decode cX12_hasTwice 8 = .ok (.bipush 10, 2) := by decide +kernel
theorem dX12_hasTwice_10 : decode cX12_hasTwice 10 = .ok (.if_icmp .ge 40, 3) := by decide +kernel
theorem dX12_hasTwice_13 : decode cX12_hasTwice 13 = .ok (.aload_n 0, 1) := by decide +kernel
theorem dX12_hasTwice_14 : decode cX12_hasTwice 14 = .ok (.getfield 123, 3) := by decide +kernel
theorem dX12_hasTwice_17 : decode cX12_hasTwice 17 = .ok (.iload_n 2, 1) := by decide +kernel
theorem dX12_hasTwice_18 : decode cX12_hasTwice 18 = .ok (.iload_n 2, 1) := by decide +kernel
theorem dX12_hasTwice_19 : decode cX12_hasTwice 19 = .ok (.aload_n 0, 1) := by decide +kernel
theorem dX12_hasTwice_20 : decode cX12_hasTwice 20 = .ok (.getfield 275, 3) := by decide +kernel
theorem dX12_hasTwice_23 : decode cX12_hasTwice 23 = .ok (.if_icmp .gt 12, 3) := by decide +kernel
theorem dX12_hasTwice_26 : decode cX12_hasTwice 26 = .ok (.aload_n 0, 1) := by decide +kernel
theorem dX12_hasTwice_27 : decode cX12_hasTwice 27 = .ok (.getfield 120, 3) := by decide +kernel
theorem dX12_hasTwice_30 : decode cX12_hasTwice 30 = .ok (.iload_n 2, 1) := by decide +kernel
theorem dX12_hasTwice_31 : decode cX12_hasTwice 31 = .ok (.iaload, 1) := by decide +kernel
theorem dX12_hasTwice_32 : decode cX12_hasTwice 32 = .ok (.goto 4, 3) := by decide +kernel
theorem dX12_hasTwice_35 : decode cX12_hasTwice 35 = .ok (.iconst 0, 1) := by decide +kernel
theorem dX12_hasTwice_36 : decode cX12_hasTwice 36 = .ok (.iastore, 1) := by decide +kernel
theorem dX12_hasTwice_37 : decode cX12_hasTwice 37 = .ok (.aload_n 0, 1) := by decide +kernel
theorem dX12_hasTwice_38 : decode cX12_hasTwice 38 = .ok (.getfield 126, 3) := by decide +kernel
theorem dX12_hasTwice_41 : decode cX12_hasTwice 41 = .ok (.iload_n 2, 1) := by decide +kernel
theorem dX12_hasTwice_42 : decode cX12_hasTwice 42 = .ok (.iconst 0, 1) := by decide +kernel
theorem dX12_hasTwice_43 : decode cX12_hasTwice 43 = .ok (.iastore, 1) := by decide +kernel
theorem dX12_hasTwice_44 : decode cX12_hasTwice 44 = .ok (.iinc 2 1, 3) := by decide +kernel
theorem dX12_hasTwice_47 : decode cX12_hasTwice 47 = .ok (.goto (-40), 3) := by decide +kernel
theorem dX12_hasTwice_50 : decode cX12_hasTwice 50 = .ok (.iconst 1, 1) := by decide +kernel
theorem dX12_hasTwice_51 : decode cX12_hasTwice 51 = .ok (.istore_n 2, 1) := by decide +kernel
theorem dX12_hasTwice_52 : decode cX12_hasTwice 52 = .ok (.iload_n 2, 1) := by decide +kernel
theorem dX12_hasTwice_53 : decode cX12_hasTwice 53 = .ok (.aload_n 0, 1) := by decide +kernel
theorem dX12_hasTwice_54 : decode cX12_hasTwice 54 = .ok (.getfield 275, 3) := by decide +kernel
theorem dX12_hasTwice_57 : decode cX12_hasTwice 57 = .ok (.if_icmp .gt 35, 3) := by decide +kernel
theorem dX12_hasTwice_60 : decode cX12_hasTwice 60 = .ok (.aload_n 0, 1) := by decide +kernel
theorem dX12_hasTwice_61 : decode cX12_hasTwice 61 = .ok (.getfield 126, 3) := by decide +kernel
theorem dX12_hasTwice_64 : decode cX12_hasTwice 64 = .ok (.iload_n 2, 1) := by decide +kernel
theorem dX12_hasTwice_65 : decode cX12_hasTwice 65 = .ok (.iconst 1, 1) := by decide +kernel
theorem dX12_hasTwice_66 : decode cX12_hasTwice 66 = .ok (.isub, 1) := by decide +kernel
theorem dX12_hasTwice_67 : decode cX12_hasTwice 67 = .ok (.iload_n 2, 1) := by decide +kernel
theorem dX12_hasTwice_68 : decode cX12_hasTwice 68 = .ok (.aload_n 0, 1) := by decide +kernel
theorem dX12_hasTwice_69 : decode cX12_hasTwice 69 = .ok (.getfield 7, 3) := by decide +kernel
theorem dX12_hasTwice_72 : decode cX12_hasTwice 72 = .ok (.irem, 1) := by decide +kernel
theorem dX12_hasTwice_73 : decode cX12_hasTwice 73 = .ok (.aload_n 0, 1) := by decide +kernel
theorem dX12_hasTwice_74 : decode cX12_hasTwice 74 = .ok (.getfield 123, 3) := by decide +kernel
theorem dX12_hasTwice_77 : decode cX12_hasTwice 77 = .ok (.iload_n 2, 1) := by decide +kernel
theorem dX12_hasTwice_78 : decode cX12_hasTwice 78 = .ok (.iaload, 1) := by decide +kernel
theorem dX12_hasTwice_79 : decode cX12_hasTwice 79 = .ok (.imul, 1) := by decide +kernel
theorem dX12_hasTwice_80 : decode cX12_hasTwice 80 = .ok (.aload_n 0, 1) := by decide +kernel
theorem dX12_hasTwice_81 : decode cX12_hasTwice 81 = .ok (.getfield 7, 3) := by decide +kernel
theorem dX12_hasTwice_84 : decode cX12_hasTwice 84 = .ok (.irem, 1) := by decide +kernel
theorem dX12_hasTwice_85 : decode cX12_hasTwice 85 = .ok (.iastore, 1) := by decide +kernel
theorem dX12_hasTwice_86 : decode cX12_hasTwice 86 = .ok (.iinc 2 1, 3) := by decide +kernel
theorem dX12_hasTwice_89 : decode cX12_hasTwice 89 = .ok (.goto (-37), 3) := by decide +kernel
theorem dX12_hasTwice_92 : decode cX12_hasTwice 92 = .ok (.aload_n 0, 1) := by decide +kernel
theorem dX12_hasTwice_93 : decode cX12_hasTwice 93 = .ok (.getfield 126, 3) := by decide +kernel
theorem dX12_hasTwice_96 : decode cX12_hasTwice 96 = .ok (.invokestatic 281, 3) := by decide +kernel
theorem dX12_hasTwice_99 : decode cX12_hasTwice 99 = .ok (.ifCond .lt 167, 3) := by decide +kernel
theorem dX12_hasTwice_102 : decode cX12_hasTwice 102 = .ok (.aload_n 0, 1) := by decide +kernel
theorem dX12_hasTwice_103 : decode cX12_hasTwice 103 = .ok (.getfield 126, 3) := by decide +kernel
theorem dX12_hasTwice_106 : decode cX12_hasTwice 106 = .ok (.invokestatic 281, 3) := by decide +kernel
theorem dX12_hasTwice_109 : decode cX12_hasTwice 109 = .ok (.istore_n 2, 1) := by decide +kernel
theorem dX12_hasTwice_110 : decode cX12_hasTwice 110 = .ok (.aload_n 0, 1) := by decide +kernel
theorem dX12_hasTwice_111 : decode cX12_hasTwice 111 = .ok (.aload_n 0, 1) := by decide +kernel
theorem dX12_hasTwice_112 : decode cX12_hasTwice 112 = .ok (.getfield 126, 3) := by decide +kernel
theorem dX12_hasTwice_115 : decode cX12_hasTwice 115 = .ok (.iload_n 2, 1) := by decide +kernel
theorem dX12_hasTwice_116 : decode cX12_hasTwice 116 = .ok (.iaload, 1) := by decide +kernel
theorem dX12_hasTwice_117 : decode cX12_hasTwice 117 = .ok (.invokevirtual 223, 3) := by decide +kernel
theorem dX12_hasTwice_120 : decode cX12_hasTwice 120 = .ok (.istore_n 3, 1) := by decide +kernel
theorem dX12_hasTwice_121 : decode cX12_hasTwice 121 = .ok (.aload_n 0, 1) := by decide +kernel
theorem dX12_hasTwice_122 : decode cX12_hasTwice 122 = .ok (.getfield 123, 3) := by decide +kernel
theorem dX12_hasTwice_125 : decode cX12_hasTwice 125 = .ok (.invokestatic 281, 3) := by decide +kernel
theorem dX12_hasTwice_128 : decode cX12_hasTwice 128 = .ok (.istore 4, 2) := by decide +kernel
theorem dX12_hasTwice_130 : decode cX12_hasTwice 130 = .ok (.iload 4, 2) := by decide +kernel
theorem dX12_hasTwice_132 : decode cX12_hasTwice 132 = .ok (.iload_n 2, 1) := by decide +kernel
theorem dX12_hasTwice_133 : decode cX12_hasTwice 133 = .ok (.if_icmp .lt 82, 3) := by decide +kernel
theorem dX12_hasTwice_136 : decode cX12_hasTwice 136 = .ok (.aload_n 0, 1) := by decide +kernel
theorem dX12_hasTwice_137 : decode cX12_hasTwice 137 = .ok (.getfield 123, 3) := by decide +kernel
theorem dX12_hasTwice_140 : decode cX12_hasTwice 140 = .ok (.iload 4, 2) := by decide +kernel
theorem dX12_hasTwice_142 : decode cX12_hasTwice 142 = .ok (.iaload, 1) := by decide +kernel
theorem dX12_hasTwice_143 : decode cX12_hasTwice 143 = .ok (.iload_n 3, 1) := by decide +kernel
theorem dX12_hasTwice_144 : decode cX12_hasTwice 144 = .ok (.imul, 1) := by decide +kernel
theorem dX12_hasTwice_145 : decode cX12_hasTwice 145 = .ok (.aload_n 0, 1) := by decide +kernel
theorem dX12_hasTwice_146 : decode cX12_hasTwice 146 = .ok (.getfield 7, 3) := by decide +kernel
theorem dX12_hasTwice_149 : decode cX12_hasTwice 149 = .ok (.irem, 1) := by decide +kernel
theorem dX12_hasTwice_150 : decode cX12_hasTwice 150 = .ok (.istore 5, 2) := by decide +kernel
theorem dX12_hasTwice_152 : decode cX12_hasTwice 152 = .ok (.iconst 0, 1) := by decide +kernel
theorem dX12_hasTwice_153 : decode cX12_hasTwice 153 = .ok (.istore 6, 2) := by decide +kernel
theorem dX12_hasTwice_155 : decode cX12_hasTwice 155 = .ok (.iload 6, 2) := by decide +kernel
theorem dX12_hasTwice_157 : decode cX12_hasTwice 157 = .ok (.iload_n 2, 1) := by decide +kernel
theorem dX12_hasTwice_158 : decode cX12_hasTwice 158 = .ok (.if_icmp .gt 51, 3) := by decide +kernel
theorem dX12_hasTwice_161 : decode cX12_hasTwice 161 = .ok (.aload_n 0, 1) := by decide +kernel
theorem dX12_hasTwice_162 : decode cX12_hasTwice 162 = .ok (.getfield 123, 3) := by decide +kernel
theorem dX12_hasTwice_165 : decode cX12_hasTwice 165 = .ok (.iload 4, 2) := by decide +kernel
theorem dX12_hasTwice_167 : decode cX12_hasTwice 167 = .ok (.iload_n 2, 1) := by decide +kernel
theorem dX12_hasTwice_168 : decode cX12_hasTwice 168 = .ok (.isub, 1) := by decide +kernel
theorem dX12_hasTwice_169 : decode cX12_hasTwice 169 = .ok (.iload 6, 2) := by decide +kernel
theorem dX12_hasTwice_171 : decode cX12_hasTwice 171 = .ok (.iadd, 1) := by decide +kernel
theorem dX12_hasTwice_172 : decode cX12_hasTwice 172 = .ok (.aload_n 0, 1) := by decide +kernel
theorem dX12_hasTwice_173 : decode cX12_hasTwice 173 = .ok (.aload_n 0, 1) := by decide +kernel
theorem dX12_hasTwice_174 : decode cX12_hasTwice 174 = .ok (.getfield 123, 3) := by decide +kernel
theorem dX12_hasTwice_177 : decode cX12_hasTwice 177 = .ok (.iload 4, 2) := by decide +kernel
theorem dX12_hasTwice_179 : decode cX12_hasTwice 179 = .ok (.iload_n 2, 1) := by decide +kernel
theorem dX12_hasTwice_180 : decode cX12_hasTwice 180 = .ok (.isub, 1) := by decide +kernel
theorem dX12_hasTwice_181 : decode cX12_hasTwice 181 = .ok (.iload 6, 2) := by decide +kernel
theorem dX12_hasTwice_183 : decode cX12_hasTwice 183 = .ok (.iadd, 1) := by decide +kernel
theorem dX12_hasTwice_184 : decode cX12_hasTwice 184 = .ok (.iaload, 1) := by decide +kernel
theorem dX12_hasTwice_185 : decode cX12_hasTwice 185 = .ok (.i2l, 1) := by decide +kernel
theorem dX12_hasTwice_186 : decode cX12_hasTwice 186 = .ok (.iload 5, 2) := by decide +kernel
theorem dX12_hasTwice_188 : decode cX12_hasTwice 188 = .ok (.i2l, 1) := by decide +kernel
theorem dX12_hasTwice_189 : decode cX12_hasTwice 189 = .ok (.aload_n 0, 1) := by decide +kernel
theorem dX12_hasTwice_190 : decode cX12_hasTwice 190 = .ok (.getfield 126, 3) := by decide +kernel
theorem dX12_hasTwice_193 : decode cX12_hasTwice 193 = .ok (.iload 6, 2) := by decide +kernel
theorem dX12_hasTwice_195 : decode cX12_hasTwice 195 = .ok (.iaload, 1) := by decide +kernel
theorem dX12_hasTwice_196 : decode cX12_hasTwice 196 = .ok (.i2l, 1) := by decide +kernel
theorem dX12_hasTwice_197 : decode cX12_hasTwice 197 = .ok (.lmul, 1) := by decide +kernel
theorem dX12_hasTwice_198 : decode cX12_hasTwice 198 = .ok (.lsub, 1) := by decide +kernel
theorem dX12_hasTwice_199 : decode cX12_hasTwice 199 = .ok (.invokevirtual 188, 3) := by decide +kernel
theorem dX12_hasTwice_202 : decode cX12_hasTwice 202 = .ok (.iastore, 1) := by decide +kernel
theorem dX12_hasTwice_203 : decode cX12_hasTwice 203 = .ok (.iinc 6 1, 3) := by decide +kernel
theorem dX12_hasTwice_206 : decode cX12_hasTwice 206 = .ok (.goto (-51), 3) := by decide +kernel
theorem dX12_hasTwice_209 : decode cX12_hasTwice 209 = .ok (.iinc 4 (-1), 3) := by decide +kernel
theorem dX12_hasTwice_212 : decode cX12_hasTwice 212 = .ok (.goto (-82), 3) := by decide +kernel
theorem dX12_hasTwice_215 : decode cX12_hasTwice 215 = .ok (.iconst 0, 1) := by decide +kernel
theorem dX12_hasTwice_216 : decode cX12_hasTwice 216 = .ok (.istore 4, 2) := by decide +kernel
theorem dX12_hasTwice_218 : decode cX12_hasTwice 218 = .ok (.iload 4, 2) := by decide +kernel
theorem dX12_hasTwice_220 : decode cX12_hasTwice 220 = .ok (.bipush 10, 2) := by decide +kernel
theorem dX12_hasTwice_222 : decode cX12_hasTwice 222 = .ok (.if_icmp .ge 41, 3) := by decide +kernel
theorem dX12_hasTwice_225 : decode cX12_hasTwice 225 = .ok (.aload_n 0, 1) := by decide +kernel
theorem dX12_hasTwice_226 : decode cX12_hasTwice 226 = .ok (.getfield 123, 3) := by decide +kernel
theorem dX12_hasTwice_229 : decode cX12_hasTwice 229 = .ok (.iload 4, 2) := by decide +kernel
theorem dX12_hasTwice_231 : decode cX12_hasTwice 231 = .ok (.iaload, 1) := by decide +kernel
theorem dX12_hasTwice_232 : decode cX12_hasTwice 232 = .ok (.istore 5, 2) := by decide +kernel
theorem dX12_hasTwice_234 : decode cX12_hasTwice 234 = .ok (.aload_n 0, 1) := by decide +kernel
theorem dX12_hasTwice_235 : decode cX12_hasTwice 235 = .ok (.getfield 123, 3) := by decide +kernel
theorem dX12_hasTwice_238 : decode cX12_hasTwice 238 = .ok (.iload 4, 2) := by decide +kernel
theorem dX12_hasTwice_240 : decode cX12_hasTwice 240 = .ok (.aload_n 0, 1) := by decide +kernel
theorem dX12_hasTwice_241 : decode cX12_hasTwice 241 = .ok (.getfield 126, 3) := by decide +kernel
theorem dX12_hasTwice_244 : decode cX12_hasTwice 244 = .ok (.iload 4, 2) := by decide +kernel
theorem dX12_hasTwice_246 : decode cX12_hasTwice 246 = .ok (.iaload, 1) := by decide +kernel
theorem dX12_hasTwice_247 : decode cX12_hasTwice 247 = .ok (.iastore, 1) := by decide +kernel
theorem dX12_hasTwice_248 : decode cX12_hasTwice 248 = .ok (.aload_n 0, 1) := by decide +kernel
theorem dX12_hasTwice_249 : decode cX12_hasTwice 249 = .ok (.getfield 126, 3) := by decide +kernel
theorem dX12_hasTwice_252 : decode cX12_hasTwice 252 = .ok (.iload 4, 2) := by decide +kernel
theorem dX12_hasTwice_254 : decode cX12_hasTwice 254 = .ok (.iload 5, 2) := by decide +kernel
theorem dX12_hasTwice_256 : decode cX12_hasTwice 256 = .ok (.iastore, 1) := by decide +kernel
theorem dX12_hasTwice_257 : decode cX12_hasTwice 257 = .ok (.iinc 4 1, 3) := by decide +kernel
theorem dX12_hasTwice_260 : decode cX12_hasTwice 260 = .ok (.goto (-42), 3) := by decide +kernel
theorem dX12_hasTwice_263 : decode cX12_hasTwice 263 = .ok (.goto (-171), 3) := by decide +kernel
theorem dX12_hasTwice_266 : decode cX12_hasTwice 266 = .ok (.aload_n 0, 1) := by decide +kernel
theorem dX12_hasTwice_267 : decode cX12_hasTwice 267 = .ok (.getfield 123, 3) := by decide +kernel
theorem dX12_hasTwice_270 : decode cX12_hasTwice 270 = .ok (.invokestatic 281, 3) := by decide +kernel
theorem dX12_hasTwice_273 : decode cX12_hasTwice 273 = .ok (.ifCond .le 7, 3) := by decide +kernel
theorem dX12_hasTwice_276 : decode cX12_hasTwice 276 = .ok (.iconst 1, 1) := by decide +kernel
theorem dX12_hasTwice_277 : decode cX12_hasTwice 277 = .ok (.goto 4, 3) := by decide +kernel
theorem dX12_hasTwice_280 : decode cX12_hasTwice 280 = .ok (.iconst 0, 1) := by decide +kernel
theorem dX12_hasTwice_281 : decode cX12_hasTwice 281 = .ok (.ireturn, 1) := by decide +kernel
theorem dX12_valueOf_0 : decode cX12_valueOf 0 = .ok (.iload_n 1, 1) := by decide +kernel
theorem dX12_valueOf_1 : decode cX12_valueOf 1 = .ok (.ifCond .ne 10, 3) := by decide +kernel
theorem dX12_valueOf_4 : decode cX12_valueOf 4 = .ok (.aload_n 0, 1) := by decide +kernel
theorem dX12_valueOf_5 : decode cX12_valueOf 5 = .ok (.getfield 13, 3) := by decide +kernel
theorem dX12_valueOf_8 : decode cX12_valueOf 8 = .ok (.goto 7, 3) := by decide +kernel
theorem dX12_valueOf_11 : decode cX12_valueOf 11 = .ok (.aload_n 0, 1) := by decide +kernel
theorem dX12_valueOf_12 : decode cX12_valueOf 12 = .ok (.getfield 16, 3) := by decide +kernel
theorem dX12_valueOf_15 : decode cX12_valueOf 15 = .ok (.istore 4, 2) := by decide +kernel
theorem dX12_valueOf_17 : decode cX12_valueOf 17 = .ok (.iload_n 1, 1) := by decide +kernel
theorem dX12_valueOf_18 : decode cX12_valueOf 18 = .ok (.ifCond .ne 7, 3) := by decide +kernel
theorem dX12_valueOf_21 : decode cX12_valueOf 21 = .ok (.iload_n 2, 1) := by decide +kernel
theorem dX12_valueOf_22 : decode cX12_valueOf 22 = .ok (.goto 4, 3) := by decide +kernel
theorem dX12_valueOf_25 : decode cX12_valueOf 25 = .ok (.iload_n 3, 1) := by decide +kernel
theorem dX12_valueOf_26 : decode cX12_valueOf 26 = .ok (.istore 5, 2) := by decide +kernel
theorem dX12_valueOf_28 : decode cX12_valueOf 28 = .ok (.iconst 1, 1) := by decide +kernel
theorem dX12_valueOf_29 : decode cX12_valueOf 29 = .ok (.istore 6, 2) := by decide +kernel
theorem dX12_valueOf_31 : decode cX12_valueOf 31 = .ok (.iconst 0, 1) := by decide +kernel
theorem dX12_valueOf_32 : decode cX12_valueOf 32 = .ok (.istore 7, 2) := by decide +kernel
theorem dX12_valueOf_34 : decode cX12_valueOf 34 = .ok (.iload 7, 2) := by decide +kernel
theorem dX12_valueOf_36 : decode cX12_valueOf 36 = .ok (.iload 4, 2) := by decide +kernel
theorem dX12_valueOf_38 : decode cX12_valueOf 38 = .ok (.if_icmp .ge 21, 3) := by decide +kernel
theorem dX12_valueOf_41 : decode cX12_valueOf 41 = .ok (.iload 6, 2) := by decide +kernel
theorem dX12_valueOf_43 : decode cX12_valueOf 43 = .ok (.iload 5, 2) := by decide +kernel
theorem dX12_valueOf_45 : decode cX12_valueOf 45 = .ok (.imul, 1) := by decide +kernel
theorem dX12_valueOf_46 : decode cX12_valueOf 46 = .ok (.aload_n 0, 1) := by decide +kernel
theorem dX12_valueOf_47 : decode cX12_valueOf 47 = .ok (.getfield 7, 3) := by decide +kernel
theorem dX12_valueOf_50 : decode cX12_valueOf 50 = .ok (.irem, 1) := by decide +kernel
theorem dX12_valueOf_51 : decode cX12_valueOf 51 = .ok (.istore 6, 2) := by decide +kernel
theorem dX12_valueOf_53 : decode cX12_valueOf 53 = .ok (.iinc 7 1, 3) := by decide +kernel
theorem dX12_valueOf_56 : decode cX12_valueOf 56 = .ok (.goto (-22), 3) := by decide +kernel
theorem dX12_valueOf_59 : decode cX12_valueOf 59 = .ok (.iconst 1, 1) := by decide +kernel
theorem dX12_valueOf_60 : decode cX12_valueOf 60 = .ok (.istore 7, 2) := by decide +kernel
theorem dX12_valueOf_62 : decode cX12_valueOf 62 = .ok (.iconst 0, 1) := by decide +kernel
theorem dX12_valueOf_63 : decode cX12_valueOf 63 = .ok (.istore 8, 2) := by decide +kernel
theorem dX12_valueOf_65 : decode cX12_valueOf 65 = .ok (.iload 8, 2) := by decide +kernel
theorem dX12_valueOf_67 : decode cX12_valueOf 67 = .ok (.iload 4, 2) := by decide +kernel
theorem dX12_valueOf_69 : decode cX12_valueOf 69 = .ok (.if_icmp .ge 84, 3) := by decide +kernel
theorem dX12_valueOf_72 : decode cX12_valueOf 72 = .ok (.iload 7, 2) := by decide +kernel
theorem dX12_valueOf_74 : decode cX12_valueOf 74 = .ok (.istore 9, 2) := by decide +kernel
theorem dX12_valueOf_76 : decode cX12_valueOf 76 = .ok (.iconst 0, 1) := by decide +kernel
theorem dX12_valueOf_77 : decode cX12_valueOf 77 = .ok (.istore 10, 2) := by decide +kernel
theorem dX12_valueOf_79 : decode cX12_valueOf 79 = .ok (.iload 8, 2) := by decide +kernel
theorem dX12_valueOf_81 : decode cX12_valueOf 81 = .ok (.iload 10, 2) := by decide +kernel
theorem dX12_valueOf_83 : decode cX12_valueOf 83 = .ok (.iadd, 1) := by decide +kernel
theorem dX12_valueOf_84 : decode cX12_valueOf 84 = .ok (.iload 4, 2) := by decide +kernel
theorem dX12_valueOf_86 : decode cX12_valueOf 86 = .ok (.if_icmp .ge 50, 3) := by decide +kernel
theorem dX12_valueOf_89 : decode cX12_valueOf 89 = .ok (.iload 6, 2) := by decide +kernel
theorem dX12_valueOf_91 : decode cX12_valueOf 91 = .ok (.aload_n 0, 1) := by decide +kernel
theorem dX12_valueOf_92 : decode cX12_valueOf 92 = .ok (.getfield 25, 3) := by decide +kernel
theorem dX12_valueOf_95 : decode cX12_valueOf 95 = .ok (.bipush 9, 2) := by decide +kernel
theorem dX12_valueOf_97 : decode cX12_valueOf 97 = .ok (.iload_n 1, 1) := by decide +kernel
theorem dX12_valueOf_98 : decode cX12_valueOf 98 = .ok (.imul, 1) := by decide +kernel
theorem dX12_valueOf_99 : decode cX12_valueOf 99 = .ok (.iconst 3, 1) := by decide +kernel
theorem dX12_valueOf_100 : decode cX12_valueOf 100 = .ok (.iload 8, 2) := by decide +kernel
theorem dX12_valueOf_102 : decode cX12_valueOf 102 = .ok (.imul, 1) := by decide +kernel
theorem dX12_valueOf_103 : decode cX12_valueOf 103 = .ok (.iadd, 1) := by decide +kernel
theorem dX12_valueOf_104 : decode cX12_valueOf 104 = .ok (.iload 10, 2) := by decide +kernel
theorem dX12_valueOf_106 : decode cX12_valueOf 106 = .ok (.iadd, 1) := by decide +kernel
theorem dX12_valueOf_107 : decode cX12_valueOf 107 = .ok (.iaload, 1) := by decide +kernel
theorem dX12_valueOf_108 : decode cX12_valueOf 108 = .ok (.iload 9, 2) := by decide +kernel
theorem dX12_valueOf_110 : decode cX12_valueOf 110 = .ok (.imul, 1) := by decide +kernel
theorem dX12_valueOf_111 : decode cX12_valueOf 111 = .ok (.iadd, 1) := by decide +kernel
theorem dX12_valueOf_112 : decode cX12_valueOf 112 = .ok (.aload_n 0, 1) := by decide +kernel
theorem dX12_valueOf_113 : decode cX12_valueOf 113 = .ok (.getfield 7, 3) := by decide +kernel
theorem dX12_valueOf_116 : decode cX12_valueOf 116 = .ok (.irem, 1) := by decide +kernel
theorem dX12_valueOf_117 : decode cX12_valueOf 117 = .ok (.istore 6, 2) := by decide +kernel
theorem dX12_valueOf_119 : decode cX12_valueOf 119 = .ok (.iload 9, 2) := by decide +kernel
theorem dX12_valueOf_121 : decode cX12_valueOf 121 = .ok (.iload_n 3, 1) := by decide +kernel
theorem dX12_valueOf_122 : decode cX12_valueOf 122 = .ok (.imul, 1) := by decide +kernel
theorem dX12_valueOf_123 : decode cX12_valueOf 123 = .ok (.aload_n 0, 1) := by decide +kernel
theorem dX12_valueOf_124 : decode cX12_valueOf 124 = .ok (.getfield 7, 3) := by decide +kernel
theorem dX12_valueOf_127 : decode cX12_valueOf 127 = .ok (.irem, 1) := by decide +kernel
theorem dX12_valueOf_128 : decode cX12_valueOf 128 = .ok (.istore 9, 2) := by decide +kernel
theorem dX12_valueOf_130 : decode cX12_valueOf 130 = .ok (.iinc 10 1, 3) := by decide +kernel
theorem dX12_valueOf_133 : decode cX12_valueOf 133 = .ok (.goto (-54), 3) := by decide +kernel
theorem dX12_valueOf_136 : decode cX12_valueOf 136 = .ok (.iload 7, 2) := by decide +kernel
theorem dX12_valueOf_138 : decode cX12_valueOf 138 = .ok (.iload_n 2, 1) := by decide +kernel
theorem dX12_valueOf_139 : decode cX12_valueOf 139 = .ok (.imul, 1) := by decide +kernel
theorem dX12_valueOf_140 : decode cX12_valueOf 140 = .ok (.aload_n 0, 1) := by decide +kernel
theorem dX12_valueOf_141 : decode cX12_valueOf 141 = .ok (.getfield 7, 3) := by decide +kernel
theorem dX12_valueOf_144 : decode cX12_valueOf 144 = .ok (.irem, 1) := by decide +kernel
theorem dX12_valueOf_145 : decode cX12_valueOf 145 = .ok (.istore 7, 2) := by decide +kernel
theorem dX12_valueOf_147 : decode cX12_valueOf 147 = .ok (.iinc 8 1, 3) := by decide +kernel
theorem dX12_valueOf_150 : decode cX12_valueOf 150 = .ok (.goto (-85), 3) := by decide +kernel
theorem dX12_valueOf_153 : decode cX12_valueOf 153 = .ok (.iload 6, 2) := by decide +kernel
theorem dX12_valueOf_155 : decode cX12_valueOf 155 = .ok (.ireturn, 1) := by decide +kernel
set_option maxRecDepth 20000 in
theorem ggX12_findsRoots_X12_valueOf : GoodIn wsX12_findsRoots wsX12_valueOf := goodIn_r _ [9, 10, 11, 2, 12, 13, 14, 15, 16, 17, 18, 19, 20, 21, 22, 23, 24, 25, 26, 27, 28, 29, 30, 31, 32, 33, 34, 35, 36, 37, 38, 39, 40, 41, 42, 43, 44, 45, 46, 47, 48, 49, 50, 51, 52, 53, 54, 55, 56, 57, 58, 59, 60, 61, 62, 63, 64, 65, 66] rfl (by decide +kernel)
set_option maxRecDepth 20000 in
theorem gX12_findsRoots_X12_valueOf : GoodIn wsX12_findsRoots (wsV RX12 288 RX12 yX12_valueOf wsX12_valueOf) := goodIn_app (goodIn_of _ (by decide +kernel)) ggX12_findsRoots_X12_valueOf
theorem dX12_findsRoots_0 : decode cX12_findsRoots 0 = .ok (.aload_n 0, 1) := by decide +kernel
theorem dX12_findsRoots_1 : decode cX12_findsRoots 1 = .ok (.iconst 0, 1) := by decide +kernel
theorem dX12_findsRoots_2 : decode cX12_findsRoots 2 = .ok (.putfield 285, 3) := by decide +kernel
theorem dX12_findsRoots_5 : decode cX12_findsRoots 5 = .ok (.iconst 0, 1) := by decide +kernel
theorem dX12_findsRoots_6 : decode cX12_findsRoots 6 = .ok (.istore_n 1, 1) := by decide +kernel
theorem dX12_findsRoots_7 : decode cX12_findsRoots 7 = .ok (.iload_n 1, 1) := by decide +kernel
theorem dX12_findsRoots_8 : decode cX12_findsRoots 8 = .ok (.aload_n 0, 1) := by decide +kernel
theorem dX12_findsRoots_9 : decode cX12_findsRoots 9 = .ok (.getfield 7, 3) := by decide +kernel
theorem dX12_findsRoots_12 : decode cX12_findsRoots 12 = .ok (.if_icmp .ge 75, 3) := by decide +kernel
theorem dX12_findsRoots_15 : decode cX12_findsRoots 15 = .ok (.iconst 0, 1) := by decide +kernel
theorem dX12_findsRoots_16 : decode cX12_findsRoots 16 = .ok (.istore_n 2, 1) := by decide +kernel
theorem dX12_findsRoots_17 : decode cX12_findsRoots 17 = .ok (.iload_n 2, 1) := by decide +kernel
theorem dX12_findsRoots_18 : decode cX12_findsRoots 18 = .ok (.aload_n 0, 1) := by decide +kernel
theorem dX12_findsRoots_19 : decode cX12_findsRoots 19 = .ok (.getfield 7, 3) := by decide +kernel
theorem dX12_findsRoots_22 : decode cX12_findsRoots 22 = .ok (.if_icmp .ge 59, 3) := by decide +kernel
theorem dX12_findsRoots_25 : decode cX12_findsRoots 25 = .ok (.aload_n 0, 1) := by decide +kernel
theorem dX12_findsRoots_26 : decode cX12_findsRoots 26 = .ok (.iconst 0, 1) := by decide +kernel
theorem dX12_findsRoots_27 : decode cX12_findsRoots 27 = .ok (.iload_n 1, 1) := by decide +kernel
theorem dX12_findsRoots_28 : decode cX12_findsRoots 28 = .ok (.iload_n 2, 1) := by decide +kernel
theorem dX12_findsRoots_29 : decode cX12_findsRoots 29 = .ok (.invokevirtual 288, 3) := by decide +kernel
theorem dX12_findsRoots_32 : decode cX12_findsRoots 32 = .ok (.ifCond .ne 43, 3) := by decide +kernel
theorem dX12_findsRoots_35 : decode cX12_findsRoots 35 = .ok (.aload_n 0, 1) := by decide +kernel
theorem dX12_findsRoots_36 : decode cX12_findsRoots 36 = .ok (.iconst 1, 1) := by decide +kernel
theorem dX12_findsRoots_37 : decode cX12_findsRoots 37 = .ok (.iload_n 1, 1) := by decide +kernel
theorem dX12_findsRoots_38 : decode cX12_findsRoots 38 = .ok (.iload_n 2, 1) := by decide +kernel
theorem dX12_findsRoots_39 : decode cX12_findsRoots 39 = .ok (.invokevirtual 288, 3) := by decide +kernel
theorem dX12_findsRoots_42 : decode cX12_findsRoots 42 = .ok (.ifCond .ne 33, 3) := by decide +kernel
theorem dX12_findsRoots_45 : decode cX12_findsRoots 45 = .ok (.aload_n 0, 1) := by decide +kernel
theorem dX12_findsRoots_46 : decode cX12_findsRoots 46 = .ok (.getfield 129, 3) := by decide +kernel
theorem dX12_findsRoots_49 : decode cX12_findsRoots 49 = .ok (.aload_n 0, 1) := by decide +kernel
theorem dX12_findsRoots_50 : decode cX12_findsRoots 50 = .ok (.getfield 285, 3) := by decide +kernel
theorem dX12_findsRoots_53 : decode cX12_findsRoots 53 = .ok (.iload_n 1, 1) := by decide +kernel
theorem dX12_findsRoots_54 : decode cX12_findsRoots 54 = .ok (.iastore, 1) := by decide +kernel
theorem dX12_findsRoots_55 : decode cX12_findsRoots 55 = .ok (.aload_n 0, 1) := by decide +kernel
theorem dX12_findsRoots_56 : decode cX12_findsRoots 56 = .ok (.getfield 132, 3) := by decide +kernel
theorem dX12_findsRoots_59 : decode cX12_findsRoots 59 = .ok (.aload_n 0, 1) := by decide +kernel
theorem dX12_findsRoots_60 : decode cX12_findsRoots 60 = .ok (.getfield 285, 3) := by decide +kernel
theorem dX12_findsRoots_63 : decode cX12_findsRoots 63 = .ok (.iload_n 2, 1) := by decide +kernel
theorem dX12_findsRoots_64 : decode cX12_findsRoots 64 = .ok (.iastore, 1) := by decide +kernel
theorem dX12_findsRoots_65 : decode cX12_findsRoots 65 = .ok (.aload_n 0, 1) := by decide +kernel
theorem dX12_findsRoots_66 : decode cX12_findsRoots 66 = .ok (.dup, 1) := by decide +kernel
theorem dX12_findsRoots_67 : decode cX12_findsRoots 67 = .ok (.getfield 285, 3) := by decide +kernel
theorem dX12_findsRoots_70 : decode cX12_findsRoots 70 = .ok (.iconst 1, 1) := by decide +kernel
theorem dX12_findsRoots_71 : decode cX12_findsRoots 71 = .ok (.iadd, 1) := by decide +kernel
theorem dX12_findsRoots_72 : decode cX12_findsRoots 72 = .ok (.putfield 285, 3) := by decide +kernel
theorem dX12_findsRoots_75 : decode cX12_findsRoots 75 = .ok (.iinc 2 1, 3) := by decide +kernel
theorem dX12_findsRoots_78 : decode cX12_findsRoots 78 = .ok (.goto (-61), 3) := by decide +kernel
theorem dX12_findsRoots_81 : decode cX12_findsRoots 81 = .ok (.iinc 1 1, 3) := by decide +kernel
theorem dX12_findsRoots_84 : decode cX12_findsRoots 84 = .ok (.goto (-77), 3) := by decide +kernel
theorem dX12_findsRoots_87 : decode cX12_findsRoots 87 = .ok (.return_, 1) := by decide +kernel
set_option maxRecDepth 20000 in
theorem ggX12_root_X12_in : GoodIn wsX12_root wsX12_in := goodIn_r _ [7] rfl (by decide +kernel)
set_option maxRecDepth 20000 in
theorem gX12_root_X12_in : GoodIn wsX12_root (va_wsS RX12 155 yX12_in wsX12_in) := goodIn_app (goodIn_of _ (by decide +kernel)) ggX12_root_X12_in
set_option maxRecDepth 20000 in
theorem ggX12_root_X12_findsRoots : GoodIn wsX12_root wsX12_findsRoots := goodIn_r _ [11, 1, 12, 2, 3, 13, 14, 15, 6, 16, 17, 18, 19, 20, 21, 22, 23, 24, 25, 26, 27, 28, 29, 30, 31, 32, 33, 34, 35, 36, 37, 38, 39, 40, 41, 42, 43, 44, 45, 46, 47, 48, 49, 50, 51, 52, 53, 54, 55, 56, 57, 58, 59, 60, 61, 62, 63, 64, 65, 66, 67, 68, 69, 70, 71, 72, 73] rfl (by decide +kernel)
set_option maxRecDepth 20000 in
theorem gX12_root_X12_findsRoots : GoodIn wsX12_root (wsV RX12 292 RX12 yX12_findsRoots wsX12_findsRoots) := goodIn_app (goodIn_of _ (by decide +kernel)) ggX12_root_X12_findsRoots
theorem dX12_root_0 : decode cX12_root 0 = .ok (.iload_n 1, 1) := by decide +kernel
theorem dX12_root_1 : decode cX12_root 1 = .ok (.ifCond .lt 13, 3) := by decide +kernel
theorem dX12_root_4 : decode cX12_root 4 = .ok (.iload_n 2, 1) := by decide +kernel
theorem dX12_root_5 : decode cX12_root 5 = .ok (.i2l, 1) := by decide +kernel
theorem dX12_root_6 : decode cX12_root 6 = .ok (.lconst 0, 1) := by decide +kernel
theorem dX12_root_7 : decode cX12_root 7 = .ok (.lconst 1, 1) := by decide +kernel
theorem dX12_root_8 : decode cX12_root 8 = .ok (.invokestatic 155, 3) := by decide +kernel
theorem dX12_root_11 : decode cX12_root 11 = .ok (.ifCond .ne 5, 3) := by decide +kernel
theorem dX12_root_14 : decode cX12_root 14 = .ok (.iconst (-1), 1) := by decide +kernel
theorem dX12_root_15 : decode cX12_root 15 = .ok (.ireturn, 1) := by decide +kernel
theorem dX12_root_16 : decode cX12_root 16 = .ok (.aload_n 0, 1) := by decide +kernel
theorem dX12_root_17 : decode cX12_root 17 = .ok (.invokevirtual 292, 3) := by decide +kernel
theorem dX12_root_20 : decode cX12_root 20 = .ok (.iload_n 1, 1) := by decide +kernel
theorem dX12_root_21 : decode cX12_root 21 = .ok (.aload_n 0, 1) := by decide +kernel
theorem dX12_root_22 : decode cX12_root 22 = .ok (.getfield 285, 3) := by decide +kernel
theorem dX12_root_25 : decode cX12_root 25 = .ok (.if_icmp .lt 8, 3) := by decide +kernel
theorem dX12_root_28 : decode cX12_root 28 = .ok (.bipush (-4), 2) := by decide +kernel
theorem dX12_root_30 : decode cX12_root 30 = .ok (.goto 22, 3) := by decide +kernel
theorem dX12_root_33 : decode cX12_root 33 = .ok (.iload_n 2, 1) := by decide +kernel
theorem dX12_root_34 : decode cX12_root 34 = .ok (.ifCond .ne 12, 3) := by decide +kernel
theorem dX12_root_37 : decode cX12_root 37 = .ok (.aload_n 0, 1) := by decide +kernel
theorem dX12_root_38 : decode cX12_root 38 = .ok (.getfield 129, 3) := by decide +kernel
theorem dX12_root_41 : decode cX12_root 41 = .ok (.iload_n 1, 1) := by decide +kernel
theorem dX12_root_42 : decode cX12_root 42 = .ok (.iaload, 1) := by decide +kernel
theorem dX12_root_43 : decode cX12_root 43 = .ok (.goto 9, 3) := by decide +kernel
theorem dX12_root_46 : decode cX12_root 46 = .ok (.aload_n 0, 1) := by decide +kernel
theorem dX12_root_47 : decode cX12_root 47 = .ok (.getfield 132, 3) := by decide +kernel
theorem dX12_root_50 : decode cX12_root 50 = .ok (.iload_n 1, 1) := by decide +kernel
theorem dX12_root_51 : decode cX12_root 51 = .ok (.iaload, 1) := by decide +kernel
theorem dX12_root_52 : decode cX12_root 52 = .ok (.ireturn, 1) := by decide +kernel
set_option maxRecDepth 20000 in
theorem ggX12_isPlain_X12_walks : GoodIn wsX12_isPlain wsX12_walks := goodIn_r _ [11, 12, 13, 14, 5, 3, 15, 16, 17, 18, 19, 20, 10, 21, 22, 23, 24, 25, 26, 27, 28, 29, 30, 31, 32, 33, 34, 35, 36, 37, 38, 39, 40, 41, 42, 43, 44, 45, 46, 47, 48, 49, 50, 51, 52, 53, 54, 55, 56, 57, 4, 6, 58, 59, 60, 61, 62, 63, 64, 65, 66, 67, 68, 69, 70, 71, 72, 73, 74, 75, 76, 77, 78, 79, 80, 81, 82, 83, 84, 85, 86, 87, 88, 89, 90, 91, 92, 93, 94, 95, 96, 97, 98, 99, 100, 101, 102, 103, 104, 105, 106, 107, 108, 109, 110, 111, 112, 113, 114, 115, 116, 117, 118, 119, 120, 121, 122, 123, 124, 125, 126, 127, 128, 129, 130, 131, 132, 133, 134, 135, 136, 137, 138, 139, 140, 141, 142, 143, 144, 145, 146, 147, 148, 149, 150, 151, 152, 153, 154, 155] rfl (by decide +kernel)
set_option maxRecDepth 20000 in
theorem gX12_isPlain_X12_walks : GoodIn wsX12_isPlain (wsV RX12 262 RX12 yX12_walks wsX12_walks) := goodIn_app (goodIn_of _ (by decide +kernel)) ggX12_isPlain_X12_walks
theorem dX12_isPlain_0 : decode cX12_isPlain 0 = .ok (.aload_n 0, 1) := by decide +kernel
theorem dX12_isPlain_1 : decode cX12_isPlain 1 = .ok (.iconst 0, 1) := by decide +kernel
theorem dX12_isPlain_2 : decode cX12_isPlain 2 = .ok (.aload_n 0, 1) := by decide +kernel
theorem dX12_isPlain_3 : decode cX12_isPlain 3 = .ok (.getfield 19, 3) := by decide +kernel
theorem dX12_isPlain_6 : decode cX12_isPlain 6 = .ok (.aload_n 0, 1) := by decide +kernel
theorem dX12_isPlain_7 : decode cX12_isPlain 7 = .ok (.getfield 22, 3) := by decide +kernel
theorem dX12_isPlain_10 : decode cX12_isPlain 10 = .ok (.invokevirtual 262, 3) := by decide +kernel
theorem dX12_isPlain_13 : decode cX12_isPlain 13 = .ok (.aload_n 0, 1) := by decide +kernel
theorem dX12_isPlain_14 : decode cX12_isPlain 14 = .ok (.getfield 230, 3) := by decide +kernel
theorem dX12_isPlain_17 : decode cX12_isPlain 17 = .ok (.iconst 2, 1) := by decide +kernel
theorem dX12_isPlain_18 : decode cX12_isPlain 18 = .ok (.if_icmp .ne 41, 3) := by decide +kernel
theorem dX12_isPlain_21 : decode cX12_isPlain 21 = .ok (.aload_n 0, 1) := by decide +kernel
theorem dX12_isPlain_22 : decode cX12_isPlain 22 = .ok (.getfield 90, 3) := by decide +kernel
theorem dX12_isPlain_25 : decode cX12_isPlain 25 = .ok (.aload_n 0, 1) := by decide +kernel
theorem dX12_isPlain_26 : decode cX12_isPlain 26 = .ok (.getfield 220, 3) := by decide +kernel
theorem dX12_isPlain_29 : decode cX12_isPlain 29 = .ok (.iconst 1, 1) := by decide +kernel
theorem dX12_isPlain_30 : decode cX12_isPlain 30 = .ok (.isub, 1) := by decide +kernel
theorem dX12_isPlain_31 : decode cX12_isPlain 31 = .ok (.iaload, 1) := by decide +kernel
theorem dX12_isPlain_32 : decode cX12_isPlain 32 = .ok (.ifCond .ne 27, 3) := by decide +kernel
theorem dX12_isPlain_35 : decode cX12_isPlain 35 = .ok (.aload_n 0, 1) := by decide +kernel
theorem dX12_isPlain_36 : decode cX12_isPlain 36 = .ok (.getfield 93, 3) := by decide +kernel
theorem dX12_isPlain_39 : decode cX12_isPlain 39 = .ok (.aload_n 0, 1) := by decide +kernel
theorem dX12_isPlain_40 : decode cX12_isPlain 40 = .ok (.getfield 220, 3) := by decide +kernel
theorem dX12_isPlain_43 : decode cX12_isPlain 43 = .ok (.iconst 1, 1) := by decide +kernel
theorem dX12_isPlain_44 : decode cX12_isPlain 44 = .ok (.isub, 1) := by decide +kernel
theorem dX12_isPlain_45 : decode cX12_isPlain 45 = .ok (.iaload, 1) := by decide +kernel
theorem dX12_isPlain_46 : decode cX12_isPlain 46 = .ok (.aload_n 0, 1) := by decide +kernel
theorem dX12_isPlain_47 : decode cX12_isPlain 47 = .ok (.getfield 220, 3) := by decide +kernel
theorem dX12_isPlain_50 : decode cX12_isPlain 50 = .ok (.iconst 1, 1) := by decide +kernel
theorem dX12_isPlain_51 : decode cX12_isPlain 51 = .ok (.isub, 1) := by decide +kernel
theorem dX12_isPlain_52 : decode cX12_isPlain 52 = .ok (.if_icmp .ne 7, 3) := by decide +kernel
theorem dX12_isPlain_55 : decode cX12_isPlain 55 = .ok (.iconst 1, 1) := by decide +kernel
theorem dX12_isPlain_56 : decode cX12_isPlain 56 = .ok (.goto 4, 3) := by decide +kernel
theorem dX12_isPlain_59 : decode cX12_isPlain 59 = .ok (.iconst 0, 1) := by decide +kernel
theorem dX12_isPlain_60 : decode cX12_isPlain 60 = .ok (.ireturn, 1) := by decide +kernel
theorem dX12_slotsOf_0 : decode cX12_slotsOf 0 = .ok (.iconst 0, 1) := by decide +kernel
theorem dX12_slotsOf_1 : decode cX12_slotsOf 1 = .ok (.istore_n 2, 1) := by decide +kernel
theorem dX12_slotsOf_2 : decode cX12_slotsOf 2 = .ok (.iconst 0, 1) := by decide +kernel
theorem dX12_slotsOf_3 : decode cX12_slotsOf 3 = .ok (.istore_n 3, 1) := by decide +kernel
theorem dX12_slotsOf_4 : decode cX12_slotsOf 4 = .ok (.iload_n 3, 1) := by decide +kernel
theorem dX12_slotsOf_5 : decode cX12_slotsOf 5 = .ok (.iconst 4, 1) := by decide +kernel
theorem dX12_slotsOf_6 : decode cX12_slotsOf 6 = .ok (.if_icmp .ge 27, 3) := by decide +kernel
theorem dX12_slotsOf_9 : decode cX12_slotsOf 9 = .ok (.iload_n 2, 1) := by decide +kernel
theorem dX12_slotsOf_10 : decode cX12_slotsOf 10 = .ok (.aload_n 0, 1) := by decide +kernel
theorem dX12_slotsOf_11 : decode cX12_slotsOf 11 = .ok (.getfield 29, 3) := by decide +kernel
theorem dX12_slotsOf_14 : decode cX12_slotsOf 14 = .ok (.iload_n 3, 1) := by decide +kernel
theorem dX12_slotsOf_15 : decode cX12_slotsOf 15 = .ok (.iaload, 1) := by decide +kernel
theorem dX12_slotsOf_16 : decode cX12_slotsOf 16 = .ok (.iload_n 1, 1) := by decide +kernel
theorem dX12_slotsOf_17 : decode cX12_slotsOf 17 = .ok (.if_icmp .ne 7, 3) := by decide +kernel
theorem dX12_slotsOf_20 : decode cX12_slotsOf 20 = .ok (.iconst 1, 1) := by decide +kernel
theorem dX12_slotsOf_21 : decode cX12_slotsOf 21 = .ok (.goto 4, 3) := by decide +kernel
theorem dX12_slotsOf_24 : decode cX12_slotsOf 24 = .ok (.iconst 0, 1) := by decide +kernel
theorem dX12_slotsOf_25 : decode cX12_slotsOf 25 = .ok (.iadd, 1) := by decide +kernel
theorem dX12_slotsOf_26 : decode cX12_slotsOf 26 = .ok (.istore_n 2, 1) := by decide +kernel
theorem dX12_slotsOf_27 : decode cX12_slotsOf 27 = .ok (.iinc 3 1, 3) := by decide +kernel
theorem dX12_slotsOf_30 : decode cX12_slotsOf 30 = .ok (.goto (-26), 3) := by decide +kernel
theorem dX12_slotsOf_33 : decode cX12_slotsOf 33 = .ok (.iload_n 2, 1) := by decide +kernel
theorem dX12_slotsOf_34 : decode cX12_slotsOf 34 = .ok (.ireturn, 1) := by decide +kernel
set_option maxRecDepth 20000 in
theorem ggX12_count_X12_dimension : GoodIn wsX12_count wsX12_dimension := goodIn_r _ [11, 2, 3, 137, 138, 139, 140, 141, 142, 143, 144, 145, 146, 147, 148, 149, 150, 151, 152, 153, 154, 155, 156, 157, 158, 159, 160, 161, 162, 163, 164, 165, 166, 167, 168, 169, 170, 171, 172, 173, 174, 175, 176, 177, 178, 179, 180, 181, 182, 183, 184, 185, 186, 187, 188, 189, 190] rfl (by decide +kernel)
set_option maxRecDepth 20000 in
theorem gX12_count_X12_dimension : GoodIn wsX12_count (wsV RX12 168 RX12 yX12_dimension wsX12_dimension) := goodIn_app (goodIn_of _ (by decide +kernel)) ggX12_count_X12_dimension
set_option maxRecDepth 20000 in
theorem ggX12_count_X12_isPlain : GoodIn wsX12_count wsX12_isPlain := goodIn_r _ [15, 4, 5, 16, 17, 18, 19, 20, 21, 22, 10, 23, 24, 25, 26, 27, 28, 29, 30, 31, 32, 33, 3, 2, 34, 35, 36, 37, 38, 39, 40, 41, 42, 43, 44, 45, 46, 47, 48, 49, 1, 50, 51, 52, 53, 54, 55, 56, 57, 58, 59, 60, 61, 62, 63, 64, 65, 66, 67, 68, 69, 70, 71, 72, 73, 74, 75, 76, 77, 78, 79, 80, 81, 7, 8, 9, 11, 82, 83, 84, 85, 86, 87, 88, 89, 90, 91, 92, 93, 94, 95, 96, 97, 98, 99, 100, 101, 102, 103, 104, 105, 106, 137, 138, 139, 140, 141, 142, 143, 144, 145, 146, 147, 148, 149, 150, 151, 152, 153, 154, 155, 156, 157, 158, 159, 160, 161, 162, 163, 164, 165, 166, 167, 168, 169, 170, 171, 172, 173, 174, 175, 176, 177, 178, 179, 180, 181, 182, 183, 184, 185, 186, 187, 188, 189, 190] rfl (by decide +kernel)
set_option maxRecDepth 20000 in
theorem gX12_count_X12_isPlain : GoodIn wsX12_count (wsV RX12 295 RX12 yX12_isPlain wsX12_isPlain) := goodIn_app (goodIn_of _ (by decide +kernel)) ggX12_count_X12_isPlain
set_option maxRecDepth 20000 in
theorem ggX12_count_X12_hasTwice : GoodIn wsX12_count wsX12_hasTwice := goodIn_r _ [110, 111, 112, 113, 114, 1, 115, 116, 117, 10, 118, 61, 62, 98, 20, 21, 22, 23, 24, 25, 26, 18, 16, 27, 28, 29, 30, 31, 32, 33, 3, 2, 34, 35, 36, 37, 38, 39, 40, 41, 42, 43, 44, 45, 46, 47, 48, 49, 50, 51, 52, 53, 54, 55, 56, 57, 58, 59, 60, 63, 64, 65, 66, 17, 19, 67, 68, 69, 70, 71, 72, 73, 74, 75, 76, 77, 78, 79, 80, 81, 7, 8, 9, 11, 82, 83, 84, 85, 86, 87, 88, 89, 90, 91, 92, 93, 94, 95, 96, 97, 99, 100, 101, 102, 103, 104, 105, 106, 119, 120, 121, 137, 138, 139, 140, 141, 142, 143, 144, 145, 146, 147, 148, 149, 150, 151, 152, 153, 154, 155, 156, 157, 158, 159, 160, 161, 162, 163, 164, 165, 166, 167, 168, 169, 170, 171, 172, 173, 174, 175, 176, 177, 178, 179, 180, 181, 182, 183, 184, 185, 186, 187, 188, 189, 190] rfl (by decide +kernel)
set_option maxRecDepth 20000 in
theorem gX12_count_X12_hasTwice : GoodIn wsX12_count (wsV RX12 299 RX12 yX12_hasTwice wsX12_hasTwice) := goodIn_app (goodIn_of _ (by decide +kernel)) ggX12_count_X12_hasTwice
set_option maxRecDepth 20000 in
theorem ggX12_count_X12_findsRoots : GoodIn wsX12_count wsX12_findsRoots := goodIn_r _ [125, 6, 1, 126, 127, 128, 129, 130, 10, 131, 2, 3, 41, 137, 138, 139, 140, 141, 142, 143, 144, 145, 146, 147, 148, 149, 150, 151, 152, 153, 154, 155, 156, 157, 158, 159, 160, 161, 162, 163, 164, 165, 166, 167, 168, 169, 170, 171, 172, 173, 174, 175, 176, 177, 178, 179, 180, 181, 182, 183, 184, 185, 186, 187, 188, 189, 190] rfl (by decide +kernel)
set_option maxRecDepth 20000 in
theorem gX12_count_X12_findsRoots : GoodIn wsX12_count (wsV RX12 292 RX12 yX12_findsRoots wsX12_findsRoots) := goodIn_app (goodIn_of _ (by decide +kernel)) ggX12_count_X12_findsRoots
set_option maxRecDepth 20000 in
theorem ggX12_count_X12_slotsOf : GoodIn wsX12_count wsX12_slotsOf := goodIn_r _ [135, 136, 137, 138, 139, 140, 141, 142, 143, 144, 145, 146, 147, 148, 149, 150, 151, 152, 153, 154, 155, 156, 157, 158, 159, 160, 161, 162, 163, 164, 165, 166, 167, 168, 169, 170, 171, 172, 173, 174, 175, 176, 177, 178, 179, 180, 181, 182, 183, 184, 185, 186, 187, 188, 189, 190] rfl (by decide +kernel)
set_option maxRecDepth 20000 in
theorem gX12_count_X12_slotsOf : GoodIn wsX12_count (wsV RX12 302 RX12 yX12_slotsOf wsX12_slotsOf) := goodIn_app (goodIn_of _ (by decide +kernel)) ggX12_count_X12_slotsOf
theorem dX12_count_0 : decode cX12_count 0 = .ok (.iload_n 1, 1) := by decide +kernel
theorem dX12_count_1 : decode cX12_count 1 = .ok (.tableswitch 145 0 10 #[59, 64, 69, 74, 79, 84, 89, 102, 124, 133, 139], 59) := by decide +kernel
theorem dX12_count_60 : decode cX12_count 60 = .ok (.aload_n 0, 1) := by decide +kernel
theorem dX12_count_61 : decode cX12_count 61 = .ok (.getfield 7, 3) := by decide +kernel
theorem dX12_count_64 : decode cX12_count 64 = .ok (.ireturn, 1) := by decide +kernel
theorem dX12_count_65 : decode cX12_count 65 = .ok (.aload_n 0, 1) := by decide +kernel
theorem dX12_count_66 : decode cX12_count 66 = .ok (.getfield 13, 3) := by decide +kernel
theorem dX12_count_69 : decode cX12_count 69 = .ok (.ireturn, 1) := by decide +kernel
theorem dX12_count_70 : decode cX12_count 70 = .ok (.aload_n 0, 1) := by decide +kernel
theorem dX12_count_71 : decode cX12_count 71 = .ok (.getfield 16, 3) := by decide +kernel
theorem dX12_count_74 : decode cX12_count 74 = .ok (.ireturn, 1) := by decide +kernel
theorem dX12_count_75 : decode cX12_count 75 = .ok (.aload_n 0, 1) := by decide +kernel
theorem dX12_count_76 : decode cX12_count 76 = .ok (.invokevirtual 168, 3) := by decide +kernel
theorem dX12_count_79 : decode cX12_count 79 = .ok (.ireturn, 1) := by decide +kernel
theorem dX12_count_80 : decode cX12_count 80 = .ok (.aload_n 0, 1) := by decide +kernel
theorem dX12_count_81 : decode cX12_count 81 = .ok (.getfield 19, 3) := by decide +kernel
theorem dX12_count_84 : decode cX12_count 84 = .ok (.ireturn, 1) := by decide +kernel
theorem dX12_count_85 : decode cX12_count 85 = .ok (.aload_n 0, 1) := by decide +kernel
theorem dX12_count_86 : decode cX12_count 86 = .ok (.getfield 22, 3) := by decide +kernel
theorem dX12_count_89 : decode cX12_count 89 = .ok (.ireturn, 1) := by decide +kernel
theorem dX12_count_90 : decode cX12_count 90 = .ok (.aload_n 0, 1) := by decide +kernel
theorem dX12_count_91 : decode cX12_count 91 = .ok (.invokevirtual 295, 3) := by decide +kernel
theorem dX12_count_94 : decode cX12_count 94 = .ok (.ifCond .eq 7, 3) := by decide +kernel
theorem dX12_count_97 : decode cX12_count 97 = .ok (.iconst 1, 1) := by decide +kernel
theorem dX12_count_98 : decode cX12_count 98 = .ok (.goto 4, 3) := by decide +kernel
theorem dX12_count_101 : decode cX12_count 101 = .ok (.iconst 0, 1) := by decide +kernel
theorem dX12_count_102 : decode cX12_count 102 = .ok (.ireturn, 1) := by decide +kernel
theorem dX12_count_103 : decode cX12_count 103 = .ok (.aload_n 0, 1) := by decide +kernel
theorem dX12_count_104 : decode cX12_count 104 = .ok (.iconst 0, 1) := by decide +kernel
theorem dX12_count_105 : decode cX12_count 105 = .ok (.invokevirtual 299, 3) := by decide +kernel
theorem dX12_count_108 : decode cX12_count 108 = .ok (.ifCond .ne 11, 3) := by decide +kernel
theorem dX12_count_111 : decode cX12_count 111 = .ok (.aload_n 0, 1) := by decide +kernel
theorem dX12_count_112 : decode cX12_count 112 = .ok (.iconst 1, 1) := by decide +kernel
theorem dX12_count_113 : decode cX12_count 113 = .ok (.invokevirtual 299, 3) := by decide +kernel
theorem dX12_count_116 : decode cX12_count 116 = .ok (.ifCond .eq 7, 3) := by decide +kernel
theorem dX12_count_119 : decode cX12_count 119 = .ok (.iconst 0, 1) := by decide +kernel
theorem dX12_count_120 : decode cX12_count 120 = .ok (.goto 4, 3) := by decide +kernel
theorem dX12_count_123 : decode cX12_count 123 = .ok (.iconst 1, 1) := by decide +kernel
theorem dX12_count_124 : decode cX12_count 124 = .ok (.ireturn, 1) := by decide +kernel
theorem dX12_count_125 : decode cX12_count 125 = .ok (.aload_n 0, 1) := by decide +kernel
theorem dX12_count_126 : decode cX12_count 126 = .ok (.invokevirtual 292, 3) := by decide +kernel
theorem dX12_count_129 : decode cX12_count 129 = .ok (.aload_n 0, 1) := by decide +kernel
theorem dX12_count_130 : decode cX12_count 130 = .ok (.getfield 285, 3) := by decide +kernel
theorem dX12_count_133 : decode cX12_count 133 = .ok (.ireturn, 1) := by decide +kernel
theorem dX12_count_134 : decode cX12_count 134 = .ok (.aload_n 0, 1) := by decide +kernel
theorem dX12_count_135 : decode cX12_count 135 = .ok (.iconst 1, 1) := by decide +kernel
theorem dX12_count_136 : decode cX12_count 136 = .ok (.invokevirtual 302, 3) := by decide +kernel
theorem dX12_count_139 : decode cX12_count 139 = .ok (.ireturn, 1) := by decide +kernel
theorem dX12_count_140 : decode cX12_count 140 = .ok (.aload_n 0, 1) := by decide +kernel
theorem dX12_count_141 : decode cX12_count 141 = .ok (.iconst 2, 1) := by decide +kernel
theorem dX12_count_142 : decode cX12_count 142 = .ok (.invokevirtual 302, 3) := by decide +kernel
theorem dX12_count_145 : decode cX12_count 145 = .ok (.ireturn, 1) := by decide +kernel
theorem dX12_count_146 : decode cX12_count 146 = .ok (.iconst (-1), 1) := by decide +kernel
theorem dX12_count_147 : decode cX12_count 147 = .ok (.ireturn, 1) := by decide +kernel
set_option maxRecDepth 20000 in
theorem ggX12_isSlot_X12_in : GoodIn wsX12_isSlot wsX12_in := goodIn_r _ [5] rfl (by decide +kernel)
set_option maxRecDepth 20000 in
theorem gX12_isSlot_X12_in : GoodIn wsX12_isSlot (va_wsS RX12 155 yX12_in wsX12_in) := goodIn_app (goodIn_of _ (by decide +kernel)) ggX12_isSlot_X12_in
theorem dX12_isSlot_0 : decode cX12_isSlot 0 = .ok (.iload_n 0, 1) := by decide +kernel
theorem dX12_isSlot_1 : decode cX12_isSlot 1 = .ok (.i2l, 1) := by decide +kernel
theorem dX12_isSlot_2 : decode cX12_isSlot 2 = .ok (.lconst 0, 1) := by decide +kernel
theorem dX12_isSlot_3 : decode cX12_isSlot 3 = .ok (.ldc2_w 166, 3) := by decide +kernel
theorem dX12_isSlot_6 : decode cX12_isSlot 6 = .ok (.invokestatic 155, 3) := by decide +kernel
theorem dX12_isSlot_9 : decode cX12_isSlot 9 = .ok (.ireturn, 1) := by decide +kernel
set_option maxRecDepth 20000 in
theorem ggX12_poly_X12_isSlot : GoodIn wsX12_poly wsX12_isSlot := goodIn_r _ [6, 7, 8, 9, 5, 10] rfl (by decide +kernel)
set_option maxRecDepth 20000 in
theorem gX12_poly_X12_isSlot : GoodIn wsX12_poly (va_wsS RX12 305 yX12_isSlot wsX12_isSlot) := goodIn_app (goodIn_of _ (by decide +kernel)) ggX12_poly_X12_isSlot
theorem dX12_poly_0 : decode cX12_poly 0 = .ok (.iload_n 1, 1) := by decide +kernel
theorem dX12_poly_1 : decode cX12_poly 1 = .ok (.invokestatic 305, 3) := by decide +kernel
theorem dX12_poly_4 : decode cX12_poly 4 = .ok (.ifCond .ne 5, 3) := by decide +kernel
theorem dX12_poly_7 : decode cX12_poly 7 = .ok (.iconst (-1), 1) := by decide +kernel
theorem dX12_poly_8 : decode cX12_poly 8 = .ok (.ireturn, 1) := by decide +kernel
theorem dX12_poly_9 : decode cX12_poly 9 = .ok (.aload_n 0, 1) := by decide +kernel
theorem dX12_poly_10 : decode cX12_poly 10 = .ok (.getfield 29, 3) := by decide +kernel
theorem dX12_poly_13 : decode cX12_poly 13 = .ok (.iload_n 1, 1) := by decide +kernel
theorem dX12_poly_14 : decode cX12_poly 14 = .ok (.iaload, 1) := by decide +kernel
theorem dX12_poly_15 : decode cX12_poly 15 = .ok (.istore_n 2, 1) := by decide +kernel
theorem dX12_poly_16 : decode cX12_poly 16 = .ok (.aload_n 0, 1) := by decide +kernel
theorem dX12_poly_17 : decode cX12_poly 17 = .ok (.getfield 29, 3) := by decide +kernel
theorem dX12_poly_20 : decode cX12_poly 20 = .ok (.iload_n 1, 1) := by decide +kernel
theorem dX12_poly_21 : decode cX12_poly 21 = .ok (.iconst 1, 1) := by decide +kernel
theorem dX12_poly_22 : decode cX12_poly 22 = .ok (.iastore, 1) := by decide +kernel
theorem dX12_poly_23 : decode cX12_poly 23 = .ok (.aload_n 0, 1) := by decide +kernel
theorem dX12_poly_24 : decode cX12_poly 24 = .ok (.getfield 32, 3) := by decide +kernel
theorem dX12_poly_27 : decode cX12_poly 27 = .ok (.iload_n 1, 1) := by decide +kernel
theorem dX12_poly_28 : decode cX12_poly 28 = .ok (.iconst 0, 1) := by decide +kernel
theorem dX12_poly_29 : decode cX12_poly 29 = .ok (.iastore, 1) := by decide +kernel
theorem dX12_poly_30 : decode cX12_poly 30 = .ok (.iload_n 2, 1) := by decide +kernel
theorem dX12_poly_31 : decode cX12_poly 31 = .ok (.ireturn, 1) := by decide +kernel
set_option maxRecDepth 20000 in
theorem ggX12_keepBase_X12_isSlot : GoodIn wsX12_keepBase wsX12_isSlot := goodIn_r _ [18, 19, 20, 21, 17, 22] rfl (by decide +kernel)
set_option maxRecDepth 20000 in
theorem gX12_keepBase_X12_isSlot : GoodIn wsX12_keepBase (va_wsS RX12 305 yX12_isSlot wsX12_isSlot) := goodIn_app (goodIn_of _ (by decide +kernel)) ggX12_keepBase_X12_isSlot
set_option maxRecDepth 20000 in
theorem ggX12_keepBase_X12_isOrder : GoodIn wsX12_keepBase wsX12_isOrder := goodIn_r _ [26, 27, 20, 21, 17, 22] rfl (by decide +kernel)
set_option maxRecDepth 20000 in
theorem gX12_keepBase_X12_isOrder : GoodIn wsX12_keepBase (wsV RX12 265 RX12 yX12_isOrder wsX12_isOrder) := goodIn_app (goodIn_of _ (by decide +kernel)) ggX12_keepBase_X12_isOrder
set_option maxRecDepth 20000 in
theorem ggX12_keepBase_X12_walksNow : GoodIn wsX12_keepBase wsX12_walksNow := goodIn_r _ [31, 6, 8, 32, 33, 34, 17, 35, 36, 37, 38, 39, 3, 40, 41, 42, 43, 44, 45, 46, 47, 48, 49, 50, 51, 52, 53, 54, 55, 56, 57, 58, 59, 60, 61, 62, 63, 64, 65, 66, 67, 68, 69, 70, 71, 72, 73, 74, 75, 76, 10, 12, 77, 78, 79, 80, 81, 82, 83, 84, 85, 86, 87, 88, 89, 90, 91, 92, 93, 94, 95, 96, 97, 98, 99, 100, 101, 102, 103, 104, 105, 106, 107, 108, 109, 110, 111, 112, 113, 114, 115, 116, 117, 14, 118, 119, 120, 121, 122, 123, 124, 125, 126, 127, 128, 129, 130, 131, 132, 133, 134, 135, 136, 137, 138, 139, 140, 141, 142, 143, 144, 145, 146, 147, 148, 149, 150, 151, 152, 153, 154, 155, 156, 157, 158, 159, 160, 161, 162, 163, 164, 165, 166, 167, 168, 169, 170, 171, 172, 173, 174, 175, 176, 177, 178, 179] rfl (by decide +kernel)
set_option maxRecDepth 20000 in
theorem gX12_keepBase_X12_walksNow : GoodIn wsX12_keepBase (wsV RX12 268 RX12 yX12_walksNow wsX12_walksNow) := goodIn_app (goodIn_of _ (by decide +kernel)) ggX12_keepBase_X12_walksNow
theorem dX12_keepBase_0 : decode cX12_keepBase 0 = .ok (.iload_n 1, 1) := by decide +kernel
theorem dX12_keepBase_1 : decode cX12_keepBase 1 = .ok (.invokestatic 305, 3) := by decide +kernel
theorem dX12_keepBase_4 : decode cX12_keepBase 4 = .ok (.ifCond .eq 11, 3) := by decide +kernel
theorem dX12_keepBase_7 : decode cX12_keepBase 7 = .ok (.aload_n 0, 1) := by decide +kernel
theorem dX12_keepBase_8 : decode cX12_keepBase 8 = .ok (.iload_n 2, 1) := by decide +kernel
theorem dX12_keepBase_9 : decode cX12_keepBase 9 = .ok (.invokevirtual 265, 3) := by decide +kernel
theorem dX12_keepBase_12 : decode cX12_keepBase 12 = .ok (.ifCond .ne 5, 3) := by decide +kernel
theorem dX12_keepBase_15 : decode cX12_keepBase 15 = .ok (.iconst (-1), 1) := by decide +kernel
theorem dX12_keepBase_16 : decode cX12_keepBase 16 = .ok (.ireturn, 1) := by decide +kernel
theorem dX12_keepBase_17 : decode cX12_keepBase 17 = .ok (.aload_n 0, 1) := by decide +kernel
theorem dX12_keepBase_18 : decode cX12_keepBase 18 = .ok (.iload_n 2, 1) := by decide +kernel
theorem dX12_keepBase_19 : decode cX12_keepBase 19 = .ok (.invokevirtual 268, 3) := by decide +kernel
theorem dX12_keepBase_22 : decode cX12_keepBase 22 = .ok (.aload_n 0, 1) := by decide +kernel
theorem dX12_keepBase_23 : decode cX12_keepBase 23 = .ok (.getfield 29, 3) := by decide +kernel
theorem dX12_keepBase_26 : decode cX12_keepBase 26 = .ok (.iload_n 1, 1) := by decide +kernel
theorem dX12_keepBase_27 : decode cX12_keepBase 27 = .ok (.iconst 2, 1) := by decide +kernel
theorem dX12_keepBase_28 : decode cX12_keepBase 28 = .ok (.iastore, 1) := by decide +kernel
theorem dX12_keepBase_29 : decode cX12_keepBase 29 = .ok (.aload_n 0, 1) := by decide +kernel
theorem dX12_keepBase_30 : decode cX12_keepBase 30 = .ok (.getfield 32, 3) := by decide +kernel
theorem dX12_keepBase_33 : decode cX12_keepBase 33 = .ok (.iload_n 1, 1) := by decide +kernel
theorem dX12_keepBase_34 : decode cX12_keepBase 34 = .ok (.aload_n 0, 1) := by decide +kernel
theorem dX12_keepBase_35 : decode cX12_keepBase 35 = .ok (.getfield 230, 3) := by decide +kernel
theorem dX12_keepBase_38 : decode cX12_keepBase 38 = .ok (.iastore, 1) := by decide +kernel
theorem dX12_keepBase_39 : decode cX12_keepBase 39 = .ok (.aload_n 0, 1) := by decide +kernel
theorem dX12_keepBase_40 : decode cX12_keepBase 40 = .ok (.getfield 44, 3) := by decide +kernel
theorem dX12_keepBase_43 : decode cX12_keepBase 43 = .ok (.iload_n 1, 1) := by decide +kernel
theorem dX12_keepBase_44 : decode cX12_keepBase 44 = .ok (.iload_n 2, 1) := by decide +kernel
theorem dX12_keepBase_45 : decode cX12_keepBase 45 = .ok (.iastore, 1) := by decide +kernel
theorem dX12_keepBase_46 : decode cX12_keepBase 46 = .ok (.aload_n 0, 1) := by decide +kernel
theorem dX12_keepBase_47 : decode cX12_keepBase 47 = .ok (.getfield 47, 3) := by decide +kernel
theorem dX12_keepBase_50 : decode cX12_keepBase 50 = .ok (.iload_n 1, 1) := by decide +kernel
theorem dX12_keepBase_51 : decode cX12_keepBase 51 = .ok (.aload_n 0, 1) := by decide +kernel
theorem dX12_keepBase_52 : decode cX12_keepBase 52 = .ok (.getfield 19, 3) := by decide +kernel
theorem dX12_keepBase_55 : decode cX12_keepBase 55 = .ok (.iastore, 1) := by decide +kernel
theorem dX12_keepBase_56 : decode cX12_keepBase 56 = .ok (.aload_n 0, 1) := by decide +kernel
theorem dX12_keepBase_57 : decode cX12_keepBase 57 = .ok (.getfield 50, 3) := by decide +kernel
theorem dX12_keepBase_60 : decode cX12_keepBase 60 = .ok (.iload_n 1, 1) := by decide +kernel
theorem dX12_keepBase_61 : decode cX12_keepBase 61 = .ok (.aload_n 0, 1) := by decide +kernel
theorem dX12_keepBase_62 : decode cX12_keepBase 62 = .ok (.getfield 22, 3) := by decide +kernel
theorem dX12_keepBase_65 : decode cX12_keepBase 65 = .ok (.iastore, 1) := by decide +kernel
theorem dX12_keepBase_66 : decode cX12_keepBase 66 = .ok (.iconst 0, 1) := by decide +kernel
theorem dX12_keepBase_67 : decode cX12_keepBase 67 = .ok (.istore_n 3, 1) := by decide +kernel
theorem dX12_keepBase_68 : decode cX12_keepBase 68 = .ok (.iload_n 3, 1) := by decide +kernel
theorem dX12_keepBase_69 : decode cX12_keepBase 69 = .ok (.aload_n 0, 1) := by decide +kernel
theorem dX12_keepBase_70 : decode cX12_keepBase 70 = .ok (.getfield 230, 3) := by decide +kernel
theorem dX12_keepBase_73 : decode cX12_keepBase 73 = .ok (.if_icmp .ge 88, 3) := by decide +kernel
theorem dX12_keepBase_76 : decode cX12_keepBase 76 = .ok (.aload_n 0, 1) := by decide +kernel
theorem dX12_keepBase_77 : decode cX12_keepBase 77 = .ok (.getfield 53, 3) := by decide +kernel
theorem dX12_keepBase_80 : decode cX12_keepBase 80 = .ok (.bipush 10, 2) := by decide +kernel
theorem dX12_keepBase_82 : decode cX12_keepBase 82 = .ok (.iload_n 1, 1) := by decide +kernel
theorem dX12_keepBase_83 : decode cX12_keepBase 83 = .ok (.imul, 1) := by decide +kernel
theorem dX12_keepBase_84 : decode cX12_keepBase 84 = .ok (.iload_n 3, 1) := by decide +kernel
theorem dX12_keepBase_85 : decode cX12_keepBase 85 = .ok (.iadd, 1) := by decide +kernel
theorem dX12_keepBase_86 : decode cX12_keepBase 86 = .ok (.aload_n 0, 1) := by decide +kernel
theorem dX12_keepBase_87 : decode cX12_keepBase 87 = .ok (.getfield 102, 3) := by decide +kernel
theorem dX12_keepBase_90 : decode cX12_keepBase 90 = .ok (.iload_n 3, 1) := by decide +kernel
theorem dX12_keepBase_91 : decode cX12_keepBase 91 = .ok (.iaload, 1) := by decide +kernel
theorem dX12_keepBase_92 : decode cX12_keepBase 92 = .ok (.iastore, 1) := by decide +kernel
