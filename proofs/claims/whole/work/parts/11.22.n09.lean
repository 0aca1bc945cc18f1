theorem dX12_becomesField_28 : decode cX12_becomesField 28 = .ok (.irem, 1) := by decide +kernel
theorem dX12_becomesField_29 : decode cX12_becomesField 29 = .ok (.iastore, 1) := by decide +kernel
theorem dX12_becomesField_30 : decode cX12_becomesField 30 = .ok (.iinc 2 1, 3) := by decide +kernel
theorem dX12_becomesField_33 : decode cX12_becomesField 33 = .ok (.goto (-26), 3) := by decide +kernel
theorem dX12_becomesField_36 : decode cX12_becomesField 36 = .ok (.iconst 0, 1) := by decide +kernel
theorem dX12_becomesField_37 : decode cX12_becomesField 37 = .ok (.istore_n 2, 1) := by decide +kernel
theorem dX12_becomesField_38 : decode cX12_becomesField 38 = .ok (.iload_n 2, 1) := by decide +kernel
theorem dX12_becomesField_39 : decode cX12_becomesField 39 = .ok (.bipush 32, 2) := by decide +kernel
theorem dX12_becomesField_41 : decode cX12_becomesField 41 = .ok (.if_icmp .ge 26, 3) := by decide +kernel
theorem dX12_becomesField_44 : decode cX12_becomesField 44 = .ok (.aload_n 0, 1) := by decide +kernel
theorem dX12_becomesField_45 : decode cX12_becomesField 45 = .ok (.getfield 35, 3) := by decide +kernel
theorem dX12_becomesField_48 : decode cX12_becomesField 48 = .ok (.iload_n 2, 1) := by decide +kernel
theorem dX12_becomesField_49 : decode cX12_becomesField 49 = .ok (.aload_n 0, 1) := by decide +kernel
theorem dX12_becomesField_50 : decode cX12_becomesField 50 = .ok (.getfield 35, 3) := by decide +kernel
theorem dX12_becomesField_53 : decode cX12_becomesField 53 = .ok (.iload_n 2, 1) := by decide +kernel
theorem dX12_becomesField_54 : decode cX12_becomesField 54 = .ok (.iaload, 1) := by decide +kernel
theorem dX12_becomesField_55 : decode cX12_becomesField 55 = .ok (.aload_n 0, 1) := by decide +kernel
theorem dX12_becomesField_56 : decode cX12_becomesField 56 = .ok (.getfield 7, 3) := by decide +kernel
theorem dX12_becomesField_59 : decode cX12_becomesField 59 = .ok (.irem, 1) := by decide +kernel
theorem dX12_becomesField_60 : decode cX12_becomesField 60 = .ok (.iastore, 1) := by decide +kernel
theorem dX12_becomesField_61 : decode cX12_becomesField 61 = .ok (.iinc 2 1, 3) := by decide +kernel
theorem dX12_becomesField_64 : decode cX12_becomesField 64 = .ok (.goto (-26), 3) := by decide +kernel
theorem dX12_becomesField_67 : decode cX12_becomesField 67 = .ok (.iconst 0, 1) := by decide +kernel
theorem dX12_becomesField_68 : decode cX12_becomesField 68 = .ok (.istore_n 2, 1) := by decide +kernel
theorem dX12_becomesField_69 : decode cX12_becomesField 69 = .ok (.iload_n 2, 1) := by decide +kernel
theorem dX12_becomesField_70 : decode cX12_becomesField 70 = .ok (.sipush 360, 3) := by decide +kernel
theorem dX12_becomesField_73 : decode cX12_becomesField 73 = .ok (.if_icmp .ge 26, 3) := by decide +kernel
theorem dX12_becomesField_76 : decode cX12_becomesField 76 = .ok (.aload_n 0, 1) := by decide +kernel
theorem dX12_becomesField_77 : decode cX12_becomesField 77 = .ok (.getfield 59, 3) := by decide +kernel
theorem dX12_becomesField_80 : decode cX12_becomesField 80 = .ok (.iload_n 2, 1) := by decide +kernel
theorem dX12_becomesField_81 : decode cX12_becomesField 81 = .ok (.aload_n 0, 1) := by decide +kernel
theorem dX12_becomesField_82 : decode cX12_becomesField 82 = .ok (.getfield 59, 3) := by decide +kernel
theorem dX12_becomesField_85 : decode cX12_becomesField 85 = .ok (.iload_n 2, 1) := by decide +kernel
theorem dX12_becomesField_86 : decode cX12_becomesField 86 = .ok (.iaload, 1) := by decide +kernel
theorem dX12_becomesField_87 : decode cX12_becomesField 87 = .ok (.aload_n 0, 1) := by decide +kernel
theorem dX12_becomesField_88 : decode cX12_becomesField 88 = .ok (.getfield 7, 3) := by decide +kernel
theorem dX12_becomesField_91 : decode cX12_becomesField 91 = .ok (.irem, 1) := by decide +kernel
theorem dX12_becomesField_92 : decode cX12_becomesField 92 = .ok (.iastore, 1) := by decide +kernel
theorem dX12_becomesField_93 : decode cX12_becomesField 93 = .ok (.iinc 2 1, 3) := by decide +kernel
theorem dX12_becomesField_96 : decode cX12_becomesField 96 = .ok (.goto (-27), 3) := by decide +kernel
theorem dX12_becomesField_99 : decode cX12_becomesField 99 = .ok (.iconst 0, 1) := by decide +kernel
theorem dX12_becomesField_100 : decode cX12_becomesField 100 = .ok (.istore_n 2, 1) := by decide +kernel
theorem dX12_becomesField_101 : decode cX12_becomesField 101 = .ok (.iload_n 2, 1) := by decide +kernel
theorem dX12_becomesField_102 : decode cX12_becomesField 102 = .ok (.iconst 4, 1) := by decide +kernel
theorem dX12_becomesField_103 : decode cX12_becomesField 103 = .ok (.if_icmp .ge 24, 3) := by decide +kernel
theorem dX12_becomesField_106 : decode cX12_becomesField 106 = .ok (.aload_n 0, 1) := by decide +kernel
theorem dX12_becomesField_107 : decode cX12_becomesField 107 = .ok (.getfield 29, 3) := by decide +kernel
theorem dX12_becomesField_110 : decode cX12_becomesField 110 = .ok (.iload_n 2, 1) := by decide +kernel
theorem dX12_becomesField_111 : decode cX12_becomesField 111 = .ok (.iaload, 1) := by decide +kernel
theorem dX12_becomesField_112 : decode cX12_becomesField 112 = .ok (.iconst 1, 1) := by decide +kernel
theorem dX12_becomesField_113 : decode cX12_becomesField 113 = .ok (.if_icmp .ne 8, 3) := by decide +kernel
theorem dX12_becomesField_116 : decode cX12_becomesField 116 = .ok (.aload_n 0, 1) := by decide +kernel
theorem dX12_becomesField_117 : decode cX12_becomesField 117 = .ok (.iload_n 2, 1) := by decide +kernel
theorem dX12_becomesField_118 : decode cX12_becomesField 118 = .ok (.invokevirtual 147, 3) := by decide +kernel
theorem dX12_becomesField_121 : decode cX12_becomesField 121 = .ok (.iinc 2 1, 3) := by decide +kernel
theorem dX12_becomesField_124 : decode cX12_becomesField 124 = .ok (.goto (-23), 3) := by decide +kernel
theorem dX12_becomesField_127 : decode cX12_becomesField 127 = .ok (.return_, 1) := by decide +kernel
set_option maxRecDepth 20000 in
theorem ggX12_field_X12_in : GoodIn wsX12_field wsX12_in := goodIn_r _ [7] rfl (by decide +kernel)
set_option maxRecDepth 20000 in
theorem gX12_field_X12_in : GoodIn wsX12_field (va_wsS RX12 155 yX12_in wsX12_in) := goodIn_app (goodIn_of _ (by decide +kernel)) ggX12_field_X12_in
set_option maxRecDepth 20000 in
theorem ggX12_field_X12_isPrime : GoodIn wsX12_field wsX12_isPrime := goodIn_r _ [10] rfl (by decide +kernel)
set_option maxRecDepth 20000 in
theorem gX12_field_X12_isPrime : GoodIn wsX12_field (va_wsS RX12 159 yX12_isPrime wsX12_isPrime) := goodIn_app (goodIn_of _ (by decide +kernel)) ggX12_field_X12_isPrime
set_option maxRecDepth 20000 in
theorem ggX12_field_X12_becomesField : GoodIn wsX12_field wsX12_becomesField := goodIn_r _ [14, 3, 15, 16, 17, 18, 19, 20, 21, 6, 22, 23, 24, 25, 26, 27, 28, 29, 30, 31, 32, 33, 34, 35, 36, 37, 38, 39, 40, 41, 42, 43, 44, 45, 46, 47, 48, 49, 50, 51, 52, 53, 54, 55, 56, 57, 58, 59, 60, 61, 62, 63, 64, 65, 66, 67, 68, 69, 70, 71, 72, 73, 74, 75, 76, 77, 78, 79] rfl (by decide +kernel)
set_option maxRecDepth 20000 in
theorem gX12_field_X12_becomesField : GoodIn wsX12_field (wsV RX12 163 RX12 yX12_becomesField wsX12_becomesField) := goodIn_app (goodIn_of _ (by decide +kernel)) ggX12_field_X12_becomesField
theorem dX12_field_0 : decode cX12_field 0 = .ok (.iload_n 1, 1) := by decide +kernel
theorem dX12_field_1 : decode cX12_field 1 = .ok (.i2l, 1) := by decide +kernel
theorem dX12_field_2 : decode cX12_field 2 = .ok (.ldc2_w 151, 3) := by decide +kernel
theorem dX12_field_5 : decode cX12_field 5 = .ok (.ldc2_w 153, 3) := by decide +kernel
theorem dX12_field_8 : decode cX12_field 8 = .ok (.invokestatic 155, 3) := by decide +kernel
theorem dX12_field_11 : decode cX12_field 11 = .ok (.ifCond .eq 10, 3) := by decide +kernel
theorem dX12_field_14 : decode cX12_field 14 = .ok (.iload_n 1, 1) := by decide +kernel
theorem dX12_field_15 : decode cX12_field 15 = .ok (.invokestatic 159, 3) := by decide +kernel
theorem dX12_field_18 : decode cX12_field 18 = .ok (.ifCond .ne 5, 3) := by decide +kernel
theorem dX12_field_21 : decode cX12_field 21 = .ok (.iconst (-1), 1) := by decide +kernel
theorem dX12_field_22 : decode cX12_field 22 = .ok (.ireturn, 1) := by decide +kernel
theorem dX12_field_23 : decode cX12_field 23 = .ok (.aload_n 0, 1) := by decide +kernel
theorem dX12_field_24 : decode cX12_field 24 = .ok (.getfield 7, 3) := by decide +kernel
theorem dX12_field_27 : decode cX12_field 27 = .ok (.istore_n 2, 1) := by decide +kernel
theorem dX12_field_28 : decode cX12_field 28 = .ok (.aload_n 0, 1) := by decide +kernel
theorem dX12_field_29 : decode cX12_field 29 = .ok (.iload_n 1, 1) := by decide +kernel
theorem dX12_field_30 : decode cX12_field 30 = .ok (.invokevirtual 163, 3) := by decide +kernel
theorem dX12_field_33 : decode cX12_field 33 = .ok (.iload_n 2, 1) := by decide +kernel
theorem dX12_field_34 : decode cX12_field 34 = .ok (.ireturn, 1) := by decide +kernel
set_option maxRecDepth 20000 in
theorem ggX12_system_X12_in : GoodIn wsX12_system wsX12_in := goodIn_r _ [8] rfl (by decide +kernel)
set_option maxRecDepth 20000 in
theorem gX12_system_X12_in : GoodIn wsX12_system (va_wsS RX12 155 yX12_in wsX12_in) := goodIn_app (goodIn_of _ (by decide +kernel)) ggX12_system_X12_in
set_option maxRecDepth 20000 in
theorem ggX12_system_X12_dimension : GoodIn wsX12_system wsX12_dimension := goodIn_r _ [12, 2, 3, 13, 14, 15, 16, 17, 18, 19, 20, 21, 22, 23, 24, 25, 26, 27, 28, 29, 30, 31, 32, 33, 34, 35, 36, 37, 38, 39, 40, 41, 42, 43, 44, 45, 46, 47, 48, 49, 50, 51, 52, 53, 54, 55, 56, 57, 58, 59, 60, 61, 62, 63, 64, 65, 66] rfl (by decide +kernel)
set_option maxRecDepth 20000 in
theorem gX12_system_X12_dimension : GoodIn wsX12_system (wsV RX12 168 RX12 yX12_dimension wsX12_dimension) := goodIn_app (goodIn_of _ (by decide +kernel)) ggX12_system_X12_dimension
theorem dX12_system_0 : decode cX12_system 0 = .ok (.iload_n 1, 1) := by decide +kernel
theorem dX12_system_1 : decode cX12_system 1 = .ok (.i2l, 1) := by decide +kernel
theorem dX12_system_2 : decode cX12_system 2 = .ok (.lconst 1, 1) := by decide +kernel
theorem dX12_system_3 : decode cX12_system 3 = .ok (.ldc2_w 166, 3) := by decide +kernel
theorem dX12_system_6 : decode cX12_system 6 = .ok (.invokestatic 155, 3) := by decide +kernel
theorem dX12_system_9 : decode cX12_system 9 = .ok (.ifCond .eq 15, 3) := by decide +kernel
theorem dX12_system_12 : decode cX12_system 12 = .ok (.iload_n 2, 1) := by decide +kernel
theorem dX12_system_13 : decode cX12_system 13 = .ok (.i2l, 1) := by decide +kernel
theorem dX12_system_14 : decode cX12_system 14 = .ok (.lconst 1, 1) := by decide +kernel
theorem dX12_system_15 : decode cX12_system 15 = .ok (.ldc2_w 166, 3) := by decide +kernel
theorem dX12_system_18 : decode cX12_system 18 = .ok (.invokestatic 155, 3) := by decide +kernel
theorem dX12_system_21 : decode cX12_system 21 = .ok (.ifCond .ne 5, 3) := by decide +kernel
theorem dX12_system_24 : decode cX12_system 24 = .ok (.iconst (-1), 1) := by decide +kernel
theorem dX12_system_25 : decode cX12_system 25 = .ok (.ireturn, 1) := by decide +kernel
theorem dX12_system_26 : decode cX12_system 26 = .ok (.aload_n 0, 1) := by decide +kernel
theorem dX12_system_27 : decode cX12_system 27 = .ok (.iload_n 1, 1) := by decide +kernel
theorem dX12_system_28 : decode cX12_system 28 = .ok (.putfield 13, 3) := by decide +kernel
theorem dX12_system_31 : decode cX12_system 31 = .ok (.aload_n 0, 1) := by decide +kernel
theorem dX12_system_32 : decode cX12_system 32 = .ok (.iload_n 2, 1) := by decide +kernel
theorem dX12_system_33 : decode cX12_system 33 = .ok (.putfield 16, 3) := by decide +kernel
theorem dX12_system_36 : decode cX12_system 36 = .ok (.iconst 0, 1) := by decide +kernel
theorem dX12_system_37 : decode cX12_system 37 = .ok (.istore_n 3, 1) := by decide +kernel
theorem dX12_system_38 : decode cX12_system 38 = .ok (.iload_n 3, 1) := by decide +kernel
theorem dX12_system_39 : decode cX12_system 39 = .ok (.bipush 18, 2) := by decide +kernel
theorem dX12_system_41 : decode cX12_system 41 = .ok (.if_icmp .ge 16, 3) := by decide +kernel
theorem dX12_system_44 : decode cX12_system 44 = .ok (.aload_n 0, 1) := by decide +kernel
theorem dX12_system_45 : decode cX12_system 45 = .ok (.getfield 25, 3) := by decide +kernel
theorem dX12_system_48 : decode cX12_system 48 = .ok (.iload_n 3, 1) := by decide +kernel
theorem dX12_system_49 : decode cX12_system 49 = .ok (.iconst 0, 1) := by decide +kernel
theorem dX12_system_50 : decode cX12_system 50 = .ok (.iastore, 1) := by decide +kernel
theorem dX12_system_51 : decode cX12_system 51 = .ok (.iinc 3 1, 3) := by decide +kernel
theorem dX12_system_54 : decode cX12_system 54 = .ok (.goto (-16), 3) := by decide +kernel
theorem dX12_system_57 : decode cX12_system 57 = .ok (.aload_n 0, 1) := by decide +kernel
theorem dX12_system_58 : decode cX12_system 58 = .ok (.invokevirtual 168, 3) := by decide +kernel
theorem dX12_system_61 : decode cX12_system 61 = .ok (.ireturn, 1) := by decide +kernel
set_option maxRecDepth 20000 in
theorem ggX12_isCoefficient_X12_in : GoodIn wsX12_isCoefficient wsX12_in := goodIn_r _ [6] rfl (by decide +kernel)
set_option maxRecDepth 20000 in
theorem gX12_isCoefficient_X12_in : GoodIn wsX12_isCoefficient (va_wsS RX12 155 yX12_in wsX12_in) := goodIn_app (goodIn_of _ (by decide +kernel)) ggX12_isCoefficient_X12_in
theorem dX12_isCoefficient_0 : decode cX12_isCoefficient 0 = .ok (.iload_n 1, 1) := by decide +kernel
theorem dX12_isCoefficient_1 : decode cX12_isCoefficient 1 = .ok (.i2l, 1) := by decide +kernel
theorem dX12_isCoefficient_2 : decode cX12_isCoefficient 2 = .ok (.lconst 0, 1) := by decide +kernel
theorem dX12_isCoefficient_3 : decode cX12_isCoefficient 3 = .ok (.lconst 1, 1) := by decide +kernel
theorem dX12_isCoefficient_4 : decode cX12_isCoefficient 4 = .ok (.invokestatic 155, 3) := by decide +kernel
theorem dX12_isCoefficient_7 : decode cX12_isCoefficient 7 = .ok (.ifCond .eq 40, 3) := by decide +kernel
theorem dX12_isCoefficient_10 : decode cX12_isCoefficient 10 = .ok (.iload_n 2, 1) := by decide +kernel
theorem dX12_isCoefficient_11 : decode cX12_isCoefficient 11 = .ok (.ifCond .lt 36, 3) := by decide +kernel
theorem dX12_isCoefficient_14 : decode cX12_isCoefficient 14 = .ok (.iload_n 3, 1) := by decide +kernel
theorem dX12_isCoefficient_15 : decode cX12_isCoefficient 15 = .ok (.ifCond .lt 32, 3) := by decide +kernel
theorem dX12_isCoefficient_18 : decode cX12_isCoefficient 18 = .ok (.iload_n 2, 1) := by decide +kernel
theorem dX12_isCoefficient_19 : decode cX12_isCoefficient 19 = .ok (.i2l, 1) := by decide +kernel
theorem dX12_isCoefficient_20 : decode cX12_isCoefficient 20 = .ok (.iload_n 3, 1) := by decide +kernel
theorem dX12_isCoefficient_21 : decode cX12_isCoefficient 21 = .ok (.i2l, 1) := by decide +kernel
theorem dX12_isCoefficient_22 : decode cX12_isCoefficient 22 = .ok (.ladd, 1) := by decide +kernel
theorem dX12_isCoefficient_23 : decode cX12_isCoefficient 23 = .ok (.iload_n 1, 1) := by decide +kernel
theorem dX12_isCoefficient_24 : decode cX12_isCoefficient 24 = .ok (.ifCond .ne 10, 3) := by decide +kernel
theorem dX12_isCoefficient_27 : decode cX12_isCoefficient 27 = .ok (.aload_n 0, 1) := by decide +kernel
theorem dX12_isCoefficient_28 : decode cX12_isCoefficient 28 = .ok (.getfield 13, 3) := by decide +kernel
theorem dX12_isCoefficient_31 : decode cX12_isCoefficient 31 = .ok (.goto 7, 3) := by decide +kernel
theorem dX12_isCoefficient_34 : decode cX12_isCoefficient 34 = .ok (.aload_n 0, 1) := by decide +kernel
theorem dX12_isCoefficient_35 : decode cX12_isCoefficient 35 = .ok (.getfield 16, 3) := by decide +kernel
theorem dX12_isCoefficient_38 : decode cX12_isCoefficient 38 = .ok (.i2l, 1) := by decide +kernel
theorem dX12_isCoefficient_39 : decode cX12_isCoefficient 39 = .ok (.lcmp, 1) := by decide +kernel
theorem dX12_isCoefficient_40 : decode cX12_isCoefficient 40 = .ok (.ifCond .ge 7, 3) := by decide +kernel
theorem dX12_isCoefficient_43 : decode cX12_isCoefficient 43 = .ok (.iconst 1, 1) := by decide +kernel
theorem dX12_isCoefficient_44 : decode cX12_isCoefficient 44 = .ok (.goto 4, 3) := by decide +kernel
theorem dX12_isCoefficient_47 : decode cX12_isCoefficient 47 = .ok (.iconst 0, 1) := by decide +kernel
theorem dX12_isCoefficient_48 : decode cX12_isCoefficient 48 = .ok (.ireturn, 1) := by decide +kernel
set_option maxRecDepth 20000 in
theorem ggX12_put_X12_isCoefficient : GoodIn wsX12_put wsX12_isCoefficient := goodIn_r _ [7, 8, 9, 10, 11, 6, 12, 13, 14, 15, 16, 17, 18, 19, 20, 21, 22, 23, 24, 25, 26, 27, 28, 29, 30, 31, 32, 33, 34, 35, 36, 37, 38, 39, 40, 41, 42, 43, 44, 45, 46, 47, 48, 49, 50, 51, 52, 53, 54, 55, 56, 57, 58, 59, 60, 61, 62, 63, 64, 65, 66] rfl (by decide +kernel)
set_option maxRecDepth 20000 in
theorem gX12_put_X12_isCoefficient : GoodIn wsX12_put (wsV RX12 172 RX12 yX12_isCoefficient wsX12_isCoefficient) := goodIn_app (goodIn_of _ (by decide +kernel)) ggX12_put_X12_isCoefficient
set_option maxRecDepth 20000 in
theorem ggX12_put_X12_in : GoodIn wsX12_put wsX12_in := goodIn_r _ [12] rfl (by decide +kernel)
set_option maxRecDepth 20000 in
theorem gX12_put_X12_in : GoodIn wsX12_put (va_wsS RX12 155 yX12_in wsX12_in) := goodIn_app (goodIn_of _ (by decide +kernel)) ggX12_put_X12_in
theorem dX12_put_0 : decode cX12_put 0 = .ok (.aload_n 0, 1) := by decide +kernel
theorem dX12_put_1 : decode cX12_put 1 = .ok (.iload_n 1, 1) := by decide +kernel
theorem dX12_put_2 : decode cX12_put 2 = .ok (.iload_n 2, 1) := by decide +kernel
theorem dX12_put_3 : decode cX12_put 3 = .ok (.iload_n 3, 1) := by decide +kernel
theorem dX12_put_4 : decode cX12_put 4 = .ok (.invokevirtual 172, 3) := by decide +kernel
theorem dX12_put_7 : decode cX12_put 7 = .ok (.ifCond .eq 20, 3) := by decide +kernel
theorem dX12_put_10 : decode cX12_put 10 = .ok (.iload 4, 2) := by decide +kernel
theorem dX12_put_12 : decode cX12_put 12 = .ok (.i2l, 1) := by decide +kernel
theorem dX12_put_13 : decode cX12_put 13 = .ok (.lconst 0, 1) := by decide +kernel
theorem dX12_put_14 : decode cX12_put 14 = .ok (.aload_n 0, 1) := by decide +kernel
theorem dX12_put_15 : decode cX12_put 15 = .ok (.getfield 7, 3) := by decide +kernel
theorem dX12_put_18 : decode cX12_put 18 = .ok (.iconst 1, 1) := by decide +kernel
theorem dX12_put_19 : decode cX12_put 19 = .ok (.isub, 1) := by decide +kernel
theorem dX12_put_20 : decode cX12_put 20 = .ok (.i2l, 1) := by decide +kernel
theorem dX12_put_21 : decode cX12_put 21 = .ok (.invokestatic 155, 3) := by decide +kernel
theorem dX12_put_24 : decode cX12_put 24 = .ok (.ifCond .ne 5, 3) := by decide +kernel
theorem dX12_put_27 : decode cX12_put 27 = .ok (.iconst (-1), 1) := by decide +kernel
theorem dX12_put_28 : decode cX12_put 28 = .ok (.ireturn, 1) := by decide +kernel
theorem dX12_put_29 : decode cX12_put 29 = .ok (.bipush 9, 2) := by decide +kernel
theorem dX12_put_31 : decode cX12_put 31 = .ok (.iload_n 1, 1) := by decide +kernel
theorem dX12_put_32 : decode cX12_put 32 = .ok (.imul, 1) := by decide +kernel
theorem dX12_put_33 : decode cX12_put 33 = .ok (.iconst 3, 1) := by decide +kernel
theorem dX12_put_34 : decode cX12_put 34 = .ok (.iload_n 2, 1) := by decide +kernel
theorem dX12_put_35 : decode cX12_put 35 = .ok (.imul, 1) := by decide +kernel
theorem dX12_put_36 : decode cX12_put 36 = .ok (.iadd, 1) := by decide +kernel
theorem dX12_put_37 : decode cX12_put 37 = .ok (.iload_n 3, 1) := by decide +kernel
theorem dX12_put_38 : decode cX12_put 38 = .ok (.iadd, 1) := by decide +kernel
theorem dX12_put_39 : decode cX12_put 39 = .ok (.istore 5, 2) := by decide +kernel
theorem dX12_put_41 : decode cX12_put 41 = .ok (.aload_n 0, 1) := by decide +kernel
theorem dX12_put_42 : decode cX12_put 42 = .ok (.getfield 25, 3) := by decide +kernel
theorem dX12_put_45 : decode cX12_put 45 = .ok (.iload 5, 2) := by decide +kernel
theorem dX12_put_47 : decode cX12_put 47 = .ok (.iaload, 1) := by decide +kernel
theorem dX12_put_48 : decode cX12_put 48 = .ok (.istore 6, 2) := by decide +kernel
theorem dX12_put_50 : decode cX12_put 50 = .ok (.aload_n 0, 1) := by decide +kernel
theorem dX12_put_51 : decode cX12_put 51 = .ok (.getfield 25, 3) := by decide +kernel
theorem dX12_put_54 : decode cX12_put 54 = .ok (.iload 5, 2) := by decide +kernel
theorem dX12_put_56 : decode cX12_put 56 = .ok (.iload 4, 2) := by decide +kernel
theorem dX12_put_58 : decode cX12_put 58 = .ok (.iastore, 1) := by decide +kernel
theorem dX12_put_59 : decode cX12_put 59 = .ok (.iload 6, 2) := by decide +kernel
theorem dX12_put_61 : decode cX12_put 61 = .ok (.ireturn, 1) := by decide +kernel
set_option maxRecDepth 20000 in
theorem ggX12_get_X12_isCoefficient : GoodIn wsX12_get wsX12_isCoefficient := goodIn_r _ [6, 7, 8, 9, 10, 5, 11, 12, 13, 14, 15, 16, 17, 18, 19, 20, 21, 22, 23, 24, 25, 26, 27, 28, 29, 30, 31, 32, 33, 34, 35, 36, 37, 38, 39, 40, 41, 42, 43, 44, 45, 46, 47, 48, 49, 50, 51, 52, 53, 54, 55, 56, 57, 58, 59, 60, 61, 62, 63, 64, 65] rfl (by decide +kernel)
set_option maxRecDepth 20000 in
theorem gX12_get_X12_isCoefficient : GoodIn wsX12_get (wsV RX12 172 RX12 yX12_isCoefficient wsX12_isCoefficient) := goodIn_app (goodIn_of _ (by decide +kernel)) ggX12_get_X12_isCoefficient
theorem dX12_get_0 : decode cX12_get 0 = .ok (.aload_n 0, 1) := by decide +kernel
theorem dX12_get_1 : decode cX12_get 1 = .ok (.iload_n 1, 1) := by decide +kernel
theorem dX12_get_2 : decode cX12_get 2 = .ok (.iload_n 2, 1) := by decide +kernel
theorem dX12_get_3 : decode cX12_get 3 = .ok (.iload_n 3, 1) := by decide +kernel
theorem dX12_get_4 : decode cX12_get 4 = .ok (.invokevirtual 172, 3) := by decide +kernel
theorem dX12_get_7 : decode cX12_get 7 = .ok (.ifCond .eq 21, 3) := by decide +kernel
theorem dX12_get_10 : decode cX12_get 10 = .ok (.aload_n 0, 1) := by decide +kernel
theorem dX12_get_11 : decode cX12_get 11 = .ok (.getfield 25, 3) := by decide +kernel
theorem dX12_get_14 : decode cX12_get 14 = .ok (.bipush 9, 2) := by decide +kernel
theorem dX12_get_16 : decode cX12_get 16 = .ok (.iload_n 1, 1) := by decide +kernel
theorem dX12_get_17 : decode cX12_get 17 = .ok (.imul, 1) := by decide +kernel
theorem dX12_get_18 : decode cX12_get 18 = .ok (.iconst 3, 1) := by decide +kernel
theorem dX12_get_19 : decode cX12_get 19 = .ok (.iload_n 2, 1) := by decide +kernel
theorem dX12_get_20 : decode cX12_get 20 = .ok (.imul, 1) := by decide +kernel
theorem dX12_get_21 : decode cX12_get 21 = .ok (.iadd, 1) := by decide +kernel
theorem dX12_get_22 : decode cX12_get 22 = .ok (.iload_n 3, 1) := by decide +kernel
theorem dX12_get_23 : decode cX12_get 23 = .ok (.iadd, 1) := by decide +kernel
theorem dX12_get_24 : decode cX12_get 24 = .ok (.iaload, 1) := by decide +kernel
theorem dX12_get_25 : decode cX12_get 25 = .ok (.goto 4, 3) := by decide +kernel
theorem dX12_get_28 : decode cX12_get 28 = .ok (.iconst (-1), 1) := by decide +kernel
theorem dX12_get_29 : decode cX12_get 29 = .ok (.ireturn, 1) := by decide +kernel
set_option maxRecDepth 20000 in
theorem ggX12_weights_X12_in : GoodIn wsX12_weights wsX12_in := goodIn_r _ [7] rfl (by decide +kernel)
set_option maxRecDepth 20000 in
theorem gX12_weights_X12_in : GoodIn wsX12_weights (va_wsS RX12 155 yX12_in wsX12_in) := goodIn_app (goodIn_of _ (by decide +kernel)) ggX12_weights_X12_in
theorem dX12_weights_0 : decode cX12_weights 0 = .ok (.iload_n 1, 1) := by decide +kernel
theorem dX12_weights_1 : decode cX12_weights 1 = .ok (.i2l, 1) := by decide +kernel
theorem dX12_weights_2 : decode cX12_weights 2 = .ok (.lconst 1, 1) := by decide +kernel
theorem dX12_weights_3 : decode cX12_weights 3 = .ok (.ldc2_w 176, 3) := by decide +kernel
theorem dX12_weights_6 : decode cX12_weights 6 = .ok (.invokestatic 155, 3) := by decide +kernel
theorem dX12_weights_9 : decode cX12_weights 9 = .ok (.ifCond .eq 15, 3) := by decide +kernel
theorem dX12_weights_12 : decode cX12_weights 12 = .ok (.iload_n 2, 1) := by decide +kernel
theorem dX12_weights_13 : decode cX12_weights 13 = .ok (.i2l, 1) := by decide +kernel
theorem dX12_weights_14 : decode cX12_weights 14 = .ok (.lconst 1, 1) := by decide +kernel
theorem dX12_weights_15 : decode cX12_weights 15 = .ok (.ldc2_w 176, 3) := by decide +kernel
theorem dX12_weights_18 : decode cX12_weights 18 = .ok (.invokestatic 155, 3) := by decide +kernel
theorem dX12_weights_21 : decode cX12_weights 21 = .ok (.ifCond .ne 5, 3) := by decide +kernel
theorem dX12_weights_24 : decode cX12_weights 24 = .ok (.iconst (-1), 1) := by decide +kernel
theorem dX12_weights_25 : decode cX12_weights 25 = .ok (.ireturn, 1) := by decide +kernel
theorem dX12_weights_26 : decode cX12_weights 26 = .ok (.bipush 10, 2) := by decide +kernel
theorem dX12_weights_28 : decode cX12_weights 28 = .ok (.aload_n 0, 1) := by decide +kernel
theorem dX12_weights_29 : decode cX12_weights 29 = .ok (.getfield 19, 3) := by decide +kernel
theorem dX12_weights_32 : decode cX12_weights 32 = .ok (.imul, 1) := by decide +kernel
theorem dX12_weights_33 : decode cX12_weights 33 = .ok (.aload_n 0, 1) := by decide +kernel
theorem dX12_weights_34 : decode cX12_weights 34 = .ok (.getfield 22, 3) := by decide +kernel
theorem dX12_weights_37 : decode cX12_weights 37 = .ok (.iadd, 1) := by decide +kernel
theorem dX12_weights_38 : decode cX12_weights 38 = .ok (.istore_n 3, 1) := by decide +kernel
theorem dX12_weights_39 : decode cX12_weights 39 = .ok (.aload_n 0, 1) := by decide +kernel
theorem dX12_weights_40 : decode cX12_weights 40 = .ok (.iload_n 1, 1) := by decide +kernel
theorem dX12_weights_41 : decode cX12_weights 41 = .ok (.putfield 19, 3) := by decide +kernel
theorem dX12_weights_44 : decode cX12_weights 44 = .ok (.aload_n 0, 1) := by decide +kernel
theorem dX12_weights_45 : decode cX12_weights 45 = .ok (.iload_n 2, 1) := by decide +kernel
theorem dX12_weights_46 : decode cX12_weights 46 = .ok (.putfield 22, 3) := by decide +kernel
theorem dX12_weights_49 : decode cX12_weights 49 = .ok (.iload_n 3, 1) := by decide +kernel
theorem dX12_weights_50 : decode cX12_weights 50 = .ok (.ireturn, 1) := by decide +kernel
set_option maxRecDepth 20000 in
theorem ggX12_drift_X12_in : GoodIn wsX12_drift wsX12_in := goodIn_r _ [11] rfl (by decide +kernel)
set_option maxRecDepth 20000 in
theorem gX12_drift_X12_in : GoodIn wsX12_drift (va_wsS RX12 155 yX12_in wsX12_in) := goodIn_app (goodIn_of _ (by decide +kernel)) ggX12_drift_X12_in
set_option maxRecDepth 20000 in
theorem ggX12_drift_X12_dimension : GoodIn wsX12_drift wsX12_dimension := goodIn_r _ [15, 2, 3, 16, 17, 18, 19, 20, 21, 22, 23, 24, 25, 26, 27, 28, 29, 30, 31, 32, 33, 34, 35, 36, 37, 38, 39, 40, 41, 42, 43, 44, 45, 46, 47, 48, 49, 50, 51, 52, 53, 54, 55, 56, 57, 58, 59, 60, 61, 62, 63, 64, 65, 66, 67, 68, 69] rfl (by decide +kernel)
set_option maxRecDepth 20000 in
theorem gX12_drift_X12_dimension : GoodIn wsX12_drift (wsV RX12 168 RX12 yX12_dimension wsX12_dimension) := goodIn_app (goodIn_of _ (by decide +kernel)) ggX12_drift_X12_dimension
theorem dX12_drift_0 : decode cX12_drift 0 = .ok (.iload_n 1, 1) := by decide +kernel
theorem dX12_drift_1 : decode cX12_drift 1 = .ok (.i2l, 1) := by decide +kernel
theorem dX12_drift_2 : decode cX12_drift 2 = .ok (.lconst 1, 1) := by decide +kernel
theorem dX12_drift_3 : decode cX12_drift 3 = .ok (.ldc2_w 178, 3) := by decide +kernel
theorem dX12_drift_6 : decode cX12_drift 6 = .ok (.invokestatic 155, 3) := by decide +kernel
theorem dX12_drift_9 : decode cX12_drift 9 = .ok (.ifCond .ne 5, 3) := by decide +kernel
theorem dX12_drift_12 : decode cX12_drift 12 = .ok (.iconst (-1), 1) := by decide +kernel
theorem dX12_drift_13 : decode cX12_drift 13 = .ok (.ireturn, 1) := by decide +kernel
theorem dX12_drift_14 : decode cX12_drift 14 = .ok (.iload_n 1, 1) := by decide +kernel
theorem dX12_drift_15 : decode cX12_drift 15 = .ok (.i2l, 1) := by decide +kernel
theorem dX12_drift_16 : decode cX12_drift 16 = .ok (.lstore_n 2, 1) := by decide +kernel
theorem dX12_drift_17 : decode cX12_drift 17 = .ok (.iconst 0, 1) := by decide +kernel
theorem dX12_drift_18 : decode cX12_drift 18 = .ok (.istore 4, 2) := by decide +kernel
theorem dX12_drift_20 : decode cX12_drift 20 = .ok (.iload 4, 2) := by decide +kernel
theorem dX12_drift_22 : decode cX12_drift 22 = .ok (.iconst 2, 1) := by decide +kernel
theorem dX12_drift_23 : decode cX12_drift 23 = .ok (.if_icmp .ge 98, 3) := by decide +kernel
theorem dX12_drift_26 : decode cX12_drift 26 = .ok (.iload 4, 2) := by decide +kernel
theorem dX12_drift_28 : decode cX12_drift 28 = .ok (.ifCond .ne 10, 3) := by decide +kernel
theorem dX12_drift_31 : decode cX12_drift 31 = .ok (.aload_n 0, 1) := by decide +kernel
theorem dX12_drift_32 : decode cX12_drift 32 = .ok (.getfield 13, 3) := by decide +kernel
theorem dX12_drift_35 : decode cX12_drift 35 = .ok (.goto 7, 3) := by decide +kernel
theorem dX12_drift_38 : decode cX12_drift 38 = .ok (.aload_n 0, 1) := by decide +kernel
theorem dX12_drift_39 : decode cX12_drift 39 = .ok (.getfield 16, 3) := by decide +kernel
theorem dX12_drift_42 : decode cX12_drift 42 = .ok (.istore 5, 2) := by decide +kernel
theorem dX12_drift_44 : decode cX12_drift 44 = .ok (.iconst 0, 1) := by decide +kernel
theorem dX12_drift_45 : decode cX12_drift 45 = .ok (.istore 6, 2) := by decide +kernel
theorem dX12_drift_47 : decode cX12_drift 47 = .ok (.iload 6, 2) := by decide +kernel
theorem dX12_drift_49 : decode cX12_drift 49 = .ok (.iload 5, 2) := by decide +kernel
theorem dX12_drift_51 : decode cX12_drift 51 = .ok (.if_icmp .ge 64, 3) := by decide +kernel
theorem dX12_drift_54 : decode cX12_drift 54 = .ok (.iconst 0, 1) := by decide +kernel
theorem dX12_drift_55 : decode cX12_drift 55 = .ok (.istore 7, 2) := by decide +kernel
theorem dX12_drift_57 : decode cX12_drift 57 = .ok (.iload 7, 2) := by decide +kernel
theorem dX12_drift_59 : decode cX12_drift 59 = .ok (.iload 6, 2) := by decide +kernel
theorem dX12_drift_61 : decode cX12_drift 61 = .ok (.iadd, 1) := by decide +kernel
theorem dX12_drift_62 : decode cX12_drift 62 = .ok (.iload 5, 2) := by decide +kernel
theorem dX12_drift_64 : decode cX12_drift 64 = .ok (.if_icmp .ge 45, 3) := by decide +kernel
theorem dX12_drift_67 : decode cX12_drift 67 = .ok (.lload_n 2, 1) := by decide +kernel
theorem dX12_drift_68 : decode cX12_drift 68 = .ok (.ldc2_w 180, 3) := by decide +kernel
theorem dX12_drift_71 : decode cX12_drift 71 = .ok (.lmul, 1) := by decide +kernel
theorem dX12_drift_72 : decode cX12_drift 72 = .ok (.ldc2_w 182, 3) := by decide +kernel
theorem dX12_drift_75 : decode cX12_drift 75 = .ok (.lrem, 1) := by decide +kernel
theorem dX12_drift_76 : decode cX12_drift 76 = .ok (.lstore_n 2, 1) := by decide +kernel
theorem dX12_drift_77 : decode cX12_drift 77 = .ok (.aload_n 0, 1) := by decide +kernel
theorem dX12_drift_78 : decode cX12_drift 78 = .ok (.getfield 25, 3) := by decide +kernel
theorem dX12_drift_81 : decode cX12_drift 81 = .ok (.bipush 9, 2) := by decide +kernel
theorem dX12_drift_83 : decode cX12_drift 83 = .ok (.iload 4, 2) := by decide +kernel
theorem dX12_drift_85 : decode cX12_drift 85 = .ok (.imul, 1) := by decide +kernel
theorem dX12_drift_86 : decode cX12_drift 86 = .ok (.iconst 3, 1) := by decide +kernel
theorem dX12_drift_87 : decode cX12_drift 87 = .ok (.iload 7, 2) := by decide +kernel
theorem dX12_drift_89 : decode cX12_drift 89 = .ok (.imul, 1) := by decide +kernel
theorem dX12_drift_90 : decode cX12_drift 90 = .ok (.iadd, 1) := by decide +kernel
theorem dX12_drift_91 : decode cX12_drift 91 = .ok (.iload 6, 2) := by decide +kernel
theorem dX12_drift_93 : decode cX12_drift 93 = .ok (.iadd, 1) := by decide +kernel
theorem dX12_drift_94 : decode cX12_drift 94 = .ok (.lload_n 2, 1) := by decide +kernel
theorem dX12_drift_95 : decode cX12_drift 95 = .ok (.aload_n 0, 1) := by decide +kernel
theorem dX12_drift_96 : decode cX12_drift 96 = .ok (.getfield 7, 3) := by decide +kernel
theorem dX12_drift_99 : decode cX12_drift 99 = .ok (.i2l, 1) := by decide +kernel
theorem dX12_drift_100 : decode cX12_drift 100 = .ok (.lrem, 1) := by decide +kernel
theorem dX12_drift_101 : decode cX12_drift 101 = .ok (.l2i, 1) := by decide +kernel
theorem dX12_drift_102 : decode cX12_drift 102 = .ok (.iastore, 1) := by decide +kernel
theorem dX12_drift_103 : decode cX12_drift 103 = .ok (.iinc 7 1, 3) := by decide +kernel
theorem dX12_drift_106 : decode cX12_drift 106 = .ok (.goto (-49), 3) := by decide +kernel
theorem dX12_drift_109 : decode cX12_drift 109 = .ok (.iinc 6 1, 3) := by decide +kernel
theorem dX12_drift_112 : decode cX12_drift 112 = .ok (.goto (-65), 3) := by decide +kernel
theorem dX12_drift_115 : decode cX12_drift 115 = .ok (.iinc 4 1, 3) := by decide +kernel
theorem dX12_drift_118 : decode cX12_drift 118 = .ok (.goto (-98), 3) := by decide +kernel
theorem dX12_drift_121 : decode cX12_drift 121 = .ok (.aload_n 0, 1) := by decide +kernel
theorem dX12_drift_122 : decode cX12_drift 122 = .ok (.invokevirtual 168, 3) := by decide +kernel
theorem dX12_drift_125 : decode cX12_drift 125 = .ok (.ireturn, 1) := by decide +kernel
theorem dX12_formAt_0 : decode cX12_formAt 0 = .ok (.bipush 9, 2) := by decide +kernel
theorem dX12_formAt_2 : decode cX12_formAt 2 = .ok (.bipush 7, 2) := by decide +kernel
theorem dX12_formAt_4 : decode cX12_formAt 4 = .ok (.iload_n 1, 1) := by decide +kernel
theorem dX12_formAt_5 : decode cX12_formAt 5 = .ok (.imul, 1) := by decide +kernel
theorem dX12_formAt_6 : decode cX12_formAt 6 = .ok (.iload_n 2, 1) := by decide +kernel
theorem dX12_formAt_7 : decode cX12_formAt 7 = .ok (.iadd, 1) := by decide +kernel
theorem dX12_formAt_8 : decode cX12_formAt 8 = .ok (.imul, 1) := by decide +kernel
theorem dX12_formAt_9 : decode cX12_formAt 9 = .ok (.ireturn, 1) := by decide +kernel
set_option maxRecDepth 20000 in
theorem ggX12_laysForm_X12_formAt : GoodIn wsX12_laysForm wsX12_formAt := goodIn_r _ [9] rfl (by decide +kernel)
set_option maxRecDepth 20000 in
theorem gX12_laysForm_X12_formAt : GoodIn wsX12_laysForm (wsV RX12 184 RX12 yX12_formAt wsX12_formAt) := goodIn_app (goodIn_of _ (by decide +kernel)) ggX12_laysForm_X12_formAt
set_option maxRecDepth 20000 in
theorem ggX12_laysForm_X12_mod : GoodIn wsX12_laysForm wsX12_mod := goodIn_r _ [13, 14, 15, 16, 17, 18, 19, 20, 21, 22, 23, 24, 25, 26, 27, 28, 29, 30, 31, 32, 33, 34, 35, 36, 37, 38, 39, 40, 41, 42, 43, 44, 45, 46, 47, 48, 49, 50, 51, 52, 53, 54, 55, 56, 57, 58, 59, 60, 61, 62, 63, 64, 65, 66, 67, 68] rfl (by decide +kernel)
set_option maxRecDepth 20000 in
theorem gX12_laysForm_X12_mod : GoodIn wsX12_laysForm (wsV RX12 188 RX12 yX12_mod wsX12_mod) := goodIn_app (goodIn_of _ (by decide +kernel)) ggX12_laysForm_X12_mod
theorem dX12_laysForm_0 : decode cX12_laysForm 0 = .ok (.aload_n 0, 1) := by decide +kernel
theorem dX12_laysForm_1 : decode cX12_laysForm 1 = .ok (.iload_n 1, 1) := by decide +kernel
theorem dX12_laysForm_2 : decode cX12_laysForm 2 = .ok (.iload_n 2, 1) := by decide +kernel
theorem dX12_laysForm_3 : decode cX12_laysForm 3 = .ok (.invokevirtual 184, 3) := by decide +kernel
theorem dX12_laysForm_6 : decode cX12_laysForm 6 = .ok (.istore_n 3, 1) := by decide +kernel
theorem dX12_laysForm_7 : decode cX12_laysForm 7 = .ok (.iconst 0, 1) := by decide +kernel
theorem dX12_laysForm_8 : decode cX12_laysForm 8 = .ok (.istore 4, 2) := by decide +kernel
theorem dX12_laysForm_10 : decode cX12_laysForm 10 = .ok (.iload 4, 2) := by decide +kernel
theorem dX12_laysForm_12 : decode cX12_laysForm 12 = .ok (.bipush 9, 2) := by decide +kernel
theorem dX12_laysForm_14 : decode cX12_laysForm 14 = .ok (.if_icmp .ge 19, 3) := by decide +kernel
theorem dX12_laysForm_17 : decode cX12_laysForm 17 = .ok (.aload_n 0, 1) := by decide +kernel
theorem dX12_laysForm_18 : decode cX12_laysForm 18 = .ok (.getfield 69, 3) := by decide +kernel
theorem dX12_laysForm_21 : decode cX12_laysForm 21 = .ok (.iload_n 3, 1) := by decide +kernel
theorem dX12_laysForm_22 : decode cX12_laysForm 22 = .ok (.iload 4, 2) := by decide +kernel
theorem dX12_laysForm_24 : decode cX12_laysForm 24 = .ok (.iadd, 1) := by decide +kernel
theorem dX12_laysForm_25 : decode cX12_laysForm 25 = .ok (.iconst 0, 1) := by decide +kernel
theorem dX12_laysForm_26 : decode cX12_laysForm 26 = .ok (.iastore, 1) := by decide +kernel
theorem dX12_laysForm_27 : decode cX12_laysForm 27 = .ok (.iinc 4 1, 3) := by decide +kernel
theorem dX12_laysForm_30 : decode cX12_laysForm 30 = .ok (.goto (-20), 3) := by decide +kernel
theorem dX12_laysForm_33 : decode cX12_laysForm 33 = .ok (.iload_n 1, 1) := by decide +kernel
theorem dX12_laysForm_34 : decode cX12_laysForm 34 = .ok (.aload_n 0, 1) := by decide +kernel
theorem dX12_laysForm_35 : decode cX12_laysForm 35 = .ok (.getfield 13, 3) := by decide +kernel
theorem dX12_laysForm_38 : decode cX12_laysForm 38 = .ok (.if_icmp .ge 28, 3) := by decide +kernel
theorem dX12_laysForm_41 : decode cX12_laysForm 41 = .ok (.iload_n 2, 1) := by decide +kernel
theorem dX12_laysForm_42 : decode cX12_laysForm 42 = .ok (.aload_n 0, 1) := by decide +kernel
theorem dX12_laysForm_43 : decode cX12_laysForm 43 = .ok (.getfield 16, 3) := by decide +kernel
theorem dX12_laysForm_46 : decode cX12_laysForm 46 = .ok (.if_icmp .ge 20, 3) := by decide +kernel
theorem dX12_laysForm_49 : decode cX12_laysForm 49 = .ok (.aload_n 0, 1) := by decide +kernel
theorem dX12_laysForm_50 : decode cX12_laysForm 50 = .ok (.getfield 69, 3) := by decide +kernel
theorem dX12_laysForm_53 : decode cX12_laysForm 53 = .ok (.iload_n 3, 1) := by decide +kernel
theorem dX12_laysForm_54 : decode cX12_laysForm 54 = .ok (.aload_n 0, 1) := by decide +kernel
theorem dX12_laysForm_55 : decode cX12_laysForm 55 = .ok (.getfield 13, 3) := by decide +kernel
theorem dX12_laysForm_58 : decode cX12_laysForm 58 = .ok (.iload_n 2, 1) := by decide +kernel
theorem dX12_laysForm_59 : decode cX12_laysForm 59 = .ok (.imul, 1) := by decide +kernel
theorem dX12_laysForm_60 : decode cX12_laysForm 60 = .ok (.iadd, 1) := by decide +kernel
theorem dX12_laysForm_61 : decode cX12_laysForm 61 = .ok (.iload_n 1, 1) := by decide +kernel
theorem dX12_laysForm_62 : decode cX12_laysForm 62 = .ok (.iadd, 1) := by decide +kernel
theorem dX12_laysForm_63 : decode cX12_laysForm 63 = .ok (.iconst 1, 1) := by decide +kernel
theorem dX12_laysForm_64 : decode cX12_laysForm 64 = .ok (.iastore, 1) := by decide +kernel
theorem dX12_laysForm_65 : decode cX12_laysForm 65 = .ok (.return_, 1) := by decide +kernel
theorem dX12_laysForm_66 : decode cX12_laysForm 66 = .ok (.iload_n 1, 1) := by decide +kernel
theorem dX12_laysForm_67 : decode cX12_laysForm 67 = .ok (.aload_n 0, 1) := by decide +kernel
theorem dX12_laysForm_68 : decode cX12_laysForm 68 = .ok (.getfield 13, 3) := by decide +kernel
theorem dX12_laysForm_71 : decode cX12_laysForm 71 = .ok (.if_icmp .lt 7, 3) := by decide +kernel
theorem dX12_laysForm_74 : decode cX12_laysForm 74 = .ok (.iconst 1, 1) := by decide +kernel
theorem dX12_laysForm_75 : decode cX12_laysForm 75 = .ok (.goto 4, 3) := by decide +kernel
theorem dX12_laysForm_78 : decode cX12_laysForm 78 = .ok (.iconst 0, 1) := by decide +kernel
theorem dX12_laysForm_79 : decode cX12_laysForm 79 = .ok (.istore 4, 2) := by decide +kernel
theorem dX12_laysForm_81 : decode cX12_laysForm 81 = .ok (.iload 4, 2) := by decide +kernel
theorem dX12_laysForm_83 : decode cX12_laysForm 83 = .ok (.ifCond .eq 10, 3) := by decide +kernel
theorem dX12_laysForm_86 : decode cX12_laysForm 86 = .ok (.aload_n 0, 1) := by decide +kernel
theorem dX12_laysForm_87 : decode cX12_laysForm 87 = .ok (.getfield 13, 3) := by decide +kernel
theorem dX12_laysForm_90 : decode cX12_laysForm 90 = .ok (.goto 7, 3) := by decide +kernel
theorem dX12_laysForm_93 : decode cX12_laysForm 93 = .ok (.aload_n 0, 1) := by decide +kernel
theorem dX12_laysForm_94 : decode cX12_laysForm 94 = .ok (.getfield 16, 3) := by decide +kernel
theorem dX12_laysForm_97 : decode cX12_laysForm 97 = .ok (.istore 5, 2) := by decide +kernel
theorem dX12_laysForm_99 : decode cX12_laysForm 99 = .ok (.iconst 0, 1) := by decide +kernel
theorem dX12_laysForm_100 : decode cX12_laysForm 100 = .ok (.istore 6, 2) := by decide +kernel
theorem dX12_laysForm_102 : decode cX12_laysForm 102 = .ok (.iload 6, 2) := by decide +kernel
theorem dX12_laysForm_104 : decode cX12_laysForm 104 = .ok (.iload 5, 2) := by decide +kernel
theorem dX12_laysForm_106 : decode cX12_laysForm 106 = .ok (.if_icmp .ge 158, 3) := by decide +kernel
theorem dX12_laysForm_109 : decode cX12_laysForm 109 = .ok (.iconst 0, 1) := by decide +kernel
theorem dX12_laysForm_110 : decode cX12_laysForm 110 = .ok (.istore 7, 2) := by decide +kernel
theorem dX12_laysForm_112 : decode cX12_laysForm 112 = .ok (.iload 6, 2) := by decide +kernel
theorem dX12_laysForm_114 : decode cX12_laysForm 114 = .ok (.iload 7, 2) := by decide +kernel
theorem dX12_laysForm_116 : decode cX12_laysForm 116 = .ok (.iadd, 1) := by decide +kernel
theorem dX12_laysForm_117 : decode cX12_laysForm 117 = .ok (.iload 5, 2) := by decide +kernel
theorem dX12_laysForm_119 : decode cX12_laysForm 119 = .ok (.if_icmp .ge 139, 3) := by decide +kernel
theorem dX12_laysForm_122 : decode cX12_laysForm 122 = .ok (.aload_n 0, 1) := by decide +kernel
theorem dX12_laysForm_123 : decode cX12_laysForm 123 = .ok (.getfield 25, 3) := by decide +kernel
theorem dX12_laysForm_126 : decode cX12_laysForm 126 = .ok (.iload 4, 2) := by decide +kernel
theorem dX12_laysForm_128 : decode cX12_laysForm 128 = .ok (.ifCond .eq 7, 3) := by decide +kernel
theorem dX12_laysForm_131 : decode cX12_laysForm 131 = .ok (.iconst 0, 1) := by decide +kernel
theorem dX12_laysForm_132 : decode cX12_laysForm 132 = .ok (.goto 5, 3) := by decide +kernel
theorem dX12_laysForm_135 : decode cX12_laysForm 135 = .ok (.bipush 9, 2) := by decide +kernel
theorem dX12_laysForm_137 : decode cX12_laysForm 137 = .ok (.iconst 3, 1) := by decide +kernel
theorem dX12_laysForm_138 : decode cX12_laysForm 138 = .ok (.iload 6, 2) := by decide +kernel
theorem dX12_laysForm_140 : decode cX12_laysForm 140 = .ok (.imul, 1) := by decide +kernel
theorem dX12_laysForm_141 : decode cX12_laysForm 141 = .ok (.iadd, 1) := by decide +kernel
theorem dX12_laysForm_142 : decode cX12_laysForm 142 = .ok (.iload 7, 2) := by decide +kernel
theorem dX12_laysForm_144 : decode cX12_laysForm 144 = .ok (.iadd, 1) := by decide +kernel
theorem dX12_laysForm_145 : decode cX12_laysForm 145 = .ok (.iaload, 1) := by decide +kernel
theorem dX12_laysForm_146 : decode cX12_laysForm 146 = .ok (.istore 8, 2) := by decide +kernel
theorem dX12_laysForm_148 : decode cX12_laysForm 148 = .ok (.iload 4, 2) := by decide +kernel
theorem dX12_laysForm_150 : decode cX12_laysForm 150 = .ok (.ifCond .eq 23, 3) := by decide +kernel
theorem dX12_laysForm_153 : decode cX12_laysForm 153 = .ok (.aload_n 0, 1) := by decide +kernel
theorem dX12_laysForm_154 : decode cX12_laysForm 154 = .ok (.iload_n 1, 1) := by decide +kernel
theorem dX12_laysForm_155 : decode cX12_laysForm 155 = .ok (.aload_n 0, 1) := by decide +kernel
theorem dX12_laysForm_156 : decode cX12_laysForm 156 = .ok (.getfield 13, 3) := by decide +kernel
theorem dX12_laysForm_159 : decode cX12_laysForm 159 = .ok (.isub, 1) := by decide +kernel
theorem dX12_laysForm_160 : decode cX12_laysForm 160 = .ok (.iload 6, 2) := by decide +kernel
theorem dX12_laysForm_162 : decode cX12_laysForm 162 = .ok (.iadd, 1) := by decide +kernel
theorem dX12_laysForm_163 : decode cX12_laysForm 163 = .ok (.iload_n 2, 1) := by decide +kernel
theorem dX12_laysForm_164 : decode cX12_laysForm 164 = .ok (.iload 7, 2) := by decide +kernel
theorem dX12_laysForm_166 : decode cX12_laysForm 166 = .ok (.iadd, 1) := by decide +kernel
theorem dX12_laysForm_167 : decode cX12_laysForm 167 = .ok (.invokevirtual 184, 3) := by decide +kernel
theorem dX12_laysForm_170 : decode cX12_laysForm 170 = .ok (.goto 20, 3) := by decide +kernel
theorem dX12_laysForm_173 : decode cX12_laysForm 173 = .ok (.aload_n 0, 1) := by decide +kernel
theorem dX12_laysForm_174 : decode cX12_laysForm 174 = .ok (.iload_n 1, 1) := by decide +kernel
theorem dX12_laysForm_175 : decode cX12_laysForm 175 = .ok (.iload 6, 2) := by decide +kernel
theorem dX12_laysForm_177 : decode cX12_laysForm 177 = .ok (.iadd, 1) := by decide +kernel
theorem dX12_laysForm_178 : decode cX12_laysForm 178 = .ok (.iload_n 2, 1) := by decide +kernel
theorem dX12_laysForm_179 : decode cX12_laysForm 179 = .ok (.aload_n 0, 1) := by decide +kernel
theorem dX12_laysForm_180 : decode cX12_laysForm 180 = .ok (.getfield 16, 3) := by decide +kernel
theorem dX12_laysForm_183 : decode cX12_laysForm 183 = .ok (.isub, 1) := by decide +kernel
theorem dX12_laysForm_184 : decode cX12_laysForm 184 = .ok (.iload 7, 2) := by decide +kernel
theorem dX12_laysForm_186 : decode cX12_laysForm 186 = .ok (.iadd, 1) := by decide +kernel
theorem dX12_laysForm_187 : decode cX12_laysForm 187 = .ok (.invokevirtual 184, 3) := by decide +kernel
theorem dX12_laysForm_190 : decode cX12_laysForm 190 = .ok (.istore 9, 2) := by decide +kernel
theorem dX12_laysForm_192 : decode cX12_laysForm 192 = .ok (.iconst 0, 1) := by decide +kernel
theorem dX12_laysForm_193 : decode cX12_laysForm 193 = .ok (.istore 10, 2) := by decide +kernel
theorem dX12_laysForm_195 : decode cX12_laysForm 195 = .ok (.iload 10, 2) := by decide +kernel
theorem dX12_laysForm_197 : decode cX12_laysForm 197 = .ok (.bipush 9, 2) := by decide +kernel
theorem dX12_laysForm_199 : decode cX12_laysForm 199 = .ok (.if_icmp .ge 53, 3) := by decide +kernel
theorem dX12_laysForm_202 : decode cX12_laysForm 202 = .ok (.iload 8, 2) := by decide +kernel
theorem dX12_laysForm_204 : decode cX12_laysForm 204 = .ok (.ifCond .eq 48, 3) := by decide +kernel
theorem dX12_laysForm_207 : decode cX12_laysForm 207 = .ok (.aload_n 0, 1) := by decide +kernel
theorem dX12_laysForm_208 : decode cX12_laysForm 208 = .ok (.getfield 69, 3) := by decide +kernel
theorem dX12_laysForm_211 : decode cX12_laysForm 211 = .ok (.iload_n 3, 1) := by decide +kernel
theorem dX12_laysForm_212 : decode cX12_laysForm 212 = .ok (.iload 10, 2) := by decide +kernel
theorem dX12_laysForm_214 : decode cX12_laysForm 214 = .ok (.iadd, 1) := by decide +kernel
theorem dX12_laysForm_215 : decode cX12_laysForm 215 = .ok (.aload_n 0, 1) := by decide +kernel
theorem dX12_laysForm_216 : decode cX12_laysForm 216 = .ok (.aload_n 0, 1) := by decide +kernel
theorem dX12_laysForm_217 : decode cX12_laysForm 217 = .ok (.getfield 69, 3) := by decide +kernel
theorem dX12_laysForm_220 : decode cX12_laysForm 220 = .ok (.iload_n 3, 1) := by decide +kernel
theorem dX12_laysForm_221 : decode cX12_laysForm 221 = .ok (.iload 10, 2) := by decide +kernel
theorem dX12_laysForm_223 : decode cX12_laysForm 223 = .ok (.iadd, 1) := by decide +kernel
theorem dX12_laysForm_224 : decode cX12_laysForm 224 = .ok (.iaload, 1) := by decide +kernel
theorem dX12_laysForm_225 : decode cX12_laysForm 225 = .ok (.i2l, 1) := by decide +kernel
theorem dX12_laysForm_226 : decode cX12_laysForm 226 = .ok (.iload 8, 2) := by decide +kernel
theorem dX12_laysForm_228 : decode cX12_laysForm 228 = .ok (.i2l, 1) := by decide +kernel
theorem dX12_laysForm_229 : decode cX12_laysForm 229 = .ok (.aload_n 0, 1) := by decide +kernel
theorem dX12_laysForm_230 : decode cX12_laysForm 230 = .ok (.getfield 69, 3) := by decide +kernel
theorem dX12_laysForm_233 : decode cX12_laysForm 233 = .ok (.iload 9, 2) := by decide +kernel
theorem dX12_laysForm_235 : decode cX12_laysForm 235 = .ok (.iload 10, 2) := by decide +kernel
theorem dX12_laysForm_237 : decode cX12_laysForm 237 = .ok (.iadd, 1) := by decide +kernel
theorem dX12_laysForm_238 : decode cX12_laysForm 238 = .ok (.iaload, 1) := by decide +kernel
theorem dX12_laysForm_239 : decode cX12_laysForm 239 = .ok (.i2l, 1) := by decide +kernel
theorem dX12_laysForm_240 : decode cX12_laysForm 240 = .ok (.lmul, 1) := by decide +kernel
theorem dX12_laysForm_241 : decode cX12_laysForm 241 = .ok (.lsub, 1) := by decide +kernel
theorem dX12_laysForm_242 : decode cX12_laysForm 242 = .ok (.invokevirtual 188, 3) := by decide +kernel
theorem dX12_laysForm_245 : decode cX12_laysForm 245 = .ok (.iastore, 1) := by decide +kernel
theorem dX12_laysForm_246 : decode cX12_laysForm 246 = .ok (.iinc 10 1, 3) := by decide +kernel
theorem dX12_laysForm_249 : decode cX12_laysForm 249 = .ok (.goto (-54), 3) := by decide +kernel
theorem dX12_laysForm_252 : decode cX12_laysForm 252 = .ok (.iinc 7 1, 3) := by decide +kernel
theorem dX12_laysForm_255 : decode cX12_laysForm 255 = .ok (.goto (-143), 3) := by decide +kernel
theorem dX12_laysForm_258 : decode cX12_laysForm 258 = .ok (.iinc 6 1, 3) := by decide +kernel
theorem dX12_laysForm_261 : decode cX12_laysForm 261 = .ok (.goto (-159), 3) := by decide +kernel
theorem dX12_laysForm_264 : decode cX12_laysForm 264 = .ok (.return_, 1) := by decide +kernel
set_option maxRecDepth 20000 in
theorem ggX12_laysForms_X12_laysForm : GoodIn wsX12_laysForms wsX12_laysForm := goodIn_r _ [10, 4, 2, 1, 11, 12, 13, 14, 9, 15, 16, 17, 18, 19, 20, 21, 22, 23, 24, 25, 26, 27, 28, 29, 30, 31, 32, 33, 34, 35, 36, 37, 38, 39, 40, 41, 42, 43, 44, 45, 46, 47, 48, 49, 50, 51, 52, 53, 54, 55, 56, 57, 58, 59, 60, 61, 62, 63, 64, 65, 66, 67, 68, 69, 70, 71, 72, 73, 74] rfl (by decide +kernel)
set_option maxRecDepth 20000 in
theorem gX12_laysForms_X12_laysForm : GoodIn wsX12_laysForms (wsV RX12 192 RX12 yX12_laysForm wsX12_laysForm) := goodIn_app (goodIn_of _ (by decide +kernel)) ggX12_laysForms_X12_laysForm
set_option maxRecDepth 20000 in
theorem ggX12_laysForms_X12_formAt : GoodIn wsX12_laysForms wsX12_formAt := goodIn_r _ [15] rfl (by decide +kernel)
set_option maxRecDepth 20000 in
theorem gX12_laysForms_X12_formAt : GoodIn wsX12_laysForms (wsV RX12 184 RX12 yX12_formAt wsX12_formAt) := goodIn_app (goodIn_of _ (by decide +kernel)) ggX12_laysForms_X12_formAt
theorem dX12_laysForms_0 : decode cX12_laysForms 0 = .ok (.iconst 0, 1) := by decide +kernel
theorem dX12_laysForms_1 : decode cX12_laysForms 1 = .ok (.istore_n 1, 1) := by decide +kernel
theorem dX12_laysForms_2 : decode cX12_laysForms 2 = .ok (.iload_n 1, 1) := by decide +kernel
theorem dX12_laysForms_3 : decode cX12_laysForms 3 = .ok (.bipush 7, 2) := by decide +kernel
theorem dX12_laysForms_5 : decode cX12_laysForms 5 = .ok (.if_icmp .ge 30, 3) := by decide +kernel
theorem dX12_laysForms_8 : decode cX12_laysForms 8 = .ok (.iconst 0, 1) := by decide +kernel
theorem dX12_laysForms_9 : decode cX12_laysForms 9 = .ok (.istore_n 2, 1) := by decide +kernel
theorem dX12_laysForms_10 : decode cX12_laysForms 10 = .ok (.iload_n 2, 1) := by decide +kernel
theorem dX12_laysForms_11 : decode cX12_laysForms 11 = .ok (.iload_n 1, 1) := by decide +kernel
theorem dX12_laysForms_12 : decode cX12_laysForms 12 = .ok (.if_icmp .gt 17, 3) := by decide +kernel
theorem dX12_laysForms_15 : decode cX12_laysForms 15 = .ok (.aload_n 0, 1) := by decide +kernel
theorem dX12_laysForms_16 : decode cX12_laysForms 16 = .ok (.iload_n 2, 1) := by decide +kernel
theorem dX12_laysForms_17 : decode cX12_laysForms 17 = .ok (.iload_n 1, 1) := by decide +kernel
theorem dX12_laysForms_18 : decode cX12_laysForms 18 = .ok (.iload_n 2, 1) := by decide +kernel
theorem dX12_laysForms_19 : decode cX12_laysForms 19 = .ok (.isub, 1) := by decide +kernel
theorem dX12_laysForms_20 : decode cX12_laysForms 20 = .ok (.invokevirtual 192, 3) := by decide +kernel
theorem dX12_laysForms_23 : decode cX12_laysForms 23 = .ok (.iinc 2 1, 3) := by decide +kernel
theorem dX12_laysForms_26 : decode cX12_laysForms 26 = .ok (.goto (-16), 3) := by decide +kernel
theorem dX12_laysForms_29 : decode cX12_laysForms 29 = .ok (.iinc 1 1, 3) := by decide +kernel
theorem dX12_laysForms_32 : decode cX12_laysForms 32 = .ok (.goto (-30), 3) := by decide +kernel
theorem dX12_laysForms_35 : decode cX12_laysForms 35 = .ok (.iconst 0, 1) := by decide +kernel
theorem dX12_laysForms_36 : decode cX12_laysForms 36 = .ok (.istore_n 1, 1) := by decide +kernel
theorem dX12_laysForms_37 : decode cX12_laysForms 37 = .ok (.iload_n 1, 1) := by decide +kernel
theorem dX12_laysForms_38 : decode cX12_laysForms 38 = .ok (.aload_n 0, 1) := by decide +kernel
theorem dX12_laysForms_39 : decode cX12_laysForms 39 = .ok (.getfield 16, 3) := by decide +kernel
theorem dX12_laysForms_42 : decode cX12_laysForms 42 = .ok (.if_icmp .ge 103, 3) := by decide +kernel
theorem dX12_laysForms_45 : decode cX12_laysForms 45 = .ok (.iconst 0, 1) := by decide +kernel
theorem dX12_laysForms_46 : decode cX12_laysForms 46 = .ok (.istore_n 2, 1) := by decide +kernel
theorem dX12_laysForms_47 : decode cX12_laysForms 47 = .ok (.iload_n 2, 1) := by decide +kernel
theorem dX12_laysForms_48 : decode cX12_laysForms 48 = .ok (.aload_n 0, 1) := by decide +kernel
theorem dX12_laysForms_49 : decode cX12_laysForms 49 = .ok (.getfield 13, 3) := by decide +kernel
theorem dX12_laysForms_52 : decode cX12_laysForms 52 = .ok (.if_icmp .ge 87, 3) := by decide +kernel
theorem dX12_laysForms_55 : decode cX12_laysForms 55 = .ok (.bipush 9, 2) := by decide +kernel
theorem dX12_laysForms_57 : decode cX12_laysForms 57 = .ok (.aload_n 0, 1) := by decide +kernel
theorem dX12_laysForms_58 : decode cX12_laysForms 58 = .ok (.getfield 13, 3) := by decide +kernel
theorem dX12_laysForms_61 : decode cX12_laysForms 61 = .ok (.iload_n 1, 1) := by decide +kernel
theorem dX12_laysForms_62 : decode cX12_laysForms 62 = .ok (.imul, 1) := by decide +kernel
theorem dX12_laysForms_63 : decode cX12_laysForms 63 = .ok (.iload_n 2, 1) := by decide +kernel
theorem dX12_laysForms_64 : decode cX12_laysForms 64 = .ok (.iadd, 1) := by decide +kernel
theorem dX12_laysForms_65 : decode cX12_laysForms 65 = .ok (.imul, 1) := by decide +kernel
theorem dX12_laysForms_66 : decode cX12_laysForms 66 = .ok (.istore_n 3, 1) := by decide +kernel
theorem dX12_laysForms_67 : decode cX12_laysForms 67 = .ok (.iconst 0, 1) := by decide +kernel
theorem dX12_laysForms_68 : decode cX12_laysForms 68 = .ok (.istore 4, 2) := by decide +kernel
theorem dX12_laysForms_70 : decode cX12_laysForms 70 = .ok (.iload 4, 2) := by decide +kernel
theorem dX12_laysForms_72 : decode cX12_laysForms 72 = .ok (.bipush 9, 2) := by decide +kernel
theorem dX12_laysForms_74 : decode cX12_laysForms 74 = .ok (.if_icmp .ge 59, 3) := by decide +kernel
theorem dX12_laysForms_77 : decode cX12_laysForms 77 = .ok (.aload_n 0, 1) := by decide +kernel
theorem dX12_laysForms_78 : decode cX12_laysForms 78 = .ok (.getfield 72, 3) := by decide +kernel
theorem dX12_laysForms_81 : decode cX12_laysForms 81 = .ok (.iload_n 3, 1) := by decide +kernel
theorem dX12_laysForms_82 : decode cX12_laysForms 82 = .ok (.iload 4, 2) := by decide +kernel
theorem dX12_laysForms_84 : decode cX12_laysForms 84 = .ok (.iadd, 1) := by decide +kernel
theorem dX12_laysForms_85 : decode cX12_laysForms 85 = .ok (.aload_n 0, 1) := by decide +kernel
theorem dX12_laysForms_86 : decode cX12_laysForms 86 = .ok (.getfield 69, 3) := by decide +kernel
theorem dX12_laysForms_89 : decode cX12_laysForms 89 = .ok (.aload_n 0, 1) := by decide +kernel
theorem dX12_laysForms_90 : decode cX12_laysForms 90 = .ok (.iload_n 2, 1) := by decide +kernel
theorem dX12_laysForms_91 : decode cX12_laysForms 91 = .ok (.iconst 1, 1) := by decide +kernel
theorem dX12_laysForms_92 : decode cX12_laysForms 92 = .ok (.iadd, 1) := by decide +kernel
theorem dX12_laysForms_93 : decode cX12_laysForms 93 = .ok (.iload_n 1, 1) := by decide +kernel
theorem dX12_laysForms_94 : decode cX12_laysForms 94 = .ok (.invokevirtual 184, 3) := by decide +kernel
theorem dX12_laysForms_97 : decode cX12_laysForms 97 = .ok (.iload 4, 2) := by decide +kernel
theorem dX12_laysForms_99 : decode cX12_laysForms 99 = .ok (.iadd, 1) := by decide +kernel
theorem dX12_laysForms_100 : decode cX12_laysForms 100 = .ok (.iaload, 1) := by decide +kernel
theorem dX12_laysForms_101 : decode cX12_laysForms 101 = .ok (.iastore, 1) := by decide +kernel
theorem dX12_laysForms_102 : decode cX12_laysForms 102 = .ok (.aload_n 0, 1) := by decide +kernel
theorem dX12_laysForms_103 : decode cX12_laysForms 103 = .ok (.getfield 75, 3) := by decide +kernel
theorem dX12_laysForms_106 : decode cX12_laysForms 106 = .ok (.iload_n 3, 1) := by decide +kernel
theorem dX12_laysForms_107 : decode cX12_laysForms 107 = .ok (.iload 4, 2) := by decide +kernel
theorem dX12_laysForms_109 : decode cX12_laysForms 109 = .ok (.iadd, 1) := by decide +kernel
theorem dX12_laysForms_110 : decode cX12_laysForms 110 = .ok (.aload_n 0, 1) := by decide +kernel
theorem dX12_laysForms_111 : decode cX12_laysForms 111 = .ok (.getfield 69, 3) := by decide +kernel
theorem dX12_laysForms_114 : decode cX12_laysForms 114 = .ok (.aload_n 0, 1) := by decide +kernel
theorem dX12_laysForms_115 : decode cX12_laysForms 115 = .ok (.iload_n 2, 1) := by decide +kernel
theorem dX12_laysForms_116 : decode cX12_laysForms 116 = .ok (.iload_n 1, 1) := by decide +kernel
theorem dX12_laysForms_117 : decode cX12_laysForms 117 = .ok (.iconst 1, 1) := by decide +kernel
theorem dX12_laysForms_118 : decode cX12_laysForms 118 = .ok (.iadd, 1) := by decide +kernel
theorem dX12_laysForms_119 : decode cX12_laysForms 119 = .ok (.invokevirtual 184, 3) := by decide +kernel
theorem dX12_laysForms_122 : decode cX12_laysForms 122 = .ok (.iload 4, 2) := by decide +kernel
theorem dX12_laysForms_124 : decode cX12_laysForms 124 = .ok (.iadd, 1) := by decide +kernel
theorem dX12_laysForms_125 : decode cX12_laysForms 125 = .ok (.iaload, 1) := by decide +kernel
theorem dX12_laysForms_126 : decode cX12_laysForms 126 = .ok (.iastore, 1) := by decide +kernel
theorem dX12_laysForms_127 : decode cX12_laysForms 127 = .ok (.iinc 4 1, 3) := by decide +kernel
theorem dX12_laysForms_130 : decode cX12_laysForms 130 = .ok (.goto (-60), 3) := by decide +kernel
theorem dX12_laysForms_133 : decode cX12_laysForms 133 = .ok (.iinc 2 1, 3) := by decide +kernel
theorem dX12_laysForms_136 : decode cX12_laysForms 136 = .ok (.goto (-89), 3) := by decide +kernel
theorem dX12_laysForms_139 : decode cX12_laysForms 139 = .ok (.iinc 1 1, 3) := by decide +kernel
theorem dX12_laysForms_142 : decode cX12_laysForms 142 = .ok (.goto (-105), 3) := by decide +kernel
theorem dX12_laysForms_145 : decode cX12_laysForms 145 = .ok (.return_, 1) := by decide +kernel
set_option maxRecDepth 20000 in
theorem ggX12_applies_X12_dimension : GoodIn wsX12_applies wsX12_dimension := goodIn_r _ [8, 9, 10, 11, 12, 13, 14, 15, 16, 17, 18, 19, 20, 21, 22, 23, 24, 25, 26, 27, 28, 29, 30, 31, 32, 33, 34, 35, 36, 37, 38, 39, 40, 41, 42, 43, 44, 45, 46, 47, 48, 49, 50, 51, 52, 53, 54, 55, 56, 57, 58, 59, 60, 61, 62, 63, 64] rfl (by decide +kernel)
set_option maxRecDepth 20000 in
theorem gX12_applies_X12_dimension : GoodIn wsX12_applies (wsV RX12 168 RX12 yX12_dimension wsX12_dimension) := goodIn_app (goodIn_of _ (by decide +kernel)) ggX12_applies_X12_dimension
theorem dX12_applies_0 : decode cX12_applies 0 = .ok (.aload_n 0, 1) := by decide +kernel
theorem dX12_applies_1 : decode cX12_applies 1 = .ok (.invokevirtual 168, 3) := by decide +kernel
theorem dX12_applies_4 : decode cX12_applies 4 = .ok (.istore_n 2, 1) := by decide +kernel
theorem dX12_applies_5 : decode cX12_applies 5 = .ok (.iconst 0, 1) := by decide +kernel
theorem dX12_applies_6 : decode cX12_applies 6 = .ok (.istore_n 3, 1) := by decide +kernel
theorem dX12_applies_7 : decode cX12_applies 7 = .ok (.iload_n 3, 1) := by decide +kernel
theorem dX12_applies_8 : decode cX12_applies 8 = .ok (.bipush 9, 2) := by decide +kernel
theorem dX12_applies_10 : decode cX12_applies 10 = .ok (.if_icmp .ge 16, 3) := by decide +kernel
theorem dX12_applies_13 : decode cX12_applies 13 = .ok (.aload_n 0, 1) := by decide +kernel
theorem dX12_applies_14 : decode cX12_applies 14 = .ok (.getfield 87, 3) := by decide +kernel
theorem dX12_applies_17 : decode cX12_applies 17 = .ok (.iload_n 3, 1) := by decide +kernel
theorem dX12_applies_18 : decode cX12_applies 18 = .ok (.iconst 0, 1) := by decide +kernel
theorem dX12_applies_19 : decode cX12_applies 19 = .ok (.iastore, 1) := by decide +kernel
theorem dX12_applies_20 : decode cX12_applies 20 = .ok (.iinc 3 1, 3) := by decide +kernel
theorem dX12_applies_23 : decode cX12_applies 23 = .ok (.goto (-16), 3) := by decide +kernel
theorem dX12_applies_26 : decode cX12_applies 26 = .ok (.iconst 0, 1) := by decide +kernel
theorem dX12_applies_27 : decode cX12_applies 27 = .ok (.istore_n 3, 1) := by decide +kernel
theorem dX12_applies_28 : decode cX12_applies 28 = .ok (.iload_n 3, 1) := by decide +kernel
theorem dX12_applies_29 : decode cX12_applies 29 = .ok (.iload_n 2, 1) := by decide +kernel
theorem dX12_applies_30 : decode cX12_applies 30 = .ok (.if_icmp .ge 60, 3) := by decide +kernel
theorem dX12_applies_33 : decode cX12_applies 33 = .ok (.iconst 0, 1) := by decide +kernel
theorem dX12_applies_34 : decode cX12_applies 34 = .ok (.istore 4, 2) := by decide +kernel
theorem dX12_applies_36 : decode cX12_applies 36 = .ok (.iload 4, 2) := by decide +kernel
theorem dX12_applies_38 : decode cX12_applies 38 = .ok (.iload_n 2, 1) := by decide +kernel
theorem dX12_applies_39 : decode cX12_applies 39 = .ok (.if_icmp .ge 45, 3) := by decide +kernel
theorem dX12_applies_42 : decode cX12_applies 42 = .ok (.aload_n 0, 1) := by decide +kernel
theorem dX12_applies_43 : decode cX12_applies 43 = .ok (.getfield 87, 3) := by decide +kernel
theorem dX12_applies_46 : decode cX12_applies 46 = .ok (.iload 4, 2) := by decide +kernel
theorem dX12_applies_48 : decode cX12_applies 48 = .ok (.aload_n 0, 1) := by decide +kernel
theorem dX12_applies_49 : decode cX12_applies 49 = .ok (.getfield 87, 3) := by decide +kernel
theorem dX12_applies_52 : decode cX12_applies 52 = .ok (.iload 4, 2) := by decide +kernel
theorem dX12_applies_54 : decode cX12_applies 54 = .ok (.iaload, 1) := by decide +kernel
theorem dX12_applies_55 : decode cX12_applies 55 = .ok (.aload_n 0, 1) := by decide +kernel
theorem dX12_applies_56 : decode cX12_applies 56 = .ok (.getfield 84, 3) := by decide +kernel
theorem dX12_applies_59 : decode cX12_applies 59 = .ok (.iload_n 3, 1) := by decide +kernel
theorem dX12_applies_60 : decode cX12_applies 60 = .ok (.iaload, 1) := by decide +kernel
theorem dX12_applies_61 : decode cX12_applies 61 = .ok (.aload_n 1, 1) := by decide +kernel
theorem dX12_applies_62 : decode cX12_applies 62 = .ok (.bipush 9, 2) := by decide +kernel
theorem dX12_applies_64 : decode cX12_applies 64 = .ok (.iload_n 3, 1) := by decide +kernel
theorem dX12_applies_65 : decode cX12_applies 65 = .ok (.imul, 1) := by decide +kernel
theorem dX12_applies_66 : decode cX12_applies 66 = .ok (.iload 4, 2) := by decide +kernel
theorem dX12_applies_68 : decode cX12_applies 68 = .ok (.iadd, 1) := by decide +kernel
theorem dX12_applies_69 : decode cX12_applies 69 = .ok (.iaload, 1) := by decide +kernel
theorem dX12_applies_70 : decode cX12_applies 70 = .ok (.imul, 1) := by decide +kernel
theorem dX12_applies_71 : decode cX12_applies 71 = .ok (.iadd, 1) := by decide +kernel
theorem dX12_applies_72 : decode cX12_applies 72 = .ok (.aload_n 0, 1) := by decide +kernel
theorem dX12_applies_73 : decode cX12_applies 73 = .ok (.getfield 7, 3) := by decide +kernel
theorem dX12_applies_76 : decode cX12_applies 76 = .ok (.irem, 1) := by decide +kernel
theorem dX12_applies_77 : decode cX12_applies 77 = .ok (.iastore, 1) := by decide +kernel
theorem dX12_applies_78 : decode cX12_applies 78 = .ok (.iinc 4 1, 3) := by decide +kernel
theorem dX12_applies_81 : decode cX12_applies 81 = .ok (.goto (-45), 3) := by decide +kernel
theorem dX12_applies_84 : decode cX12_applies 84 = .ok (.iinc 3 1, 3) := by decide +kernel
theorem dX12_applies_87 : decode cX12_applies 87 = .ok (.goto (-59), 3) := by decide +kernel
theorem dX12_applies_90 : decode cX12_applies 90 = .ok (.iconst 0, 1) := by decide +kernel
theorem dX12_applies_91 : decode cX12_applies 91 = .ok (.istore_n 3, 1) := by decide +kernel
theorem dX12_applies_92 : decode cX12_applies 92 = .ok (.iload_n 3, 1) := by decide +kernel
theorem dX12_applies_93 : decode cX12_applies 93 = .ok (.bipush 9, 2) := by decide +kernel
theorem dX12_applies_95 : decode cX12_applies 95 = .ok (.if_icmp .ge 21, 3) := by decide +kernel
theorem dX12_applies_98 : decode cX12_applies 98 = .ok (.aload_n 0, 1) := by decide +kernel
theorem dX12_applies_99 : decode cX12_applies 99 = .ok (.getfield 84, 3) := by decide +kernel
theorem dX12_applies_102 : decode cX12_applies 102 = .ok (.iload_n 3, 1) := by decide +kernel
theorem dX12_applies_103 : decode cX12_applies 103 = .ok (.aload_n 0, 1) := by decide +kernel
theorem dX12_applies_104 : decode cX12_applies 104 = .ok (.getfield 87, 3) := by decide +kernel
theorem dX12_applies_107 : decode cX12_applies 107 = .ok (.iload_n 3, 1) := by decide +kernel
theorem dX12_applies_108 : decode cX12_applies 108 = .ok (.iaload, 1) := by decide +kernel
theorem dX12_applies_109 : decode cX12_applies 109 = .ok (.iastore, 1) := by decide +kernel
theorem dX12_applies_110 : decode cX12_applies 110 = .ok (.iinc 3 1, 3) := by decide +kernel
theorem dX12_applies_113 : decode cX12_applies 113 = .ok (.goto (-21), 3) := by decide +kernel
theorem dX12_applies_116 : decode cX12_applies 116 = .ok (.return_, 1) := by decide +kernel
set_option maxRecDepth 20000 in
theorem ggX12_squares_X12_dimension : GoodIn wsX12_squares wsX12_dimension := goodIn_r _ [8, 9, 10, 11, 12, 13, 14, 15, 16, 17, 18, 19, 20, 21, 22, 23, 24, 25, 26, 27, 28, 29, 30, 31, 32, 33, 34, 35, 36, 37, 38, 39, 40, 41, 42, 43, 44, 45, 46, 47, 48, 49, 50, 51, 52, 53, 54, 55, 56, 57, 58, 59, 60, 61, 62, 63, 64] rfl (by decide +kernel)
set_option maxRecDepth 20000 in
theorem gX12_squares_X12_dimension : GoodIn wsX12_squares (wsV RX12 168 RX12 yX12_dimension wsX12_dimension) := goodIn_app (goodIn_of _ (by decide +kernel)) ggX12_squares_X12_dimension
theorem dX12_squares_0 : decode cX12_squares 0 = .ok (.aload_n 0, 1) := by decide +kernel
theorem dX12_squares_1 : decode cX12_squares 1 = .ok (.invokevirtual 168, 3) := by decide +kernel
theorem dX12_squares_4 : decode cX12_squares 4 = .ok (.istore_n 1, 1) := by decide +kernel
theorem dX12_squares_5 : decode cX12_squares 5 = .ok (.iconst 0, 1) := by decide +kernel
theorem dX12_squares_6 : decode cX12_squares 6 = .ok (.istore_n 2, 1) := by decide +kernel
theorem dX12_squares_7 : decode cX12_squares 7 = .ok (.iload_n 2, 1) := by decide +kernel
theorem dX12_squares_8 : decode cX12_squares 8 = .ok (.iload_n 1, 1) := by decide +kernel
theorem dX12_squares_9 : decode cX12_squares 9 = .ok (.if_icmp .ge 88, 3) := by decide +kernel
theorem dX12_squares_12 : decode cX12_squares 12 = .ok (.iconst 0, 1) := by decide +kernel
theorem dX12_squares_13 : decode cX12_squares 13 = .ok (.istore_n 3, 1) := by decide +kernel
theorem dX12_squares_14 : decode cX12_squares 14 = .ok (.iload_n 3, 1) := by decide +kernel
theorem dX12_squares_15 : decode cX12_squares 15 = .ok (.iload_n 1, 1) := by decide +kernel
theorem dX12_squares_16 : decode cX12_squares 16 = .ok (.if_icmp .ge 75, 3) := by decide +kernel
theorem dX12_squares_19 : decode cX12_squares 19 = .ok (.iconst 0, 1) := by decide +kernel
theorem dX12_squares_20 : decode cX12_squares 20 = .ok (.istore 4, 2) := by decide +kernel
theorem dX12_squares_22 : decode cX12_squares 22 = .ok (.iconst 0, 1) := by decide +kernel
theorem dX12_squares_23 : decode cX12_squares 23 = .ok (.istore 5, 2) := by decide +kernel
theorem dX12_squares_25 : decode cX12_squares 25 = .ok (.iload 5, 2) := by decide +kernel
theorem dX12_squares_27 : decode cX12_squares 27 = .ok (.iload_n 1, 1) := by decide +kernel
theorem dX12_squares_28 : decode cX12_squares 28 = .ok (.if_icmp .ge 39, 3) := by decide +kernel
theorem dX12_squares_31 : decode cX12_squares 31 = .ok (.iload 4, 2) := by decide +kernel
theorem dX12_squares_33 : decode cX12_squares 33 = .ok (.aload_n 0, 1) := by decide +kernel
theorem dX12_squares_34 : decode cX12_squares 34 = .ok (.getfield 78, 3) := by decide +kernel
theorem dX12_squares_37 : decode cX12_squares 37 = .ok (.bipush 9, 2) := by decide +kernel
theorem dX12_squares_39 : decode cX12_squares 39 = .ok (.iload_n 2, 1) := by decide +kernel
theorem dX12_squares_40 : decode cX12_squares 40 = .ok (.imul, 1) := by decide +kernel
theorem dX12_squares_41 : decode cX12_squares 41 = .ok (.iload 5, 2) := by decide +kernel
theorem dX12_squares_43 : decode cX12_squares 43 = .ok (.iadd, 1) := by decide +kernel
theorem dX12_squares_44 : decode cX12_squares 44 = .ok (.iaload, 1) := by decide +kernel
theorem dX12_squares_45 : decode cX12_squares 45 = .ok (.aload_n 0, 1) := by decide +kernel
theorem dX12_squares_46 : decode cX12_squares 46 = .ok (.getfield 78, 3) := by decide +kernel
theorem dX12_squares_49 : decode cX12_squares 49 = .ok (.bipush 9, 2) := by decide +kernel
theorem dX12_squares_51 : decode cX12_squares 51 = .ok (.iload 5, 2) := by decide +kernel
theorem dX12_squares_53 : decode cX12_squares 53 = .ok (.imul, 1) := by decide +kernel
theorem dX12_squares_54 : decode cX12_squares 54 = .ok (.iload_n 3, 1) := by decide +kernel
theorem dX12_squares_55 : decode cX12_squares 55 = .ok (.iadd, 1) := by decide +kernel
theorem dX12_squares_56 : decode cX12_squares 56 = .ok (.iaload, 1) := by decide +kernel
theorem dX12_squares_57 : decode cX12_squares 57 = .ok (.imul, 1) := by decide +kernel
theorem dX12_squares_58 : decode cX12_squares 58 = .ok (.iadd, 1) := by decide +kernel
theorem dX12_squares_59 : decode cX12_squares 59 = .ok (.istore 4, 2) := by decide +kernel
theorem dX12_squares_61 : decode cX12_squares 61 = .ok (.iinc 5 1, 3) := by decide +kernel
theorem dX12_squares_64 : decode cX12_squares 64 = .ok (.goto (-39), 3) := by decide +kernel
theorem dX12_squares_67 : decode cX12_squares 67 = .ok (.aload_n 0, 1) := by decide +kernel
theorem dX12_squares_68 : decode cX12_squares 68 = .ok (.getfield 81, 3) := by decide +kernel
theorem dX12_squares_71 : decode cX12_squares 71 = .ok (.bipush 9, 2) := by decide +kernel
theorem dX12_squares_73 : decode cX12_squares 73 = .ok (.iload_n 2, 1) := by decide +kernel
theorem dX12_squares_74 : decode cX12_squares 74 = .ok (.imul, 1) := by decide +kernel
theorem dX12_squares_75 : decode cX12_squares 75 = .ok (.iload_n 3, 1) := by decide +kernel
theorem dX12_squares_76 : decode cX12_squares 76 = .ok (.iadd, 1) := by decide +kernel
theorem dX12_squares_77 : decode cX12_squares 77 = .ok (.iload 4, 2) := by decide +kernel
theorem dX12_squares_79 : decode cX12_squares 79 = .ok (.aload_n 0, 1) := by decide +kernel
theorem dX12_squares_80 : decode cX12_squares 80 = .ok (.getfield 7, 3) := by decide +kernel
theorem dX12_squares_83 : decode cX12_squares 83 = .ok (.irem, 1) := by decide +kernel
theorem dX12_squares_84 : decode cX12_squares 84 = .ok (.iastore, 1) := by decide +kernel
theorem dX12_squares_85 : decode cX12_squares 85 = .ok (.iinc 3 1, 3) := by decide +kernel
theorem dX12_squares_88 : decode cX12_squares 88 = .ok (.goto (-74), 3) := by decide +kernel
theorem dX12_squares_91 : decode cX12_squares 91 = .ok (.iinc 2 1, 3) := by decide +kernel
theorem dX12_squares_94 : decode cX12_squares 94 = .ok (.goto (-87), 3) := by decide +kernel
theorem dX12_squares_97 : decode cX12_squares 97 = .ok (.iconst 0, 1) := by decide +kernel
theorem dX12_squares_98 : decode cX12_squares 98 = .ok (.istore_n 2, 1) := by decide +kernel
theorem dX12_squares_99 : decode cX12_squares 99 = .ok (.iload_n 2, 1) := by decide +kernel
theorem dX12_squares_100 : decode cX12_squares 100 = .ok (.bipush 81, 2) := by decide +kernel
theorem dX12_squares_102 : decode cX12_squares 102 = .ok (.if_icmp .ge 21, 3) := by decide +kernel
theorem dX12_squares_105 : decode cX12_squares 105 = .ok (.aload_n 0, 1) := by decide +kernel
theorem dX12_squares_106 : decode cX12_squares 106 = .ok (.getfield 78, 3) := by decide +kernel
theorem dX12_squares_109 : decode cX12_squares 109 = .ok (.iload_n 2, 1) := by decide +kernel
theorem dX12_squares_110 : decode cX12_squares 110 = .ok (.aload_n 0, 1) := by decide +kernel
theorem dX12_squares_111 : decode cX12_squares 111 = .ok (.getfield 81, 3) := by decide +kernel
theorem dX12_squares_114 : decode cX12_squares 114 = .ok (.iload_n 2, 1) := by decide +kernel
theorem dX12_squares_115 : decode cX12_squares 115 = .ok (.iaload, 1) := by decide +kernel
theorem dX12_squares_116 : decode cX12_squares 116 = .ok (.iastore, 1) := by decide +kernel
theorem dX12_squares_117 : decode cX12_squares 117 = .ok (.iinc 2 1, 3) := by decide +kernel
theorem dX12_squares_120 : decode cX12_squares 120 = .ok (.goto (-21), 3) := by decide +kernel
theorem dX12_squares_123 : decode cX12_squares 123 = .ok (.return_, 1) := by decide +kernel
set_option maxRecDepth 20000 in
theorem ggX12_appliesOften_X12_applies : GoodIn wsX12_appliesOften wsX12_applies := goodIn_r _ [6, 7, 8, 9, 10, 11, 12, 5, 13, 14, 15, 21, 22, 23, 24, 25, 26, 27, 28, 29, 30, 31, 32, 33, 34, 35, 36, 37, 38, 39, 40, 41, 42, 43, 44, 45, 46, 47, 48, 49, 50, 51, 52, 53, 54, 55, 56, 57, 58, 59, 60, 61, 62, 63, 64, 65, 66, 67, 68, 69, 70, 71, 72, 73, 74] rfl (by decide +kernel)
set_option maxRecDepth 20000 in
theorem gX12_appliesOften_X12_applies : GoodIn wsX12_appliesOften (wsV RX12 196 RX12 yX12_applies wsX12_applies) := goodIn_app (goodIn_of _ (by decide +kernel)) ggX12_appliesOften_X12_applies
set_option maxRecDepth 20000 in
theorem ggX12_appliesOften_X12_squares : GoodIn wsX12_appliesOften wsX12_squares := goodIn_r _ [19, 1, 20, 9, 10, 11, 12, 5, 13, 14, 15, 21, 22, 23, 24, 25, 26, 27, 28, 29, 30, 31, 32, 33, 34, 35, 36, 37, 38, 39, 40, 41, 42, 43, 44, 45, 46, 47, 48, 49, 50, 51, 52, 53, 54, 55, 56, 57, 58, 59, 60, 61, 62, 63, 64, 65, 66, 67, 68, 69, 70, 71, 72, 73, 74] rfl (by decide +kernel)
set_option maxRecDepth 20000 in
theorem gX12_appliesOften_X12_squares : GoodIn wsX12_appliesOften (wsV RX12 200 RX12 yX12_squares wsX12_squares) := goodIn_app (goodIn_of _ (by decide +kernel)) ggX12_appliesOften_X12_squares
theorem dX12_appliesOften_0 : decode cX12_appliesOften 0 = .ok (.iconst 0, 1) := by decide +kernel
theorem dX12_appliesOften_1 : decode cX12_appliesOften 1 = .ok (.istore_n 3, 1) := by decide +kernel
theorem dX12_appliesOften_2 : decode cX12_appliesOften 2 = .ok (.iload_n 3, 1) := by decide +kernel
theorem dX12_appliesOften_3 : decode cX12_appliesOften 3 = .ok (.bipush 81, 2) := by decide +kernel
theorem dX12_appliesOften_5 : decode cX12_appliesOften 5 = .ok (.if_icmp .ge 18, 3) := by decide +kernel
theorem dX12_appliesOften_8 : decode cX12_appliesOften 8 = .ok (.aload_n 0, 1) := by decide +kernel
theorem dX12_appliesOften_9 : decode cX12_appliesOften 9 = .ok (.getfield 78, 3) := by decide +kernel
theorem dX12_appliesOften_12 : decode cX12_appliesOften 12 = .ok (.iload_n 3, 1) := by decide +kernel
theorem dX12_appliesOften_13 : decode cX12_appliesOften 13 = .ok (.aload_n 1, 1) := by decide +kernel
theorem dX12_appliesOften_14 : decode cX12_appliesOften 14 = .ok (.iload_n 3, 1) := by decide +kernel
theorem dX12_appliesOften_15 : decode cX12_appliesOften 15 = .ok (.iaload, 1) := by decide +kernel
theorem dX12_appliesOften_16 : decode cX12_appliesOften 16 = .ok (.iastore, 1) := by decide +kernel
theorem dX12_appliesOften_17 : decode cX12_appliesOften 17 = .ok (.iinc 3 1, 3) := by decide +kernel
theorem dX12_appliesOften_20 : decode cX12_appliesOften 20 = .ok (.goto (-18), 3) := by decide +kernel
theorem dX12_appliesOften_23 : decode cX12_appliesOften 23 = .ok (.iload_n 2, 1) := by decide +kernel
theorem dX12_appliesOften_24 : decode cX12_appliesOften 24 = .ok (.istore_n 3, 1) := by decide +kernel
theorem dX12_appliesOften_25 : decode cX12_appliesOften 25 = .ok (.iload_n 3, 1) := by decide +kernel
theorem dX12_appliesOften_26 : decode cX12_appliesOften 26 = .ok (.ifCond .le 29, 3) := by decide +kernel
theorem dX12_appliesOften_29 : decode cX12_appliesOften 29 = .ok (.iload_n 3, 1) := by decide +kernel
theorem dX12_appliesOften_30 : decode cX12_appliesOften 30 = .ok (.iconst 1, 1) := by decide +kernel
theorem dX12_appliesOften_31 : decode cX12_appliesOften 31 = .ok (.iand, 1) := by decide +kernel
theorem dX12_appliesOften_32 : decode cX12_appliesOften 32 = .ok (.iconst 1, 1) := by decide +kernel
theorem dX12_appliesOften_33 : decode cX12_appliesOften 33 = .ok (.if_icmp .ne 11, 3) := by decide +kernel
theorem dX12_appliesOften_36 : decode cX12_appliesOften 36 = .ok (.aload_n 0, 1) := by decide +kernel
theorem dX12_appliesOften_37 : decode cX12_appliesOften 37 = .ok (.aload_n 0, 1) := by decide +kernel
theorem dX12_appliesOften_38 : decode cX12_appliesOften 38 = .ok (.getfield 78, 3) := by decide +kernel
theorem dX12_appliesOften_41 : decode cX12_appliesOften 41 = .ok (.invokevirtual 196, 3) := by decide +kernel
theorem dX12_appliesOften_44 : decode cX12_appliesOften 44 = .ok (.aload_n 0, 1) := by decide +kernel
theorem dX12_appliesOften_45 : decode cX12_appliesOften 45 = .ok (.invokevirtual 200, 3) := by decide +kernel
theorem dX12_appliesOften_48 : decode cX12_appliesOften 48 = .ok (.iload_n 3, 1) := by decide +kernel
theorem dX12_appliesOften_49 : decode cX12_appliesOften 49 = .ok (.iconst 1, 1) := by decide +kernel
theorem dX12_appliesOften_50 : decode cX12_appliesOften 50 = .ok (.ishr, 1) := by decide +kernel
theorem dX12_appliesOften_51 : decode cX12_appliesOften 51 = .ok (.istore_n 3, 1) := by decide +kernel
theorem dX12_appliesOften_52 : decode cX12_appliesOften 52 = .ok (.goto (-27), 3) := by decide +kernel
theorem dX12_appliesOften_55 : decode cX12_appliesOften 55 = .ok (.return_, 1) := by decide +kernel
set_option maxRecDepth 20000 in
theorem ggX12_formOf_X12_appliesOften : GoodIn wsX12_formOf wsX12_appliesOften := goodIn_r _ [8, 9, 10, 11, 12, 7, 13, 14, 1, 15, 16, 17, 18, 19, 20, 21, 22, 23, 24, 25, 26, 27, 28, 29, 30, 31, 32, 33, 34, 35, 36, 37, 38, 39, 40, 41, 42, 43, 44, 45, 46, 47, 48, 49, 50, 51, 52, 53, 54, 55, 56, 57, 58, 59, 60, 61, 62, 63, 64, 65, 66, 67, 68, 69, 70, 71, 72, 73, 74, 75, 76, 77, 78, 79, 80] rfl (by decide +kernel)
set_option maxRecDepth 20000 in
theorem gX12_formOf_X12_appliesOften : GoodIn wsX12_formOf (wsV RX12 203 RX12 yX12_appliesOften wsX12_appliesOften) := goodIn_app (goodIn_of _ (by decide +kernel)) ggX12_formOf_X12_appliesOften
theorem dX12_formOf_0 : decode cX12_formOf 0 = .ok (.iconst 0, 1) := by decide +kernel
theorem dX12_formOf_1 : decode cX12_formOf 1 = .ok (.istore_n 3, 1) := by decide +kernel
theorem dX12_formOf_2 : decode cX12_formOf 2 = .ok (.iload_n 3, 1) := by decide +kernel
theorem dX12_formOf_3 : decode cX12_formOf 3 = .ok (.bipush 9, 2) := by decide +kernel
theorem dX12_formOf_5 : decode cX12_formOf 5 = .ok (.if_icmp .ge 16, 3) := by decide +kernel
theorem dX12_formOf_8 : decode cX12_formOf 8 = .ok (.aload_n 0, 1) := by decide +kernel
theorem dX12_formOf_9 : decode cX12_formOf 9 = .ok (.getfield 84, 3) := by decide +kernel
theorem dX12_formOf_12 : decode cX12_formOf 12 = .ok (.iload_n 3, 1) := by decide +kernel
theorem dX12_formOf_13 : decode cX12_formOf 13 = .ok (.iconst 0, 1) := by decide +kernel
theorem dX12_formOf_14 : decode cX12_formOf 14 = .ok (.iastore, 1) := by decide +kernel
theorem dX12_formOf_15 : decode cX12_formOf 15 = .ok (.iinc 3 1, 3) := by decide +kernel
theorem dX12_formOf_18 : decode cX12_formOf 18 = .ok (.goto (-16), 3) := by decide +kernel
theorem dX12_formOf_21 : decode cX12_formOf 21 = .ok (.aload_n 0, 1) := by decide +kernel
theorem dX12_formOf_22 : decode cX12_formOf 22 = .ok (.getfield 84, 3) := by decide +kernel
theorem dX12_formOf_25 : decode cX12_formOf 25 = .ok (.iconst 0, 1) := by decide +kernel
theorem dX12_formOf_26 : decode cX12_formOf 26 = .ok (.iconst 1, 1) := by decide +kernel
theorem dX12_formOf_27 : decode cX12_formOf 27 = .ok (.iastore, 1) := by decide +kernel
theorem dX12_formOf_28 : decode cX12_formOf 28 = .ok (.aload_n 0, 1) := by decide +kernel
theorem dX12_formOf_29 : decode cX12_formOf 29 = .ok (.aload_n 0, 1) := by decide +kernel
theorem dX12_formOf_30 : decode cX12_formOf 30 = .ok (.getfield 72, 3) := by decide +kernel
theorem dX12_formOf_33 : decode cX12_formOf 33 = .ok (.iload_n 1, 1) := by decide +kernel
theorem dX12_formOf_34 : decode cX12_formOf 34 = .ok (.invokevirtual 203, 3) := by decide +kernel
theorem dX12_formOf_37 : decode cX12_formOf 37 = .ok (.aload_n 0, 1) := by decide +kernel
theorem dX12_formOf_38 : decode cX12_formOf 38 = .ok (.aload_n 0, 1) := by decide +kernel
theorem dX12_formOf_39 : decode cX12_formOf 39 = .ok (.getfield 75, 3) := by decide +kernel
theorem dX12_formOf_42 : decode cX12_formOf 42 = .ok (.iload_n 2, 1) := by decide +kernel
theorem dX12_formOf_43 : decode cX12_formOf 43 = .ok (.invokevirtual 203, 3) := by decide +kernel
theorem dX12_formOf_46 : decode cX12_formOf 46 = .ok (.return_, 1) := by decide +kernel
theorem dX12_by_0 : decode cX12_by 0 = .ok (.iload_n 0, 1) := by decide +kernel
theorem dX12_by_1 : decode cX12_by 1 = .ok (.ifCond .ne 7, 3) := by decide +kernel
theorem dX12_by_4 : decode cX12_by 4 = .ok (.lload_n 1, 1) := by decide +kernel
theorem dX12_by_5 : decode cX12_by 5 = .ok (.goto 34, 3) := by decide +kernel
theorem dX12_by_8 : decode cX12_by 8 = .ok (.iload_n 0, 1) := by decide +kernel
theorem dX12_by_9 : decode cX12_by 9 = .ok (.iconst 1, 1) := by decide +kernel
theorem dX12_by_10 : decode cX12_by 10 = .ok (.if_icmp .ne 7, 3) := by decide +kernel
theorem dX12_by_13 : decode cX12_by 13 = .ok (.lload_n 3, 1) := by decide +kernel
theorem dX12_by_14 : decode cX12_by 14 = .ok (.goto 25, 3) := by decide +kernel
theorem dX12_by_17 : decode cX12_by 17 = .ok (.iload_n 0, 1) := by decide +kernel
theorem dX12_by_18 : decode cX12_by 18 = .ok (.iconst 4, 1) := by decide +kernel
theorem dX12_by_19 : decode cX12_by 19 = .ok (.if_icmp .ne 17, 3) := by decide +kernel
theorem dX12_by_22 : decode cX12_by 22 = .ok (.iload 5, 2) := by decide +kernel
theorem dX12_by_24 : decode cX12_by 24 = .ok (.i2l, 1) := by decide +kernel
theorem dX12_by_25 : decode cX12_by 25 = .ok (.lload_n 1, 1) := by decide +kernel
theorem dX12_by_26 : decode cX12_by 26 = .ok (.lmul, 1) := by decide +kernel
theorem dX12_by_27 : decode cX12_by 27 = .ok (.iload 6, 2) := by decide +kernel
theorem dX12_by_29 : decode cX12_by 29 = .ok (.i2l, 1) := by decide +kernel
theorem dX12_by_30 : decode cX12_by 30 = .ok (.lload_n 3, 1) := by decide +kernel
theorem dX12_by_31 : decode cX12_by 31 = .ok (.lmul, 1) := by decide +kernel
theorem dX12_by_32 : decode cX12_by 32 = .ok (.ladd, 1) := by decide +kernel
theorem dX12_by_33 : decode cX12_by 33 = .ok (.goto 6, 3) := by decide +kernel
theorem dX12_by_36 : decode cX12_by 36 = .ok (.lload_n 1, 1) := by decide +kernel
theorem dX12_by_37 : decode cX12_by 37 = .ok (.lload_n 3, 1) := by decide +kernel
theorem dX12_by_38 : decode cX12_by 38 = .ok (.ladd, 1) := by decide +kernel
theorem dX12_by_39 : decode cX12_by 39 = .ok (.lreturn, 1) := by decide +kernel
set_option maxRecDepth 20000 in
theorem ggX12_isLess_X12_by : GoodIn wsX12_isLess wsX12_by := goodIn_r _ [7] rfl (by decide +kernel)
set_option maxRecDepth 20000 in
theorem gX12_isLess_X12_by : GoodIn wsX12_isLess (va_wsS RX12 216 yX12_by wsX12_by) := goodIn_app (goodIn_of _ (by decide +kernel)) ggX12_isLess_X12_by
theorem dX12_isLess_0 : decode cX12_isLess 0 = .ok (.aload_n 0, 1) := by decide +kernel
theorem dX12_isLess_1 : decode cX12_isLess 1 = .ok (.getfield 207, 3) := by decide +kernel
theorem dX12_isLess_4 : decode cX12_isLess 4 = .ok (.iload_n 1, 1) := by decide +kernel
theorem dX12_isLess_5 : decode cX12_isLess 5 = .ok (.i2l, 1) := by decide +kernel
theorem dX12_isLess_6 : decode cX12_isLess 6 = .ok (.iload_n 2, 1) := by decide +kernel
theorem dX12_isLess_7 : decode cX12_isLess 7 = .ok (.i2l, 1) := by decide +kernel
theorem dX12_isLess_8 : decode cX12_isLess 8 = .ok (.aload_n 0, 1) := by decide +kernel
theorem dX12_isLess_9 : decode cX12_isLess 9 = .ok (.getfield 210, 3) := by decide +kernel
theorem dX12_isLess_12 : decode cX12_isLess 12 = .ok (.aload_n 0, 1) := by decide +kernel
theorem dX12_isLess_13 : decode cX12_isLess 13 = .ok (.getfield 213, 3) := by decide +kernel
theorem dX12_isLess_16 : decode cX12_isLess 16 = .ok (.invokestatic 216, 3) := by decide +kernel
theorem dX12_isLess_19 : decode cX12_isLess 19 = .ok (.lstore 5, 2) := by decide +kernel
theorem dX12_isLess_21 : decode cX12_isLess 21 = .ok (.aload_n 0, 1) := by decide +kernel
theorem dX12_isLess_22 : decode cX12_isLess 22 = .ok (.getfield 207, 3) := by decide +kernel
theorem dX12_isLess_25 : decode cX12_isLess 25 = .ok (.iload_n 3, 1) := by decide +kernel
theorem dX12_isLess_26 : decode cX12_isLess 26 = .ok (.i2l, 1) := by decide +kernel
theorem dX12_isLess_27 : decode cX12_isLess 27 = .ok (.iload 4, 2) := by decide +kernel
theorem dX12_isLess_29 : decode cX12_isLess 29 = .ok (.i2l, 1) := by decide +kernel
theorem dX12_isLess_30 : decode cX12_isLess 30 = .ok (.aload_n 0, 1) := by decide +kernel
theorem dX12_isLess_31 : decode cX12_isLess 31 = .ok (.getfield 210, 3) := by decide +kernel
theorem dX12_isLess_34 : decode cX12_isLess 34 = .ok (.aload_n 0, 1) := by decide +kernel
theorem dX12_isLess_35 : decode cX12_isLess 35 = .ok (.getfield 213, 3) := by decide +kernel
theorem dX12_isLess_38 : decode cX12_isLess 38 = .ok (.invokestatic 216, 3) := by decide +kernel
theorem dX12_isLess_41 : decode cX12_isLess 41 = .ok (.lstore 7, 2) := by decide +kernel
theorem dX12_isLess_43 : decode cX12_isLess 43 = .ok (.lload 5, 2) := by decide +kernel
theorem dX12_isLess_45 : decode cX12_isLess 45 = .ok (.lload 7, 2) := by decide +kernel
theorem dX12_isLess_47 : decode cX12_isLess 47 = .ok (.lcmp, 1) := by decide +kernel
theorem dX12_isLess_48 : decode cX12_isLess 48 = .ok (.ifCond .eq 17, 3) := by decide +kernel
theorem dX12_isLess_51 : decode cX12_isLess 51 = .ok (.lload 5, 2) := by decide +kernel
theorem dX12_isLess_53 : decode cX12_isLess 53 = .ok (.lload 7, 2) := by decide +kernel
theorem dX12_isLess_55 : decode cX12_isLess 55 = .ok (.lcmp, 1) := by decide +kernel
theorem dX12_isLess_56 : decode cX12_isLess 56 = .ok (.ifCond .ge 7, 3) := by decide +kernel
theorem dX12_isLess_59 : decode cX12_isLess 59 = .ok (.iconst 1, 1) := by decide +kernel
theorem dX12_isLess_60 : decode cX12_isLess 60 = .ok (.goto 4, 3) := by decide +kernel
theorem dX12_isLess_63 : decode cX12_isLess 63 = .ok (.iconst 0, 1) := by decide +kernel
theorem dX12_isLess_64 : decode cX12_isLess 64 = .ok (.ireturn, 1) := by decide +kernel
theorem dX12_isLess_65 : decode cX12_isLess 65 = .ok (.aload_n 0, 1) := by decide +kernel
theorem dX12_isLess_66 : decode cX12_isLess 66 = .ok (.getfield 207, 3) := by decide +kernel
theorem dX12_isLess_69 : decode cX12_isLess 69 = .ok (.ifCond .eq 11, 3) := by decide +kernel
theorem dX12_isLess_72 : decode cX12_isLess 72 = .ok (.aload_n 0, 1) := by decide +kernel
theorem dX12_isLess_73 : decode cX12_isLess 73 = .ok (.getfield 207, 3) := by decide +kernel
theorem dX12_isLess_76 : decode cX12_isLess 76 = .ok (.iconst 3, 1) := by decide +kernel
theorem dX12_isLess_77 : decode cX12_isLess 77 = .ok (.if_icmp .ne 17, 3) := by decide +kernel
theorem dX12_isLess_80 : decode cX12_isLess 80 = .ok (.iload_n 2, 1) := by decide +kernel
theorem dX12_isLess_81 : decode cX12_isLess 81 = .ok (.iload 4, 2) := by decide +kernel
theorem dX12_isLess_83 : decode cX12_isLess 83 = .ok (.if_icmp .ge 7, 3) := by decide +kernel
theorem dX12_isLess_86 : decode cX12_isLess 86 = .ok (.iconst 1, 1) := by decide +kernel
theorem dX12_isLess_87 : decode cX12_isLess 87 = .ok (.goto 17, 3) := by decide +kernel
theorem dX12_isLess_90 : decode cX12_isLess 90 = .ok (.iconst 0, 1) := by decide +kernel
theorem dX12_isLess_91 : decode cX12_isLess 91 = .ok (.goto 13, 3) := by decide +kernel
theorem dX12_isLess_94 : decode cX12_isLess 94 = .ok (.iload_n 1, 1) := by decide +kernel
theorem dX12_isLess_95 : decode cX12_isLess 95 = .ok (.iload_n 3, 1) := by decide +kernel
theorem dX12_isLess_96 : decode cX12_isLess 96 = .ok (.if_icmp .ge 7, 3) := by decide +kernel
theorem dX12_isLess_99 : decode cX12_isLess 99 = .ok (.iconst 1, 1) := by decide +kernel
theorem dX12_isLess_100 : decode cX12_isLess 100 = .ok (.goto 4, 3) := by decide +kernel
theorem dX12_isLess_103 : decode cX12_isLess 103 = .ok (.iconst 0, 1) := by decide +kernel
theorem dX12_isLess_104 : decode cX12_isLess 104 = .ok (.ireturn, 1) := by decide +kernel
set_option maxRecDepth 20000 in
theorem ggX12_isLeft_X12_mod : GoodIn wsX12_isLeft wsX12_mod := goodIn_r _ [10, 11, 12, 13, 14, 15, 16, 17, 18, 19, 20, 21, 22, 23, 24, 25, 26, 27, 28, 29, 30, 31, 32, 33, 34, 35, 36, 37, 38, 39, 40, 41, 42, 43, 44, 45, 46, 47, 48, 49, 50, 51, 52, 53, 54, 55, 56, 57, 58, 59, 60, 61, 62, 63, 64, 65] rfl (by decide +kernel)
set_option maxRecDepth 20000 in
theorem gX12_isLeft_X12_mod : GoodIn wsX12_isLeft (wsV RX12 188 RX12 yX12_mod wsX12_mod) := goodIn_app (goodIn_of _ (by decide +kernel)) ggX12_isLeft_X12_mod
theorem dX12_isLeft_0 : decode cX12_isLeft 0 = .ok (.iconst 0, 1) := by decide +kernel
theorem dX12_isLeft_1 : decode cX12_isLeft 1 = .ok (.istore_n 1, 1) := by decide +kernel
theorem dX12_isLeft_2 : decode cX12_isLeft 2 = .ok (.iload_n 1, 1) := by decide +kernel
theorem dX12_isLeft_3 : decode cX12_isLeft 3 = .ok (.bipush 9, 2) := by decide +kernel
theorem dX12_isLeft_5 : decode cX12_isLeft 5 = .ok (.if_icmp .ge 16, 3) := by decide +kernel
theorem dX12_isLeft_8 : decode cX12_isLeft 8 = .ok (.aload_n 0, 1) := by decide +kernel
theorem dX12_isLeft_9 : decode cX12_isLeft 9 = .ok (.getfield 117, 3) := by decide +kernel
theorem dX12_isLeft_12 : decode cX12_isLeft 12 = .ok (.iload_n 1, 1) := by decide +kernel
theorem dX12_isLeft_13 : decode cX12_isLeft 13 = .ok (.iconst 0, 1) := by decide +kernel
theorem dX12_isLeft_14 : decode cX12_isLeft 14 = .ok (.iastore, 1) := by decide +kernel
theorem dX12_isLeft_15 : decode cX12_isLeft 15 = .ok (.iinc 1 1, 3) := by decide +kernel
theorem dX12_isLeft_18 : decode cX12_isLeft 18 = .ok (.goto (-16), 3) := by decide +kernel
theorem dX12_isLeft_21 : decode cX12_isLeft 21 = .ok (.iconst 0, 1) := by decide +kernel
theorem dX12_isLeft_22 : decode cX12_isLeft 22 = .ok (.istore_n 1, 1) := by decide +kernel
theorem dX12_isLeft_23 : decode cX12_isLeft 23 = .ok (.iload_n 1, 1) := by decide +kernel
theorem dX12_isLeft_24 : decode cX12_isLeft 24 = .ok (.aload_n 0, 1) := by decide +kernel
theorem dX12_isLeft_25 : decode cX12_isLeft 25 = .ok (.getfield 220, 3) := by decide +kernel
theorem dX12_isLeft_28 : decode cX12_isLeft 28 = .ok (.if_icmp .ge 108, 3) := by decide +kernel
theorem dX12_isLeft_31 : decode cX12_isLeft 31 = .ok (.aload_n 0, 1) := by decide +kernel
theorem dX12_isLeft_32 : decode cX12_isLeft 32 = .ok (.getfield 84, 3) := by decide +kernel
theorem dX12_isLeft_35 : decode cX12_isLeft 35 = .ok (.aload_n 0, 1) := by decide +kernel
theorem dX12_isLeft_36 : decode cX12_isLeft 36 = .ok (.getfield 99, 3) := by decide +kernel
theorem dX12_isLeft_39 : decode cX12_isLeft 39 = .ok (.iload_n 1, 1) := by decide +kernel
theorem dX12_isLeft_40 : decode cX12_isLeft 40 = .ok (.iaload, 1) := by decide +kernel
theorem dX12_isLeft_41 : decode cX12_isLeft 41 = .ok (.iaload, 1) := by decide +kernel
theorem dX12_isLeft_42 : decode cX12_isLeft 42 = .ok (.istore_n 2, 1) := by decide +kernel
theorem dX12_isLeft_43 : decode cX12_isLeft 43 = .ok (.iconst 0, 1) := by decide +kernel
theorem dX12_isLeft_44 : decode cX12_isLeft 44 = .ok (.istore_n 3, 1) := by decide +kernel
theorem dX12_isLeft_45 : decode cX12_isLeft 45 = .ok (.iload_n 3, 1) := by decide +kernel
theorem dX12_isLeft_46 : decode cX12_isLeft 46 = .ok (.bipush 9, 2) := by decide +kernel
theorem dX12_isLeft_48 : decode cX12_isLeft 48 = .ok (.if_icmp .ge 82, 3) := by decide +kernel
theorem dX12_isLeft_51 : decode cX12_isLeft 51 = .ok (.iload_n 2, 1) := by decide +kernel
theorem dX12_isLeft_52 : decode cX12_isLeft 52 = .ok (.ifCond .eq 78, 3) := by decide +kernel
theorem dX12_isLeft_55 : decode cX12_isLeft 55 = .ok (.aload_n 0, 1) := by decide +kernel
theorem dX12_isLeft_56 : decode cX12_isLeft 56 = .ok (.getfield 84, 3) := by decide +kernel
theorem dX12_isLeft_59 : decode cX12_isLeft 59 = .ok (.iload_n 3, 1) := by decide +kernel
theorem dX12_isLeft_60 : decode cX12_isLeft 60 = .ok (.aload_n 0, 1) := by decide +kernel
theorem dX12_isLeft_61 : decode cX12_isLeft 61 = .ok (.aload_n 0, 1) := by decide +kernel
theorem dX12_isLeft_62 : decode cX12_isLeft 62 = .ok (.getfield 84, 3) := by decide +kernel
theorem dX12_isLeft_65 : decode cX12_isLeft 65 = .ok (.iload_n 3, 1) := by decide +kernel
theorem dX12_isLeft_66 : decode cX12_isLeft 66 = .ok (.iaload, 1) := by decide +kernel
theorem dX12_isLeft_67 : decode cX12_isLeft 67 = .ok (.i2l, 1) := by decide +kernel
theorem dX12_isLeft_68 : decode cX12_isLeft 68 = .ok (.iload_n 2, 1) := by decide +kernel
theorem dX12_isLeft_69 : decode cX12_isLeft 69 = .ok (.i2l, 1) := by decide +kernel
theorem dX12_isLeft_70 : decode cX12_isLeft 70 = .ok (.aload_n 0, 1) := by decide +kernel
theorem dX12_isLeft_71 : decode cX12_isLeft 71 = .ok (.getfield 96, 3) := by decide +kernel
theorem dX12_isLeft_74 : decode cX12_isLeft 74 = .ok (.bipush 18, 2) := by decide +kernel
theorem dX12_isLeft_76 : decode cX12_isLeft 76 = .ok (.iload_n 1, 1) := by decide +kernel
theorem dX12_isLeft_77 : decode cX12_isLeft 77 = .ok (.imul, 1) := by decide +kernel
theorem dX12_isLeft_78 : decode cX12_isLeft 78 = .ok (.iload_n 3, 1) := by decide +kernel
theorem dX12_isLeft_79 : decode cX12_isLeft 79 = .ok (.iadd, 1) := by decide +kernel
theorem dX12_isLeft_80 : decode cX12_isLeft 80 = .ok (.iaload, 1) := by decide +kernel
theorem dX12_isLeft_81 : decode cX12_isLeft 81 = .ok (.i2l, 1) := by decide +kernel
theorem dX12_isLeft_82 : decode cX12_isLeft 82 = .ok (.lmul, 1) := by decide +kernel
theorem dX12_isLeft_83 : decode cX12_isLeft 83 = .ok (.lsub, 1) := by decide +kernel
theorem dX12_isLeft_84 : decode cX12_isLeft 84 = .ok (.invokevirtual 188, 3) := by decide +kernel
theorem dX12_isLeft_87 : decode cX12_isLeft 87 = .ok (.iastore, 1) := by decide +kernel
theorem dX12_isLeft_88 : decode cX12_isLeft 88 = .ok (.aload_n 0, 1) := by decide +kernel
theorem dX12_isLeft_89 : decode cX12_isLeft 89 = .ok (.getfield 117, 3) := by decide +kernel
theorem dX12_isLeft_92 : decode cX12_isLeft 92 = .ok (.iload_n 3, 1) := by decide +kernel
theorem dX12_isLeft_93 : decode cX12_isLeft 93 = .ok (.aload_n 0, 1) := by decide +kernel
theorem dX12_isLeft_94 : decode cX12_isLeft 94 = .ok (.aload_n 0, 1) := by decide +kernel
theorem dX12_isLeft_95 : decode cX12_isLeft 95 = .ok (.getfield 117, 3) := by decide +kernel
theorem dX12_isLeft_98 : decode cX12_isLeft 98 = .ok (.iload_n 3, 1) := by decide +kernel
theorem dX12_isLeft_99 : decode cX12_isLeft 99 = .ok (.iaload, 1) := by decide +kernel
theorem dX12_isLeft_100 : decode cX12_isLeft 100 = .ok (.i2l, 1) := by decide +kernel
theorem dX12_isLeft_101 : decode cX12_isLeft 101 = .ok (.iload_n 2, 1) := by decide +kernel
theorem dX12_isLeft_102 : decode cX12_isLeft 102 = .ok (.i2l, 1) := by decide +kernel
theorem dX12_isLeft_103 : decode cX12_isLeft 103 = .ok (.aload_n 0, 1) := by decide +kernel
theorem dX12_isLeft_104 : decode cX12_isLeft 104 = .ok (.getfield 96, 3) := by decide +kernel
theorem dX12_isLeft_107 : decode cX12_isLeft 107 = .ok (.bipush 18, 2) := by decide +kernel
theorem dX12_isLeft_109 : decode cX12_isLeft 109 = .ok (.iload_n 1, 1) := by decide +kernel
theorem dX12_isLeft_110 : decode cX12_isLeft 110 = .ok (.imul, 1) := by decide +kernel
theorem dX12_isLeft_111 : decode cX12_isLeft 111 = .ok (.bipush 9, 2) := by decide +kernel
theorem dX12_isLeft_113 : decode cX12_isLeft 113 = .ok (.iadd, 1) := by decide +kernel
theorem dX12_isLeft_114 : decode cX12_isLeft 114 = .ok (.iload_n 3, 1) := by decide +kernel
theorem dX12_isLeft_115 : decode cX12_isLeft 115 = .ok (.iadd, 1) := by decide +kernel
theorem dX12_isLeft_116 : decode cX12_isLeft 116 = .ok (.iaload, 1) := by decide +kernel
theorem dX12_isLeft_117 : decode cX12_isLeft 117 = .ok (.i2l, 1) := by decide +kernel
theorem dX12_isLeft_118 : decode cX12_isLeft 118 = .ok (.lmul, 1) := by decide +kernel
theorem dX12_isLeft_119 : decode cX12_isLeft 119 = .ok (.lsub, 1) := by decide +kernel
theorem dX12_isLeft_120 : decode cX12_isLeft 120 = .ok (.invokevirtual 188, 3) := by decide +kernel
theorem dX12_isLeft_123 : decode cX12_isLeft 123 = .ok (.iastore, 1) := by decide +kernel
theorem dX12_isLeft_124 : decode cX12_isLeft 124 = .ok (.iinc 3 1, 3) := by decide +kernel
theorem dX12_isLeft_127 : decode cX12_isLeft 127 = .ok (.goto (-82), 3) := by decide +kernel
theorem dX12_isLeft_130 : decode cX12_isLeft 130 = .ok (.iinc 1 1, 3) := by decide +kernel
theorem dX12_isLeft_133 : decode cX12_isLeft 133 = .ok (.goto (-110), 3) := by decide +kernel
theorem dX12_isLeft_136 : decode cX12_isLeft 136 = .ok (.iconst 0, 1) := by decide +kernel
theorem dX12_isLeft_137 : decode cX12_isLeft 137 = .ok (.istore_n 1, 1) := by decide +kernel
theorem dX12_isLeft_138 : decode cX12_isLeft 138 = .ok (.iload_n 1, 1) := by decide +kernel
theorem dX12_isLeft_139 : decode cX12_isLeft 139 = .ok (.bipush 9, 2) := by decide +kernel
theorem dX12_isLeft_141 : decode cX12_isLeft 141 = .ok (.if_icmp .ge 20, 3) := by decide +kernel
theorem dX12_isLeft_144 : decode cX12_isLeft 144 = .ok (.aload_n 0, 1) := by decide +kernel
theorem dX12_isLeft_145 : decode cX12_isLeft 145 = .ok (.getfield 84, 3) := by decide +kernel
theorem dX12_isLeft_148 : decode cX12_isLeft 148 = .ok (.iload_n 1, 1) := by decide +kernel
theorem dX12_isLeft_149 : decode cX12_isLeft 149 = .ok (.iaload, 1) := by decide +kernel
theorem dX12_isLeft_150 : decode cX12_isLeft 150 = .ok (.ifCond .eq 5, 3) := by decide +kernel
theorem dX12_isLeft_153 : decode cX12_isLeft 153 = .ok (.iload_n 1, 1) := by decide +kernel
theorem dX12_isLeft_154 : decode cX12_isLeft 154 = .ok (.ireturn, 1) := by decide +kernel
theorem dX12_isLeft_155 : decode cX12_isLeft 155 = .ok (.iinc 1 1, 3) := by decide +kernel
theorem dX12_isLeft_158 : decode cX12_isLeft 158 = .ok (.goto (-20), 3) := by decide +kernel
theorem dX12_isLeft_161 : decode cX12_isLeft 161 = .ok (.bipush (-4), 2) := by decide +kernel
theorem dX12_isLeft_163 : decode cX12_isLeft 163 = .ok (.ireturn, 1) := by decide +kernel
set_option maxRecDepth 20000 in
theorem ggX12_climbs_X12_inverse : GoodIn wsX12_climbs wsX12_inverse := goodIn_r _ [16, 8, 17, 18, 19, 20, 21, 22, 23, 24, 25, 26, 27, 28, 29, 30, 31, 32, 33, 34, 35, 36, 37, 38, 39, 40, 41, 42, 43, 44, 45, 46, 47, 48, 49, 50, 51, 52, 53, 54, 55, 56, 57, 58, 59, 60, 61, 62, 63, 64, 65, 66, 67, 68, 69, 70] rfl (by decide +kernel)
set_option maxRecDepth 20000 in
theorem gX12_climbs_X12_inverse : GoodIn wsX12_climbs (wsV RX12 223 RX12 yX12_inverse wsX12_inverse) := goodIn_app (goodIn_of _ (by decide +kernel)) ggX12_climbs_X12_inverse
theorem dX12_climbs_0 : decode cX12_climbs 0 = .ok (.aload_n 0, 1) := by decide +kernel
theorem dX12_climbs_1 : decode cX12_climbs 1 = .ok (.aload_n 0, 1) := by decide +kernel
theorem dX12_climbs_2 : decode cX12_climbs 2 = .ok (.getfield 84, 3) := by decide +kernel
theorem dX12_climbs_5 : decode cX12_climbs 5 = .ok (.iload_n 3, 1) := by decide +kernel
theorem dX12_climbs_6 : decode cX12_climbs 6 = .ok (.iaload, 1) := by decide +kernel
theorem dX12_climbs_7 : decode cX12_climbs 7 = .ok (.invokevirtual 223, 3) := by decide +kernel
theorem dX12_climbs_10 : decode cX12_climbs 10 = .ok (.istore 4, 2) := by decide +kernel
theorem dX12_climbs_12 : decode cX12_climbs 12 = .ok (.aload_n 0, 1) := by decide +kernel
theorem dX12_climbs_13 : decode cX12_climbs 13 = .ok (.getfield 90, 3) := by decide +kernel
theorem dX12_climbs_16 : decode cX12_climbs 16 = .ok (.aload_n 0, 1) := by decide +kernel
theorem dX12_climbs_17 : decode cX12_climbs 17 = .ok (.getfield 220, 3) := by decide +kernel
theorem dX12_climbs_20 : decode cX12_climbs 20 = .ok (.iload_n 1, 1) := by decide +kernel
theorem dX12_climbs_21 : decode cX12_climbs 21 = .ok (.iastore, 1) := by decide +kernel
theorem dX12_climbs_22 : decode cX12_climbs 22 = .ok (.aload_n 0, 1) := by decide +kernel
theorem dX12_climbs_23 : decode cX12_climbs 23 = .ok (.getfield 93, 3) := by decide +kernel
theorem dX12_climbs_26 : decode cX12_climbs 26 = .ok (.aload_n 0, 1) := by decide +kernel
theorem dX12_climbs_27 : decode cX12_climbs 27 = .ok (.getfield 220, 3) := by decide +kernel
theorem dX12_climbs_30 : decode cX12_climbs 30 = .ok (.iload_n 2, 1) := by decide +kernel
theorem dX12_climbs_31 : decode cX12_climbs 31 = .ok (.iastore, 1) := by decide +kernel
theorem dX12_climbs_32 : decode cX12_climbs 32 = .ok (.aload_n 0, 1) := by decide +kernel
theorem dX12_climbs_33 : decode cX12_climbs 33 = .ok (.getfield 99, 3) := by decide +kernel
theorem dX12_climbs_36 : decode cX12_climbs 36 = .ok (.aload_n 0, 1) := by decide +kernel
theorem dX12_climbs_37 : decode cX12_climbs 37 = .ok (.getfield 220, 3) := by decide +kernel
theorem dX12_climbs_40 : decode cX12_climbs 40 = .ok (.iload_n 3, 1) := by decide +kernel
theorem dX12_climbs_41 : decode cX12_climbs 41 = .ok (.iastore, 1) := by decide +kernel
theorem dX12_climbs_42 : decode cX12_climbs 42 = .ok (.aload_n 0, 1) := by decide +kernel
theorem dX12_climbs_43 : decode cX12_climbs 43 = .ok (.getfield 117, 3) := by decide +kernel
theorem dX12_climbs_46 : decode cX12_climbs 46 = .ok (.aload_n 0, 1) := by decide +kernel
theorem dX12_climbs_47 : decode cX12_climbs 47 = .ok (.getfield 220, 3) := by decide +kernel
theorem dX12_climbs_50 : decode cX12_climbs 50 = .ok (.iconst 1, 1) := by decide +kernel
theorem dX12_climbs_51 : decode cX12_climbs 51 = .ok (.iastore, 1) := by decide +kernel
theorem dX12_climbs_52 : decode cX12_climbs 52 = .ok (.iconst 0, 1) := by decide +kernel
theorem dX12_climbs_53 : decode cX12_climbs 53 = .ok (.istore 5, 2) := by decide +kernel
theorem dX12_climbs_55 : decode cX12_climbs 55 = .ok (.iload 5, 2) := by decide +kernel
theorem dX12_climbs_57 : decode cX12_climbs 57 = .ok (.bipush 9, 2) := by decide +kernel
theorem dX12_climbs_59 : decode cX12_climbs 59 = .ok (.if_icmp .ge 72, 3) := by decide +kernel
theorem dX12_climbs_62 : decode cX12_climbs 62 = .ok (.aload_n 0, 1) := by decide +kernel
theorem dX12_climbs_63 : decode cX12_climbs 63 = .ok (.getfield 96, 3) := by decide +kernel
theorem dX12_climbs_66 : decode cX12_climbs 66 = .ok (.bipush 18, 2) := by decide +kernel
theorem dX12_climbs_68 : decode cX12_climbs 68 = .ok (.aload_n 0, 1) := by decide +kernel
theorem dX12_climbs_69 : decode cX12_climbs 69 = .ok (.getfield 220, 3) := by decide +kernel
theorem dX12_climbs_72 : decode cX12_climbs 72 = .ok (.imul, 1) := by decide +kernel
theorem dX12_climbs_73 : decode cX12_climbs 73 = .ok (.iload 5, 2) := by decide +kernel
theorem dX12_climbs_75 : decode cX12_climbs 75 = .ok (.iadd, 1) := by decide +kernel
theorem dX12_climbs_76 : decode cX12_climbs 76 = .ok (.aload_n 0, 1) := by decide +kernel
theorem dX12_climbs_77 : decode cX12_climbs 77 = .ok (.getfield 84, 3) := by decide +kernel
theorem dX12_climbs_80 : decode cX12_climbs 80 = .ok (.iload 5, 2) := by decide +kernel
theorem dX12_climbs_82 : decode cX12_climbs 82 = .ok (.iaload, 1) := by decide +kernel
theorem dX12_climbs_83 : decode cX12_climbs 83 = .ok (.iload 4, 2) := by decide +kernel
theorem dX12_climbs_85 : decode cX12_climbs 85 = .ok (.imul, 1) := by decide +kernel
theorem dX12_climbs_86 : decode cX12_climbs 86 = .ok (.aload_n 0, 1) := by decide +kernel
theorem dX12_climbs_87 : decode cX12_climbs 87 = .ok (.getfield 7, 3) := by decide +kernel
theorem dX12_climbs_90 : decode cX12_climbs 90 = .ok (.irem, 1) := by decide +kernel
theorem dX12_climbs_91 : decode cX12_climbs 91 = .ok (.iastore, 1) := by decide +kernel
theorem dX12_climbs_92 : decode cX12_climbs 92 = .ok (.aload_n 0, 1) := by decide +kernel
theorem dX12_climbs_93 : decode cX12_climbs 93 = .ok (.getfield 96, 3) := by decide +kernel
theorem dX12_climbs_96 : decode cX12_climbs 96 = .ok (.bipush 18, 2) := by decide +kernel
theorem dX12_climbs_98 : decode cX12_climbs 98 = .ok (.aload_n 0, 1) := by decide +kernel
theorem dX12_climbs_99 : decode cX12_climbs 99 = .ok (.getfield 220, 3) := by decide +kernel
theorem dX12_climbs_102 : decode cX12_climbs 102 = .ok (.imul, 1) := by decide +kernel
theorem dX12_climbs_103 : decode cX12_climbs 103 = .ok (.bipush 9, 2) := by decide +kernel
theorem dX12_climbs_105 : decode cX12_climbs 105 = .ok (.iadd, 1) := by decide +kernel
theorem dX12_climbs_106 : decode cX12_climbs 106 = .ok (.iload 5, 2) := by decide +kernel
theorem dX12_climbs_108 : decode cX12_climbs 108 = .ok (.iadd, 1) := by decide +kernel
theorem dX12_climbs_109 : decode cX12_climbs 109 = .ok (.aload_n 0, 1) := by decide +kernel
theorem dX12_climbs_110 : decode cX12_climbs 110 = .ok (.getfield 117, 3) := by decide +kernel
theorem dX12_climbs_113 : decode cX12_climbs 113 = .ok (.iload 5, 2) := by decide +kernel
theorem dX12_climbs_115 : decode cX12_climbs 115 = .ok (.iaload, 1) := by decide +kernel
theorem dX12_climbs_116 : decode cX12_climbs 116 = .ok (.iload 4, 2) := by decide +kernel
theorem dX12_climbs_118 : decode cX12_climbs 118 = .ok (.imul, 1) := by decide +kernel
theorem dX12_climbs_119 : decode cX12_climbs 119 = .ok (.aload_n 0, 1) := by decide +kernel
theorem dX12_climbs_120 : decode cX12_climbs 120 = .ok (.getfield 7, 3) := by decide +kernel
theorem dX12_climbs_123 : decode cX12_climbs 123 = .ok (.irem, 1) := by decide +kernel
theorem dX12_climbs_124 : decode cX12_climbs 124 = .ok (.iastore, 1) := by decide +kernel
theorem dX12_climbs_125 : decode cX12_climbs 125 = .ok (.iinc 5 1, 3) := by decide +kernel
theorem dX12_climbs_128 : decode cX12_climbs 128 = .ok (.goto (-73), 3) := by decide +kernel
theorem dX12_climbs_131 : decode cX12_climbs 131 = .ok (.aload_n 0, 1) := by decide +kernel
theorem dX12_climbs_132 : decode cX12_climbs 132 = .ok (.dup, 1) := by decide +kernel
theorem dX12_climbs_133 : decode cX12_climbs 133 = .ok (.getfield 220, 3) := by decide +kernel
theorem dX12_climbs_136 : decode cX12_climbs 136 = .ok (.iconst 1, 1) := by decide +kernel
theorem dX12_climbs_137 : decode cX12_climbs 137 = .ok (.iadd, 1) := by decide +kernel
theorem dX12_climbs_138 : decode cX12_climbs 138 = .ok (.putfield 220, 3) := by decide +kernel
theorem dX12_climbs_141 : decode cX12_climbs 141 = .ok (.aload_n 0, 1) := by decide +kernel
theorem dX12_climbs_142 : decode cX12_climbs 142 = .ok (.getfield 111, 3) := by decide +kernel
theorem dX12_climbs_145 : decode cX12_climbs 145 = .ok (.aload_n 0, 1) := by decide +kernel
theorem dX12_climbs_146 : decode cX12_climbs 146 = .ok (.getfield 227, 3) := by decide +kernel
theorem dX12_climbs_149 : decode cX12_climbs 149 = .ok (.iload_n 1, 1) := by decide +kernel
theorem dX12_climbs_150 : decode cX12_climbs 150 = .ok (.iconst 1, 1) := by decide +kernel
theorem dX12_climbs_151 : decode cX12_climbs 151 = .ok (.iadd, 1) := by decide +kernel
theorem dX12_climbs_152 : decode cX12_climbs 152 = .ok (.iastore, 1) := by decide +kernel
theorem dX12_climbs_153 : decode cX12_climbs 153 = .ok (.aload_n 0, 1) := by decide +kernel
theorem dX12_climbs_154 : decode cX12_climbs 154 = .ok (.getfield 114, 3) := by decide +kernel
theorem dX12_climbs_157 : decode cX12_climbs 157 = .ok (.aload_n 0, 1) := by decide +kernel
theorem dX12_climbs_158 : decode cX12_climbs 158 = .ok (.getfield 227, 3) := by decide +kernel
theorem dX12_climbs_161 : decode cX12_climbs 161 = .ok (.iload_n 2, 1) := by decide +kernel
theorem dX12_climbs_162 : decode cX12_climbs 162 = .ok (.iastore, 1) := by decide +kernel
theorem dX12_climbs_163 : decode cX12_climbs 163 = .ok (.aload_n 0, 1) := by decide +kernel
theorem dX12_climbs_164 : decode cX12_climbs 164 = .ok (.getfield 111, 3) := by decide +kernel
theorem dX12_climbs_167 : decode cX12_climbs 167 = .ok (.aload_n 0, 1) := by decide +kernel
theorem dX12_climbs_168 : decode cX12_climbs 168 = .ok (.getfield 227, 3) := by decide +kernel
theorem dX12_climbs_171 : decode cX12_climbs 171 = .ok (.iconst 1, 1) := by decide +kernel
theorem dX12_climbs_172 : decode cX12_climbs 172 = .ok (.iadd, 1) := by decide +kernel
theorem dX12_climbs_173 : decode cX12_climbs 173 = .ok (.iload_n 1, 1) := by decide +kernel
theorem dX12_climbs_174 : decode cX12_climbs 174 = .ok (.iastore, 1) := by decide +kernel
theorem dX12_climbs_175 : decode cX12_climbs 175 = .ok (.aload_n 0, 1) := by decide +kernel
theorem dX12_climbs_176 : decode cX12_climbs 176 = .ok (.getfield 114, 3) := by decide +kernel
theorem dX12_climbs_179 : decode cX12_climbs 179 = .ok (.aload_n 0, 1) := by decide +kernel
theorem dX12_climbs_180 : decode cX12_climbs 180 = .ok (.getfield 227, 3) := by decide +kernel
theorem dX12_climbs_183 : decode cX12_climbs 183 = .ok (.iconst 1, 1) := by decide +kernel
theorem dX12_climbs_184 : decode cX12_climbs 184 = .ok (.iadd, 1) := by decide +kernel
theorem dX12_climbs_185 : decode cX12_climbs 185 = .ok (.iload_n 2, 1) := by decide +kernel
theorem dX12_climbs_186 : decode cX12_climbs 186 = .ok (.iconst 1, 1) := by decide +kernel
theorem dX12_climbs_187 : decode cX12_climbs 187 = .ok (.iadd, 1) := by decide +kernel
theorem dX12_climbs_188 : decode cX12_climbs 188 = .ok (.iastore, 1) := by decide +kernel
theorem dX12_climbs_189 : decode cX12_climbs 189 = .ok (.aload_n 0, 1) := by decide +kernel
theorem dX12_climbs_190 : decode cX12_climbs 190 = .ok (.dup, 1) := by decide +kernel
theorem dX12_climbs_191 : decode cX12_climbs 191 = .ok (.getfield 227, 3) := by decide +kernel
theorem dX12_climbs_194 : decode cX12_climbs 194 = .ok (.iconst 2, 1) := by decide +kernel
theorem dX12_climbs_195 : decode cX12_climbs 195 = .ok (.iadd, 1) := by decide +kernel
theorem dX12_climbs_196 : decode cX12_climbs 196 = .ok (.putfield 227, 3) := by decide +kernel
theorem dX12_climbs_199 : decode cX12_climbs 199 = .ok (.return_, 1) := by decide +kernel
theorem dX12_leadsNow_0 : decode cX12_leadsNow 0 = .ok (.aload_n 0, 1) := by decide +kernel
theorem dX12_leadsNow_1 : decode cX12_leadsNow 1 = .ok (.getfield 102, 3) := by decide +kernel
theorem dX12_leadsNow_4 : decode cX12_leadsNow 4 = .ok (.aload_n 0, 1) := by decide +kernel
theorem dX12_leadsNow_5 : decode cX12_leadsNow 5 = .ok (.getfield 230, 3) := by decide +kernel
theorem dX12_leadsNow_8 : decode cX12_leadsNow 8 = .ok (.iload_n 1, 1) := by decide +kernel
theorem dX12_leadsNow_9 : decode cX12_leadsNow 9 = .ok (.iastore, 1) := by decide +kernel
theorem dX12_leadsNow_10 : decode cX12_leadsNow 10 = .ok (.aload_n 0, 1) := by decide +kernel
theorem dX12_leadsNow_11 : decode cX12_leadsNow 11 = .ok (.getfield 105, 3) := by decide +kernel
theorem dX12_leadsNow_14 : decode cX12_leadsNow 14 = .ok (.aload_n 0, 1) := by decide +kernel
theorem dX12_leadsNow_15 : decode cX12_leadsNow 15 = .ok (.getfield 230, 3) := by decide +kernel
theorem dX12_leadsNow_18 : decode cX12_leadsNow 18 = .ok (.iload_n 2, 1) := by decide +kernel
theorem dX12_leadsNow_19 : decode cX12_leadsNow 19 = .ok (.iastore, 1) := by decide +kernel
theorem dX12_leadsNow_20 : decode cX12_leadsNow 20 = .ok (.iconst 0, 1) := by decide +kernel
theorem dX12_leadsNow_21 : decode cX12_leadsNow 21 = .ok (.istore_n 3, 1) := by decide +kernel
theorem dX12_leadsNow_22 : decode cX12_leadsNow 22 = .ok (.iload_n 3, 1) := by decide +kernel
theorem dX12_leadsNow_23 : decode cX12_leadsNow 23 = .ok (.bipush 9, 2) := by decide +kernel
theorem dX12_leadsNow_25 : decode cX12_leadsNow 25 = .ok (.if_icmp .ge 29, 3) := by decide +kernel
theorem dX12_leadsNow_28 : decode cX12_leadsNow 28 = .ok (.aload_n 0, 1) := by decide +kernel
theorem dX12_leadsNow_29 : decode cX12_leadsNow 29 = .ok (.getfield 108, 3) := by decide +kernel
theorem dX12_leadsNow_32 : decode cX12_leadsNow 32 = .ok (.bipush 9, 2) := by decide +kernel
theorem dX12_leadsNow_34 : decode cX12_leadsNow 34 = .ok (.aload_n 0, 1) := by decide +kernel
theorem dX12_leadsNow_35 : decode cX12_leadsNow 35 = .ok (.getfield 230, 3) := by decide +kernel
theorem dX12_leadsNow_38 : decode cX12_leadsNow 38 = .ok (.imul, 1) := by decide +kernel
theorem dX12_leadsNow_39 : decode cX12_leadsNow 39 = .ok (.iload_n 3, 1) := by decide +kernel
theorem dX12_leadsNow_40 : decode cX12_leadsNow 40 = .ok (.iadd, 1) := by decide +kernel
theorem dX12_leadsNow_41 : decode cX12_leadsNow 41 = .ok (.aload_n 0, 1) := by decide +kernel
theorem dX12_leadsNow_42 : decode cX12_leadsNow 42 = .ok (.getfield 117, 3) := by decide +kernel
theorem dX12_leadsNow_45 : decode cX12_leadsNow 45 = .ok (.iload_n 3, 1) := by decide +kernel
theorem dX12_leadsNow_46 : decode cX12_leadsNow 46 = .ok (.iaload, 1) := by decide +kernel
theorem dX12_leadsNow_47 : decode cX12_leadsNow 47 = .ok (.iastore, 1) := by decide +kernel
theorem dX12_leadsNow_48 : decode cX12_leadsNow 48 = .ok (.iinc 3 1, 3) := by decide +kernel
theorem dX12_leadsNow_51 : decode cX12_leadsNow 51 = .ok (.goto (-29), 3) := by decide +kernel
theorem dX12_leadsNow_54 : decode cX12_leadsNow 54 = .ok (.aload_n 0, 1) := by decide +kernel
theorem dX12_leadsNow_55 : decode cX12_leadsNow 55 = .ok (.dup, 1) := by decide +kernel
theorem dX12_leadsNow_56 : decode cX12_leadsNow 56 = .ok (.getfield 230, 3) := by decide +kernel
theorem dX12_leadsNow_59 : decode cX12_leadsNow 59 = .ok (.iconst 1, 1) := by decide +kernel
theorem dX12_leadsNow_60 : decode cX12_leadsNow 60 = .ok (.iadd, 1) := by decide +kernel
theorem dX12_leadsNow_61 : decode cX12_leadsNow 61 = .ok (.putfield 230, 3) := by decide +kernel
theorem dX12_leadsNow_64 : decode cX12_leadsNow 64 = .ok (.return_, 1) := by decide +kernel
theorem dX12_isMultiple_0 : decode cX12_isMultiple 0 = .ok (.iconst 0, 1) := by decide +kernel
theorem dX12_isMultiple_1 : decode cX12_isMultiple 1 = .ok (.istore_n 3, 1) := by decide +kernel
theorem dX12_isMultiple_2 : decode cX12_isMultiple 2 = .ok (.iload_n 3, 1) := by decide +kernel
theorem dX12_isMultiple_3 : decode cX12_isMultiple 3 = .ok (.aload_n 0, 1) := by decide +kernel
theorem dX12_isMultiple_4 : decode cX12_isMultiple 4 = .ok (.getfield 230, 3) := by decide +kernel
theorem dX12_isMultiple_7 : decode cX12_isMultiple 7 = .ok (.if_icmp .ge 31, 3) := by decide +kernel
theorem dX12_isMultiple_10 : decode cX12_isMultiple 10 = .ok (.iload_n 1, 1) := by decide +kernel
theorem dX12_isMultiple_11 : decode cX12_isMultiple 11 = .ok (.aload_n 0, 1) := by decide +kernel
theorem dX12_isMultiple_12 : decode cX12_isMultiple 12 = .ok (.getfield 102, 3) := by decide +kernel
theorem dX12_isMultiple_15 : decode cX12_isMultiple 15 = .ok (.iload_n 3, 1) := by decide +kernel
theorem dX12_isMultiple_16 : decode cX12_isMultiple 16 = .ok (.iaload, 1) := by decide +kernel
theorem dX12_isMultiple_17 : decode cX12_isMultiple 17 = .ok (.if_icmp .lt 15, 3) := by decide +kernel
theorem dX12_isMultiple_20 : decode cX12_isMultiple 20 = .ok (.iload_n 2, 1) := by decide +kernel
theorem dX12_isMultiple_21 : decode cX12_isMultiple 21 = .ok (.aload_n 0, 1) := by decide +kernel
theorem dX12_isMultiple_22 : decode cX12_isMultiple 22 = .ok (.getfield 105, 3) := by decide +kernel
theorem dX12_isMultiple_25 : decode cX12_isMultiple 25 = .ok (.iload_n 3, 1) := by decide +kernel
theorem dX12_isMultiple_26 : decode cX12_isMultiple 26 = .ok (.iaload, 1) := by decide +kernel
theorem dX12_isMultiple_27 : decode cX12_isMultiple 27 = .ok (.if_icmp .lt 5, 3) := by decide +kernel
theorem dX12_isMultiple_30 : decode cX12_isMultiple 30 = .ok (.iconst 1, 1) := by decide +kernel
theorem dX12_isMultiple_31 : decode cX12_isMultiple 31 = .ok (.ireturn, 1) := by decide +kernel
theorem dX12_isMultiple_32 : decode cX12_isMultiple 32 = .ok (.iinc 3 1, 3) := by decide +kernel
theorem dX12_isMultiple_35 : decode cX12_isMultiple 35 = .ok (.goto (-33), 3) := by decide +kernel
theorem dX12_isMultiple_38 : decode cX12_isMultiple 38 = .ok (.iconst 0, 1) := by decide +kernel
theorem dX12_isMultiple_39 : decode cX12_isMultiple 39 = .ok (.ireturn, 1) := by decide +kernel
theorem dX12_isStair_0 : decode cX12_isStair 0 = .ok (.iconst 0, 1) := by decide +kernel
theorem dX12_isStair_1 : decode cX12_isStair 1 = .ok (.istore_n 3, 1) := by decide +kernel
theorem dX12_isStair_2 : decode cX12_isStair 2 = .ok (.iload_n 3, 1) := by decide +kernel
theorem dX12_isStair_3 : decode cX12_isStair 3 = .ok (.aload_n 0, 1) := by decide +kernel
theorem dX12_isStair_4 : decode cX12_isStair 4 = .ok (.getfield 220, 3) := by decide +kernel
theorem dX12_isStair_7 : decode cX12_isStair 7 = .ok (.if_icmp .ge 31, 3) := by decide +kernel
theorem dX12_isStair_10 : decode cX12_isStair 10 = .ok (.aload_n 0, 1) := by decide +kernel
theorem dX12_isStair_11 : decode cX12_isStair 11 = .ok (.getfield 90, 3) := by decide +kernel
theorem dX12_isStair_14 : decode cX12_isStair 14 = .ok (.iload_n 3, 1) := by decide +kernel
theorem dX12_isStair_15 : decode cX12_isStair 15 = .ok (.iaload, 1) := by decide +kernel
theorem dX12_isStair_16 : decode cX12_isStair 16 = .ok (.iload_n 1, 1) := by decide +kernel
theorem dX12_isStair_17 : decode cX12_isStair 17 = .ok (.if_icmp .ne 15, 3) := by decide +kernel
theorem dX12_isStair_20 : decode cX12_isStair 20 = .ok (.aload_n 0, 1) := by decide +kernel
theorem dX12_isStair_21 : decode cX12_isStair 21 = .ok (.getfield 93, 3) := by decide +kernel
theorem dX12_isStair_24 : decode cX12_isStair 24 = .ok (.iload_n 3, 1) := by decide +kernel
theorem dX12_isStair_25 : decode cX12_isStair 25 = .ok (.iaload, 1) := by decide +kernel
theorem dX12_isStair_26 : decode cX12_isStair 26 = .ok (.iload_n 2, 1) := by decide +kernel
theorem dX12_isStair_27 : decode cX12_isStair 27 = .ok (.if_icmp .ne 5, 3) := by decide +kernel
theorem dX12_isStair_30 : decode cX12_isStair 30 = .ok (.iconst 1, 1) := by decide +kernel
theorem dX12_isStair_31 : decode cX12_isStair 31 = .ok (.ireturn, 1) := by decide +kernel
theorem dX12_isStair_32 : decode cX12_isStair 32 = .ok (.iinc 3 1, 3) := by decide +kernel
theorem dX12_isStair_35 : decode cX12_isStair 35 = .ok (.goto (-33), 3) := by decide +kernel
theorem dX12_isStair_38 : decode cX12_isStair 38 = .ok (.iconst 0, 1) := by decide +kernel
theorem dX12_isStair_39 : decode cX12_isStair 39 = .ok (.ireturn, 1) := by decide +kernel
set_option maxRecDepth 20000 in
theorem ggX12_walks_X12_laysForms : GoodIn wsX12_walks wsX12_laysForms := goodIn_r _ [13, 14, 15, 16, 17, 18, 19, 20, 21, 12, 22, 23, 24, 25, 26, 27, 28, 29, 30, 31, 32, 96, 97, 98, 99, 100, 101, 102, 103, 104, 105, 106, 107, 108, 109, 110, 111, 112, 113, 114, 115, 116, 117, 118, 119, 120, 121, 122, 123, 124, 125, 126, 127, 128, 129, 130, 131, 132, 133, 134, 135, 136, 137, 138, 139, 140, 141, 142, 143, 144, 145, 146, 147, 148, 149] rfl (by decide +kernel)
set_option maxRecDepth 20000 in
theorem gX12_walks_X12_laysForms : GoodIn wsX12_walks (wsV RX12 233 RX12 yX12_laysForms wsX12_laysForms) := goodIn_app (goodIn_of _ (by decide +kernel)) ggX12_walks_X12_laysForms
set_option maxRecDepth 20000 in
theorem ggX12_walks_X12_isLess : GoodIn wsX12_walks wsX12_isLess := goodIn_r _ [36, 1, 2, 3, 37, 38, 12, 39, 96, 97, 98, 99, 100, 101, 102, 103, 104, 105, 106, 107, 108, 109, 110, 111, 112, 113, 114, 115, 116, 117, 118, 119, 120, 121, 122, 123, 124, 125, 126, 127, 128, 129, 130, 131, 132, 133, 134, 135, 136, 137, 138, 139, 140, 141, 142, 143, 144, 145, 146, 147, 148, 149] rfl (by decide +kernel)
set_option maxRecDepth 20000 in
theorem gX12_walks_X12_isLess : GoodIn wsX12_walks (wsV RX12 236 RX12 yX12_isLess wsX12_isLess) := goodIn_app (goodIn_of _ (by decide +kernel)) ggX12_walks_X12_isLess
set_option maxRecDepth 20000 in
theorem ggX12_walks_X12_isMultiple : GoodIn wsX12_walks wsX12_isMultiple := goodIn_r _ [43, 5, 44, 45, 96, 97, 98, 99, 100, 101, 102, 103, 104, 105, 106, 107, 108, 109, 110, 111, 112, 113, 114, 115, 116, 117, 118, 119, 120, 121, 122, 123, 124, 125, 126, 127, 128, 129, 130, 131, 132, 133, 134, 135, 136, 137, 138, 139, 140, 141, 142, 143, 144, 145, 146, 147, 148, 149] rfl (by decide +kernel)
set_option maxRecDepth 20000 in
theorem gX12_walks_X12_isMultiple : GoodIn wsX12_walks (wsV RX12 240 RX12 yX12_isMultiple wsX12_isMultiple) := goodIn_app (goodIn_of _ (by decide +kernel)) ggX12_walks_X12_isMultiple
set_option maxRecDepth 20000 in
theorem ggX12_walks_X12_isStair : GoodIn wsX12_walks wsX12_isStair := goodIn_r _ [49, 4, 50, 51, 96, 97, 98, 99, 100, 101, 102, 103, 104, 105, 106, 107, 108, 109, 110, 111, 112, 113, 114, 115, 116, 117, 118, 119, 120, 121, 122, 123, 124, 125, 126, 127, 128, 129, 130, 131, 132, 133, 134, 135, 136, 137, 138, 139, 140, 141, 142, 143, 144, 145, 146, 147, 148, 149] rfl (by decide +kernel)
set_option maxRecDepth 20000 in
theorem gX12_walks_X12_isStair : GoodIn wsX12_walks (wsV RX12 244 RX12 yX12_isStair wsX12_isStair) := goodIn_app (goodIn_of _ (by decide +kernel)) ggX12_walks_X12_isStair
set_option maxRecDepth 20000 in
theorem ggX12_walks_X12_formOf : GoodIn wsX12_walks wsX12_formOf := goodIn_r _ [55, 56, 16, 18, 57, 58, 59, 12, 60, 61, 62, 63, 64, 65, 66, 32, 67, 68, 69, 70, 15, 14, 71, 72, 73, 74, 75, 96, 97, 98, 99, 100, 101, 102, 103, 104, 105, 106, 107, 108, 109, 110, 111, 112, 113, 114, 115, 116, 117, 118, 119, 120, 121, 122, 123, 124, 125, 126, 127, 128, 129, 130, 131, 132, 133, 134, 135, 136, 137, 138, 139, 140, 141, 142, 143, 144, 145, 146, 147, 148, 149] rfl (by decide +kernel)
set_option maxRecDepth 20000 in
theorem gX12_walks_X12_formOf : GoodIn wsX12_walks (wsV RX12 247 RX12 yX12_formOf wsX12_formOf) := goodIn_app (goodIn_of _ (by decide +kernel)) ggX12_walks_X12_formOf
set_option maxRecDepth 20000 in
theorem ggX12_walks_X12_isLeft : GoodIn wsX12_walks wsX12_isLeft := goodIn_r _ [79, 80, 4, 56, 81, 82, 28, 29, 30, 12, 31, 32, 96, 97, 98, 99, 100, 101, 102, 103, 104, 105, 106, 107, 108, 109, 110, 111, 112, 113, 114, 115, 116, 117, 118, 119, 120, 121, 122, 123, 124, 125, 126, 127, 128, 129, 130, 131, 132, 133, 134, 135, 136, 137, 138, 139, 140, 141, 142, 143, 144, 145, 146, 147, 148, 149] rfl (by decide +kernel)
set_option maxRecDepth 20000 in
theorem gX12_walks_X12_isLeft : GoodIn wsX12_walks (wsV RX12 250 RX12 yX12_isLeft wsX12_isLeft) := goodIn_app (goodIn_of _ (by decide +kernel)) ggX12_walks_X12_isLeft
set_option maxRecDepth 20000 in
theorem ggX12_walks_X12_leadsNow : GoodIn wsX12_walks wsX12_leadsNow := goodIn_r _ [86, 44, 5, 45, 87, 80, 96, 97, 98, 99, 100, 101, 102, 103, 104, 105, 106, 107, 108, 109, 110, 111, 112, 113, 114, 115, 116, 117, 118, 119, 120, 121, 122, 123, 124, 125, 126, 127, 128, 129, 130, 131, 132, 133, 134, 135, 136, 137, 138, 139, 140, 141, 142, 143, 144, 145, 146, 147, 148, 149] rfl (by decide +kernel)
set_option maxRecDepth 20000 in
theorem gX12_walks_X12_leadsNow : GoodIn wsX12_walks (wsV RX12 253 RX12 yX12_leadsNow wsX12_leadsNow) := goodIn_app (goodIn_of _ (by decide +kernel)) ggX12_walks_X12_leadsNow
set_option maxRecDepth 20000 in
theorem ggX12_walks_X12_climbs : GoodIn wsX12_walks wsX12_climbs := goodIn_r _ [91, 56, 50, 4, 51, 81, 80, 82, 32, 6, 8, 7, 92, 93, 94, 12, 95, 96, 97, 98, 99, 100, 101, 102, 103, 104, 105, 106, 107, 108, 109, 110, 111, 112, 113, 114, 115, 116, 117, 118, 119, 120, 121, 122, 123, 124, 125, 126, 127, 128, 129, 130, 131, 132, 133, 134, 135, 136, 137, 138, 139, 140, 141, 142, 143, 144, 145, 146, 147, 148, 149] rfl (by decide +kernel)
set_option maxRecDepth 20000 in
theorem gX12_walks_X12_climbs : GoodIn wsX12_walks (wsV RX12 256 RX12 yX12_climbs wsX12_climbs) := goodIn_app (goodIn_of _ (by decide +kernel)) ggX12_walks_X12_climbs
theorem dX12_walks_0 : decode cX12_walks 0 = .ok (.aload_n 0, 1) := by decide +kernel
theorem dX12_walks_1 : decode cX12_walks 1 = .ok (.invokevirtual 233, 3) := by decide +kernel
theorem dX12_walks_4 : decode cX12_walks 4 = .ok (.aload_n 0, 1) := by decide +kernel
theorem dX12_walks_5 : decode cX12_walks 5 = .ok (.iload_n 1, 1) := by decide +kernel
theorem dX12_walks_6 : decode cX12_walks 6 = .ok (.putfield 207, 3) := by decide +kernel
theorem dX12_walks_9 : decode cX12_walks 9 = .ok (.aload_n 0, 1) := by decide +kernel
theorem dX12_walks_10 : decode cX12_walks 10 = .ok (.iload_n 2, 1) := by decide +kernel
theorem dX12_walks_11 : decode cX12_walks 11 = .ok (.putfield 210, 3) := by decide +kernel
theorem dX12_walks_14 : decode cX12_walks 14 = .ok (.aload_n 0, 1) := by decide +kernel
theorem dX12_walks_15 : decode cX12_walks 15 = .ok (.iload_n 3, 1) := by decide +kernel
theorem dX12_walks_16 : decode cX12_walks 16 = .ok (.putfield 213, 3) := by decide +kernel
theorem dX12_walks_19 : decode cX12_walks 19 = .ok (.aload_n 0, 1) := by decide +kernel
theorem dX12_walks_20 : decode cX12_walks 20 = .ok (.iconst 0, 1) := by decide +kernel
theorem dX12_walks_21 : decode cX12_walks 21 = .ok (.putfield 220, 3) := by decide +kernel
theorem dX12_walks_24 : decode cX12_walks 24 = .ok (.aload_n 0, 1) := by decide +kernel
theorem dX12_walks_25 : decode cX12_walks 25 = .ok (.iconst 0, 1) := by decide +kernel
theorem dX12_walks_26 : decode cX12_walks 26 = .ok (.putfield 230, 3) := by decide +kernel
theorem dX12_walks_29 : decode cX12_walks 29 = .ok (.aload_n 0, 1) := by decide +kernel
theorem dX12_walks_30 : decode cX12_walks 30 = .ok (.getfield 111, 3) := by decide +kernel
theorem dX12_walks_33 : decode cX12_walks 33 = .ok (.iconst 0, 1) := by decide +kernel
theorem dX12_walks_34 : decode cX12_walks 34 = .ok (.iconst 0, 1) := by decide +kernel
theorem dX12_walks_35 : decode cX12_walks 35 = .ok (.iastore, 1) := by decide +kernel
theorem dX12_walks_36 : decode cX12_walks 36 = .ok (.aload_n 0, 1) := by decide +kernel
theorem dX12_walks_37 : decode cX12_walks 37 = .ok (.getfield 114, 3) := by decide +kernel
theorem dX12_walks_40 : decode cX12_walks 40 = .ok (.iconst 0, 1) := by decide +kernel
theorem dX12_walks_41 : decode cX12_walks 41 = .ok (.iconst 0, 1) := by decide +kernel
theorem dX12_walks_42 : decode cX12_walks 42 = .ok (.iastore, 1) := by decide +kernel
theorem dX12_walks_43 : decode cX12_walks 43 = .ok (.aload_n 0, 1) := by decide +kernel
theorem dX12_walks_44 : decode cX12_walks 44 = .ok (.iconst 1, 1) := by decide +kernel
theorem dX12_walks_45 : decode cX12_walks 45 = .ok (.putfield 227, 3) := by decide +kernel
theorem dX12_walks_48 : decode cX12_walks 48 = .ok (.aload_n 0, 1) := by decide +kernel
theorem dX12_walks_49 : decode cX12_walks 49 = .ok (.getfield 227, 3) := by decide +kernel
theorem dX12_walks_52 : decode cX12_walks 52 = .ok (.ifCond .le 195, 3) := by decide +kernel
theorem dX12_walks_55 : decode cX12_walks 55 = .ok (.iconst 0, 1) := by decide +kernel
theorem dX12_walks_56 : decode cX12_walks 56 = .ok (.istore 4, 2) := by decide +kernel
theorem dX12_walks_58 : decode cX12_walks 58 = .ok (.iconst 1, 1) := by decide +kernel
theorem dX12_walks_59 : decode cX12_walks 59 = .ok (.istore 5, 2) := by decide +kernel
theorem dX12_walks_61 : decode cX12_walks 61 = .ok (.iload 5, 2) := by decide +kernel
theorem dX12_walks_63 : decode cX12_walks 63 = .ok (.aload_n 0, 1) := by decide +kernel
theorem dX12_walks_64 : decode cX12_walks 64 = .ok (.getfield 227, 3) := by decide +kernel
theorem dX12_walks_67 : decode cX12_walks 67 = .ok (.if_icmp .ge 53, 3) := by decide +kernel
theorem dX12_walks_70 : decode cX12_walks 70 = .ok (.aload_n 0, 1) := by decide +kernel
theorem dX12_walks_71 : decode cX12_walks 71 = .ok (.aload_n 0, 1) := by decide +kernel
theorem dX12_walks_72 : decode cX12_walks 72 = .ok (.getfield 111, 3) := by decide +kernel
theorem dX12_walks_75 : decode cX12_walks 75 = .ok (.iload 5, 2) := by decide +kernel
theorem dX12_walks_77 : decode cX12_walks 77 = .ok (.iaload, 1) := by decide +kernel
theorem dX12_walks_78 : decode cX12_walks 78 = .ok (.aload_n 0, 1) := by decide +kernel
theorem dX12_walks_79 : decode cX12_walks 79 = .ok (.getfield 114, 3) := by decide +kernel
theorem dX12_walks_82 : decode cX12_walks 82 = .ok (.iload 5, 2) := by decide +kernel
theorem dX12_walks_84 : decode cX12_walks 84 = .ok (.iaload, 1) := by decide +kernel
theorem dX12_walks_85 : decode cX12_walks 85 = .ok (.aload_n 0, 1) := by decide +kernel
theorem dX12_walks_86 : decode cX12_walks 86 = .ok (.getfield 111, 3) := by decide +kernel
theorem dX12_walks_89 : decode cX12_walks 89 = .ok (.iload 4, 2) := by decide +kernel
theorem dX12_walks_91 : decode cX12_walks 91 = .ok (.iaload, 1) := by decide +kernel
theorem dX12_walks_92 : decode cX12_walks 92 = .ok (.aload_n 0, 1) := by decide +kernel
theorem dX12_walks_93 : decode cX12_walks 93 = .ok (.getfield 114, 3) := by decide +kernel
theorem dX12_walks_96 : decode cX12_walks 96 = .ok (.iload 4, 2) := by decide +kernel
theorem dX12_walks_98 : decode cX12_walks 98 = .ok (.iaload, 1) := by decide +kernel
theorem dX12_walks_99 : decode cX12_walks 99 = .ok (.invokevirtual 236, 3) := by decide +kernel
theorem dX12_walks_102 : decode cX12_walks 102 = .ok (.ifCond .eq 8, 3) := by decide +kernel
theorem dX12_walks_105 : decode cX12_walks 105 = .ok (.iload 5, 2) := by decide +kernel
theorem dX12_walks_107 : decode cX12_walks 107 = .ok (.goto 5, 3) := by decide +kernel
theorem dX12_walks_110 : decode cX12_walks 110 = .ok (.iload 4, 2) := by decide +kernel
theorem dX12_walks_112 : decode cX12_walks 112 = .ok (.istore 4, 2) := by decide +kernel
theorem dX12_walks_114 : decode cX12_walks 114 = .ok (.iinc 5 1, 3) := by decide +kernel
theorem dX12_walks_117 : decode cX12_walks 117 = .ok (.goto (-56), 3) := by decide +kernel
theorem dX12_walks_120 : decode cX12_walks 120 = .ok (.aload_n 0, 1) := by decide +kernel
theorem dX12_walks_121 : decode cX12_walks 121 = .ok (.getfield 111, 3) := by decide +kernel
theorem dX12_walks_124 : decode cX12_walks 124 = .ok (.iload 4, 2) := by decide +kernel
theorem dX12_walks_126 : decode cX12_walks 126 = .ok (.iaload, 1) := by decide +kernel
theorem dX12_walks_127 : decode cX12_walks 127 = .ok (.istore 5, 2) := by decide +kernel
theorem dX12_walks_129 : decode cX12_walks 129 = .ok (.aload_n 0, 1) := by decide +kernel
theorem dX12_walks_130 : decode cX12_walks 130 = .ok (.getfield 114, 3) := by decide +kernel
theorem dX12_walks_133 : decode cX12_walks 133 = .ok (.iload 4, 2) := by decide +kernel
theorem dX12_walks_135 : decode cX12_walks 135 = .ok (.iaload, 1) := by decide +kernel
theorem dX12_walks_136 : decode cX12_walks 136 = .ok (.istore 6, 2) := by decide +kernel
theorem dX12_walks_138 : decode cX12_walks 138 = .ok (.aload_n 0, 1) := by decide +kernel
theorem dX12_walks_139 : decode cX12_walks 139 = .ok (.dup, 1) := by decide +kernel
theorem dX12_walks_140 : decode cX12_walks 140 = .ok (.getfield 227, 3) := by decide +kernel
