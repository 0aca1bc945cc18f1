theorem dX5_bring_3 : decode cX5_bring 3 = .ok (.iload 5, 2) := by decide +kernel
theorem dX5_bring_5 : decode cX5_bring 5 = .ok (.aload_n 0, 1) := by decide +kernel
theorem dX5_bring_6 : decode cX5_bring 6 = .ok (.getfield 27, 3) := by decide +kernel
theorem dX5_bring_9 : decode cX5_bring 9 = .ok (.if_icmp .ge 42, 3) := by decide +kernel
theorem dX5_bring_12 : decode cX5_bring 12 = .ok (.aload_n 0, 1) := by decide +kernel
theorem dX5_bring_13 : decode cX5_bring 13 = .ok (.getfield 21, 3) := by decide +kernel
theorem dX5_bring_16 : decode cX5_bring 16 = .ok (.iload 5, 2) := by decide +kernel
theorem dX5_bring_18 : decode cX5_bring 18 = .ok (.iaload, 1) := by decide +kernel
theorem dX5_bring_19 : decode cX5_bring 19 = .ok (.iload_n 2, 1) := by decide +kernel
theorem dX5_bring_20 : decode cX5_bring 20 = .ok (.if_icmp .gt 25, 3) := by decide +kernel
theorem dX5_bring_23 : decode cX5_bring 23 = .ok (.aload_n 0, 1) := by decide +kernel
theorem dX5_bring_24 : decode cX5_bring 24 = .ok (.getfield 21, 3) := by decide +kernel
theorem dX5_bring_27 : decode cX5_bring 27 = .ok (.iload 5, 2) := by decide +kernel
theorem dX5_bring_29 : decode cX5_bring 29 = .ok (.iaload, 1) := by decide +kernel
theorem dX5_bring_30 : decode cX5_bring 30 = .ok (.iload_n 2, 1) := by decide +kernel
theorem dX5_bring_31 : decode cX5_bring 31 = .ok (.if_icmp .ne 20, 3) := by decide +kernel
theorem dX5_bring_34 : decode cX5_bring 34 = .ok (.aload_n 0, 1) := by decide +kernel
theorem dX5_bring_35 : decode cX5_bring 35 = .ok (.getfield 24, 3) := by decide +kernel
theorem dX5_bring_38 : decode cX5_bring 38 = .ok (.iload 5, 2) := by decide +kernel
theorem dX5_bring_40 : decode cX5_bring 40 = .ok (.iaload, 1) := by decide +kernel
theorem dX5_bring_41 : decode cX5_bring 41 = .ok (.iload_n 3, 1) := by decide +kernel
theorem dX5_bring_42 : decode cX5_bring 42 = .ok (.if_icmp .le 9, 3) := by decide +kernel
theorem dX5_bring_45 : decode cX5_bring 45 = .ok (.iinc 5 1, 3) := by decide +kernel
theorem dX5_bring_48 : decode cX5_bring 48 = .ok (.goto (-45), 3) := by decide +kernel
theorem dX5_bring_51 : decode cX5_bring 51 = .ok (.iload 5, 2) := by decide +kernel
theorem dX5_bring_53 : decode cX5_bring 53 = .ok (.aload_n 0, 1) := by decide +kernel
theorem dX5_bring_54 : decode cX5_bring 54 = .ok (.getfield 27, 3) := by decide +kernel
theorem dX5_bring_57 : decode cX5_bring 57 = .ok (.if_icmp .ge 53, 3) := by decide +kernel
theorem dX5_bring_60 : decode cX5_bring 60 = .ok (.aload_n 0, 1) := by decide +kernel
theorem dX5_bring_61 : decode cX5_bring 61 = .ok (.getfield 21, 3) := by decide +kernel
theorem dX5_bring_64 : decode cX5_bring 64 = .ok (.iload 5, 2) := by decide +kernel
theorem dX5_bring_66 : decode cX5_bring 66 = .ok (.iaload, 1) := by decide +kernel
theorem dX5_bring_67 : decode cX5_bring 67 = .ok (.iload_n 2, 1) := by decide +kernel
theorem dX5_bring_68 : decode cX5_bring 68 = .ok (.if_icmp .ne 42, 3) := by decide +kernel
theorem dX5_bring_71 : decode cX5_bring 71 = .ok (.aload_n 0, 1) := by decide +kernel
theorem dX5_bring_72 : decode cX5_bring 72 = .ok (.getfield 24, 3) := by decide +kernel
theorem dX5_bring_75 : decode cX5_bring 75 = .ok (.iload 5, 2) := by decide +kernel
theorem dX5_bring_77 : decode cX5_bring 77 = .ok (.iaload, 1) := by decide +kernel
theorem dX5_bring_78 : decode cX5_bring 78 = .ok (.iload_n 3, 1) := by decide +kernel
theorem dX5_bring_79 : decode cX5_bring 79 = .ok (.if_icmp .ne 31, 3) := by decide +kernel
theorem dX5_bring_82 : decode cX5_bring 82 = .ok (.aload_n 0, 1) := by decide +kernel
theorem dX5_bring_83 : decode cX5_bring 83 = .ok (.getfield 15, 3) := by decide +kernel
theorem dX5_bring_86 : decode cX5_bring 86 = .ok (.iload 5, 2) := by decide +kernel
theorem dX5_bring_88 : decode cX5_bring 88 = .ok (.aload_n 0, 1) := by decide +kernel
theorem dX5_bring_89 : decode cX5_bring 89 = .ok (.getfield 15, 3) := by decide +kernel
theorem dX5_bring_92 : decode cX5_bring 92 = .ok (.iload 5, 2) := by decide +kernel
theorem dX5_bring_94 : decode cX5_bring 94 = .ok (.iaload, 1) := by decide +kernel
theorem dX5_bring_95 : decode cX5_bring 95 = .ok (.iload_n 1, 1) := by decide +kernel
theorem dX5_bring_96 : decode cX5_bring 96 = .ok (.iadd, 1) := by decide +kernel
theorem dX5_bring_97 : decode cX5_bring 97 = .ok (.iload 4, 2) := by decide +kernel
theorem dX5_bring_99 : decode cX5_bring 99 = .ok (.invokestatic 34, 3) := by decide +kernel
theorem dX5_bring_102 : decode cX5_bring 102 = .ok (.iastore, 1) := by decide +kernel
theorem dX5_bring_103 : decode cX5_bring 103 = .ok (.aload_n 0, 1) := by decide +kernel
theorem dX5_bring_104 : decode cX5_bring 104 = .ok (.invokevirtual 37, 3) := by decide +kernel
theorem dX5_bring_107 : decode cX5_bring 107 = .ok (.goto 28, 3) := by decide +kernel
theorem dX5_bring_110 : decode cX5_bring 110 = .ok (.iload_n 1, 1) := by decide +kernel
theorem dX5_bring_111 : decode cX5_bring 111 = .ok (.ifCond .eq 24, 3) := by decide +kernel
theorem dX5_bring_114 : decode cX5_bring 114 = .ok (.aload_n 0, 1) := by decide +kernel
theorem dX5_bring_115 : decode cX5_bring 115 = .ok (.getfield 27, 3) := by decide +kernel
theorem dX5_bring_118 : decode cX5_bring 118 = .ok (.aload_n 0, 1) := by decide +kernel
theorem dX5_bring_119 : decode cX5_bring 119 = .ok (.getfield 15, 3) := by decide +kernel
theorem dX5_bring_122 : decode cX5_bring 122 = .ok (.arraylength, 1) := by decide +kernel
theorem dX5_bring_123 : decode cX5_bring 123 = .ok (.if_icmp .ge 12, 3) := by decide +kernel
theorem dX5_bring_126 : decode cX5_bring 126 = .ok (.aload_n 0, 1) := by decide +kernel
theorem dX5_bring_127 : decode cX5_bring 127 = .ok (.iload 5, 2) := by decide +kernel
theorem dX5_bring_129 : decode cX5_bring 129 = .ok (.iload_n 1, 1) := by decide +kernel
theorem dX5_bring_130 : decode cX5_bring 130 = .ok (.iload_n 2, 1) := by decide +kernel
theorem dX5_bring_131 : decode cX5_bring 131 = .ok (.iload_n 3, 1) := by decide +kernel
theorem dX5_bring_132 : decode cX5_bring 132 = .ok (.invokevirtual 40, 3) := by decide +kernel
theorem dX5_bring_135 : decode cX5_bring 135 = .ok (.return_, 1) := by decide +kernel
set_option maxRecDepth 20000 in
theorem ggX5_bringAll_X11_leftOver : GoodIn wsX5_bringAll wsX11_leftOver := goodIn_r _ [7] (by decide +kernel) (by decide +kernel)
set_option maxRecDepth 20000 in
theorem gX5_bringAll_X11_leftOver_n34 : GoodIn wsX5_bringAll (wsX11_leftOver) := ggX5_bringAll_X11_leftOver
set_option maxRecDepth 20000 in
theorem ggX5_bringAll_X5_bring : GoodIn wsX5_bringAll wsX5_bring := goodIn_r _ [12, 1, 3, 4, 2, 5, 6, 7, 13, 14, 15, 11, 16, 17, 18, 19, 20, 21, 22, 23, 24] (by decide +kernel) (by decide +kernel)
set_option maxRecDepth 20000 in
theorem gX5_bringAll_X5_bring : GoodIn wsX5_bringAll (wsV RX5 44 RX5 yX5_bring wsX5_bring) := goodIn_app (goodIn_of _ (by decide +kernel)) ggX5_bringAll_X5_bring
theorem dX5_bringAll_0 : decode cX5_bringAll 0 = .ok (.iconst 0, 1) := by decide +kernel
theorem dX5_bringAll_1 : decode cX5_bringAll 1 = .ok (.istore 4, 2) := by decide +kernel
theorem dX5_bringAll_3 : decode cX5_bringAll 3 = .ok (.iload 4, 2) := by decide +kernel
theorem dX5_bringAll_5 : decode cX5_bringAll 5 = .ok (.aload_n 1, 1) := by decide +kernel
theorem dX5_bringAll_6 : decode cX5_bringAll 6 = .ok (.getfield 27, 3) := by decide +kernel
theorem dX5_bringAll_9 : decode cX5_bringAll 9 = .ok (.if_icmp .ge 41, 3) := by decide +kernel
theorem dX5_bringAll_12 : decode cX5_bringAll 12 = .ok (.aload_n 0, 1) := by decide +kernel
theorem dX5_bringAll_13 : decode cX5_bringAll 13 = .ok (.aload_n 1, 1) := by decide +kernel
theorem dX5_bringAll_14 : decode cX5_bringAll 14 = .ok (.getfield 15, 3) := by decide +kernel
theorem dX5_bringAll_17 : decode cX5_bringAll 17 = .ok (.iload 4, 2) := by decide +kernel
theorem dX5_bringAll_19 : decode cX5_bringAll 19 = .ok (.iaload, 1) := by decide +kernel
theorem dX5_bringAll_20 : decode cX5_bringAll 20 = .ok (.iload_n 2, 1) := by decide +kernel
theorem dX5_bringAll_21 : decode cX5_bringAll 21 = .ok (.imul, 1) := by decide +kernel
theorem dX5_bringAll_22 : decode cX5_bringAll 22 = .ok (.iload_n 3, 1) := by decide +kernel
theorem dX5_bringAll_23 : decode cX5_bringAll 23 = .ok (.invokestatic 34, 3) := by decide +kernel
theorem dX5_bringAll_26 : decode cX5_bringAll 26 = .ok (.aload_n 1, 1) := by decide +kernel
theorem dX5_bringAll_27 : decode cX5_bringAll 27 = .ok (.getfield 21, 3) := by decide +kernel
theorem dX5_bringAll_30 : decode cX5_bringAll 30 = .ok (.iload 4, 2) := by decide +kernel
theorem dX5_bringAll_32 : decode cX5_bringAll 32 = .ok (.iaload, 1) := by decide +kernel
theorem dX5_bringAll_33 : decode cX5_bringAll 33 = .ok (.aload_n 1, 1) := by decide +kernel
theorem dX5_bringAll_34 : decode cX5_bringAll 34 = .ok (.getfield 24, 3) := by decide +kernel
theorem dX5_bringAll_37 : decode cX5_bringAll 37 = .ok (.iload 4, 2) := by decide +kernel
theorem dX5_bringAll_39 : decode cX5_bringAll 39 = .ok (.iaload, 1) := by decide +kernel
theorem dX5_bringAll_40 : decode cX5_bringAll 40 = .ok (.iload_n 3, 1) := by decide +kernel
theorem dX5_bringAll_41 : decode cX5_bringAll 41 = .ok (.invokevirtual 44, 3) := by decide +kernel
theorem dX5_bringAll_44 : decode cX5_bringAll 44 = .ok (.iinc 4 1, 3) := by decide +kernel
theorem dX5_bringAll_47 : decode cX5_bringAll 47 = .ok (.goto (-44), 3) := by decide +kernel
theorem dX5_bringAll_50 : decode cX5_bringAll 50 = .ok (.return_, 1) := by decide +kernel
theorem dX5_insert_0 : decode cX5_insert 0 = .ok (.aload_n 0, 1) := by decide +kernel
theorem dX5_insert_1 : decode cX5_insert 1 = .ok (.getfield 27, 3) := by decide +kernel
theorem dX5_insert_4 : decode cX5_insert 4 = .ok (.istore 5, 2) := by decide +kernel
theorem dX5_insert_6 : decode cX5_insert 6 = .ok (.iload 5, 2) := by decide +kernel
theorem dX5_insert_8 : decode cX5_insert 8 = .ok (.iload_n 1, 1) := by decide +kernel
theorem dX5_insert_9 : decode cX5_insert 9 = .ok (.if_icmp .le 57, 3) := by decide +kernel
theorem dX5_insert_12 : decode cX5_insert 12 = .ok (.aload_n 0, 1) := by decide +kernel
theorem dX5_insert_13 : decode cX5_insert 13 = .ok (.getfield 15, 3) := by decide +kernel
theorem dX5_insert_16 : decode cX5_insert 16 = .ok (.iload 5, 2) := by decide +kernel
theorem dX5_insert_18 : decode cX5_insert 18 = .ok (.aload_n 0, 1) := by decide +kernel
theorem dX5_insert_19 : decode cX5_insert 19 = .ok (.getfield 15, 3) := by decide +kernel
theorem dX5_insert_22 : decode cX5_insert 22 = .ok (.iload 5, 2) := by decide +kernel
theorem dX5_insert_24 : decode cX5_insert 24 = .ok (.iconst 1, 1) := by decide +kernel
theorem dX5_insert_25 : decode cX5_insert 25 = .ok (.isub, 1) := by decide +kernel
theorem dX5_insert_26 : decode cX5_insert 26 = .ok (.iaload, 1) := by decide +kernel
theorem dX5_insert_27 : decode cX5_insert 27 = .ok (.iastore, 1) := by decide +kernel
theorem dX5_insert_28 : decode cX5_insert 28 = .ok (.aload_n 0, 1) := by decide +kernel
theorem dX5_insert_29 : decode cX5_insert 29 = .ok (.getfield 21, 3) := by decide +kernel
theorem dX5_insert_32 : decode cX5_insert 32 = .ok (.iload 5, 2) := by decide +kernel
theorem dX5_insert_34 : decode cX5_insert 34 = .ok (.aload_n 0, 1) := by decide +kernel
theorem dX5_insert_35 : decode cX5_insert 35 = .ok (.getfield 21, 3) := by decide +kernel
theorem dX5_insert_38 : decode cX5_insert 38 = .ok (.iload 5, 2) := by decide +kernel
theorem dX5_insert_40 : decode cX5_insert 40 = .ok (.iconst 1, 1) := by decide +kernel
theorem dX5_insert_41 : decode cX5_insert 41 = .ok (.isub, 1) := by decide +kernel
theorem dX5_insert_42 : decode cX5_insert 42 = .ok (.iaload, 1) := by decide +kernel
theorem dX5_insert_43 : decode cX5_insert 43 = .ok (.iastore, 1) := by decide +kernel
theorem dX5_insert_44 : decode cX5_insert 44 = .ok (.aload_n 0, 1) := by decide +kernel
theorem dX5_insert_45 : decode cX5_insert 45 = .ok (.getfield 24, 3) := by decide +kernel
theorem dX5_insert_48 : decode cX5_insert 48 = .ok (.iload 5, 2) := by decide +kernel
theorem dX5_insert_50 : decode cX5_insert 50 = .ok (.aload_n 0, 1) := by decide +kernel
theorem dX5_insert_51 : decode cX5_insert 51 = .ok (.getfield 24, 3) := by decide +kernel
theorem dX5_insert_54 : decode cX5_insert 54 = .ok (.iload 5, 2) := by decide +kernel
theorem dX5_insert_56 : decode cX5_insert 56 = .ok (.iconst 1, 1) := by decide +kernel
theorem dX5_insert_57 : decode cX5_insert 57 = .ok (.isub, 1) := by decide +kernel
theorem dX5_insert_58 : decode cX5_insert 58 = .ok (.iaload, 1) := by decide +kernel
theorem dX5_insert_59 : decode cX5_insert 59 = .ok (.iastore, 1) := by decide +kernel
theorem dX5_insert_60 : decode cX5_insert 60 = .ok (.iinc 5 (-1), 3) := by decide +kernel
theorem dX5_insert_63 : decode cX5_insert 63 = .ok (.goto (-57), 3) := by decide +kernel
theorem dX5_insert_66 : decode cX5_insert 66 = .ok (.aload_n 0, 1) := by decide +kernel
theorem dX5_insert_67 : decode cX5_insert 67 = .ok (.getfield 15, 3) := by decide +kernel
theorem dX5_insert_70 : decode cX5_insert 70 = .ok (.iload_n 1, 1) := by decide +kernel
theorem dX5_insert_71 : decode cX5_insert 71 = .ok (.iload_n 2, 1) := by decide +kernel
theorem dX5_insert_72 : decode cX5_insert 72 = .ok (.iastore, 1) := by decide +kernel
theorem dX5_insert_73 : decode cX5_insert 73 = .ok (.aload_n 0, 1) := by decide +kernel
theorem dX5_insert_74 : decode cX5_insert 74 = .ok (.getfield 21, 3) := by decide +kernel
theorem dX5_insert_77 : decode cX5_insert 77 = .ok (.iload_n 1, 1) := by decide +kernel
theorem dX5_insert_78 : decode cX5_insert 78 = .ok (.iload_n 3, 1) := by decide +kernel
theorem dX5_insert_79 : decode cX5_insert 79 = .ok (.iastore, 1) := by decide +kernel
theorem dX5_insert_80 : decode cX5_insert 80 = .ok (.aload_n 0, 1) := by decide +kernel
theorem dX5_insert_81 : decode cX5_insert 81 = .ok (.getfield 24, 3) := by decide +kernel
theorem dX5_insert_84 : decode cX5_insert 84 = .ok (.iload_n 1, 1) := by decide +kernel
theorem dX5_insert_85 : decode cX5_insert 85 = .ok (.iload 4, 2) := by decide +kernel
theorem dX5_insert_87 : decode cX5_insert 87 = .ok (.iastore, 1) := by decide +kernel
theorem dX5_insert_88 : decode cX5_insert 88 = .ok (.aload_n 0, 1) := by decide +kernel
theorem dX5_insert_89 : decode cX5_insert 89 = .ok (.dup, 1) := by decide +kernel
theorem dX5_insert_90 : decode cX5_insert 90 = .ok (.getfield 27, 3) := by decide +kernel
theorem dX5_insert_93 : decode cX5_insert 93 = .ok (.iconst 1, 1) := by decide +kernel
theorem dX5_insert_94 : decode cX5_insert 94 = .ok (.iadd, 1) := by decide +kernel
theorem dX5_insert_95 : decode cX5_insert 95 = .ok (.putfield 27, 3) := by decide +kernel
theorem dX5_insert_98 : decode cX5_insert 98 = .ok (.return_, 1) := by decide +kernel
theorem dX5_takeZerosAway_0 : decode cX5_takeZerosAway 0 = .ok (.iconst 0, 1) := by decide +kernel
theorem dX5_takeZerosAway_1 : decode cX5_takeZerosAway 1 = .ok (.istore_n 1, 1) := by decide +kernel
theorem dX5_takeZerosAway_2 : decode cX5_takeZerosAway 2 = .ok (.iconst 0, 1) := by decide +kernel
theorem dX5_takeZerosAway_3 : decode cX5_takeZerosAway 3 = .ok (.istore_n 2, 1) := by decide +kernel
theorem dX5_takeZerosAway_4 : decode cX5_takeZerosAway 4 = .ok (.iload_n 2, 1) := by decide +kernel
theorem dX5_takeZerosAway_5 : decode cX5_takeZerosAway 5 = .ok (.aload_n 0, 1) := by decide +kernel
theorem dX5_takeZerosAway_6 : decode cX5_takeZerosAway 6 = .ok (.getfield 27, 3) := by decide +kernel
theorem dX5_takeZerosAway_9 : decode cX5_takeZerosAway 9 = .ok (.if_icmp .ge 57, 3) := by decide +kernel
theorem dX5_takeZerosAway_12 : decode cX5_takeZerosAway 12 = .ok (.aload_n 0, 1) := by decide +kernel
theorem dX5_takeZerosAway_13 : decode cX5_takeZerosAway 13 = .ok (.getfield 15, 3) := by decide +kernel
theorem dX5_takeZerosAway_16 : decode cX5_takeZerosAway 16 = .ok (.iload_n 2, 1) := by decide +kernel
theorem dX5_takeZerosAway_17 : decode cX5_takeZerosAway 17 = .ok (.iaload, 1) := by decide +kernel
theorem dX5_takeZerosAway_18 : decode cX5_takeZerosAway 18 = .ok (.ifCond .eq 42, 3) := by decide +kernel
theorem dX5_takeZerosAway_21 : decode cX5_takeZerosAway 21 = .ok (.aload_n 0, 1) := by decide +kernel
theorem dX5_takeZerosAway_22 : decode cX5_takeZerosAway 22 = .ok (.getfield 15, 3) := by decide +kernel
theorem dX5_takeZerosAway_25 : decode cX5_takeZerosAway 25 = .ok (.iload_n 1, 1) := by decide +kernel
theorem dX5_takeZerosAway_26 : decode cX5_takeZerosAway 26 = .ok (.aload_n 0, 1) := by decide +kernel
theorem dX5_takeZerosAway_27 : decode cX5_takeZerosAway 27 = .ok (.getfield 15, 3) := by decide +kernel
theorem dX5_takeZerosAway_30 : decode cX5_takeZerosAway 30 = .ok (.iload_n 2, 1) := by decide +kernel
theorem dX5_takeZerosAway_31 : decode cX5_takeZerosAway 31 = .ok (.iaload, 1) := by decide +kernel
theorem dX5_takeZerosAway_32 : decode cX5_takeZerosAway 32 = .ok (.iastore, 1) := by decide +kernel
theorem dX5_takeZerosAway_33 : decode cX5_takeZerosAway 33 = .ok (.aload_n 0, 1) := by decide +kernel
theorem dX5_takeZerosAway_34 : decode cX5_takeZerosAway 34 = .ok (.getfield 21, 3) := by decide +kernel
theorem dX5_takeZerosAway_37 : decode cX5_takeZerosAway 37 = .ok (.iload_n 1, 1) := by decide +kernel
theorem dX5_takeZerosAway_38 : decode cX5_takeZerosAway 38 = .ok (.aload_n 0, 1) := by decide +kernel
theorem dX5_takeZerosAway_39 : decode cX5_takeZerosAway 39 = .ok (.getfield 21, 3) := by decide +kernel
theorem dX5_takeZerosAway_42 : decode cX5_takeZerosAway 42 = .ok (.iload_n 2, 1) := by decide +kernel
theorem dX5_takeZerosAway_43 : decode cX5_takeZerosAway 43 = .ok (.iaload, 1) := by decide +kernel
theorem dX5_takeZerosAway_44 : decode cX5_takeZerosAway 44 = .ok (.iastore, 1) := by decide +kernel
theorem dX5_takeZerosAway_45 : decode cX5_takeZerosAway 45 = .ok (.aload_n 0, 1) := by decide +kernel
theorem dX5_takeZerosAway_46 : decode cX5_takeZerosAway 46 = .ok (.getfield 24, 3) := by decide +kernel
theorem dX5_takeZerosAway_49 : decode cX5_takeZerosAway 49 = .ok (.iload_n 1, 1) := by decide +kernel
theorem dX5_takeZerosAway_50 : decode cX5_takeZerosAway 50 = .ok (.aload_n 0, 1) := by decide +kernel
theorem dX5_takeZerosAway_51 : decode cX5_takeZerosAway 51 = .ok (.getfield 24, 3) := by decide +kernel
theorem dX5_takeZerosAway_54 : decode cX5_takeZerosAway 54 = .ok (.iload_n 2, 1) := by decide +kernel
theorem dX5_takeZerosAway_55 : decode cX5_takeZerosAway 55 = .ok (.iaload, 1) := by decide +kernel
theorem dX5_takeZerosAway_56 : decode cX5_takeZerosAway 56 = .ok (.iastore, 1) := by decide +kernel
theorem dX5_takeZerosAway_57 : decode cX5_takeZerosAway 57 = .ok (.iinc 1 1, 3) := by decide +kernel
theorem dX5_takeZerosAway_60 : decode cX5_takeZerosAway 60 = .ok (.iinc 2 1, 3) := by decide +kernel
theorem dX5_takeZerosAway_63 : decode cX5_takeZerosAway 63 = .ok (.goto (-59), 3) := by decide +kernel
theorem dX5_takeZerosAway_66 : decode cX5_takeZerosAway 66 = .ok (.aload_n 0, 1) := by decide +kernel
theorem dX5_takeZerosAway_67 : decode cX5_takeZerosAway 67 = .ok (.iload_n 1, 1) := by decide +kernel
theorem dX5_takeZerosAway_68 : decode cX5_takeZerosAway 68 = .ok (.putfield 27, 3) := by decide +kernel
theorem dX5_takeZerosAway_71 : decode cX5_takeZerosAway 71 = .ok (.return_, 1) := by decide +kernel
set_option maxRecDepth 20000 in
theorem ggX5_moveToField_X11_leftOver : GoodIn wsX5_moveToField wsX11_leftOver := goodIn_r _ [5] (by decide +kernel) (by decide +kernel)
set_option maxRecDepth 20000 in
theorem gX5_moveToField_X11_leftOver_n34 : GoodIn wsX5_moveToField (wsX11_leftOver) := ggX5_moveToField_X11_leftOver
set_option maxRecDepth 20000 in
theorem ggX5_moveToField_X5_takeZerosAway : GoodIn wsX5_moveToField wsX5_takeZerosAway := goodIn_r _ [10, 1, 2, 11, 12, 13, 14, 15, 16] (by decide +kernel) (by decide +kernel)
set_option maxRecDepth 20000 in
theorem gX5_moveToField_X5_takeZerosAway : GoodIn wsX5_moveToField (wsV RX5 37 RX5 yX5_takeZerosAway wsX5_takeZerosAway) := goodIn_app (goodIn_of _ (by decide +kernel)) ggX5_moveToField_X5_takeZerosAway
theorem dX5_moveToField_0 : decode cX5_moveToField 0 = .ok (.iconst 0, 1) := by decide +kernel
theorem dX5_moveToField_1 : decode cX5_moveToField 1 = .ok (.istore_n 2, 1) := by decide +kernel
theorem dX5_moveToField_2 : decode cX5_moveToField 2 = .ok (.iload_n 2, 1) := by decide +kernel
theorem dX5_moveToField_3 : decode cX5_moveToField 3 = .ok (.aload_n 0, 1) := by decide +kernel
theorem dX5_moveToField_4 : decode cX5_moveToField 4 = .ok (.getfield 27, 3) := by decide +kernel
theorem dX5_moveToField_7 : decode cX5_moveToField 7 = .ok (.if_icmp .ge 25, 3) := by decide +kernel
theorem dX5_moveToField_10 : decode cX5_moveToField 10 = .ok (.aload_n 0, 1) := by decide +kernel
theorem dX5_moveToField_11 : decode cX5_moveToField 11 = .ok (.getfield 15, 3) := by decide +kernel
theorem dX5_moveToField_14 : decode cX5_moveToField 14 = .ok (.iload_n 2, 1) := by decide +kernel
theorem dX5_moveToField_15 : decode cX5_moveToField 15 = .ok (.aload_n 0, 1) := by decide +kernel
theorem dX5_moveToField_16 : decode cX5_moveToField 16 = .ok (.getfield 15, 3) := by decide +kernel
theorem dX5_moveToField_19 : decode cX5_moveToField 19 = .ok (.iload_n 2, 1) := by decide +kernel
theorem dX5_moveToField_20 : decode cX5_moveToField 20 = .ok (.iaload, 1) := by decide +kernel
theorem dX5_moveToField_21 : decode cX5_moveToField 21 = .ok (.iload_n 1, 1) := by decide +kernel
theorem dX5_moveToField_22 : decode cX5_moveToField 22 = .ok (.invokestatic 34, 3) := by decide +kernel
theorem dX5_moveToField_25 : decode cX5_moveToField 25 = .ok (.iastore, 1) := by decide +kernel
theorem dX5_moveToField_26 : decode cX5_moveToField 26 = .ok (.iinc 2 1, 3) := by decide +kernel
theorem dX5_moveToField_29 : decode cX5_moveToField 29 = .ok (.goto (-27), 3) := by decide +kernel
theorem dX5_moveToField_32 : decode cX5_moveToField 32 = .ok (.aload_n 0, 1) := by decide +kernel
theorem dX5_moveToField_33 : decode cX5_moveToField 33 = .ok (.invokevirtual 37, 3) := by decide +kernel
theorem dX5_moveToField_36 : decode cX5_moveToField 36 = .ok (.return_, 1) := by decide +kernel
theorem dX5_canRise_0 : decode cX5_canRise 0 = .ok (.iconst 0, 1) := by decide +kernel
theorem dX5_canRise_1 : decode cX5_canRise 1 = .ok (.istore_n 3, 1) := by decide +kernel
theorem dX5_canRise_2 : decode cX5_canRise 2 = .ok (.iload_n 3, 1) := by decide +kernel
theorem dX5_canRise_3 : decode cX5_canRise 3 = .ok (.aload_n 0, 1) := by decide +kernel
theorem dX5_canRise_4 : decode cX5_canRise 4 = .ok (.getfield 27, 3) := by decide +kernel
theorem dX5_canRise_7 : decode cX5_canRise 7 = .ok (.if_icmp .ge 37, 3) := by decide +kernel
theorem dX5_canRise_10 : decode cX5_canRise 10 = .ok (.aload_n 0, 1) := by decide +kernel
theorem dX5_canRise_11 : decode cX5_canRise 11 = .ok (.getfield 21, 3) := by decide +kernel
theorem dX5_canRise_14 : decode cX5_canRise 14 = .ok (.iload_n 3, 1) := by decide +kernel
theorem dX5_canRise_15 : decode cX5_canRise 15 = .ok (.iaload, 1) := by decide +kernel
theorem dX5_canRise_16 : decode cX5_canRise 16 = .ok (.ldc 47, 2) := by decide +kernel
theorem dX5_canRise_18 : decode cX5_canRise 18 = .ok (.iload_n 1, 1) := by decide +kernel
theorem dX5_canRise_19 : decode cX5_canRise 19 = .ok (.isub, 1) := by decide +kernel
theorem dX5_canRise_20 : decode cX5_canRise 20 = .ok (.if_icmp .gt 16, 3) := by decide +kernel
theorem dX5_canRise_23 : decode cX5_canRise 23 = .ok (.aload_n 0, 1) := by decide +kernel
theorem dX5_canRise_24 : decode cX5_canRise 24 = .ok (.getfield 24, 3) := by decide +kernel
theorem dX5_canRise_27 : decode cX5_canRise 27 = .ok (.iload_n 3, 1) := by decide +kernel
theorem dX5_canRise_28 : decode cX5_canRise 28 = .ok (.iaload, 1) := by decide +kernel
theorem dX5_canRise_29 : decode cX5_canRise 29 = .ok (.ldc 47, 2) := by decide +kernel
theorem dX5_canRise_31 : decode cX5_canRise 31 = .ok (.iload_n 2, 1) := by decide +kernel
theorem dX5_canRise_32 : decode cX5_canRise 32 = .ok (.isub, 1) := by decide +kernel
theorem dX5_canRise_33 : decode cX5_canRise 33 = .ok (.if_icmp .le 5, 3) := by decide +kernel
theorem dX5_canRise_36 : decode cX5_canRise 36 = .ok (.iconst 0, 1) := by decide +kernel
theorem dX5_canRise_37 : decode cX5_canRise 37 = .ok (.ireturn, 1) := by decide +kernel
theorem dX5_canRise_38 : decode cX5_canRise 38 = .ok (.iinc 3 1, 3) := by decide +kernel
theorem dX5_canRise_41 : decode cX5_canRise 41 = .ok (.goto (-39), 3) := by decide +kernel
theorem dX5_canRise_44 : decode cX5_canRise 44 = .ok (.iconst 1, 1) := by decide +kernel
theorem dX5_canRise_45 : decode cX5_canRise 45 = .ok (.ireturn, 1) := by decide +kernel
theorem dX5_rise_0 : decode cX5_rise 0 = .ok (.iconst 0, 1) := by decide +kernel
theorem dX5_rise_1 : decode cX5_rise 1 = .ok (.istore_n 3, 1) := by decide +kernel
theorem dX5_rise_2 : decode cX5_rise 2 = .ok (.iload_n 3, 1) := by decide +kernel
theorem dX5_rise_3 : decode cX5_rise 3 = .ok (.aload_n 0, 1) := by decide +kernel
theorem dX5_rise_4 : decode cX5_rise 4 = .ok (.getfield 27, 3) := by decide +kernel
theorem dX5_rise_7 : decode cX5_rise 7 = .ok (.if_icmp .ge 29, 3) := by decide +kernel
theorem dX5_rise_10 : decode cX5_rise 10 = .ok (.aload_n 0, 1) := by decide +kernel
theorem dX5_rise_11 : decode cX5_rise 11 = .ok (.getfield 21, 3) := by decide +kernel
theorem dX5_rise_14 : decode cX5_rise 14 = .ok (.iload_n 3, 1) := by decide +kernel
theorem dX5_rise_15 : decode cX5_rise 15 = .ok (.dup2, 1) := by decide +kernel
theorem dX5_rise_16 : decode cX5_rise 16 = .ok (.iaload, 1) := by decide +kernel
theorem dX5_rise_17 : decode cX5_rise 17 = .ok (.iload_n 1, 1) := by decide +kernel
theorem dX5_rise_18 : decode cX5_rise 18 = .ok (.iadd, 1) := by decide +kernel
theorem dX5_rise_19 : decode cX5_rise 19 = .ok (.iastore, 1) := by decide +kernel
theorem dX5_rise_20 : decode cX5_rise 20 = .ok (.aload_n 0, 1) := by decide +kernel
theorem dX5_rise_21 : decode cX5_rise 21 = .ok (.getfield 24, 3) := by decide +kernel
theorem dX5_rise_24 : decode cX5_rise 24 = .ok (.iload_n 3, 1) := by decide +kernel
theorem dX5_rise_25 : decode cX5_rise 25 = .ok (.dup2, 1) := by decide +kernel
theorem dX5_rise_26 : decode cX5_rise 26 = .ok (.iaload, 1) := by decide +kernel
theorem dX5_rise_27 : decode cX5_rise 27 = .ok (.iload_n 2, 1) := by decide +kernel
theorem dX5_rise_28 : decode cX5_rise 28 = .ok (.iadd, 1) := by decide +kernel
theorem dX5_rise_29 : decode cX5_rise 29 = .ok (.iastore, 1) := by decide +kernel
theorem dX5_rise_30 : decode cX5_rise 30 = .ok (.iinc 3 1, 3) := by decide +kernel
theorem dX5_rise_33 : decode cX5_rise 33 = .ok (.goto (-31), 3) := by decide +kernel
theorem dX5_rise_36 : decode cX5_rise 36 = .ok (.return_, 1) := by decide +kernel
theorem dX5_greatestSum_0 : decode cX5_greatestSum 0 = .ok (.lconst 0, 1) := by decide +kernel
theorem dX5_greatestSum_1 : decode cX5_greatestSum 1 = .ok (.lstore_n 1, 1) := by decide +kernel
theorem dX5_greatestSum_2 : decode cX5_greatestSum 2 = .ok (.iconst 0, 1) := by decide +kernel
theorem dX5_greatestSum_3 : decode cX5_greatestSum 3 = .ok (.istore_n 3, 1) := by decide +kernel
theorem dX5_greatestSum_4 : decode cX5_greatestSum 4 = .ok (.iload_n 3, 1) := by decide +kernel
theorem dX5_greatestSum_5 : decode cX5_greatestSum 5 = .ok (.aload_n 0, 1) := by decide +kernel
theorem dX5_greatestSum_6 : decode cX5_greatestSum 6 = .ok (.getfield 27, 3) := by decide +kernel
theorem dX5_greatestSum_9 : decode cX5_greatestSum 9 = .ok (.if_icmp .ge 29, 3) := by decide +kernel
theorem dX5_greatestSum_12 : decode cX5_greatestSum 12 = .ok (.lload_n 1, 1) := by decide +kernel
theorem dX5_greatestSum_13 : decode cX5_greatestSum 13 = .ok (.aload_n 0, 1) := by decide +kernel
theorem dX5_greatestSum_14 : decode cX5_greatestSum 14 = .ok (.getfield 21, 3) := by decide +kernel
theorem dX5_greatestSum_17 : decode cX5_greatestSum 17 = .ok (.iload_n 3, 1) := by decide +kernel
theorem dX5_greatestSum_18 : decode cX5_greatestSum 18 = .ok (.iaload, 1) := by decide +kernel
theorem dX5_greatestSum_19 : decode cX5_greatestSum 19 = .ok (.i2l, 1) := by decide +kernel
theorem dX5_greatestSum_20 : decode cX5_greatestSum 20 = .ok (.aload_n 0, 1) := by decide +kernel
theorem dX5_greatestSum_21 : decode cX5_greatestSum 21 = .ok (.getfield 24, 3) := by decide +kernel
theorem dX5_greatestSum_24 : decode cX5_greatestSum 24 = .ok (.iload_n 3, 1) := by decide +kernel
theorem dX5_greatestSum_25 : decode cX5_greatestSum 25 = .ok (.iaload, 1) := by decide +kernel
theorem dX5_greatestSum_26 : decode cX5_greatestSum 26 = .ok (.i2l, 1) := by decide +kernel
theorem dX5_greatestSum_27 : decode cX5_greatestSum 27 = .ok (.ladd, 1) := by decide +kernel
theorem dX5_greatestSum_28 : decode cX5_greatestSum 28 = .ok (.invokestatic 48, 3) := by decide +kernel
theorem dX5_greatestSum_31 : decode cX5_greatestSum 31 = .ok (.lstore_n 1, 1) := by decide +kernel
theorem dX5_greatestSum_32 : decode cX5_greatestSum 32 = .ok (.iinc 3 1, 3) := by decide +kernel
theorem dX5_greatestSum_35 : decode cX5_greatestSum 35 = .ok (.goto (-31), 3) := by decide +kernel
theorem dX5_greatestSum_38 : decode cX5_greatestSum 38 = .ok (.lload_n 1, 1) := by decide +kernel
theorem dX5_greatestSum_39 : decode cX5_greatestSum 39 = .ok (.lreturn, 1) := by decide +kernel
set_option maxRecDepth 20000 in
theorem ggX5_canCompare_X10_weight : GoodIn wsX5_canCompare wsX10_weight := goodIn_r _ [9, 10, 11, 12, 17, 18, 19] (by decide +kernel) (by decide +kernel)
set_option maxRecDepth 20000 in
theorem gX5_canCompare_X10_weight : GoodIn wsX5_canCompare (wsV RX5 51 RX10 yX10_weight wsX10_weight) := goodIn_app (goodIn_of _ (by decide +kernel)) ggX5_canCompare_X10_weight
theorem dX5_canCompare_0 : decode cX5_canCompare 0 = .ok (.iconst 0, 1) := by decide +kernel
theorem dX5_canCompare_1 : decode cX5_canCompare 1 = .ok (.istore_n 2, 1) := by decide +kernel
theorem dX5_canCompare_2 : decode cX5_canCompare 2 = .ok (.iload_n 2, 1) := by decide +kernel
theorem dX5_canCompare_3 : decode cX5_canCompare 3 = .ok (.aload_n 0, 1) := by decide +kernel
theorem dX5_canCompare_4 : decode cX5_canCompare 4 = .ok (.getfield 27, 3) := by decide +kernel
theorem dX5_canCompare_7 : decode cX5_canCompare 7 = .ok (.if_icmp .ge 34, 3) := by decide +kernel
theorem dX5_canCompare_10 : decode cX5_canCompare 10 = .ok (.aload_n 1, 1) := by decide +kernel
theorem dX5_canCompare_11 : decode cX5_canCompare 11 = .ok (.aload_n 0, 1) := by decide +kernel
theorem dX5_canCompare_12 : decode cX5_canCompare 12 = .ok (.getfield 21, 3) := by decide +kernel
theorem dX5_canCompare_15 : decode cX5_canCompare 15 = .ok (.iload_n 2, 1) := by decide +kernel
theorem dX5_canCompare_16 : decode cX5_canCompare 16 = .ok (.iaload, 1) := by decide +kernel
theorem dX5_canCompare_17 : decode cX5_canCompare 17 = .ok (.aload_n 0, 1) := by decide +kernel
theorem dX5_canCompare_18 : decode cX5_canCompare 18 = .ok (.getfield 24, 3) := by decide +kernel
theorem dX5_canCompare_21 : decode cX5_canCompare 21 = .ok (.iload_n 2, 1) := by decide +kernel
theorem dX5_canCompare_22 : decode cX5_canCompare 22 = .ok (.iaload, 1) := by decide +kernel
theorem dX5_canCompare_23 : decode cX5_canCompare 23 = .ok (.invokevirtual 51, 3) := by decide +kernel
theorem dX5_canCompare_26 : decode cX5_canCompare 26 = .ok (.ldc2_w 57, 3) := by decide +kernel
theorem dX5_canCompare_29 : decode cX5_canCompare 29 = .ok (.lcmp, 1) := by decide +kernel
theorem dX5_canCompare_30 : decode cX5_canCompare 30 = .ok (.ifCond .le 5, 3) := by decide +kernel
theorem dX5_canCompare_33 : decode cX5_canCompare 33 = .ok (.iconst 0, 1) := by decide +kernel
theorem dX5_canCompare_34 : decode cX5_canCompare 34 = .ok (.ireturn, 1) := by decide +kernel
theorem dX5_canCompare_35 : decode cX5_canCompare 35 = .ok (.iinc 2 1, 3) := by decide +kernel
theorem dX5_canCompare_38 : decode cX5_canCompare 38 = .ok (.goto (-36), 3) := by decide +kernel
theorem dX5_canCompare_41 : decode cX5_canCompare 41 = .ok (.iconst 1, 1) := by decide +kernel
theorem dX5_canCompare_42 : decode cX5_canCompare 42 = .ok (.ireturn, 1) := by decide +kernel
set_option maxRecDepth 20000 in
theorem ggX5_greatestIn_X10_isLess : GoodIn wsX5_greatestIn wsX10_isLess := goodIn_r _ [8, 9, 10, 11, 12, 7, 13, 14, 15, 20, 21, 22] (by decide +kernel) (by decide +kernel)
set_option maxRecDepth 20000 in
theorem gX5_greatestIn_X10_isLess : GoodIn wsX5_greatestIn (wsV RX5 59 RX10 yX10_isLess wsX10_isLess) := goodIn_app (goodIn_of _ (by decide +kernel)) ggX5_greatestIn_X10_isLess
theorem dX5_greatestIn_0 : decode cX5_greatestIn 0 = .ok (.iconst 0, 1) := by decide +kernel
theorem dX5_greatestIn_1 : decode cX5_greatestIn 1 = .ok (.istore_n 2, 1) := by decide +kernel
theorem dX5_greatestIn_2 : decode cX5_greatestIn 2 = .ok (.iconst 1, 1) := by decide +kernel
theorem dX5_greatestIn_3 : decode cX5_greatestIn 3 = .ok (.istore_n 3, 1) := by decide +kernel
theorem dX5_greatestIn_4 : decode cX5_greatestIn 4 = .ok (.iload_n 3, 1) := by decide +kernel
theorem dX5_greatestIn_5 : decode cX5_greatestIn 5 = .ok (.aload_n 0, 1) := by decide +kernel
theorem dX5_greatestIn_6 : decode cX5_greatestIn 6 = .ok (.getfield 27, 3) := by decide +kernel
theorem dX5_greatestIn_9 : decode cX5_greatestIn 9 = .ok (.if_icmp .ge 42, 3) := by decide +kernel
theorem dX5_greatestIn_12 : decode cX5_greatestIn 12 = .ok (.aload_n 1, 1) := by decide +kernel
theorem dX5_greatestIn_13 : decode cX5_greatestIn 13 = .ok (.aload_n 0, 1) := by decide +kernel
theorem dX5_greatestIn_14 : decode cX5_greatestIn 14 = .ok (.getfield 21, 3) := by decide +kernel
theorem dX5_greatestIn_17 : decode cX5_greatestIn 17 = .ok (.iload_n 2, 1) := by decide +kernel
theorem dX5_greatestIn_18 : decode cX5_greatestIn 18 = .ok (.iaload, 1) := by decide +kernel
theorem dX5_greatestIn_19 : decode cX5_greatestIn 19 = .ok (.aload_n 0, 1) := by decide +kernel
theorem dX5_greatestIn_20 : decode cX5_greatestIn 20 = .ok (.getfield 24, 3) := by decide +kernel
theorem dX5_greatestIn_23 : decode cX5_greatestIn 23 = .ok (.iload_n 2, 1) := by decide +kernel
theorem dX5_greatestIn_24 : decode cX5_greatestIn 24 = .ok (.iaload, 1) := by decide +kernel
theorem dX5_greatestIn_25 : decode cX5_greatestIn 25 = .ok (.aload_n 0, 1) := by decide +kernel
theorem dX5_greatestIn_26 : decode cX5_greatestIn 26 = .ok (.getfield 21, 3) := by decide +kernel
theorem dX5_greatestIn_29 : decode cX5_greatestIn 29 = .ok (.iload_n 3, 1) := by decide +kernel
theorem dX5_greatestIn_30 : decode cX5_greatestIn 30 = .ok (.iaload, 1) := by decide +kernel
theorem dX5_greatestIn_31 : decode cX5_greatestIn 31 = .ok (.aload_n 0, 1) := by decide +kernel
theorem dX5_greatestIn_32 : decode cX5_greatestIn 32 = .ok (.getfield 24, 3) := by decide +kernel
theorem dX5_greatestIn_35 : decode cX5_greatestIn 35 = .ok (.iload_n 3, 1) := by decide +kernel
theorem dX5_greatestIn_36 : decode cX5_greatestIn 36 = .ok (.iaload, 1) := by decide +kernel
theorem dX5_greatestIn_37 : decode cX5_greatestIn 37 = .ok (.invokevirtual 59, 3) := by decide +kernel
theorem dX5_greatestIn_40 : decode cX5_greatestIn 40 = .ok (.ifCond .eq 5, 3) := by decide +kernel
theorem dX5_greatestIn_43 : decode cX5_greatestIn 43 = .ok (.iload_n 3, 1) := by decide +kernel
theorem dX5_greatestIn_44 : decode cX5_greatestIn 44 = .ok (.istore_n 2, 1) := by decide +kernel
theorem dX5_greatestIn_45 : decode cX5_greatestIn 45 = .ok (.iinc 3 1, 3) := by decide +kernel
theorem dX5_greatestIn_48 : decode cX5_greatestIn 48 = .ok (.goto (-44), 3) := by decide +kernel
theorem dX5_greatestIn_51 : decode cX5_greatestIn 51 = .ok (.iload_n 2, 1) := by decide +kernel
theorem dX5_greatestIn_52 : decode cX5_greatestIn 52 = .ok (.ireturn, 1) := by decide +kernel
theorem dX6_init_0 : decode cX6_init 0 = .ok (.aload_n 0, 1) := by decide +kernel
theorem dX6_init_1 : decode cX6_init 1 = .ok (.invokespecial 3, 3) := by decide +kernel
theorem dX6_init_4 : decode cX6_init 4 = .ok (.aload_n 0, 1) := by decide +kernel
theorem dX6_init_5 : decode cX6_init 5 = .ok (.bipush 36, 2) := by decide +kernel
theorem dX6_init_7 : decode cX6_init 7 = .ok (.bipush 9, 2) := by decide +kernel
theorem dX6_init_9 : decode cX6_init 9 = .ok (.multianewarray 11 2, 4) := by decide +kernel
theorem dX6_init_13 : decode cX6_init 13 = .ok (.putfield 13, 3) := by decide +kernel
theorem dX6_init_16 : decode cX6_init 16 = .ok (.aload_n 0, 1) := by decide +kernel
theorem dX6_init_17 : decode cX6_init 17 = .ok (.bipush 9, 2) := by decide +kernel
theorem dX6_init_19 : decode cX6_init 19 = .ok (.newarray .int, 2) := by decide +kernel
theorem dX6_init_21 : decode cX6_init 21 = .ok (.putfield 16, 3) := by decide +kernel
theorem dX6_init_24 : decode cX6_init 24 = .ok (.return_, 1) := by decide +kernel
set_option maxRecDepth 20000 in
theorem ggX6_build_X6_fillForm : GoodIn wsX6_build wsX6_fillForm := goodIn_r _ [11, 4, 6, 12, 13, 14, 10, 15, 16, 17, 18, 19, 20, 21, 22, 23, 2, 24, 25, 26, 27, 28, 29, 30, 31, 32, 33, 34, 35, 36, 37, 38, 39, 40, 48, 49, 50, 51, 52, 41, 42, 43, 44, 45, 46, 47] (by decide +kernel) (by decide +kernel)
set_option maxRecDepth 20000 in
theorem gX6_build_X6_fillForm : GoodIn wsX6_build (wsV RX6 39 RX6 yX6_fillForm wsX6_fillForm) := goodIn_app (goodIn_of _ (by decide +kernel)) ggX6_build_X6_fillForm
theorem dX6_build_0 : decode cX6_build 0 = .ok (.aload_n 0, 1) := by decide +kernel
theorem dX6_build_1 : decode cX6_build 1 = .ok (.aload_n 1, 1) := by decide +kernel
theorem dX6_build_2 : decode cX6_build 2 = .ok (.getfield 20, 3) := by decide +kernel
theorem dX6_build_5 : decode cX6_build 5 = .ok (.putfield 26, 3) := by decide +kernel
theorem dX6_build_8 : decode cX6_build 8 = .ok (.aload_n 0, 1) := by decide +kernel
theorem dX6_build_9 : decode cX6_build 9 = .ok (.aload_n 1, 1) := by decide +kernel
theorem dX6_build_10 : decode cX6_build 10 = .ok (.getfield 27, 3) := by decide +kernel
theorem dX6_build_13 : decode cX6_build 13 = .ok (.putfield 30, 3) := by decide +kernel
theorem dX6_build_16 : decode cX6_build 16 = .ok (.aload_n 0, 1) := by decide +kernel
theorem dX6_build_17 : decode cX6_build 17 = .ok (.aload_n 1, 1) := by decide +kernel
theorem dX6_build_18 : decode cX6_build 18 = .ok (.getfield 33, 3) := by decide +kernel
theorem dX6_build_21 : decode cX6_build 21 = .ok (.putfield 36, 3) := by decide +kernel
theorem dX6_build_24 : decode cX6_build 24 = .ok (.iconst 0, 1) := by decide +kernel
theorem dX6_build_25 : decode cX6_build 25 = .ok (.istore_n 2, 1) := by decide +kernel
theorem dX6_build_26 : decode cX6_build 26 = .ok (.iload_n 2, 1) := by decide +kernel
theorem dX6_build_27 : decode cX6_build 27 = .ok (.aload_n 0, 1) := by decide +kernel
theorem dX6_build_28 : decode cX6_build 28 = .ok (.getfield 30, 3) := by decide +kernel
theorem dX6_build_31 : decode cX6_build 31 = .ok (.aload_n 0, 1) := by decide +kernel
theorem dX6_build_32 : decode cX6_build 32 = .ok (.getfield 36, 3) := by decide +kernel
theorem dX6_build_35 : decode cX6_build 35 = .ok (.iadd, 1) := by decide +kernel
theorem dX6_build_36 : decode cX6_build 36 = .ok (.if_icmp .ge 31, 3) := by decide +kernel
theorem dX6_build_39 : decode cX6_build 39 = .ok (.iconst 0, 1) := by decide +kernel
theorem dX6_build_40 : decode cX6_build 40 = .ok (.istore_n 3, 1) := by decide +kernel
theorem dX6_build_41 : decode cX6_build 41 = .ok (.iload_n 3, 1) := by decide +kernel
theorem dX6_build_42 : decode cX6_build 42 = .ok (.iload_n 2, 1) := by decide +kernel
theorem dX6_build_43 : decode cX6_build 43 = .ok (.if_icmp .gt 18, 3) := by decide +kernel
theorem dX6_build_46 : decode cX6_build 46 = .ok (.aload_n 0, 1) := by decide +kernel
theorem dX6_build_47 : decode cX6_build 47 = .ok (.aload_n 1, 1) := by decide +kernel
theorem dX6_build_48 : decode cX6_build 48 = .ok (.iload_n 3, 1) := by decide +kernel
theorem dX6_build_49 : decode cX6_build 49 = .ok (.iload_n 2, 1) := by decide +kernel
theorem dX6_build_50 : decode cX6_build 50 = .ok (.iload_n 3, 1) := by decide +kernel
theorem dX6_build_51 : decode cX6_build 51 = .ok (.isub, 1) := by decide +kernel
theorem dX6_build_52 : decode cX6_build 52 = .ok (.invokevirtual 39, 3) := by decide +kernel
theorem dX6_build_55 : decode cX6_build 55 = .ok (.iinc 3 1, 3) := by decide +kernel
theorem dX6_build_58 : decode cX6_build 58 = .ok (.goto (-17), 3) := by decide +kernel
theorem dX6_build_61 : decode cX6_build 61 = .ok (.iinc 2 1, 3) := by decide +kernel
theorem dX6_build_64 : decode cX6_build 64 = .ok (.goto (-38), 3) := by decide +kernel
theorem dX6_build_67 : decode cX6_build 67 = .ok (.return_, 1) := by decide +kernel
set_option maxRecDepth 20000 in
theorem ggX6_fillForm_X6_formAt : GoodIn wsX6_fillForm wsX6_formAt := goodIn_r _ [7, 8, 34, 35, 36, 37, 38] (by decide +kernel) (by decide +kernel)
set_option maxRecDepth 20000 in
theorem gX6_fillForm_X6_formAt : GoodIn wsX6_fillForm (wsV RX6 43 RX6 yX6_formAt wsX6_formAt) := goodIn_app (goodIn_of _ (by decide +kernel)) ggX6_fillForm_X6_formAt
set_option maxRecDepth 20000 in
theorem ggX6_fillForm_X11_clear : GoodIn wsX6_fillForm wsX11_clear := goodIn_r _ [11] (by decide +kernel) (by decide +kernel)
set_option maxRecDepth 20000 in
theorem gX6_fillForm_X11_clear_n47 : GoodIn wsX6_fillForm (wsX11_clear) := ggX6_fillForm_X11_clear
set_option maxRecDepth 20000 in
theorem ggX6_fillForm_X6_bringTail : GoodIn wsX6_fillForm wsX6_bringTail := goodIn_r _ [15, 16, 17, 18, 19, 20, 21, 22, 23, 24, 25, 26, 27, 28, 29, 30, 10, 31, 3, 4, 5, 6, 7, 8, 32, 33, 34, 35, 36, 37, 38, 39, 40, 41, 42, 43, 44, 45] (by decide +kernel) (by decide +kernel)
set_option maxRecDepth 20000 in
theorem gX6_fillForm_X6_bringTail : GoodIn wsX6_fillForm (wsV RX6 51 RX6 yX6_bringTail wsX6_bringTail) := goodIn_app (goodIn_of _ (by decide +kernel)) ggX6_fillForm_X6_bringTail
theorem dX6_fillForm_0 : decode cX6_fillForm 0 = .ok (.aload_n 0, 1) := by decide +kernel
theorem dX6_fillForm_1 : decode cX6_fillForm 1 = .ok (.iload_n 2, 1) := by decide +kernel
theorem dX6_fillForm_2 : decode cX6_fillForm 2 = .ok (.iload_n 3, 1) := by decide +kernel
theorem dX6_fillForm_3 : decode cX6_fillForm 3 = .ok (.invokevirtual 43, 3) := by decide +kernel
theorem dX6_fillForm_6 : decode cX6_fillForm 6 = .ok (.astore 4, 2) := by decide +kernel
theorem dX6_fillForm_8 : decode cX6_fillForm 8 = .ok (.aload 4, 2) := by decide +kernel
theorem dX6_fillForm_10 : decode cX6_fillForm 10 = .ok (.invokestatic 47, 3) := by decide +kernel
theorem dX6_fillForm_13 : decode cX6_fillForm 13 = .ok (.iload_n 2, 1) := by decide +kernel
theorem dX6_fillForm_14 : decode cX6_fillForm 14 = .ok (.aload_n 0, 1) := by decide +kernel
theorem dX6_fillForm_15 : decode cX6_fillForm 15 = .ok (.getfield 30, 3) := by decide +kernel
theorem dX6_fillForm_18 : decode cX6_fillForm 18 = .ok (.if_icmp .lt 21, 3) := by decide +kernel
theorem dX6_fillForm_21 : decode cX6_fillForm 21 = .ok (.aload_n 0, 1) := by decide +kernel
theorem dX6_fillForm_22 : decode cX6_fillForm 22 = .ok (.aload_n 1, 1) := by decide +kernel
theorem dX6_fillForm_23 : decode cX6_fillForm 23 = .ok (.iconst 0, 1) := by decide +kernel
theorem dX6_fillForm_24 : decode cX6_fillForm 24 = .ok (.iload_n 2, 1) := by decide +kernel
theorem dX6_fillForm_25 : decode cX6_fillForm 25 = .ok (.aload_n 0, 1) := by decide +kernel
theorem dX6_fillForm_26 : decode cX6_fillForm 26 = .ok (.getfield 30, 3) := by decide +kernel
theorem dX6_fillForm_29 : decode cX6_fillForm 29 = .ok (.isub, 1) := by decide +kernel
theorem dX6_fillForm_30 : decode cX6_fillForm 30 = .ok (.iload_n 3, 1) := by decide +kernel
theorem dX6_fillForm_31 : decode cX6_fillForm 31 = .ok (.aload 4, 2) := by decide +kernel
theorem dX6_fillForm_33 : decode cX6_fillForm 33 = .ok (.invokevirtual 51, 3) := by decide +kernel
theorem dX6_fillForm_36 : decode cX6_fillForm 36 = .ok (.goto 41, 3) := by decide +kernel
theorem dX6_fillForm_39 : decode cX6_fillForm 39 = .ok (.iload_n 3, 1) := by decide +kernel
theorem dX6_fillForm_40 : decode cX6_fillForm 40 = .ok (.aload_n 0, 1) := by decide +kernel
theorem dX6_fillForm_41 : decode cX6_fillForm 41 = .ok (.getfield 36, 3) := by decide +kernel
theorem dX6_fillForm_44 : decode cX6_fillForm 44 = .ok (.if_icmp .lt 21, 3) := by decide +kernel
theorem dX6_fillForm_47 : decode cX6_fillForm 47 = .ok (.aload_n 0, 1) := by decide +kernel
theorem dX6_fillForm_48 : decode cX6_fillForm 48 = .ok (.aload_n 1, 1) := by decide +kernel
theorem dX6_fillForm_49 : decode cX6_fillForm 49 = .ok (.iconst 1, 1) := by decide +kernel
theorem dX6_fillForm_50 : decode cX6_fillForm 50 = .ok (.iload_n 2, 1) := by decide +kernel
theorem dX6_fillForm_51 : decode cX6_fillForm 51 = .ok (.iload_n 3, 1) := by decide +kernel
theorem dX6_fillForm_52 : decode cX6_fillForm 52 = .ok (.aload_n 0, 1) := by decide +kernel
theorem dX6_fillForm_53 : decode cX6_fillForm 53 = .ok (.getfield 36, 3) := by decide +kernel
theorem dX6_fillForm_56 : decode cX6_fillForm 56 = .ok (.isub, 1) := by decide +kernel
theorem dX6_fillForm_57 : decode cX6_fillForm 57 = .ok (.aload 4, 2) := by decide +kernel
theorem dX6_fillForm_59 : decode cX6_fillForm 59 = .ok (.invokevirtual 51, 3) := by decide +kernel
theorem dX6_fillForm_62 : decode cX6_fillForm 62 = .ok (.goto 15, 3) := by decide +kernel
theorem dX6_fillForm_65 : decode cX6_fillForm 65 = .ok (.aload 4, 2) := by decide +kernel
theorem dX6_fillForm_67 : decode cX6_fillForm 67 = .ok (.aload_n 0, 1) := by decide +kernel
theorem dX6_fillForm_68 : decode cX6_fillForm 68 = .ok (.getfield 30, 3) := by decide +kernel
theorem dX6_fillForm_71 : decode cX6_fillForm 71 = .ok (.iload_n 3, 1) := by decide +kernel
theorem dX6_fillForm_72 : decode cX6_fillForm 72 = .ok (.imul, 1) := by decide +kernel
theorem dX6_fillForm_73 : decode cX6_fillForm 73 = .ok (.iload_n 2, 1) := by decide +kernel
theorem dX6_fillForm_74 : decode cX6_fillForm 74 = .ok (.iadd, 1) := by decide +kernel
theorem dX6_fillForm_75 : decode cX6_fillForm 75 = .ok (.iconst 1, 1) := by decide +kernel
theorem dX6_fillForm_76 : decode cX6_fillForm 76 = .ok (.iastore, 1) := by decide +kernel
theorem dX6_fillForm_77 : decode cX6_fillForm 77 = .ok (.return_, 1) := by decide +kernel
set_option maxRecDepth 20000 in
theorem ggX6_bringTail_X7_coefficients : GoodIn wsX6_bringTail wsX7_coefficients := goodIn_r _ [6, 7, 8, 31, 32, 33, 34, 35, 36, 37] (by decide +kernel) (by decide +kernel)
set_option maxRecDepth 20000 in
theorem gX6_bringTail_X7_coefficients : GoodIn wsX6_bringTail (wsV RX6 55 RX7 yX7_coefficients wsX7_coefficients) := goodIn_app (goodIn_of _ (by decide +kernel)) ggX6_bringTail_X7_coefficients
set_option maxRecDepth 20000 in
theorem ggX6_bringTail_X7_power : GoodIn wsX6_bringTail wsX7_power := goodIn_r _ [12, 13, 14, 31, 32, 33, 34, 35, 36, 37] (by decide +kernel) (by decide +kernel)
set_option maxRecDepth 20000 in
theorem gX6_bringTail_X7_power : GoodIn wsX6_bringTail (wsV RX6 59 RX7 yX7_power wsX7_power) := goodIn_app (goodIn_of _ (by decide +kernel)) ggX6_bringTail_X7_power
set_option maxRecDepth 20000 in
theorem ggX6_bringTail_X11_leftOver : GoodIn wsX6_bringTail wsX11_leftOver := goodIn_r _ [17] (by decide +kernel) (by decide +kernel)
set_option maxRecDepth 20000 in
theorem gX6_bringTail_X11_leftOver_n63 : GoodIn wsX6_bringTail (wsX11_leftOver) := ggX6_bringTail_X11_leftOver
set_option maxRecDepth 20000 in
theorem ggX6_bringTail_X6_formAt : GoodIn wsX6_bringTail wsX6_formAt := goodIn_r _ [22, 23, 26, 27, 28, 29, 30] (by decide +kernel) (by decide +kernel)
set_option maxRecDepth 20000 in
theorem gX6_bringTail_X6_formAt : GoodIn wsX6_bringTail (wsV RX6 43 RX6 yX6_formAt wsX6_formAt) := goodIn_app (goodIn_of _ (by decide +kernel)) ggX6_bringTail_X6_formAt
set_option maxRecDepth 20000 in
theorem ggX6_bringTail_X11_bringMultiple : GoodIn wsX6_bringTail wsX11_bringMultiple := goodIn_r _ [25] (by decide +kernel) (by decide +kernel)
set_option maxRecDepth 20000 in
theorem gX6_bringTail_X11_bringMultiple_n67 : GoodIn wsX6_bringTail (wsX11_bringMultiple) := ggX6_bringTail_X11_bringMultiple
theorem dX6_bringTail_0 : decode cX6_bringTail 0 = .ok (.aload_n 1, 1) := by decide +kernel
theorem dX6_bringTail_1 : decode cX6_bringTail 1 = .ok (.iload_n 2, 1) := by decide +kernel
theorem dX6_bringTail_2 : decode cX6_bringTail 2 = .ok (.invokevirtual 55, 3) := by decide +kernel
theorem dX6_bringTail_5 : decode cX6_bringTail 5 = .ok (.astore 6, 2) := by decide +kernel
theorem dX6_bringTail_7 : decode cX6_bringTail 7 = .ok (.aload_n 1, 1) := by decide +kernel
theorem dX6_bringTail_8 : decode cX6_bringTail 8 = .ok (.iload_n 2, 1) := by decide +kernel
theorem dX6_bringTail_9 : decode cX6_bringTail 9 = .ok (.invokevirtual 59, 3) := by decide +kernel
theorem dX6_bringTail_12 : decode cX6_bringTail 12 = .ok (.istore 7, 2) := by decide +kernel
theorem dX6_bringTail_14 : decode cX6_bringTail 14 = .ok (.iconst 0, 1) := by decide +kernel
theorem dX6_bringTail_15 : decode cX6_bringTail 15 = .ok (.istore 8, 2) := by decide +kernel
theorem dX6_bringTail_17 : decode cX6_bringTail 17 = .ok (.iload 8, 2) := by decide +kernel
theorem dX6_bringTail_19 : decode cX6_bringTail 19 = .ok (.iload 7, 2) := by decide +kernel
theorem dX6_bringTail_21 : decode cX6_bringTail 21 = .ok (.if_icmp .ge 72, 3) := by decide +kernel
theorem dX6_bringTail_24 : decode cX6_bringTail 24 = .ok (.iconst 0, 1) := by decide +kernel
theorem dX6_bringTail_25 : decode cX6_bringTail 25 = .ok (.istore 9, 2) := by decide +kernel
theorem dX6_bringTail_27 : decode cX6_bringTail 27 = .ok (.iload 9, 2) := by decide +kernel
theorem dX6_bringTail_29 : decode cX6_bringTail 29 = .ok (.iload 7, 2) := by decide +kernel
theorem dX6_bringTail_31 : decode cX6_bringTail 31 = .ok (.iload 8, 2) := by decide +kernel
theorem dX6_bringTail_33 : decode cX6_bringTail 33 = .ok (.isub, 1) := by decide +kernel
theorem dX6_bringTail_34 : decode cX6_bringTail 34 = .ok (.if_icmp .ge 53, 3) := by decide +kernel
theorem dX6_bringTail_37 : decode cX6_bringTail 37 = .ok (.aload 6, 2) := by decide +kernel
theorem dX6_bringTail_39 : decode cX6_bringTail 39 = .ok (.iconst 3, 1) := by decide +kernel
theorem dX6_bringTail_40 : decode cX6_bringTail 40 = .ok (.iload 8, 2) := by decide +kernel
theorem dX6_bringTail_42 : decode cX6_bringTail 42 = .ok (.imul, 1) := by decide +kernel
theorem dX6_bringTail_43 : decode cX6_bringTail 43 = .ok (.iload 9, 2) := by decide +kernel
theorem dX6_bringTail_45 : decode cX6_bringTail 45 = .ok (.iadd, 1) := by decide +kernel
theorem dX6_bringTail_46 : decode cX6_bringTail 46 = .ok (.iaload, 1) := by decide +kernel
theorem dX6_bringTail_47 : decode cX6_bringTail 47 = .ok (.ineg, 1) := by decide +kernel
theorem dX6_bringTail_48 : decode cX6_bringTail 48 = .ok (.aload_n 0, 1) := by decide +kernel
theorem dX6_bringTail_49 : decode cX6_bringTail 49 = .ok (.getfield 26, 3) := by decide +kernel
theorem dX6_bringTail_52 : decode cX6_bringTail 52 = .ok (.invokestatic 63, 3) := by decide +kernel
theorem dX6_bringTail_55 : decode cX6_bringTail 55 = .ok (.istore 10, 2) := by decide +kernel
theorem dX6_bringTail_57 : decode cX6_bringTail 57 = .ok (.aload 5, 2) := by decide +kernel
theorem dX6_bringTail_59 : decode cX6_bringTail 59 = .ok (.aload_n 0, 1) := by decide +kernel
theorem dX6_bringTail_60 : decode cX6_bringTail 60 = .ok (.iload_n 3, 1) := by decide +kernel
theorem dX6_bringTail_61 : decode cX6_bringTail 61 = .ok (.iload 9, 2) := by decide +kernel
theorem dX6_bringTail_63 : decode cX6_bringTail 63 = .ok (.iadd, 1) := by decide +kernel
theorem dX6_bringTail_64 : decode cX6_bringTail 64 = .ok (.iload 4, 2) := by decide +kernel
theorem dX6_bringTail_66 : decode cX6_bringTail 66 = .ok (.iload 8, 2) := by decide +kernel
theorem dX6_bringTail_68 : decode cX6_bringTail 68 = .ok (.iadd, 1) := by decide +kernel
theorem dX6_bringTail_69 : decode cX6_bringTail 69 = .ok (.invokevirtual 43, 3) := by decide +kernel
theorem dX6_bringTail_72 : decode cX6_bringTail 72 = .ok (.iload 10, 2) := by decide +kernel
theorem dX6_bringTail_74 : decode cX6_bringTail 74 = .ok (.aload_n 0, 1) := by decide +kernel
theorem dX6_bringTail_75 : decode cX6_bringTail 75 = .ok (.getfield 26, 3) := by decide +kernel
theorem dX6_bringTail_78 : decode cX6_bringTail 78 = .ok (.invokestatic 67, 3) := by decide +kernel
theorem dX6_bringTail_81 : decode cX6_bringTail 81 = .ok (.iinc 9 1, 3) := by decide +kernel
theorem dX6_bringTail_84 : decode cX6_bringTail 84 = .ok (.goto (-57), 3) := by decide +kernel
theorem dX6_bringTail_87 : decode cX6_bringTail 87 = .ok (.iinc 8 1, 3) := by decide +kernel
theorem dX6_bringTail_90 : decode cX6_bringTail 90 = .ok (.goto (-73), 3) := by decide +kernel
theorem dX6_bringTail_93 : decode cX6_bringTail 93 = .ok (.return_, 1) := by decide +kernel
theorem dX6_formAt_0 : decode cX6_formAt 0 = .ok (.iload_n 1, 1) := by decide +kernel
theorem dX6_formAt_1 : decode cX6_formAt 1 = .ok (.ifCond .lt 23, 3) := by decide +kernel
theorem dX6_formAt_4 : decode cX6_formAt 4 = .ok (.iload_n 1, 1) := by decide +kernel
theorem dX6_formAt_5 : decode cX6_formAt 5 = .ok (.bipush 6, 2) := by decide +kernel
theorem dX6_formAt_7 : decode cX6_formAt 7 = .ok (.if_icmp .ge 17, 3) := by decide +kernel
theorem dX6_formAt_10 : decode cX6_formAt 10 = .ok (.iload_n 2, 1) := by decide +kernel
theorem dX6_formAt_11 : decode cX6_formAt 11 = .ok (.ifCond .lt 13, 3) := by decide +kernel
theorem dX6_formAt_14 : decode cX6_formAt 14 = .ok (.iload_n 2, 1) := by decide +kernel
theorem dX6_formAt_15 : decode cX6_formAt 15 = .ok (.bipush 6, 2) := by decide +kernel
theorem dX6_formAt_17 : decode cX6_formAt 17 = .ok (.if_icmp .ge 7, 3) := by decide +kernel
theorem dX6_formAt_20 : decode cX6_formAt 20 = .ok (.iconst 1, 1) := by decide +kernel
theorem dX6_formAt_21 : decode cX6_formAt 21 = .ok (.goto 4, 3) := by decide +kernel
theorem dX6_formAt_24 : decode cX6_formAt 24 = .ok (.iconst 0, 1) := by decide +kernel
theorem dX6_formAt_25 : decode cX6_formAt 25 = .ok (.istore_n 3, 1) := by decide +kernel
theorem dX6_formAt_26 : decode cX6_formAt 26 = .ok (.iload_n 3, 1) := by decide +kernel
theorem dX6_formAt_27 : decode cX6_formAt 27 = .ok (.ifCond .eq 17, 3) := by decide +kernel
theorem dX6_formAt_30 : decode cX6_formAt 30 = .ok (.aload_n 0, 1) := by decide +kernel
theorem dX6_formAt_31 : decode cX6_formAt 31 = .ok (.getfield 13, 3) := by decide +kernel
theorem dX6_formAt_34 : decode cX6_formAt 34 = .ok (.bipush 6, 2) := by decide +kernel
theorem dX6_formAt_36 : decode cX6_formAt 36 = .ok (.iload_n 2, 1) := by decide +kernel
theorem dX6_formAt_37 : decode cX6_formAt 37 = .ok (.imul, 1) := by decide +kernel
theorem dX6_formAt_38 : decode cX6_formAt 38 = .ok (.iload_n 1, 1) := by decide +kernel
theorem dX6_formAt_39 : decode cX6_formAt 39 = .ok (.iadd, 1) := by decide +kernel
theorem dX6_formAt_40 : decode cX6_formAt 40 = .ok (.aaload, 1) := by decide +kernel
theorem dX6_formAt_41 : decode cX6_formAt 41 = .ok (.goto 9, 3) := by decide +kernel
theorem dX6_formAt_44 : decode cX6_formAt 44 = .ok (.aload_n 0, 1) := by decide +kernel
theorem dX6_formAt_45 : decode cX6_formAt 45 = .ok (.getfield 13, 3) := by decide +kernel
theorem dX6_formAt_48 : decode cX6_formAt 48 = .ok (.iconst 0, 1) := by decide +kernel
theorem dX6_formAt_49 : decode cX6_formAt 49 = .ok (.aaload, 1) := by decide +kernel
theorem dX6_formAt_50 : decode cX6_formAt 50 = .ok (.areturn, 1) := by decide +kernel
set_option maxRecDepth 20000 in
theorem ggX6_toOne_X11_clear : GoodIn wsX6_toOne wsX11_clear := goodIn_r _ [3] (by decide +kernel) (by decide +kernel)
set_option maxRecDepth 20000 in
theorem gX6_toOne_X11_clear_n47 : GoodIn wsX6_toOne (wsX11_clear) := ggX6_toOne_X11_clear
theorem dX6_toOne_0 : decode cX6_toOne 0 = .ok (.aload_n 1, 1) := by decide +kernel
theorem dX6_toOne_1 : decode cX6_toOne 1 = .ok (.invokestatic 47, 3) := by decide +kernel
theorem dX6_toOne_4 : decode cX6_toOne 4 = .ok (.aload_n 1, 1) := by decide +kernel
theorem dX6_toOne_5 : decode cX6_toOne 5 = .ok (.iconst 0, 1) := by decide +kernel
theorem dX6_toOne_6 : decode cX6_toOne 6 = .ok (.iconst 1, 1) := by decide +kernel
theorem dX6_toOne_7 : decode cX6_toOne 7 = .ok (.iastore, 1) := by decide +kernel
theorem dX6_toOne_8 : decode cX6_toOne 8 = .ok (.return_, 1) := by decide +kernel
set_option maxRecDepth 20000 in
theorem ggX6_multiply_X11_clear : GoodIn wsX6_multiply wsX11_clear := goodIn_r _ [7] (by decide +kernel) (by decide +kernel)
set_option maxRecDepth 20000 in
theorem gX6_multiply_X11_clear_n47 : GoodIn wsX6_multiply (wsX11_clear) := ggX6_multiply_X11_clear
set_option maxRecDepth 20000 in
theorem ggX6_multiply_X6_formAt : GoodIn wsX6_multiply wsX6_formAt := goodIn_r _ [12, 13, 16, 17, 18, 19, 20] (by decide +kernel) (by decide +kernel)
set_option maxRecDepth 20000 in
theorem gX6_multiply_X6_formAt : GoodIn wsX6_multiply (wsV RX6 43 RX6 yX6_formAt wsX6_formAt) := goodIn_app (goodIn_of _ (by decide +kernel)) ggX6_multiply_X6_formAt
set_option maxRecDepth 20000 in
theorem ggX6_multiply_X11_bringMultiple : GoodIn wsX6_multiply wsX11_bringMultiple := goodIn_r _ [15] (by decide +kernel) (by decide +kernel)
set_option maxRecDepth 20000 in
theorem gX6_multiply_X11_bringMultiple_n67 : GoodIn wsX6_multiply (wsX11_bringMultiple) := ggX6_multiply_X11_bringMultiple
theorem dX6_multiply_0 : decode cX6_multiply 0 = .ok (.aload_n 0, 1) := by decide +kernel
theorem dX6_multiply_1 : decode cX6_multiply 1 = .ok (.getfield 16, 3) := by decide +kernel
theorem dX6_multiply_4 : decode cX6_multiply 4 = .ok (.invokestatic 47, 3) := by decide +kernel
theorem dX6_multiply_7 : decode cX6_multiply 7 = .ok (.iconst 0, 1) := by decide +kernel
theorem dX6_multiply_8 : decode cX6_multiply 8 = .ok (.istore 4, 2) := by decide +kernel
theorem dX6_multiply_10 : decode cX6_multiply 10 = .ok (.iload 4, 2) := by decide +kernel
theorem dX6_multiply_12 : decode cX6_multiply 12 = .ok (.aload_n 0, 1) := by decide +kernel
theorem dX6_multiply_13 : decode cX6_multiply 13 = .ok (.getfield 36, 3) := by decide +kernel
theorem dX6_multiply_16 : decode cX6_multiply 16 = .ok (.if_icmp .ge 86, 3) := by decide +kernel
theorem dX6_multiply_19 : decode cX6_multiply 19 = .ok (.iconst 0, 1) := by decide +kernel
theorem dX6_multiply_20 : decode cX6_multiply 20 = .ok (.istore 5, 2) := by decide +kernel
theorem dX6_multiply_22 : decode cX6_multiply 22 = .ok (.iload 5, 2) := by decide +kernel
theorem dX6_multiply_24 : decode cX6_multiply 24 = .ok (.aload_n 0, 1) := by decide +kernel
theorem dX6_multiply_25 : decode cX6_multiply 25 = .ok (.getfield 30, 3) := by decide +kernel
theorem dX6_multiply_28 : decode cX6_multiply 28 = .ok (.if_icmp .ge 68, 3) := by decide +kernel
theorem dX6_multiply_31 : decode cX6_multiply 31 = .ok (.aload_n 2, 1) := by decide +kernel
theorem dX6_multiply_32 : decode cX6_multiply 32 = .ok (.aload_n 0, 1) := by decide +kernel
theorem dX6_multiply_33 : decode cX6_multiply 33 = .ok (.getfield 30, 3) := by decide +kernel
theorem dX6_multiply_36 : decode cX6_multiply 36 = .ok (.iload 4, 2) := by decide +kernel
theorem dX6_multiply_38 : decode cX6_multiply 38 = .ok (.imul, 1) := by decide +kernel
theorem dX6_multiply_39 : decode cX6_multiply 39 = .ok (.iload 5, 2) := by decide +kernel
theorem dX6_multiply_41 : decode cX6_multiply 41 = .ok (.iadd, 1) := by decide +kernel
theorem dX6_multiply_42 : decode cX6_multiply 42 = .ok (.iaload, 1) := by decide +kernel
theorem dX6_multiply_43 : decode cX6_multiply 43 = .ok (.istore 6, 2) := by decide +kernel
theorem dX6_multiply_45 : decode cX6_multiply 45 = .ok (.iload 6, 2) := by decide +kernel
theorem dX6_multiply_47 : decode cX6_multiply 47 = .ok (.ifCond .eq 43, 3) := by decide +kernel
theorem dX6_multiply_50 : decode cX6_multiply 50 = .ok (.aload_n 0, 1) := by decide +kernel
theorem dX6_multiply_51 : decode cX6_multiply 51 = .ok (.getfield 16, 3) := by decide +kernel
theorem dX6_multiply_54 : decode cX6_multiply 54 = .ok (.iload_n 1, 1) := by decide +kernel
theorem dX6_multiply_55 : decode cX6_multiply 55 = .ok (.ifCond .ne 16, 3) := by decide +kernel
theorem dX6_multiply_58 : decode cX6_multiply 58 = .ok (.aload_n 0, 1) := by decide +kernel
theorem dX6_multiply_59 : decode cX6_multiply 59 = .ok (.iload 5, 2) := by decide +kernel
theorem dX6_multiply_61 : decode cX6_multiply 61 = .ok (.iconst 1, 1) := by decide +kernel
theorem dX6_multiply_62 : decode cX6_multiply 62 = .ok (.iadd, 1) := by decide +kernel
theorem dX6_multiply_63 : decode cX6_multiply 63 = .ok (.iload 4, 2) := by decide +kernel
theorem dX6_multiply_65 : decode cX6_multiply 65 = .ok (.invokevirtual 43, 3) := by decide +kernel
theorem dX6_multiply_68 : decode cX6_multiply 68 = .ok (.goto 13, 3) := by decide +kernel
theorem dX6_multiply_71 : decode cX6_multiply 71 = .ok (.aload_n 0, 1) := by decide +kernel
theorem dX6_multiply_72 : decode cX6_multiply 72 = .ok (.iload 5, 2) := by decide +kernel
theorem dX6_multiply_74 : decode cX6_multiply 74 = .ok (.iload 4, 2) := by decide +kernel
theorem dX6_multiply_76 : decode cX6_multiply 76 = .ok (.iconst 1, 1) := by decide +kernel
theorem dX6_multiply_77 : decode cX6_multiply 77 = .ok (.iadd, 1) := by decide +kernel
theorem dX6_multiply_78 : decode cX6_multiply 78 = .ok (.invokevirtual 43, 3) := by decide +kernel
theorem dX6_multiply_81 : decode cX6_multiply 81 = .ok (.iload 6, 2) := by decide +kernel
theorem dX6_multiply_83 : decode cX6_multiply 83 = .ok (.aload_n 0, 1) := by decide +kernel
theorem dX6_multiply_84 : decode cX6_multiply 84 = .ok (.getfield 26, 3) := by decide +kernel
theorem dX6_multiply_87 : decode cX6_multiply 87 = .ok (.invokestatic 67, 3) := by decide +kernel
theorem dX6_multiply_90 : decode cX6_multiply 90 = .ok (.iinc 5 1, 3) := by decide +kernel
theorem dX6_multiply_93 : decode cX6_multiply 93 = .ok (.goto (-71), 3) := by decide +kernel
theorem dX6_multiply_96 : decode cX6_multiply 96 = .ok (.iinc 4 1, 3) := by decide +kernel
theorem dX6_multiply_99 : decode cX6_multiply 99 = .ok (.goto (-89), 3) := by decide +kernel
theorem dX6_multiply_102 : decode cX6_multiply 102 = .ok (.iconst 0, 1) := by decide +kernel
theorem dX6_multiply_103 : decode cX6_multiply 103 = .ok (.istore 4, 2) := by decide +kernel
theorem dX6_multiply_105 : decode cX6_multiply 105 = .ok (.iload 4, 2) := by decide +kernel
theorem dX6_multiply_107 : decode cX6_multiply 107 = .ok (.bipush 9, 2) := by decide +kernel
theorem dX6_multiply_109 : decode cX6_multiply 109 = .ok (.if_icmp .ge 20, 3) := by decide +kernel
theorem dX6_multiply_112 : decode cX6_multiply 112 = .ok (.aload_n 3, 1) := by decide +kernel
theorem dX6_multiply_113 : decode cX6_multiply 113 = .ok (.iload 4, 2) := by decide +kernel
theorem dX6_multiply_115 : decode cX6_multiply 115 = .ok (.aload_n 0, 1) := by decide +kernel
theorem dX6_multiply_116 : decode cX6_multiply 116 = .ok (.getfield 16, 3) := by decide +kernel
theorem dX6_multiply_119 : decode cX6_multiply 119 = .ok (.iload 4, 2) := by decide +kernel
theorem dX6_multiply_121 : decode cX6_multiply 121 = .ok (.iaload, 1) := by decide +kernel
theorem dX6_multiply_122 : decode cX6_multiply 122 = .ok (.iastore, 1) := by decide +kernel
theorem dX6_multiply_123 : decode cX6_multiply 123 = .ok (.iinc 4 1, 3) := by decide +kernel
theorem dX6_multiply_126 : decode cX6_multiply 126 = .ok (.goto (-21), 3) := by decide +kernel
theorem dX6_multiply_129 : decode cX6_multiply 129 = .ok (.return_, 1) := by decide +kernel
set_option maxRecDepth 20000 in
theorem ggX6_multiplyByPolynomial_X11_clear : GoodIn wsX6_multiplyByPolynomial wsX11_clear := goodIn_r _ [4] (by decide +kernel) (by decide +kernel)
set_option maxRecDepth 20000 in
theorem gX6_multiplyByPolynomial_X11_clear_n47 : GoodIn wsX6_multiplyByPolynomial (wsX11_clear) := ggX6_multiplyByPolynomial_X11_clear
set_option maxRecDepth 20000 in
theorem ggX6_multiplyByPolynomial_X11_highestNotZero : GoodIn wsX6_multiplyByPolynomial wsX11_highestNotZero := goodIn_r _ [6, 7, 8, 9, 10] (by decide +kernel) (by decide +kernel)
set_option maxRecDepth 20000 in
theorem gX6_multiplyByPolynomial_X11_highestNotZero_n71 : GoodIn wsX6_multiplyByPolynomial (wsX11_highestNotZero) := ggX6_multiplyByPolynomial_X11_highestNotZero
set_option maxRecDepth 20000 in
theorem ggX6_multiplyByPolynomial_X6_multiply : GoodIn wsX6_multiplyByPolynomial wsX6_multiply := goodIn_r _ [15, 16, 17, 18, 1, 2, 3, 4, 19, 20, 21, 14, 22, 23, 24, 25, 26, 27, 28, 29, 30] (by decide +kernel) (by decide +kernel)
set_option maxRecDepth 20000 in
theorem gX6_multiplyByPolynomial_X6_multiply : GoodIn wsX6_multiplyByPolynomial (wsV RX6 75 RX6 yX6_multiply wsX6_multiply) := goodIn_app (goodIn_of _ (by decide +kernel)) ggX6_multiplyByPolynomial_X6_multiply
set_option maxRecDepth 20000 in
theorem ggX6_multiplyByPolynomial_X11_bringMultiple : GoodIn wsX6_multiplyByPolynomial wsX11_bringMultiple := goodIn_r _ [25] (by decide +kernel) (by decide +kernel)
set_option maxRecDepth 20000 in
theorem gX6_multiplyByPolynomial_X11_bringMultiple_n67 : GoodIn wsX6_multiplyByPolynomial (wsX11_bringMultiple) := ggX6_multiplyByPolynomial_X11_bringMultiple
theorem dX6_multiplyByPolynomial_0 : decode cX6_multiplyByPolynomial 0 = .ok (.aload 4, 2) := by decide +kernel
theorem dX6_multiplyByPolynomial_2 : decode cX6_multiplyByPolynomial 2 = .ok (.invokestatic 47, 3) := by decide +kernel
theorem dX6_multiplyByPolynomial_5 : decode cX6_multiplyByPolynomial 5 = .ok (.aload_n 2, 1) := by decide +kernel
theorem dX6_multiplyByPolynomial_6 : decode cX6_multiplyByPolynomial 6 = .ok (.aload_n 2, 1) := by decide +kernel
theorem dX6_multiplyByPolynomial_7 : decode cX6_multiplyByPolynomial 7 = .ok (.arraylength, 1) := by decide +kernel
theorem dX6_multiplyByPolynomial_8 : decode cX6_multiplyByPolynomial 8 = .ok (.iconst 1, 1) := by decide +kernel
theorem dX6_multiplyByPolynomial_9 : decode cX6_multiplyByPolynomial 9 = .ok (.isub, 1) := by decide +kernel
theorem dX6_multiplyByPolynomial_10 : decode cX6_multiplyByPolynomial 10 = .ok (.invokestatic 71, 3) := by decide +kernel
theorem dX6_multiplyByPolynomial_13 : decode cX6_multiplyByPolynomial 13 = .ok (.istore 5, 2) := by decide +kernel
theorem dX6_multiplyByPolynomial_15 : decode cX6_multiplyByPolynomial 15 = .ok (.iload 5, 2) := by decide +kernel
theorem dX6_multiplyByPolynomial_17 : decode cX6_multiplyByPolynomial 17 = .ok (.ifCond .lt 32, 3) := by decide +kernel
theorem dX6_multiplyByPolynomial_20 : decode cX6_multiplyByPolynomial 20 = .ok (.aload_n 0, 1) := by decide +kernel
theorem dX6_multiplyByPolynomial_21 : decode cX6_multiplyByPolynomial 21 = .ok (.iload_n 1, 1) := by decide +kernel
theorem dX6_multiplyByPolynomial_22 : decode cX6_multiplyByPolynomial 22 = .ok (.aload 4, 2) := by decide +kernel
theorem dX6_multiplyByPolynomial_24 : decode cX6_multiplyByPolynomial 24 = .ok (.aload 4, 2) := by decide +kernel
theorem dX6_multiplyByPolynomial_26 : decode cX6_multiplyByPolynomial 26 = .ok (.invokevirtual 75, 3) := by decide +kernel
theorem dX6_multiplyByPolynomial_29 : decode cX6_multiplyByPolynomial 29 = .ok (.aload 4, 2) := by decide +kernel
theorem dX6_multiplyByPolynomial_31 : decode cX6_multiplyByPolynomial 31 = .ok (.aload_n 3, 1) := by decide +kernel
theorem dX6_multiplyByPolynomial_32 : decode cX6_multiplyByPolynomial 32 = .ok (.aload_n 2, 1) := by decide +kernel
theorem dX6_multiplyByPolynomial_33 : decode cX6_multiplyByPolynomial 33 = .ok (.iload 5, 2) := by decide +kernel
theorem dX6_multiplyByPolynomial_35 : decode cX6_multiplyByPolynomial 35 = .ok (.iaload, 1) := by decide +kernel
theorem dX6_multiplyByPolynomial_36 : decode cX6_multiplyByPolynomial 36 = .ok (.aload_n 0, 1) := by decide +kernel
theorem dX6_multiplyByPolynomial_37 : decode cX6_multiplyByPolynomial 37 = .ok (.getfield 26, 3) := by decide +kernel
theorem dX6_multiplyByPolynomial_40 : decode cX6_multiplyByPolynomial 40 = .ok (.invokestatic 67, 3) := by decide +kernel
theorem dX6_multiplyByPolynomial_43 : decode cX6_multiplyByPolynomial 43 = .ok (.iinc 5 (-1), 3) := by decide +kernel
theorem dX6_multiplyByPolynomial_46 : decode cX6_multiplyByPolynomial 46 = .ok (.goto (-31), 3) := by decide +kernel
theorem dX6_multiplyByPolynomial_49 : decode cX6_multiplyByPolynomial 49 = .ok (.return_, 1) := by decide +kernel
theorem dX7_init_0 : decode cX7_init 0 = .ok (.aload_n 0, 1) := by decide +kernel
theorem dX7_init_1 : decode cX7_init 1 = .ok (.invokespecial 3, 3) := by decide +kernel
theorem dX7_init_4 : decode cX7_init 4 = .ok (.aload_n 0, 1) := by decide +kernel
theorem dX7_init_5 : decode cX7_init 5 = .ok (.bipush 7, 2) := by decide +kernel
theorem dX7_init_7 : decode cX7_init 7 = .ok (.putfield 9, 3) := by decide +kernel
theorem dX7_init_10 : decode cX7_init 10 = .ok (.aload_n 0, 1) := by decide +kernel
theorem dX7_init_11 : decode cX7_init 11 = .ok (.iconst 2, 1) := by decide +kernel
theorem dX7_init_12 : decode cX7_init 12 = .ok (.putfield 15, 3) := by decide +kernel
theorem dX7_init_15 : decode cX7_init 15 = .ok (.aload_n 0, 1) := by decide +kernel
theorem dX7_init_16 : decode cX7_init 16 = .ok (.iconst 2, 1) := by decide +kernel
theorem dX7_init_17 : decode cX7_init 17 = .ok (.putfield 18, 3) := by decide +kernel
theorem dX7_init_20 : decode cX7_init 20 = .ok (.aload_n 0, 1) := by decide +kernel
theorem dX7_init_21 : decode cX7_init 21 = .ok (.iconst 1, 1) := by decide +kernel
theorem dX7_init_22 : decode cX7_init 22 = .ok (.putfield 21, 3) := by decide +kernel
theorem dX7_init_25 : decode cX7_init 25 = .ok (.aload_n 0, 1) := by decide +kernel
theorem dX7_init_26 : decode cX7_init 26 = .ok (.iconst 2, 1) := by decide +kernel
theorem dX7_init_27 : decode cX7_init 27 = .ok (.putfield 24, 3) := by decide +kernel
theorem dX7_init_30 : decode cX7_init 30 = .ok (.aload_n 0, 1) := by decide +kernel
theorem dX7_init_31 : decode cX7_init 31 = .ok (.bipush 9, 2) := by decide +kernel
theorem dX7_init_33 : decode cX7_init 33 = .ok (.newarray .int, 2) := by decide +kernel
theorem dX7_init_35 : decode cX7_init 35 = .ok (.putfield 27, 3) := by decide +kernel
theorem dX7_init_38 : decode cX7_init 38 = .ok (.aload_n 0, 1) := by decide +kernel
theorem dX7_init_39 : decode cX7_init 39 = .ok (.bipush 9, 2) := by decide +kernel
theorem dX7_init_41 : decode cX7_init 41 = .ok (.newarray .int, 2) := by decide +kernel
theorem dX7_init_43 : decode cX7_init 43 = .ok (.putfield 31, 3) := by decide +kernel
theorem dX7_init_46 : decode cX7_init 46 = .ok (.return_, 1) := by decide +kernel
theorem dX7_dimension_0 : decode cX7_dimension 0 = .ok (.aload_n 0, 1) := by decide +kernel
theorem dX7_dimension_1 : decode cX7_dimension 1 = .ok (.getfield 15, 3) := by decide +kernel
theorem dX7_dimension_4 : decode cX7_dimension 4 = .ok (.aload_n 0, 1) := by decide +kernel
theorem dX7_dimension_5 : decode cX7_dimension 5 = .ok (.getfield 18, 3) := by decide +kernel
theorem dX7_dimension_8 : decode cX7_dimension 8 = .ok (.imul, 1) := by decide +kernel
theorem dX7_dimension_9 : decode cX7_dimension 9 = .ok (.ireturn, 1) := by decide +kernel
theorem dX7_power_0 : decode cX7_power 0 = .ok (.iload_n 1, 1) := by decide +kernel
theorem dX7_power_1 : decode cX7_power 1 = .ok (.ifCond .ne 10, 3) := by decide +kernel
theorem dX7_power_4 : decode cX7_power 4 = .ok (.aload_n 0, 1) := by decide +kernel
theorem dX7_power_5 : decode cX7_power 5 = .ok (.getfield 15, 3) := by decide +kernel
theorem dX7_power_8 : decode cX7_power 8 = .ok (.goto 7, 3) := by decide +kernel
theorem dX7_power_11 : decode cX7_power 11 = .ok (.aload_n 0, 1) := by decide +kernel
theorem dX7_power_12 : decode cX7_power 12 = .ok (.getfield 18, 3) := by decide +kernel
theorem dX7_power_15 : decode cX7_power 15 = .ok (.ireturn, 1) := by decide +kernel
theorem dX7_coefficients_0 : decode cX7_coefficients 0 = .ok (.iload_n 1, 1) := by decide +kernel
theorem dX7_coefficients_1 : decode cX7_coefficients 1 = .ok (.ifCond .ne 10, 3) := by decide +kernel
theorem dX7_coefficients_4 : decode cX7_coefficients 4 = .ok (.aload_n 0, 1) := by decide +kernel
theorem dX7_coefficients_5 : decode cX7_coefficients 5 = .ok (.getfield 27, 3) := by decide +kernel
theorem dX7_coefficients_8 : decode cX7_coefficients 8 = .ok (.goto 7, 3) := by decide +kernel
theorem dX7_coefficients_11 : decode cX7_coefficients 11 = .ok (.aload_n 0, 1) := by decide +kernel
theorem dX7_coefficients_12 : decode cX7_coefficients 12 = .ok (.getfield 31, 3) := by decide +kernel
theorem dX7_coefficients_15 : decode cX7_coefficients 15 = .ok (.areturn, 1) := by decide +kernel
set_option maxRecDepth 20000 in
theorem ggX7_hasCoefficient_X11_isUnknown : GoodIn wsX7_hasCoefficient wsX11_isUnknown := goodIn_r _ [3, 4, 5, 2, 6] (by decide +kernel) (by decide +kernel)
set_option maxRecDepth 20000 in
theorem gX7_hasCoefficient_X11_isUnknown_n34 : GoodIn wsX7_hasCoefficient (wsX11_isUnknown) := ggX7_hasCoefficient_X11_isUnknown
set_option maxRecDepth 20000 in
theorem ggX7_hasCoefficient_X7_power : GoodIn wsX7_hasCoefficient wsX7_power := goodIn_r _ [11, 12, 13, 14, 15, 16, 17, 18, 19, 20] (by decide +kernel) (by decide +kernel)
set_option maxRecDepth 20000 in
theorem gX7_hasCoefficient_X7_power : GoodIn wsX7_hasCoefficient (wsV RX7 38 RX7 yX7_power wsX7_power) := goodIn_app (goodIn_of _ (by decide +kernel)) ggX7_hasCoefficient_X7_power
theorem dX7_hasCoefficient_0 : decode cX7_hasCoefficient 0 = .ok (.iload_n 1, 1) := by decide +kernel
theorem dX7_hasCoefficient_1 : decode cX7_hasCoefficient 1 = .ok (.invokestatic 34, 3) := by decide +kernel
theorem dX7_hasCoefficient_4 : decode cX7_hasCoefficient 4 = .ok (.ifCond .eq 35, 3) := by decide +kernel
theorem dX7_hasCoefficient_7 : decode cX7_hasCoefficient 7 = .ok (.iload_n 2, 1) := by decide +kernel
theorem dX7_hasCoefficient_8 : decode cX7_hasCoefficient 8 = .ok (.ifCond .lt 31, 3) := by decide +kernel
theorem dX7_hasCoefficient_11 : decode cX7_hasCoefficient 11 = .ok (.iload_n 3, 1) := by decide +kernel
theorem dX7_hasCoefficient_12 : decode cX7_hasCoefficient 12 = .ok (.ifCond .lt 27, 3) := by decide +kernel
theorem dX7_hasCoefficient_15 : decode cX7_hasCoefficient 15 = .ok (.iload_n 2, 1) := by decide +kernel
theorem dX7_hasCoefficient_16 : decode cX7_hasCoefficient 16 = .ok (.aload_n 0, 1) := by decide +kernel
theorem dX7_hasCoefficient_17 : decode cX7_hasCoefficient 17 = .ok (.iload_n 1, 1) := by decide +kernel
theorem dX7_hasCoefficient_18 : decode cX7_hasCoefficient 18 = .ok (.invokevirtual 38, 3) := by decide +kernel
theorem dX7_hasCoefficient_21 : decode cX7_hasCoefficient 21 = .ok (.if_icmp .ge 18, 3) := by decide +kernel
theorem dX7_hasCoefficient_24 : decode cX7_hasCoefficient 24 = .ok (.iload_n 3, 1) := by decide +kernel
theorem dX7_hasCoefficient_25 : decode cX7_hasCoefficient 25 = .ok (.aload_n 0, 1) := by decide +kernel
theorem dX7_hasCoefficient_26 : decode cX7_hasCoefficient 26 = .ok (.iload_n 1, 1) := by decide +kernel
theorem dX7_hasCoefficient_27 : decode cX7_hasCoefficient 27 = .ok (.invokevirtual 38, 3) := by decide +kernel
theorem dX7_hasCoefficient_30 : decode cX7_hasCoefficient 30 = .ok (.iload_n 2, 1) := by decide +kernel
theorem dX7_hasCoefficient_31 : decode cX7_hasCoefficient 31 = .ok (.isub, 1) := by decide +kernel
theorem dX7_hasCoefficient_32 : decode cX7_hasCoefficient 32 = .ok (.if_icmp .ge 7, 3) := by decide +kernel
theorem dX7_hasCoefficient_35 : decode cX7_hasCoefficient 35 = .ok (.iconst 1, 1) := by decide +kernel
theorem dX7_hasCoefficient_36 : decode cX7_hasCoefficient 36 = .ok (.goto 4, 3) := by decide +kernel
theorem dX7_hasCoefficient_39 : decode cX7_hasCoefficient 39 = .ok (.iconst 0, 1) := by decide +kernel
theorem dX7_hasCoefficient_40 : decode cX7_hasCoefficient 40 = .ok (.ireturn, 1) := by decide +kernel
set_option maxRecDepth 20000 in
theorem ggX7_coefficient_X7_hasCoefficient : GoodIn wsX7_coefficient wsX7_hasCoefficient := goodIn_r _ [5, 6, 7, 8, 9, 10, 11, 12, 13, 14, 4, 15, 16, 17, 24, 25, 26, 27, 28, 29, 30] (by decide +kernel) (by decide +kernel)
set_option maxRecDepth 20000 in
theorem gX7_coefficient_X7_hasCoefficient : GoodIn wsX7_coefficient (wsV RX7 42 RX7 yX7_hasCoefficient wsX7_hasCoefficient) := goodIn_app (goodIn_of _ (by decide +kernel)) ggX7_coefficient_X7_hasCoefficient
set_option maxRecDepth 20000 in
theorem ggX7_coefficient_X7_coefficients : GoodIn wsX7_coefficient wsX7_coefficients := goodIn_r _ [21, 22, 23, 24, 25, 26, 27, 28, 29, 30] (by decide +kernel) (by decide +kernel)
set_option maxRecDepth 20000 in
theorem gX7_coefficient_X7_coefficients : GoodIn wsX7_coefficient (wsV RX7 46 RX7 yX7_coefficients wsX7_coefficients) := goodIn_app (goodIn_of _ (by decide +kernel)) ggX7_coefficient_X7_coefficients
theorem dX7_coefficient_0 : decode cX7_coefficient 0 = .ok (.aload_n 0, 1) := by decide +kernel
theorem dX7_coefficient_1 : decode cX7_coefficient 1 = .ok (.iload_n 1, 1) := by decide +kernel
theorem dX7_coefficient_2 : decode cX7_coefficient 2 = .ok (.iload_n 2, 1) := by decide +kernel
theorem dX7_coefficient_3 : decode cX7_coefficient 3 = .ok (.iload_n 3, 1) := by decide +kernel
theorem dX7_coefficient_4 : decode cX7_coefficient 4 = .ok (.invokevirtual 42, 3) := by decide +kernel
theorem dX7_coefficient_7 : decode cX7_coefficient 7 = .ok (.ifCond .eq 17, 3) := by decide +kernel
theorem dX7_coefficient_10 : decode cX7_coefficient 10 = .ok (.aload_n 0, 1) := by decide +kernel
theorem dX7_coefficient_11 : decode cX7_coefficient 11 = .ok (.iload_n 1, 1) := by decide +kernel
theorem dX7_coefficient_12 : decode cX7_coefficient 12 = .ok (.invokevirtual 46, 3) := by decide +kernel
theorem dX7_coefficient_15 : decode cX7_coefficient 15 = .ok (.iconst 3, 1) := by decide +kernel
theorem dX7_coefficient_16 : decode cX7_coefficient 16 = .ok (.iload_n 3, 1) := by decide +kernel
theorem dX7_coefficient_17 : decode cX7_coefficient 17 = .ok (.imul, 1) := by decide +kernel
theorem dX7_coefficient_18 : decode cX7_coefficient 18 = .ok (.iload_n 2, 1) := by decide +kernel
theorem dX7_coefficient_19 : decode cX7_coefficient 19 = .ok (.iadd, 1) := by decide +kernel
theorem dX7_coefficient_20 : decode cX7_coefficient 20 = .ok (.iaload, 1) := by decide +kernel
theorem dX7_coefficient_21 : decode cX7_coefficient 21 = .ok (.goto 4, 3) := by decide +kernel
theorem dX7_coefficient_24 : decode cX7_coefficient 24 = .ok (.iconst 0, 1) := by decide +kernel
theorem dX7_coefficient_25 : decode cX7_coefficient 25 = .ok (.ireturn, 1) := by decide +kernel
set_option maxRecDepth 20000 in
theorem ggX7_change_X7_hasCoefficient : GoodIn wsX7_change wsX7_hasCoefficient := goodIn_r _ [5, 6, 7, 8, 9, 10, 11, 12, 13, 14, 4, 15, 16, 17, 24, 25, 26, 27, 28, 29, 30] (by decide +kernel) (by decide +kernel)
set_option maxRecDepth 20000 in
theorem gX7_change_X7_hasCoefficient : GoodIn wsX7_change (wsV RX7 42 RX7 yX7_hasCoefficient wsX7_hasCoefficient) := goodIn_app (goodIn_of _ (by decide +kernel)) ggX7_change_X7_hasCoefficient
set_option maxRecDepth 20000 in
theorem ggX7_change_X7_coefficients : GoodIn wsX7_change wsX7_coefficients := goodIn_r _ [21, 22, 23, 24, 25, 26, 27, 28, 29, 30] (by decide +kernel) (by decide +kernel)
set_option maxRecDepth 20000 in
theorem gX7_change_X7_coefficients : GoodIn wsX7_change (wsV RX7 46 RX7 yX7_coefficients wsX7_coefficients) := goodIn_app (goodIn_of _ (by decide +kernel)) ggX7_change_X7_coefficients
theorem dX7_change_0 : decode cX7_change 0 = .ok (.aload_n 0, 1) := by decide +kernel
theorem dX7_change_1 : decode cX7_change 1 = .ok (.iload_n 1, 1) := by decide +kernel
theorem dX7_change_2 : decode cX7_change 2 = .ok (.iload_n 2, 1) := by decide +kernel
theorem dX7_change_3 : decode cX7_change 3 = .ok (.iload_n 3, 1) := by decide +kernel
theorem dX7_change_4 : decode cX7_change 4 = .ok (.invokevirtual 42, 3) := by decide +kernel
theorem dX7_change_7 : decode cX7_change 7 = .ok (.ifCond .eq 16, 3) := by decide +kernel
theorem dX7_change_10 : decode cX7_change 10 = .ok (.aload_n 0, 1) := by decide +kernel
theorem dX7_change_11 : decode cX7_change 11 = .ok (.iload_n 1, 1) := by decide +kernel
theorem dX7_change_12 : decode cX7_change 12 = .ok (.invokevirtual 46, 3) := by decide +kernel
theorem dX7_change_15 : decode cX7_change 15 = .ok (.iconst 3, 1) := by decide +kernel
theorem dX7_change_16 : decode cX7_change 16 = .ok (.iload_n 3, 1) := by decide +kernel
theorem dX7_change_17 : decode cX7_change 17 = .ok (.imul, 1) := by decide +kernel
theorem dX7_change_18 : decode cX7_change 18 = .ok (.iload_n 2, 1) := by decide +kernel
theorem dX7_change_19 : decode cX7_change 19 = .ok (.iadd, 1) := by decide +kernel
theorem dX7_change_20 : decode cX7_change 20 = .ok (.iload 4, 2) := by decide +kernel
theorem dX7_change_22 : decode cX7_change 22 = .ok (.iastore, 1) := by decide +kernel
theorem dX7_change_23 : decode cX7_change 23 = .ok (.return_, 1) := by decide +kernel
set_option maxRecDepth 20000 in
theorem ggX7_begin_X11_clear : GoodIn wsX7_begin wsX11_clear := goodIn_r _ [7] (by decide +kernel) (by decide +kernel)
set_option maxRecDepth 20000 in
theorem gX7_begin_X11_clear_n50 : GoodIn wsX7_begin (wsX11_clear) := ggX7_begin_X11_clear
theorem dX7_begin_0 : decode cX7_begin 0 = .ok (.aload_n 0, 1) := by decide +kernel
theorem dX7_begin_1 : decode cX7_begin 1 = .ok (.iload_n 1, 1) := by decide +kernel
theorem dX7_begin_2 : decode cX7_begin 2 = .ok (.putfield 15, 3) := by decide +kernel
theorem dX7_begin_5 : decode cX7_begin 5 = .ok (.aload_n 0, 1) := by decide +kernel
theorem dX7_begin_6 : decode cX7_begin 6 = .ok (.iload_n 2, 1) := by decide +kernel
theorem dX7_begin_7 : decode cX7_begin 7 = .ok (.putfield 18, 3) := by decide +kernel
theorem dX7_begin_10 : decode cX7_begin 10 = .ok (.aload_n 0, 1) := by decide +kernel
theorem dX7_begin_11 : decode cX7_begin 11 = .ok (.getfield 27, 3) := by decide +kernel
theorem dX7_begin_14 : decode cX7_begin 14 = .ok (.invokestatic 50, 3) := by decide +kernel
theorem dX7_begin_17 : decode cX7_begin 17 = .ok (.aload_n 0, 1) := by decide +kernel
theorem dX7_begin_18 : decode cX7_begin 18 = .ok (.getfield 31, 3) := by decide +kernel
theorem dX7_begin_21 : decode cX7_begin 21 = .ok (.invokestatic 50, 3) := by decide +kernel
theorem dX7_begin_24 : decode cX7_begin 24 = .ok (.return_, 1) := by decide +kernel
set_option maxRecDepth 20000 in
theorem ggX7_moveToField_X11_leftOver : GoodIn wsX7_moveToField wsX11_leftOver := goodIn_r _ [6] (by decide +kernel) (by decide +kernel)
set_option maxRecDepth 20000 in
theorem gX7_moveToField_X11_leftOver_n54 : GoodIn wsX7_moveToField (wsX11_leftOver) := ggX7_moveToField_X11_leftOver
theorem dX7_moveToField_0 : decode cX7_moveToField 0 = .ok (.aload_n 0, 1) := by decide +kernel
theorem dX7_moveToField_1 : decode cX7_moveToField 1 = .ok (.iload_n 1, 1) := by decide +kernel
theorem dX7_moveToField_2 : decode cX7_moveToField 2 = .ok (.putfield 9, 3) := by decide +kernel
theorem dX7_moveToField_5 : decode cX7_moveToField 5 = .ok (.iconst 0, 1) := by decide +kernel
theorem dX7_moveToField_6 : decode cX7_moveToField 6 = .ok (.istore_n 2, 1) := by decide +kernel
theorem dX7_moveToField_7 : decode cX7_moveToField 7 = .ok (.iload_n 2, 1) := by decide +kernel
theorem dX7_moveToField_8 : decode cX7_moveToField 8 = .ok (.bipush 9, 2) := by decide +kernel
theorem dX7_moveToField_10 : decode cX7_moveToField 10 = .ok (.if_icmp .ge 47, 3) := by decide +kernel
theorem dX7_moveToField_13 : decode cX7_moveToField 13 = .ok (.aload_n 0, 1) := by decide +kernel
theorem dX7_moveToField_14 : decode cX7_moveToField 14 = .ok (.getfield 27, 3) := by decide +kernel
theorem dX7_moveToField_17 : decode cX7_moveToField 17 = .ok (.iload_n 2, 1) := by decide +kernel
theorem dX7_moveToField_18 : decode cX7_moveToField 18 = .ok (.aload_n 0, 1) := by decide +kernel
theorem dX7_moveToField_19 : decode cX7_moveToField 19 = .ok (.getfield 27, 3) := by decide +kernel
theorem dX7_moveToField_22 : decode cX7_moveToField 22 = .ok (.iload_n 2, 1) := by decide +kernel
theorem dX7_moveToField_23 : decode cX7_moveToField 23 = .ok (.iaload, 1) := by decide +kernel
theorem dX7_moveToField_24 : decode cX7_moveToField 24 = .ok (.aload_n 0, 1) := by decide +kernel
theorem dX7_moveToField_25 : decode cX7_moveToField 25 = .ok (.getfield 9, 3) := by decide +kernel
theorem dX7_moveToField_28 : decode cX7_moveToField 28 = .ok (.invokestatic 54, 3) := by decide +kernel
theorem dX7_moveToField_31 : decode cX7_moveToField 31 = .ok (.iastore, 1) := by decide +kernel
theorem dX7_moveToField_32 : decode cX7_moveToField 32 = .ok (.aload_n 0, 1) := by decide +kernel
theorem dX7_moveToField_33 : decode cX7_moveToField 33 = .ok (.getfield 31, 3) := by decide +kernel
theorem dX7_moveToField_36 : decode cX7_moveToField 36 = .ok (.iload_n 2, 1) := by decide +kernel
theorem dX7_moveToField_37 : decode cX7_moveToField 37 = .ok (.aload_n 0, 1) := by decide +kernel
theorem dX7_moveToField_38 : decode cX7_moveToField 38 = .ok (.getfield 31, 3) := by decide +kernel
theorem dX7_moveToField_41 : decode cX7_moveToField 41 = .ok (.iload_n 2, 1) := by decide +kernel
theorem dX7_moveToField_42 : decode cX7_moveToField 42 = .ok (.iaload, 1) := by decide +kernel
theorem dX7_moveToField_43 : decode cX7_moveToField 43 = .ok (.aload_n 0, 1) := by decide +kernel
theorem dX7_moveToField_44 : decode cX7_moveToField 44 = .ok (.getfield 9, 3) := by decide +kernel
theorem dX7_moveToField_47 : decode cX7_moveToField 47 = .ok (.invokestatic 54, 3) := by decide +kernel
theorem dX7_moveToField_50 : decode cX7_moveToField 50 = .ok (.iastore, 1) := by decide +kernel
theorem dX7_moveToField_51 : decode cX7_moveToField 51 = .ok (.iinc 2 1, 3) := by decide +kernel
theorem dX7_moveToField_54 : decode cX7_moveToField 54 = .ok (.goto (-47), 3) := by decide +kernel
theorem dX7_moveToField_57 : decode cX7_moveToField 57 = .ok (.return_, 1) := by decide +kernel
set_option maxRecDepth 20000 in
theorem ggX7_scatter_X7_power : GoodIn wsX7_scatter wsX7_power := goodIn_r _ [8, 9, 10, 33, 34, 35, 36, 37, 38, 39] (by decide +kernel) (by decide +kernel)
set_option maxRecDepth 20000 in
theorem gX7_scatter_X7_power : GoodIn wsX7_scatter (wsV RX7 38 RX7 yX7_power wsX7_power) := goodIn_app (goodIn_of _ (by decide +kernel)) ggX7_scatter_X7_power
set_option maxRecDepth 20000 in
theorem ggX7_scatter_X11_leftOver : GoodIn wsX7_scatter wsX11_leftOver := goodIn_r _ [13] (by decide +kernel) (by decide +kernel)
set_option maxRecDepth 20000 in
theorem gX7_scatter_X11_leftOver_n54 : GoodIn wsX7_scatter (wsX11_leftOver) := ggX7_scatter_X11_leftOver
set_option maxRecDepth 20000 in
theorem ggX7_scatter_X7_change : GoodIn wsX7_scatter wsX7_change := goodIn_r _ [17, 18, 19, 20, 7, 21, 22, 12, 23, 24, 25, 26, 4, 5, 6, 8, 9, 10, 27, 28, 29, 30, 31, 32, 33, 34, 35, 36, 37, 38, 39] (by decide +kernel) (by decide +kernel)
set_option maxRecDepth 20000 in
theorem gX7_scatter_X7_change : GoodIn wsX7_scatter (wsV RX7 62 RX7 yX7_change wsX7_change) := goodIn_app (goodIn_of _ (by decide +kernel)) ggX7_scatter_X7_change
theorem dX7_scatter_0 : decode cX7_scatter 0 = .ok (.iload_n 1, 1) := by decide +kernel
theorem dX7_scatter_1 : decode cX7_scatter 1 = .ok (.i2l, 1) := by decide +kernel
theorem dX7_scatter_2 : decode cX7_scatter 2 = .ok (.lstore_n 3, 1) := by decide +kernel
theorem dX7_scatter_3 : decode cX7_scatter 3 = .ok (.iconst 0, 1) := by decide +kernel
theorem dX7_scatter_4 : decode cX7_scatter 4 = .ok (.istore 5, 2) := by decide +kernel
theorem dX7_scatter_6 : decode cX7_scatter 6 = .ok (.iload 5, 2) := by decide +kernel
theorem dX7_scatter_8 : decode cX7_scatter 8 = .ok (.aload_n 0, 1) := by decide +kernel
theorem dX7_scatter_9 : decode cX7_scatter 9 = .ok (.iload_n 2, 1) := by decide +kernel
theorem dX7_scatter_10 : decode cX7_scatter 10 = .ok (.invokevirtual 38, 3) := by decide +kernel
theorem dX7_scatter_13 : decode cX7_scatter 13 = .ok (.if_icmp .ge 59, 3) := by decide +kernel
theorem dX7_scatter_16 : decode cX7_scatter 16 = .ok (.iconst 0, 1) := by decide +kernel
theorem dX7_scatter_17 : decode cX7_scatter 17 = .ok (.istore 6, 2) := by decide +kernel
theorem dX7_scatter_19 : decode cX7_scatter 19 = .ok (.iload 6, 2) := by decide +kernel
theorem dX7_scatter_21 : decode cX7_scatter 21 = .ok (.aload_n 0, 1) := by decide +kernel
theorem dX7_scatter_22 : decode cX7_scatter 22 = .ok (.iload_n 2, 1) := by decide +kernel
theorem dX7_scatter_23 : decode cX7_scatter 23 = .ok (.invokevirtual 38, 3) := by decide +kernel
theorem dX7_scatter_26 : decode cX7_scatter 26 = .ok (.iload 5, 2) := by decide +kernel
theorem dX7_scatter_28 : decode cX7_scatter 28 = .ok (.isub, 1) := by decide +kernel
theorem dX7_scatter_29 : decode cX7_scatter 29 = .ok (.if_icmp .ge 37, 3) := by decide +kernel
theorem dX7_scatter_32 : decode cX7_scatter 32 = .ok (.lload_n 3, 1) := by decide +kernel
theorem dX7_scatter_33 : decode cX7_scatter 33 = .ok (.ldc2_w 58, 3) := by decide +kernel
theorem dX7_scatter_36 : decode cX7_scatter 36 = .ok (.lmul, 1) := by decide +kernel
theorem dX7_scatter_37 : decode cX7_scatter 37 = .ok (.ldc2_w 60, 3) := by decide +kernel
theorem dX7_scatter_40 : decode cX7_scatter 40 = .ok (.lrem, 1) := by decide +kernel
theorem dX7_scatter_41 : decode cX7_scatter 41 = .ok (.lstore_n 3, 1) := by decide +kernel
theorem dX7_scatter_42 : decode cX7_scatter 42 = .ok (.aload_n 0, 1) := by decide +kernel
theorem dX7_scatter_43 : decode cX7_scatter 43 = .ok (.iload_n 2, 1) := by decide +kernel
theorem dX7_scatter_44 : decode cX7_scatter 44 = .ok (.iload 6, 2) := by decide +kernel
theorem dX7_scatter_46 : decode cX7_scatter 46 = .ok (.iload 5, 2) := by decide +kernel
theorem dX7_scatter_48 : decode cX7_scatter 48 = .ok (.lload_n 3, 1) := by decide +kernel
theorem dX7_scatter_49 : decode cX7_scatter 49 = .ok (.l2i, 1) := by decide +kernel
theorem dX7_scatter_50 : decode cX7_scatter 50 = .ok (.aload_n 0, 1) := by decide +kernel
theorem dX7_scatter_51 : decode cX7_scatter 51 = .ok (.getfield 9, 3) := by decide +kernel
theorem dX7_scatter_54 : decode cX7_scatter 54 = .ok (.invokestatic 54, 3) := by decide +kernel
theorem dX7_scatter_57 : decode cX7_scatter 57 = .ok (.invokevirtual 62, 3) := by decide +kernel
theorem dX7_scatter_60 : decode cX7_scatter 60 = .ok (.iinc 6 1, 3) := by decide +kernel
theorem dX7_scatter_63 : decode cX7_scatter 63 = .ok (.goto (-44), 3) := by decide +kernel
theorem dX7_scatter_66 : decode cX7_scatter 66 = .ok (.iinc 5 1, 3) := by decide +kernel
theorem dX7_scatter_69 : decode cX7_scatter 69 = .ok (.goto (-63), 3) := by decide +kernel
theorem dX7_scatter_72 : decode cX7_scatter 72 = .ok (.lload_n 3, 1) := by decide +kernel
theorem dX7_scatter_73 : decode cX7_scatter 73 = .ok (.l2i, 1) := by decide +kernel
theorem dX7_scatter_74 : decode cX7_scatter 74 = .ok (.ireturn, 1) := by decide +kernel
set_option maxRecDepth 20000 in
theorem ggX7_isZeroAt_X7_coefficients : GoodIn wsX7_isZeroAt wsX7_coefficients := goodIn_r _ [6, 7, 8, 18, 19, 20, 21, 22, 23, 24] (by decide +kernel) (by decide +kernel)
set_option maxRecDepth 20000 in
theorem gX7_isZeroAt_X7_coefficients : GoodIn wsX7_isZeroAt (wsV RX7 46 RX7 yX7_coefficients wsX7_coefficients) := goodIn_app (goodIn_of _ (by decide +kernel)) ggX7_isZeroAt_X7_coefficients
set_option maxRecDepth 20000 in
theorem ggX7_isZeroAt_X7_power : GoodIn wsX7_isZeroAt wsX7_power := goodIn_r _ [12, 13, 14, 18, 19, 20, 21, 22, 23, 24] (by decide +kernel) (by decide +kernel)
set_option maxRecDepth 20000 in
theorem gX7_isZeroAt_X7_power : GoodIn wsX7_isZeroAt (wsV RX7 38 RX7 yX7_power wsX7_power) := goodIn_app (goodIn_of _ (by decide +kernel)) ggX7_isZeroAt_X7_power
set_option maxRecDepth 20000 in
theorem ggX7_isZeroAt_X11_leftOver : GoodIn wsX7_isZeroAt wsX11_leftOver := goodIn_r _ [17] (by decide +kernel) (by decide +kernel)
set_option maxRecDepth 20000 in
theorem gX7_isZeroAt_X11_leftOver_n54 : GoodIn wsX7_isZeroAt (wsX11_leftOver) := ggX7_isZeroAt_X11_leftOver
theorem dX7_isZeroAt_0 : decode cX7_isZeroAt 0 = .ok (.aload_n 0, 1) := by decide +kernel
theorem dX7_isZeroAt_1 : decode cX7_isZeroAt 1 = .ok (.iload_n 1, 1) := by decide +kernel
theorem dX7_isZeroAt_2 : decode cX7_isZeroAt 2 = .ok (.invokevirtual 46, 3) := by decide +kernel
theorem dX7_isZeroAt_5 : decode cX7_isZeroAt 5 = .ok (.astore 4, 2) := by decide +kernel
theorem dX7_isZeroAt_7 : decode cX7_isZeroAt 7 = .ok (.aload_n 0, 1) := by decide +kernel
theorem dX7_isZeroAt_8 : decode cX7_isZeroAt 8 = .ok (.iload_n 1, 1) := by decide +kernel
theorem dX7_isZeroAt_9 : decode cX7_isZeroAt 9 = .ok (.invokevirtual 38, 3) := by decide +kernel
theorem dX7_isZeroAt_12 : decode cX7_isZeroAt 12 = .ok (.istore 5, 2) := by decide +kernel
theorem dX7_isZeroAt_14 : decode cX7_isZeroAt 14 = .ok (.iconst 1, 1) := by decide +kernel
theorem dX7_isZeroAt_15 : decode cX7_isZeroAt 15 = .ok (.istore 6, 2) := by decide +kernel
theorem dX7_isZeroAt_17 : decode cX7_isZeroAt 17 = .ok (.iconst 0, 1) := by decide +kernel
theorem dX7_isZeroAt_18 : decode cX7_isZeroAt 18 = .ok (.istore 7, 2) := by decide +kernel
theorem dX7_isZeroAt_20 : decode cX7_isZeroAt 20 = .ok (.iload 7, 2) := by decide +kernel
theorem dX7_isZeroAt_22 : decode cX7_isZeroAt 22 = .ok (.iload 5, 2) := by decide +kernel
theorem dX7_isZeroAt_24 : decode cX7_isZeroAt 24 = .ok (.if_icmp .ge 30, 3) := by decide +kernel
theorem dX7_isZeroAt_27 : decode cX7_isZeroAt 27 = .ok (.iload 6, 2) := by decide +kernel
theorem dX7_isZeroAt_29 : decode cX7_isZeroAt 29 = .ok (.iload_n 1, 1) := by decide +kernel
theorem dX7_isZeroAt_30 : decode cX7_isZeroAt 30 = .ok (.ifCond .ne 7, 3) := by decide +kernel
theorem dX7_isZeroAt_33 : decode cX7_isZeroAt 33 = .ok (.iload_n 2, 1) := by decide +kernel
theorem dX7_isZeroAt_34 : decode cX7_isZeroAt 34 = .ok (.goto 4, 3) := by decide +kernel
theorem dX7_isZeroAt_37 : decode cX7_isZeroAt 37 = .ok (.iload_n 3, 1) := by decide +kernel
theorem dX7_isZeroAt_38 : decode cX7_isZeroAt 38 = .ok (.imul, 1) := by decide +kernel
theorem dX7_isZeroAt_39 : decode cX7_isZeroAt 39 = .ok (.aload_n 0, 1) := by decide +kernel
theorem dX7_isZeroAt_40 : decode cX7_isZeroAt 40 = .ok (.getfield 9, 3) := by decide +kernel
theorem dX7_isZeroAt_43 : decode cX7_isZeroAt 43 = .ok (.invokestatic 54, 3) := by decide +kernel
theorem dX7_isZeroAt_46 : decode cX7_isZeroAt 46 = .ok (.istore 6, 2) := by decide +kernel
theorem dX7_isZeroAt_48 : decode cX7_isZeroAt 48 = .ok (.iinc 7 1, 3) := by decide +kernel
theorem dX7_isZeroAt_51 : decode cX7_isZeroAt 51 = .ok (.goto (-31), 3) := by decide +kernel
theorem dX7_isZeroAt_54 : decode cX7_isZeroAt 54 = .ok (.iconst 1, 1) := by decide +kernel
theorem dX7_isZeroAt_55 : decode cX7_isZeroAt 55 = .ok (.istore 7, 2) := by decide +kernel
theorem dX7_isZeroAt_57 : decode cX7_isZeroAt 57 = .ok (.iconst 0, 1) := by decide +kernel
theorem dX7_isZeroAt_58 : decode cX7_isZeroAt 58 = .ok (.istore 8, 2) := by decide +kernel
theorem dX7_isZeroAt_60 : decode cX7_isZeroAt 60 = .ok (.iload 8, 2) := by decide +kernel
theorem dX7_isZeroAt_62 : decode cX7_isZeroAt 62 = .ok (.iload 5, 2) := by decide +kernel
theorem dX7_isZeroAt_64 : decode cX7_isZeroAt 64 = .ok (.if_icmp .ge 83, 3) := by decide +kernel
theorem dX7_isZeroAt_67 : decode cX7_isZeroAt 67 = .ok (.iload 7, 2) := by decide +kernel
theorem dX7_isZeroAt_69 : decode cX7_isZeroAt 69 = .ok (.istore 9, 2) := by decide +kernel
theorem dX7_isZeroAt_71 : decode cX7_isZeroAt 71 = .ok (.iconst 0, 1) := by decide +kernel
theorem dX7_isZeroAt_72 : decode cX7_isZeroAt 72 = .ok (.istore 10, 2) := by decide +kernel
theorem dX7_isZeroAt_74 : decode cX7_isZeroAt 74 = .ok (.iload 10, 2) := by decide +kernel
theorem dX7_isZeroAt_76 : decode cX7_isZeroAt 76 = .ok (.iload 5, 2) := by decide +kernel
theorem dX7_isZeroAt_78 : decode cX7_isZeroAt 78 = .ok (.iload 8, 2) := by decide +kernel
theorem dX7_isZeroAt_80 : decode cX7_isZeroAt 80 = .ok (.isub, 1) := by decide +kernel
theorem dX7_isZeroAt_81 : decode cX7_isZeroAt 81 = .ok (.if_icmp .ge 47, 3) := by decide +kernel
theorem dX7_isZeroAt_84 : decode cX7_isZeroAt 84 = .ok (.iload 6, 2) := by decide +kernel
theorem dX7_isZeroAt_86 : decode cX7_isZeroAt 86 = .ok (.aload 4, 2) := by decide +kernel
theorem dX7_isZeroAt_88 : decode cX7_isZeroAt 88 = .ok (.iconst 3, 1) := by decide +kernel
theorem dX7_isZeroAt_89 : decode cX7_isZeroAt 89 = .ok (.iload 8, 2) := by decide +kernel
theorem dX7_isZeroAt_91 : decode cX7_isZeroAt 91 = .ok (.imul, 1) := by decide +kernel
theorem dX7_isZeroAt_92 : decode cX7_isZeroAt 92 = .ok (.iload 10, 2) := by decide +kernel
theorem dX7_isZeroAt_94 : decode cX7_isZeroAt 94 = .ok (.iadd, 1) := by decide +kernel
theorem dX7_isZeroAt_95 : decode cX7_isZeroAt 95 = .ok (.iaload, 1) := by decide +kernel
theorem dX7_isZeroAt_96 : decode cX7_isZeroAt 96 = .ok (.iload 9, 2) := by decide +kernel
theorem dX7_isZeroAt_98 : decode cX7_isZeroAt 98 = .ok (.imul, 1) := by decide +kernel
theorem dX7_isZeroAt_99 : decode cX7_isZeroAt 99 = .ok (.iadd, 1) := by decide +kernel
theorem dX7_isZeroAt_100 : decode cX7_isZeroAt 100 = .ok (.aload_n 0, 1) := by decide +kernel
theorem dX7_isZeroAt_101 : decode cX7_isZeroAt 101 = .ok (.getfield 9, 3) := by decide +kernel
theorem dX7_isZeroAt_104 : decode cX7_isZeroAt 104 = .ok (.invokestatic 54, 3) := by decide +kernel
theorem dX7_isZeroAt_107 : decode cX7_isZeroAt 107 = .ok (.istore 6, 2) := by decide +kernel
theorem dX7_isZeroAt_109 : decode cX7_isZeroAt 109 = .ok (.iload 9, 2) := by decide +kernel
theorem dX7_isZeroAt_111 : decode cX7_isZeroAt 111 = .ok (.iload_n 2, 1) := by decide +kernel
theorem dX7_isZeroAt_112 : decode cX7_isZeroAt 112 = .ok (.imul, 1) := by decide +kernel
theorem dX7_isZeroAt_113 : decode cX7_isZeroAt 113 = .ok (.aload_n 0, 1) := by decide +kernel
theorem dX7_isZeroAt_114 : decode cX7_isZeroAt 114 = .ok (.getfield 9, 3) := by decide +kernel
theorem dX7_isZeroAt_117 : decode cX7_isZeroAt 117 = .ok (.invokestatic 54, 3) := by decide +kernel
theorem dX7_isZeroAt_120 : decode cX7_isZeroAt 120 = .ok (.istore 9, 2) := by decide +kernel
theorem dX7_isZeroAt_122 : decode cX7_isZeroAt 122 = .ok (.iinc 10 1, 3) := by decide +kernel
theorem dX7_isZeroAt_125 : decode cX7_isZeroAt 125 = .ok (.goto (-51), 3) := by decide +kernel
theorem dX7_isZeroAt_128 : decode cX7_isZeroAt 128 = .ok (.iload 7, 2) := by decide +kernel
theorem dX7_isZeroAt_130 : decode cX7_isZeroAt 130 = .ok (.iload_n 3, 1) := by decide +kernel
theorem dX7_isZeroAt_131 : decode cX7_isZeroAt 131 = .ok (.imul, 1) := by decide +kernel
theorem dX7_isZeroAt_132 : decode cX7_isZeroAt 132 = .ok (.aload_n 0, 1) := by decide +kernel
theorem dX7_isZeroAt_133 : decode cX7_isZeroAt 133 = .ok (.getfield 9, 3) := by decide +kernel
theorem dX7_isZeroAt_136 : decode cX7_isZeroAt 136 = .ok (.invokestatic 54, 3) := by decide +kernel
theorem dX7_isZeroAt_139 : decode cX7_isZeroAt 139 = .ok (.istore 7, 2) := by decide +kernel
theorem dX7_isZeroAt_141 : decode cX7_isZeroAt 141 = .ok (.iinc 8 1, 3) := by decide +kernel
theorem dX7_isZeroAt_144 : decode cX7_isZeroAt 144 = .ok (.goto (-84), 3) := by decide +kernel
theorem dX7_isZeroAt_147 : decode cX7_isZeroAt 147 = .ok (.iload 6, 2) := by decide +kernel
theorem dX7_isZeroAt_149 : decode cX7_isZeroAt 149 = .ok (.ifCond .ne 7, 3) := by decide +kernel
theorem dX7_isZeroAt_152 : decode cX7_isZeroAt 152 = .ok (.iconst 1, 1) := by decide +kernel
theorem dX7_isZeroAt_153 : decode cX7_isZeroAt 153 = .ok (.goto 4, 3) := by decide +kernel
theorem dX7_isZeroAt_156 : decode cX7_isZeroAt 156 = .ok (.iconst 0, 1) := by decide +kernel
theorem dX7_isZeroAt_157 : decode cX7_isZeroAt 157 = .ok (.ireturn, 1) := by decide +kernel
theorem dX7_copyFrom_0 : decode cX7_copyFrom 0 = .ok (.aload_n 0, 1) := by decide +kernel
theorem dX7_copyFrom_1 : decode cX7_copyFrom 1 = .ok (.aload_n 1, 1) := by decide +kernel
theorem dX7_copyFrom_2 : decode cX7_copyFrom 2 = .ok (.getfield 9, 3) := by decide +kernel
theorem dX7_copyFrom_5 : decode cX7_copyFrom 5 = .ok (.putfield 9, 3) := by decide +kernel
theorem dX7_copyFrom_8 : decode cX7_copyFrom 8 = .ok (.aload_n 0, 1) := by decide +kernel
theorem dX7_copyFrom_9 : decode cX7_copyFrom 9 = .ok (.aload_n 1, 1) := by decide +kernel
theorem dX7_copyFrom_10 : decode cX7_copyFrom 10 = .ok (.getfield 15, 3) := by decide +kernel
theorem dX7_copyFrom_13 : decode cX7_copyFrom 13 = .ok (.putfield 15, 3) := by decide +kernel
theorem dX7_copyFrom_16 : decode cX7_copyFrom 16 = .ok (.aload_n 0, 1) := by decide +kernel
theorem dX7_copyFrom_17 : decode cX7_copyFrom 17 = .ok (.aload_n 1, 1) := by decide +kernel
theorem dX7_copyFrom_18 : decode cX7_copyFrom 18 = .ok (.getfield 18, 3) := by decide +kernel
theorem dX7_copyFrom_21 : decode cX7_copyFrom 21 = .ok (.putfield 18, 3) := by decide +kernel
theorem dX7_copyFrom_24 : decode cX7_copyFrom 24 = .ok (.aload_n 0, 1) := by decide +kernel
theorem dX7_copyFrom_25 : decode cX7_copyFrom 25 = .ok (.aload_n 1, 1) := by decide +kernel
theorem dX7_copyFrom_26 : decode cX7_copyFrom 26 = .ok (.getfield 21, 3) := by decide +kernel
theorem dX7_copyFrom_29 : decode cX7_copyFrom 29 = .ok (.putfield 21, 3) := by decide +kernel
theorem dX7_copyFrom_32 : decode cX7_copyFrom 32 = .ok (.aload_n 0, 1) := by decide +kernel
theorem dX7_copyFrom_33 : decode cX7_copyFrom 33 = .ok (.aload_n 1, 1) := by decide +kernel
theorem dX7_copyFrom_34 : decode cX7_copyFrom 34 = .ok (.getfield 24, 3) := by decide +kernel
theorem dX7_copyFrom_37 : decode cX7_copyFrom 37 = .ok (.putfield 24, 3) := by decide +kernel
theorem dX7_copyFrom_40 : decode cX7_copyFrom 40 = .ok (.iconst 0, 1) := by decide +kernel
theorem dX7_copyFrom_41 : decode cX7_copyFrom 41 = .ok (.istore_n 2, 1) := by decide +kernel
theorem dX7_copyFrom_42 : decode cX7_copyFrom 42 = .ok (.iload_n 2, 1) := by decide +kernel
theorem dX7_copyFrom_43 : decode cX7_copyFrom 43 = .ok (.bipush 9, 2) := by decide +kernel
theorem dX7_copyFrom_45 : decode cX7_copyFrom 45 = .ok (.if_icmp .ge 33, 3) := by decide +kernel
theorem dX7_copyFrom_48 : decode cX7_copyFrom 48 = .ok (.aload_n 0, 1) := by decide +kernel
theorem dX7_copyFrom_49 : decode cX7_copyFrom 49 = .ok (.getfield 27, 3) := by decide +kernel
theorem dX7_copyFrom_52 : decode cX7_copyFrom 52 = .ok (.iload_n 2, 1) := by decide +kernel
theorem dX7_copyFrom_53 : decode cX7_copyFrom 53 = .ok (.aload_n 1, 1) := by decide +kernel
theorem dX7_copyFrom_54 : decode cX7_copyFrom 54 = .ok (.getfield 27, 3) := by decide +kernel
theorem dX7_copyFrom_57 : decode cX7_copyFrom 57 = .ok (.iload_n 2, 1) := by decide +kernel
theorem dX7_copyFrom_58 : decode cX7_copyFrom 58 = .ok (.iaload, 1) := by decide +kernel
theorem dX7_copyFrom_59 : decode cX7_copyFrom 59 = .ok (.iastore, 1) := by decide +kernel
theorem dX7_copyFrom_60 : decode cX7_copyFrom 60 = .ok (.aload_n 0, 1) := by decide +kernel
theorem dX7_copyFrom_61 : decode cX7_copyFrom 61 = .ok (.getfield 31, 3) := by decide +kernel
theorem dX7_copyFrom_64 : decode cX7_copyFrom 64 = .ok (.iload_n 2, 1) := by decide +kernel
theorem dX7_copyFrom_65 : decode cX7_copyFrom 65 = .ok (.aload_n 1, 1) := by decide +kernel
theorem dX7_copyFrom_66 : decode cX7_copyFrom 66 = .ok (.getfield 31, 3) := by decide +kernel
theorem dX7_copyFrom_69 : decode cX7_copyFrom 69 = .ok (.iload_n 2, 1) := by decide +kernel
theorem dX7_copyFrom_70 : decode cX7_copyFrom 70 = .ok (.iaload, 1) := by decide +kernel
theorem dX7_copyFrom_71 : decode cX7_copyFrom 71 = .ok (.iastore, 1) := by decide +kernel
theorem dX7_copyFrom_72 : decode cX7_copyFrom 72 = .ok (.iinc 2 1, 3) := by decide +kernel
theorem dX7_copyFrom_75 : decode cX7_copyFrom 75 = .ok (.goto (-33), 3) := by decide +kernel
theorem dX7_copyFrom_78 : decode cX7_copyFrom 78 = .ok (.return_, 1) := by decide +kernel
set_option maxRecDepth 20000 in
theorem ggX8_init_X5_init : GoodIn wsX8_init wsX5_init := goodIn_r _ [19, 20, 2, 3, 21, 22, 23, 24, 25, 26, 27, 28, 45, 46, 47, 48] (by decide +kernel) (by decide +kernel)
set_option maxRecDepth 20000 in
theorem gX8_init_X5_init : GoodIn wsX8_init (wsX5_init) := ggX8_init_X5_init
set_option maxRecDepth 20000 in
theorem ggX8_init_X10_init : GoodIn wsX8_init wsX10_init := goodIn_r _ [30, 31, 2, 3, 32, 33, 49, 50, 51] (by decide +kernel) (by decide +kernel)
set_option maxRecDepth 20000 in
theorem gX8_init_X10_init_n26 : GoodIn wsX8_init (wsX10_init) := ggX8_init_X10_init
set_option maxRecDepth 20000 in
theorem ggX8_init_X4_init : GoodIn wsX8_init wsX4_init := goodIn_r _ [35, 36, 2, 3, 25, 37, 38, 39, 40, 52, 53, 54, 55] (by decide +kernel) (by decide +kernel)
set_option maxRecDepth 20000 in
theorem gX8_init_X4_init_n33 : GoodIn wsX8_init (wsX4_init) := ggX8_init_X4_init
theorem dX8_init_0 : decode cX8_init 0 = .ok (.aload_n 0, 1) := by decide +kernel
theorem dX8_init_1 : decode cX8_init 1 = .ok (.invokespecial 3, 3) := by decide +kernel
theorem dX8_init_4 : decode cX8_init 4 = .ok (.aload_n 0, 1) := by decide +kernel
theorem dX8_init_5 : decode cX8_init 5 = .ok (.iconst 0, 1) := by decide +kernel
theorem dX8_init_6 : decode cX8_init 6 = .ok (.putfield 9, 3) := by decide +kernel
theorem dX8_init_9 : decode cX8_init 9 = .ok (.aload_n 0, 1) := by decide +kernel
theorem dX8_init_10 : decode cX8_init 10 = .ok (.new 15, 3) := by decide +kernel
theorem dX8_init_13 : decode cX8_init 13 = .ok (.dup, 1) := by decide +kernel
theorem dX8_init_14 : decode cX8_init 14 = .ok (.bipush 8, 2) := by decide +kernel
theorem dX8_init_16 : decode cX8_init 16 = .ok (.invokespecial 17, 3) := by decide +kernel
theorem dX8_init_19 : decode cX8_init 19 = .ok (.putfield 20, 3) := by decide +kernel
theorem dX8_init_22 : decode cX8_init 22 = .ok (.aload_n 0, 1) := by decide +kernel
theorem dX8_init_23 : decode cX8_init 23 = .ok (.new 24, 3) := by decide +kernel
theorem dX8_init_26 : decode cX8_init 26 = .ok (.dup, 1) := by decide +kernel
theorem dX8_init_27 : decode cX8_init 27 = .ok (.invokespecial 26, 3) := by decide +kernel
theorem dX8_init_30 : decode cX8_init 30 = .ok (.putfield 27, 3) := by decide +kernel
theorem dX8_init_33 : decode cX8_init 33 = .ok (.aload_n 0, 1) := by decide +kernel
theorem dX8_init_34 : decode cX8_init 34 = .ok (.new 31, 3) := by decide +kernel
theorem dX8_init_37 : decode cX8_init 37 = .ok (.dup, 1) := by decide +kernel
theorem dX8_init_38 : decode cX8_init 38 = .ok (.invokespecial 33, 3) := by decide +kernel
theorem dX8_init_41 : decode cX8_init 41 = .ok (.putfield 34, 3) := by decide +kernel
theorem dX8_init_44 : decode cX8_init 44 = .ok (.return_, 1) := by decide +kernel
set_option maxRecDepth 20000 in
theorem ggX8_hold_X10_become : GoodIn wsX8_hold wsX10_become := goodIn_r _ [13, 14, 15, 16, 39, 40, 41] (by decide +kernel) (by decide +kernel)
set_option maxRecDepth 20000 in
theorem gX8_hold_X10_become : GoodIn wsX8_hold (wsV RX8 50 RX10 yX10_become wsX10_become) := goodIn_app (goodIn_of _ (by decide +kernel)) ggX8_hold_X10_become
set_option maxRecDepth 20000 in
theorem ggX8_hold_X4_copyFrom : GoodIn wsX8_hold wsX4_copyFrom := goodIn_r _ [21, 22, 23, 24, 25, 42, 43, 44, 45] (by decide +kernel) (by decide +kernel)
set_option maxRecDepth 20000 in
theorem gX8_hold_X4_copyFrom : GoodIn wsX8_hold (wsV RX8 55 RX4 yX4_copyFrom wsX4_copyFrom) := goodIn_app (goodIn_of _ (by decide +kernel)) ggX8_hold_X4_copyFrom
theorem dX8_hold_0 : decode cX8_hold 0 = .ok (.aload_n 0, 1) := by decide +kernel
theorem dX8_hold_1 : decode cX8_hold 1 = .ok (.getfield 27, 3) := by decide +kernel
theorem dX8_hold_4 : decode cX8_hold 4 = .ok (.aload_n 1, 1) := by decide +kernel
theorem dX8_hold_5 : decode cX8_hold 5 = .ok (.getfield 38, 3) := by decide +kernel
theorem dX8_hold_8 : decode cX8_hold 8 = .ok (.getfield 41, 3) := by decide +kernel
theorem dX8_hold_11 : decode cX8_hold 11 = .ok (.aload_n 1, 1) := by decide +kernel
theorem dX8_hold_12 : decode cX8_hold 12 = .ok (.getfield 38, 3) := by decide +kernel
theorem dX8_hold_15 : decode cX8_hold 15 = .ok (.getfield 44, 3) := by decide +kernel
theorem dX8_hold_18 : decode cX8_hold 18 = .ok (.aload_n 1, 1) := by decide +kernel
theorem dX8_hold_19 : decode cX8_hold 19 = .ok (.getfield 38, 3) := by decide +kernel
theorem dX8_hold_22 : decode cX8_hold 22 = .ok (.getfield 47, 3) := by decide +kernel
theorem dX8_hold_25 : decode cX8_hold 25 = .ok (.invokevirtual 50, 3) := by decide +kernel
theorem dX8_hold_28 : decode cX8_hold 28 = .ok (.aload_n 0, 1) := by decide +kernel
theorem dX8_hold_29 : decode cX8_hold 29 = .ok (.getfield 34, 3) := by decide +kernel
theorem dX8_hold_32 : decode cX8_hold 32 = .ok (.aload_n 1, 1) := by decide +kernel
theorem dX8_hold_33 : decode cX8_hold 33 = .ok (.getfield 54, 3) := by decide +kernel
theorem dX8_hold_36 : decode cX8_hold 36 = .ok (.invokevirtual 55, 3) := by decide +kernel
theorem dX8_hold_39 : decode cX8_hold 39 = .ok (.aload_n 0, 1) := by decide +kernel
theorem dX8_hold_40 : decode cX8_hold 40 = .ok (.iconst 2, 1) := by decide +kernel
theorem dX8_hold_41 : decode cX8_hold 41 = .ok (.putfield 9, 3) := by decide +kernel
theorem dX8_hold_44 : decode cX8_hold 44 = .ok (.return_, 1) := by decide +kernel
theorem dX8_findWanting_0 : decode cX8_findWanting 0 = .ok (.aload_n 0, 1) := by decide +kernel
theorem dX8_findWanting_1 : decode cX8_findWanting 1 = .ok (.getfield 9, 3) := by decide +kernel
theorem dX8_findWanting_4 : decode cX8_findWanting 4 = .ok (.ifCond .ne 6, 3) := by decide +kernel
theorem dX8_findWanting_7 : decode cX8_findWanting 7 = .ok (.bipush (-11), 2) := by decide +kernel
theorem dX8_findWanting_9 : decode cX8_findWanting 9 = .ok (.ireturn, 1) := by decide +kernel
theorem dX8_findWanting_10 : decode cX8_findWanting 10 = .ok (.aload_n 0, 1) := by decide +kernel
theorem dX8_findWanting_11 : decode cX8_findWanting 11 = .ok (.getfield 9, 3) := by decide +kernel
theorem dX8_findWanting_14 : decode cX8_findWanting 14 = .ok (.iload_n 1, 1) := by decide +kernel
theorem dX8_findWanting_15 : decode cX8_findWanting 15 = .ok (.if_icmp .ne 7, 3) := by decide +kernel
theorem dX8_findWanting_18 : decode cX8_findWanting 18 = .ok (.iconst 0, 1) := by decide +kernel
theorem dX8_findWanting_19 : decode cX8_findWanting 19 = .ok (.goto 5, 3) := by decide +kernel
theorem dX8_findWanting_22 : decode cX8_findWanting 22 = .ok (.bipush (-12), 2) := by decide +kernel
theorem dX8_findWanting_24 : decode cX8_findWanting 24 = .ok (.ireturn, 1) := by decide +kernel
theorem dX9_init_0 : decode cX9_init 0 = .ok (.aload_n 0, 1) := by decide +kernel
theorem dX9_init_1 : decode cX9_init 1 = .ok (.invokespecial 3, 3) := by decide +kernel
theorem dX9_init_4 : decode cX9_init 4 = .ok (.aload_n 0, 1) := by decide +kernel
theorem dX9_init_5 : decode cX9_init 5 = .ok (.bipush 9, 2) := by decide +kernel
theorem dX9_init_7 : decode cX9_init 7 = .ok (.bipush 9, 2) := by decide +kernel
theorem dX9_init_9 : decode cX9_init 9 = .ok (.multianewarray 9 2, 4) := by decide +kernel
theorem dX9_init_13 : decode cX9_init 13 = .ok (.putfield 11, 3) := by decide +kernel
theorem dX9_init_16 : decode cX9_init 16 = .ok (.aload_n 0, 1) := by decide +kernel
theorem dX9_init_17 : decode cX9_init 17 = .ok (.bipush 9, 2) := by decide +kernel
theorem dX9_init_19 : decode cX9_init 19 = .ok (.bipush 9, 2) := by decide +kernel
theorem dX9_init_21 : decode cX9_init 21 = .ok (.multianewarray 9 2, 4) := by decide +kernel
theorem dX9_init_25 : decode cX9_init 25 = .ok (.putfield 16, 3) := by decide +kernel
theorem dX9_init_28 : decode cX9_init 28 = .ok (.aload_n 0, 1) := by decide +kernel
theorem dX9_init_29 : decode cX9_init 29 = .ok (.bipush 9, 2) := by decide +kernel
theorem dX9_init_31 : decode cX9_init 31 = .ok (.newarray .int, 2) := by decide +kernel
theorem dX9_init_33 : decode cX9_init 33 = .ok (.putfield 19, 3) := by decide +kernel
theorem dX9_init_36 : decode cX9_init 36 = .ok (.return_, 1) := by decide +kernel
theorem dX9_begin_0 : decode cX9_begin 0 = .ok (.aload_n 0, 1) := by decide +kernel
theorem dX9_begin_1 : decode cX9_begin 1 = .ok (.iconst 0, 1) := by decide +kernel
theorem dX9_begin_2 : decode cX9_begin 2 = .ok (.putfield 23, 3) := by decide +kernel
theorem dX9_begin_5 : decode cX9_begin 5 = .ok (.aload_n 0, 1) := by decide +kernel
theorem dX9_begin_6 : decode cX9_begin 6 = .ok (.iload_n 1, 1) := by decide +kernel
theorem dX9_begin_7 : decode cX9_begin 7 = .ok (.putfield 27, 3) := by decide +kernel
theorem dX9_begin_10 : decode cX9_begin 10 = .ok (.return_, 1) := by decide +kernel
set_option maxRecDepth 20000 in
theorem ggX9_express_X11_clear : GoodIn wsX9_express wsX11_clear := goodIn_r _ [8] (by decide +kernel) (by decide +kernel)
set_option maxRecDepth 20000 in
theorem gX9_express_X11_clear_n30 : GoodIn wsX9_express (wsX11_clear) := ggX9_express_X11_clear
set_option maxRecDepth 20000 in
theorem ggX9_express_X11_bringMultiple : GoodIn wsX9_express wsX11_bringMultiple := goodIn_r _ [10] (by decide +kernel) (by decide +kernel)
set_option maxRecDepth 20000 in
theorem gX9_express_X11_bringMultiple_n34 : GoodIn wsX9_express (wsX11_bringMultiple) := ggX9_express_X11_bringMultiple
theorem dX9_express_0 : decode cX9_express 0 = .ok (.aload_n 2, 1) := by decide +kernel
theorem dX9_express_1 : decode cX9_express 1 = .ok (.invokestatic 30, 3) := by decide +kernel
theorem dX9_express_4 : decode cX9_express 4 = .ok (.iconst 0, 1) := by decide +kernel
theorem dX9_express_5 : decode cX9_express 5 = .ok (.istore_n 3, 1) := by decide +kernel
theorem dX9_express_6 : decode cX9_express 6 = .ok (.iload_n 3, 1) := by decide +kernel
theorem dX9_express_7 : decode cX9_express 7 = .ok (.aload_n 0, 1) := by decide +kernel
theorem dX9_express_8 : decode cX9_express 8 = .ok (.getfield 23, 3) := by decide +kernel
theorem dX9_express_11 : decode cX9_express 11 = .ok (.if_icmp .ge 61, 3) := by decide +kernel
theorem dX9_express_14 : decode cX9_express 14 = .ok (.aload_n 1, 1) := by decide +kernel
theorem dX9_express_15 : decode cX9_express 15 = .ok (.aload_n 0, 1) := by decide +kernel
theorem dX9_express_16 : decode cX9_express 16 = .ok (.getfield 19, 3) := by decide +kernel
theorem dX9_express_19 : decode cX9_express 19 = .ok (.iload_n 3, 1) := by decide +kernel
theorem dX9_express_20 : decode cX9_express 20 = .ok (.iaload, 1) := by decide +kernel
theorem dX9_express_21 : decode cX9_express 21 = .ok (.iaload, 1) := by decide +kernel
theorem dX9_express_22 : decode cX9_express 22 = .ok (.istore 4, 2) := by decide +kernel
theorem dX9_express_24 : decode cX9_express 24 = .ok (.iload 4, 2) := by decide +kernel
theorem dX9_express_26 : decode cX9_express 26 = .ok (.ifCond .eq 40, 3) := by decide +kernel
theorem dX9_express_29 : decode cX9_express 29 = .ok (.aload_n 1, 1) := by decide +kernel
theorem dX9_express_30 : decode cX9_express 30 = .ok (.aload_n 0, 1) := by decide +kernel
theorem dX9_express_31 : decode cX9_express 31 = .ok (.getfield 11, 3) := by decide +kernel
theorem dX9_express_34 : decode cX9_express 34 = .ok (.iload_n 3, 1) := by decide +kernel
theorem dX9_express_35 : decode cX9_express 35 = .ok (.aaload, 1) := by decide +kernel
theorem dX9_express_36 : decode cX9_express 36 = .ok (.aload_n 0, 1) := by decide +kernel
theorem dX9_express_37 : decode cX9_express 37 = .ok (.getfield 27, 3) := by decide +kernel
theorem dX9_express_40 : decode cX9_express 40 = .ok (.iload 4, 2) := by decide +kernel
theorem dX9_express_42 : decode cX9_express 42 = .ok (.isub, 1) := by decide +kernel
theorem dX9_express_43 : decode cX9_express 43 = .ok (.aload_n 0, 1) := by decide +kernel
theorem dX9_express_44 : decode cX9_express 44 = .ok (.getfield 27, 3) := by decide +kernel
theorem dX9_express_47 : decode cX9_express 47 = .ok (.invokestatic 34, 3) := by decide +kernel
theorem dX9_express_50 : decode cX9_express 50 = .ok (.aload_n 2, 1) := by decide +kernel
theorem dX9_express_51 : decode cX9_express 51 = .ok (.aload_n 0, 1) := by decide +kernel
theorem dX9_express_52 : decode cX9_express 52 = .ok (.getfield 16, 3) := by decide +kernel
theorem dX9_express_55 : decode cX9_express 55 = .ok (.iload_n 3, 1) := by decide +kernel
theorem dX9_express_56 : decode cX9_express 56 = .ok (.aaload, 1) := by decide +kernel
theorem dX9_express_57 : decode cX9_express 57 = .ok (.iload 4, 2) := by decide +kernel
theorem dX9_express_59 : decode cX9_express 59 = .ok (.aload_n 0, 1) := by decide +kernel
theorem dX9_express_60 : decode cX9_express 60 = .ok (.getfield 27, 3) := by decide +kernel
theorem dX9_express_63 : decode cX9_express 63 = .ok (.invokestatic 34, 3) := by decide +kernel
theorem dX9_express_66 : decode cX9_express 66 = .ok (.iinc 3 1, 3) := by decide +kernel
theorem dX9_express_69 : decode cX9_express 69 = .ok (.goto (-63), 3) := by decide +kernel
theorem dX9_express_72 : decode cX9_express 72 = .ok (.return_, 1) := by decide +kernel
set_option maxRecDepth 20000 in
theorem ggX9_absorb_X11_firstNotZero : GoodIn wsX9_absorb wsX11_firstNotZero := goodIn_r _ [8] (by decide +kernel) (by decide +kernel)
set_option maxRecDepth 20000 in
theorem gX9_absorb_X11_firstNotZero_n38 : GoodIn wsX9_absorb (wsX11_firstNotZero) := ggX9_absorb_X11_firstNotZero
set_option maxRecDepth 20000 in
theorem ggX9_absorb_X11_inverse : GoodIn wsX9_absorb wsX11_inverse := goodIn_r _ [10] (by decide +kernel) (by decide +kernel)
set_option maxRecDepth 20000 in
theorem gX9_absorb_X11_inverse_n42 : GoodIn wsX9_absorb (wsX11_inverse) := ggX9_absorb_X11_inverse
set_option maxRecDepth 20000 in
theorem ggX9_absorb_X11_clear : GoodIn wsX9_absorb wsX11_clear := goodIn_r _ [12] (by decide +kernel) (by decide +kernel)
set_option maxRecDepth 20000 in
theorem gX9_absorb_X11_clear_n30 : GoodIn wsX9_absorb (wsX11_clear) := ggX9_absorb_X11_clear
set_option maxRecDepth 20000 in
theorem ggX9_absorb_X11_bringMultiple : GoodIn wsX9_absorb wsX11_bringMultiple := goodIn_r _ [14] (by decide +kernel) (by decide +kernel)
set_option maxRecDepth 20000 in
theorem gX9_absorb_X11_bringMultiple_n34 : GoodIn wsX9_absorb (wsX11_bringMultiple) := ggX9_absorb_X11_bringMultiple
theorem dX9_absorb_0 : decode cX9_absorb 0 = .ok (.aload_n 1, 1) := by decide +kernel
theorem dX9_absorb_1 : decode cX9_absorb 1 = .ok (.invokestatic 38, 3) := by decide +kernel
theorem dX9_absorb_4 : decode cX9_absorb 4 = .ok (.istore_n 3, 1) := by decide +kernel
theorem dX9_absorb_5 : decode cX9_absorb 5 = .ok (.iload_n 3, 1) := by decide +kernel
theorem dX9_absorb_6 : decode cX9_absorb 6 = .ok (.ifCond .lt 12, 3) := by decide +kernel
theorem dX9_absorb_9 : decode cX9_absorb 9 = .ok (.aload_n 0, 1) := by decide +kernel
theorem dX9_absorb_10 : decode cX9_absorb 10 = .ok (.getfield 23, 3) := by decide +kernel
theorem dX9_absorb_13 : decode cX9_absorb 13 = .ok (.bipush 9, 2) := by decide +kernel
theorem dX9_absorb_15 : decode cX9_absorb 15 = .ok (.if_icmp .lt 4, 3) := by decide +kernel
theorem dX9_absorb_18 : decode cX9_absorb 18 = .ok (.return_, 1) := by decide +kernel
theorem dX9_absorb_19 : decode cX9_absorb 19 = .ok (.aload_n 1, 1) := by decide +kernel
theorem dX9_absorb_20 : decode cX9_absorb 20 = .ok (.iload_n 3, 1) := by decide +kernel
theorem dX9_absorb_21 : decode cX9_absorb 21 = .ok (.iaload, 1) := by decide +kernel
theorem dX9_absorb_22 : decode cX9_absorb 22 = .ok (.aload_n 0, 1) := by decide +kernel
theorem dX9_absorb_23 : decode cX9_absorb 23 = .ok (.getfield 27, 3) := by decide +kernel
theorem dX9_absorb_26 : decode cX9_absorb 26 = .ok (.invokestatic 42, 3) := by decide +kernel
theorem dX9_absorb_29 : decode cX9_absorb 29 = .ok (.istore 4, 2) := by decide +kernel
theorem dX9_absorb_31 : decode cX9_absorb 31 = .ok (.aload_n 0, 1) := by decide +kernel
theorem dX9_absorb_32 : decode cX9_absorb 32 = .ok (.getfield 11, 3) := by decide +kernel
theorem dX9_absorb_35 : decode cX9_absorb 35 = .ok (.aload_n 0, 1) := by decide +kernel
theorem dX9_absorb_36 : decode cX9_absorb 36 = .ok (.getfield 23, 3) := by decide +kernel
theorem dX9_absorb_39 : decode cX9_absorb 39 = .ok (.aaload, 1) := by decide +kernel
theorem dX9_absorb_40 : decode cX9_absorb 40 = .ok (.invokestatic 30, 3) := by decide +kernel
theorem dX9_absorb_43 : decode cX9_absorb 43 = .ok (.aload_n 0, 1) := by decide +kernel
theorem dX9_absorb_44 : decode cX9_absorb 44 = .ok (.getfield 11, 3) := by decide +kernel
theorem dX9_absorb_47 : decode cX9_absorb 47 = .ok (.aload_n 0, 1) := by decide +kernel
theorem dX9_absorb_48 : decode cX9_absorb 48 = .ok (.getfield 23, 3) := by decide +kernel
theorem dX9_absorb_51 : decode cX9_absorb 51 = .ok (.aaload, 1) := by decide +kernel
theorem dX9_absorb_52 : decode cX9_absorb 52 = .ok (.aload_n 1, 1) := by decide +kernel
theorem dX9_absorb_53 : decode cX9_absorb 53 = .ok (.iload 4, 2) := by decide +kernel
theorem dX9_absorb_55 : decode cX9_absorb 55 = .ok (.aload_n 0, 1) := by decide +kernel
theorem dX9_absorb_56 : decode cX9_absorb 56 = .ok (.getfield 27, 3) := by decide +kernel
theorem dX9_absorb_59 : decode cX9_absorb 59 = .ok (.invokestatic 34, 3) := by decide +kernel
theorem dX9_absorb_62 : decode cX9_absorb 62 = .ok (.aload_n 0, 1) := by decide +kernel
theorem dX9_absorb_63 : decode cX9_absorb 63 = .ok (.getfield 16, 3) := by decide +kernel
theorem dX9_absorb_66 : decode cX9_absorb 66 = .ok (.aload_n 0, 1) := by decide +kernel
theorem dX9_absorb_67 : decode cX9_absorb 67 = .ok (.getfield 23, 3) := by decide +kernel
theorem dX9_absorb_70 : decode cX9_absorb 70 = .ok (.aaload, 1) := by decide +kernel
theorem dX9_absorb_71 : decode cX9_absorb 71 = .ok (.invokestatic 30, 3) := by decide +kernel
theorem dX9_absorb_74 : decode cX9_absorb 74 = .ok (.aload_n 0, 1) := by decide +kernel
theorem dX9_absorb_75 : decode cX9_absorb 75 = .ok (.getfield 16, 3) := by decide +kernel
theorem dX9_absorb_78 : decode cX9_absorb 78 = .ok (.aload_n 0, 1) := by decide +kernel
theorem dX9_absorb_79 : decode cX9_absorb 79 = .ok (.getfield 23, 3) := by decide +kernel
theorem dX9_absorb_82 : decode cX9_absorb 82 = .ok (.aaload, 1) := by decide +kernel
theorem dX9_absorb_83 : decode cX9_absorb 83 = .ok (.aload_n 2, 1) := by decide +kernel
theorem dX9_absorb_84 : decode cX9_absorb 84 = .ok (.aload_n 0, 1) := by decide +kernel
theorem dX9_absorb_85 : decode cX9_absorb 85 = .ok (.getfield 27, 3) := by decide +kernel
theorem dX9_absorb_88 : decode cX9_absorb 88 = .ok (.iload 4, 2) := by decide +kernel
theorem dX9_absorb_90 : decode cX9_absorb 90 = .ok (.isub, 1) := by decide +kernel
theorem dX9_absorb_91 : decode cX9_absorb 91 = .ok (.aload_n 0, 1) := by decide +kernel
theorem dX9_absorb_92 : decode cX9_absorb 92 = .ok (.getfield 27, 3) := by decide +kernel
theorem dX9_absorb_95 : decode cX9_absorb 95 = .ok (.invokestatic 34, 3) := by decide +kernel
theorem dX9_absorb_98 : decode cX9_absorb 98 = .ok (.aload_n 0, 1) := by decide +kernel
theorem dX9_absorb_99 : decode cX9_absorb 99 = .ok (.getfield 16, 3) := by decide +kernel
theorem dX9_absorb_102 : decode cX9_absorb 102 = .ok (.aload_n 0, 1) := by decide +kernel
theorem dX9_absorb_103 : decode cX9_absorb 103 = .ok (.getfield 23, 3) := by decide +kernel
theorem dX9_absorb_106 : decode cX9_absorb 106 = .ok (.aaload, 1) := by decide +kernel
theorem dX9_absorb_107 : decode cX9_absorb 107 = .ok (.aload_n 0, 1) := by decide +kernel
theorem dX9_absorb_108 : decode cX9_absorb 108 = .ok (.getfield 23, 3) := by decide +kernel
theorem dX9_absorb_111 : decode cX9_absorb 111 = .ok (.iload 4, 2) := by decide +kernel
theorem dX9_absorb_113 : decode cX9_absorb 113 = .ok (.iastore, 1) := by decide +kernel
theorem dX9_absorb_114 : decode cX9_absorb 114 = .ok (.aload_n 0, 1) := by decide +kernel
theorem dX9_absorb_115 : decode cX9_absorb 115 = .ok (.getfield 19, 3) := by decide +kernel
theorem dX9_absorb_118 : decode cX9_absorb 118 = .ok (.aload_n 0, 1) := by decide +kernel
theorem dX9_absorb_119 : decode cX9_absorb 119 = .ok (.getfield 23, 3) := by decide +kernel
theorem dX9_absorb_122 : decode cX9_absorb 122 = .ok (.iload_n 3, 1) := by decide +kernel
theorem dX9_absorb_123 : decode cX9_absorb 123 = .ok (.iastore, 1) := by decide +kernel
theorem dX9_absorb_124 : decode cX9_absorb 124 = .ok (.aload_n 0, 1) := by decide +kernel
theorem dX9_absorb_125 : decode cX9_absorb 125 = .ok (.dup, 1) := by decide +kernel
theorem dX9_absorb_126 : decode cX9_absorb 126 = .ok (.getfield 23, 3) := by decide +kernel
theorem dX9_absorb_129 : decode cX9_absorb 129 = .ok (.iconst 1, 1) := by decide +kernel
theorem dX9_absorb_130 : decode cX9_absorb 130 = .ok (.iadd, 1) := by decide +kernel
theorem dX9_absorb_131 : decode cX9_absorb 131 = .ok (.putfield 23, 3) := by decide +kernel
theorem dX9_absorb_134 : decode cX9_absorb 134 = .ok (.return_, 1) := by decide +kernel
theorem dX10_init_0 : decode cX10_init 0 = .ok (.aload_n 0, 1) := by decide +kernel
theorem dX10_init_1 : decode cX10_init 1 = .ok (.invokespecial 1, 3) := by decide +kernel
theorem dX10_init_4 : decode cX10_init 4 = .ok (.aload_n 0, 1) := by decide +kernel
theorem dX10_init_5 : decode cX10_init 5 = .ok (.iconst 1, 1) := by decide +kernel
theorem dX10_init_6 : decode cX10_init 6 = .ok (.putfield 7, 3) := by decide +kernel
theorem dX10_init_9 : decode cX10_init 9 = .ok (.aload_n 0, 1) := by decide +kernel
theorem dX10_init_10 : decode cX10_init 10 = .ok (.iconst 1, 1) := by decide +kernel
theorem dX10_init_11 : decode cX10_init 11 = .ok (.putfield 13, 3) := by decide +kernel
theorem dX10_init_14 : decode cX10_init 14 = .ok (.return_, 1) := by decide +kernel
theorem dX10_become_0 : decode cX10_become 0 = .ok (.aload_n 0, 1) := by decide +kernel
theorem dX10_become_1 : decode cX10_become 1 = .ok (.iload_n 1, 1) := by decide +kernel
theorem dX10_become_2 : decode cX10_become 2 = .ok (.putfield 16, 3) := by decide +kernel
theorem dX10_become_5 : decode cX10_become 5 = .ok (.aload_n 0, 1) := by decide +kernel
theorem dX10_become_6 : decode cX10_become 6 = .ok (.iload_n 2, 1) := by decide +kernel
theorem dX10_become_7 : decode cX10_become 7 = .ok (.putfield 7, 3) := by decide +kernel
theorem dX10_become_10 : decode cX10_become 10 = .ok (.aload_n 0, 1) := by decide +kernel
theorem dX10_become_11 : decode cX10_become 11 = .ok (.iload_n 3, 1) := by decide +kernel
theorem dX10_become_12 : decode cX10_become 12 = .ok (.putfield 13, 3) := by decide +kernel
theorem dX10_become_15 : decode cX10_become 15 = .ok (.return_, 1) := by decide +kernel
theorem dX10_weight_0 : decode cX10_weight 0 = .ok (.aload_n 0, 1) := by decide +kernel
theorem dX10_weight_1 : decode cX10_weight 1 = .ok (.getfield 16, 3) := by decide +kernel
theorem dX10_weight_4 : decode cX10_weight 4 = .ok (.tableswitch 52 2 4 #[28, 28, 34], 28) := by decide +kernel
theorem dX10_weight_32 : decode cX10_weight 32 = .ok (.iload_n 1, 1) := by decide +kernel
theorem dX10_weight_33 : decode cX10_weight 33 = .ok (.i2l, 1) := by decide +kernel
theorem dX10_weight_34 : decode cX10_weight 34 = .ok (.iload_n 2, 1) := by decide +kernel
theorem dX10_weight_35 : decode cX10_weight 35 = .ok (.i2l, 1) := by decide +kernel
theorem dX10_weight_36 : decode cX10_weight 36 = .ok (.ladd, 1) := by decide +kernel
theorem dX10_weight_37 : decode cX10_weight 37 = .ok (.lreturn, 1) := by decide +kernel
theorem dX10_weight_38 : decode cX10_weight 38 = .ok (.aload_n 0, 1) := by decide +kernel
theorem dX10_weight_39 : decode cX10_weight 39 = .ok (.getfield 7, 3) := by decide +kernel
theorem dX10_weight_42 : decode cX10_weight 42 = .ok (.i2l, 1) := by decide +kernel
theorem dX10_weight_43 : decode cX10_weight 43 = .ok (.iload_n 1, 1) := by decide +kernel
theorem dX10_weight_44 : decode cX10_weight 44 = .ok (.i2l, 1) := by decide +kernel
theorem dX10_weight_45 : decode cX10_weight 45 = .ok (.lmul, 1) := by decide +kernel
theorem dX10_weight_46 : decode cX10_weight 46 = .ok (.aload_n 0, 1) := by decide +kernel
theorem dX10_weight_47 : decode cX10_weight 47 = .ok (.getfield 13, 3) := by decide +kernel
theorem dX10_weight_50 : decode cX10_weight 50 = .ok (.i2l, 1) := by decide +kernel
theorem dX10_weight_51 : decode cX10_weight 51 = .ok (.iload_n 2, 1) := by decide +kernel
theorem dX10_weight_52 : decode cX10_weight 52 = .ok (.i2l, 1) := by decide +kernel
theorem dX10_weight_53 : decode cX10_weight 53 = .ok (.lmul, 1) := by decide +kernel
theorem dX10_weight_54 : decode cX10_weight 54 = .ok (.ladd, 1) := by decide +kernel
theorem dX10_weight_55 : decode cX10_weight 55 = .ok (.lreturn, 1) := by decide +kernel
theorem dX10_weight_56 : decode cX10_weight 56 = .ok (.lconst 0, 1) := by decide +kernel
theorem dX10_weight_57 : decode cX10_weight 57 = .ok (.lreturn, 1) := by decide +kernel
set_option maxRecDepth 20000 in
theorem ggX10_isLess_X10_weight : GoodIn wsX10_isLess wsX10_weight := goodIn_r _ [6, 1, 7, 8, 9, 10, 11] (by decide +kernel) (by decide +kernel)
set_option maxRecDepth 20000 in
theorem gX10_isLess_X10_weight : GoodIn wsX10_isLess (wsV RX10 19 RX10 yX10_weight wsX10_weight) := goodIn_app (goodIn_of _ (by decide +kernel)) ggX10_isLess_X10_weight
theorem dX10_isLess_0 : decode cX10_isLess 0 = .ok (.aload_n 0, 1) := by decide +kernel
theorem dX10_isLess_1 : decode cX10_isLess 1 = .ok (.iload_n 1, 1) := by decide +kernel
theorem dX10_isLess_2 : decode cX10_isLess 2 = .ok (.iload_n 2, 1) := by decide +kernel
theorem dX10_isLess_3 : decode cX10_isLess 3 = .ok (.invokevirtual 19, 3) := by decide +kernel
theorem dX10_isLess_6 : decode cX10_isLess 6 = .ok (.lstore 5, 2) := by decide +kernel
theorem dX10_isLess_8 : decode cX10_isLess 8 = .ok (.aload_n 0, 1) := by decide +kernel
theorem dX10_isLess_9 : decode cX10_isLess 9 = .ok (.iload_n 3, 1) := by decide +kernel
theorem dX10_isLess_10 : decode cX10_isLess 10 = .ok (.iload 4, 2) := by decide +kernel
theorem dX10_isLess_12 : decode cX10_isLess 12 = .ok (.invokevirtual 19, 3) := by decide +kernel
theorem dX10_isLess_15 : decode cX10_isLess 15 = .ok (.lstore 7, 2) := by decide +kernel
theorem dX10_isLess_17 : decode cX10_isLess 17 = .ok (.lload 5, 2) := by decide +kernel
theorem dX10_isLess_19 : decode cX10_isLess 19 = .ok (.lload 7, 2) := by decide +kernel
theorem dX10_isLess_21 : decode cX10_isLess 21 = .ok (.lcmp, 1) := by decide +kernel
theorem dX10_isLess_22 : decode cX10_isLess 22 = .ok (.ifCond .eq 17, 3) := by decide +kernel
theorem dX10_isLess_25 : decode cX10_isLess 25 = .ok (.lload 5, 2) := by decide +kernel
theorem dX10_isLess_27 : decode cX10_isLess 27 = .ok (.lload 7, 2) := by decide +kernel
theorem dX10_isLess_29 : decode cX10_isLess 29 = .ok (.lcmp, 1) := by decide +kernel
theorem dX10_isLess_30 : decode cX10_isLess 30 = .ok (.ifCond .ge 7, 3) := by decide +kernel
theorem dX10_isLess_33 : decode cX10_isLess 33 = .ok (.iconst 1, 1) := by decide +kernel
theorem dX10_isLess_34 : decode cX10_isLess 34 = .ok (.goto 4, 3) := by decide +kernel
theorem dX10_isLess_37 : decode cX10_isLess 37 = .ok (.iconst 0, 1) := by decide +kernel
theorem dX10_isLess_38 : decode cX10_isLess 38 = .ok (.ireturn, 1) := by decide +kernel
theorem dX10_isLess_39 : decode cX10_isLess 39 = .ok (.aload_n 0, 1) := by decide +kernel
theorem dX10_isLess_40 : decode cX10_isLess 40 = .ok (.getfield 16, 3) := by decide +kernel
theorem dX10_isLess_43 : decode cX10_isLess 43 = .ok (.iconst 1, 1) := by decide +kernel
theorem dX10_isLess_44 : decode cX10_isLess 44 = .ok (.if_icmp .eq 11, 3) := by decide +kernel
theorem dX10_isLess_47 : decode cX10_isLess 47 = .ok (.aload_n 0, 1) := by decide +kernel
theorem dX10_isLess_48 : decode cX10_isLess 48 = .ok (.getfield 16, 3) := by decide +kernel
