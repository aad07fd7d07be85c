theorem dX12_more_20 : decode cX12_more 20 = .ok (.ireturn, 1) := by decide +kernel
theorem dX12_more_21 : decode cX12_more 21 = .ok (.iconst (-1), 1) := by decide +kernel
theorem dX12_more_22 : decode cX12_more 22 = .ok (.istore_n 3, 1) := by decide +kernel
theorem dX12_more_23 : decode cX12_more 23 = .ok (.iconst 0, 1) := by decide +kernel
theorem dX12_more_24 : decode cX12_more 24 = .ok (.istore 4, 2) := by decide +kernel
theorem dX12_more_26 : decode cX12_more 26 = .ok (.aload_n 0, 1) := by decide +kernel
theorem dX12_more_27 : decode cX12_more 27 = .ok (.iload_n 1, 1) := by decide +kernel
theorem dX12_more_28 : decode cX12_more 28 = .ok (.invokevirtual 222, 3) := by decide +kernel
theorem dX12_more_31 : decode cX12_more 31 = .ok (.istore 5, 2) := by decide +kernel
theorem dX12_more_33 : decode cX12_more 33 = .ok (.iload 5, 2) := by decide +kernel
theorem dX12_more_35 : decode cX12_more 35 = .ok (.aload_n 0, 1) := by decide +kernel
theorem dX12_more_36 : decode cX12_more 36 = .ok (.iload_n 1, 1) := by decide +kernel
theorem dX12_more_37 : decode cX12_more 37 = .ok (.invokevirtual 222, 3) := by decide +kernel
theorem dX12_more_40 : decode cX12_more 40 = .ok (.aload_n 0, 1) := by decide +kernel
theorem dX12_more_41 : decode cX12_more 41 = .ok (.iload_n 1, 1) := by decide +kernel
theorem dX12_more_42 : decode cX12_more 42 = .ok (.invokevirtual 225, 3) := by decide +kernel
theorem dX12_more_45 : decode cX12_more 45 = .ok (.iadd, 1) := by decide +kernel
theorem dX12_more_46 : decode cX12_more 46 = .ok (.if_icmp .ge 73, 3) := by decide +kernel
theorem dX12_more_49 : decode cX12_more 49 = .ok (.aload_n 0, 1) := by decide +kernel
theorem dX12_more_50 : decode cX12_more 50 = .ok (.iload_n 1, 1) := by decide +kernel
theorem dX12_more_51 : decode cX12_more 51 = .ok (.iload 5, 2) := by decide +kernel
theorem dX12_more_53 : decode cX12_more 53 = .ok (.invokevirtual 181, 3) := by decide +kernel
theorem dX12_more_56 : decode cX12_more 56 = .ok (.ifCond .ne 57, 3) := by decide +kernel
theorem dX12_more_59 : decode cX12_more 59 = .ok (.aload_n 0, 1) := by decide +kernel
theorem dX12_more_60 : decode cX12_more 60 = .ok (.invokevirtual 329, 3) := by decide +kernel
theorem dX12_more_63 : decode cX12_more 63 = .ok (.aload_n 0, 1) := by decide +kernel
theorem dX12_more_64 : decode cX12_more 64 = .ok (.getfield 56, 3) := by decide +kernel
theorem dX12_more_67 : decode cX12_more 67 = .ok (.iload 5, 2) := by decide +kernel
theorem dX12_more_69 : decode cX12_more 69 = .ok (.dup2, 1) := by decide +kernel
theorem dX12_more_70 : decode cX12_more 70 = .ok (.iaload, 1) := by decide +kernel
theorem dX12_more_71 : decode cX12_more 71 = .ok (.iconst 1, 1) := by decide +kernel
theorem dX12_more_72 : decode cX12_more 72 = .ok (.iload_n 1, 1) := by decide +kernel
theorem dX12_more_73 : decode cX12_more 73 = .ok (.ishl, 1) := by decide +kernel
theorem dX12_more_74 : decode cX12_more 74 = .ok (.ior, 1) := by decide +kernel
theorem dX12_more_75 : decode cX12_more 75 = .ok (.iastore, 1) := by decide +kernel
theorem dX12_more_76 : decode cX12_more 76 = .ok (.aload_n 0, 1) := by decide +kernel
theorem dX12_more_77 : decode cX12_more 77 = .ok (.getfield 148, 3) := by decide +kernel
theorem dX12_more_80 : decode cX12_more 80 = .ok (.aload_n 0, 1) := by decide +kernel
theorem dX12_more_81 : decode cX12_more 81 = .ok (.aload_n 0, 1) := by decide +kernel
theorem dX12_more_82 : decode cX12_more 82 = .ok (.invokevirtual 332, 3) := by decide +kernel
theorem dX12_more_85 : decode cX12_more 85 = .ok (.invokevirtual 335, 3) := by decide +kernel
theorem dX12_more_88 : decode cX12_more 88 = .ok (.invokestatic 157, 3) := by decide +kernel
theorem dX12_more_91 : decode cX12_more 91 = .ok (.isub, 1) := by decide +kernel
theorem dX12_more_92 : decode cX12_more 92 = .ok (.istore 6, 2) := by decide +kernel
theorem dX12_more_94 : decode cX12_more 94 = .ok (.iload_n 3, 1) := by decide +kernel
theorem dX12_more_95 : decode cX12_more 95 = .ok (.iconst (-1), 1) := by decide +kernel
theorem dX12_more_96 : decode cX12_more 96 = .ok (.if_icmp .eq 10, 3) := by decide +kernel
theorem dX12_more_99 : decode cX12_more 99 = .ok (.iload 6, 2) := by decide +kernel
theorem dX12_more_101 : decode cX12_more 101 = .ok (.iload 4, 2) := by decide +kernel
theorem dX12_more_103 : decode cX12_more 103 = .ok (.if_icmp .le 10, 3) := by decide +kernel
theorem dX12_more_106 : decode cX12_more 106 = .ok (.iload 5, 2) := by decide +kernel
theorem dX12_more_108 : decode cX12_more 108 = .ok (.istore_n 3, 1) := by decide +kernel
theorem dX12_more_109 : decode cX12_more 109 = .ok (.iload 6, 2) := by decide +kernel
theorem dX12_more_111 : decode cX12_more 111 = .ok (.istore 4, 2) := by decide +kernel
theorem dX12_more_113 : decode cX12_more 113 = .ok (.iinc 5 1, 3) := by decide +kernel
theorem dX12_more_116 : decode cX12_more 116 = .ok (.goto (-83), 3) := by decide +kernel
theorem dX12_more_119 : decode cX12_more 119 = .ok (.iload_n 2, 1) := by decide +kernel
theorem dX12_more_120 : decode cX12_more 120 = .ok (.ifCond .ne 7, 3) := by decide +kernel
theorem dX12_more_123 : decode cX12_more 123 = .ok (.iload_n 3, 1) := by decide +kernel
theorem dX12_more_124 : decode cX12_more 124 = .ok (.goto 5, 3) := by decide +kernel
theorem dX12_more_127 : decode cX12_more 127 = .ok (.iload 4, 2) := by decide +kernel
theorem dX12_more_129 : decode cX12_more 129 = .ok (.ireturn, 1) := by decide +kernel
set_option maxRecDepth 20000 in
theorem ggX12_jamFrom_X12_unknownOnes : GoodIn wsX12_jamFrom wsX12_unknownOnes := goodIn_r _ [8, 9, 10, 11, 7, 12, 13, 14, 15, 16, 17, 18, 19, 20, 21, 22, 49, 50, 51, 52, 53, 54, 55, 56, 57, 58, 59, 60, 61, 62, 63, 64, 65, 66, 67, 68, 69, 70, 71, 72, 73, 74, 75, 76, 77, 78] (by decide +kernel) (by decide +kernel)
set_option maxRecDepth 20000 in
theorem gX12_jamFrom_X12_unknownOnes : GoodIn wsX12_jamFrom (wsV RX12 332 RX12 yX12_unknownOnes wsX12_unknownOnes) := goodIn_app (goodIn_of _ (by decide +kernel)) ggX12_jamFrom_X12_unknownOnes
set_option maxRecDepth 20000 in
theorem ggX12_jamFrom_X12_remaining : GoodIn wsX12_jamFrom wsX12_remaining := goodIn_r _ [26, 27, 28, 29, 7, 30, 31, 32, 33, 34, 35, 13, 36, 37, 38, 39, 40, 2, 22, 41, 42, 43, 44, 45, 49, 50, 51, 52, 53, 54, 55, 56, 57, 58, 59, 60, 61, 62, 63, 64, 65, 66, 67, 68, 69, 70, 71, 72, 73, 74, 75, 76, 77, 78] (by decide +kernel) (by decide +kernel)
set_option maxRecDepth 20000 in
theorem gX12_jamFrom_X12_remaining : GoodIn wsX12_jamFrom (wsV RX12 335 RX12 yX12_remaining wsX12_remaining) := goodIn_app (goodIn_of _ (by decide +kernel)) ggX12_jamFrom_X12_remaining
set_option maxRecDepth 20000 in
theorem ggX12_jamFrom_X12_has : GoodIn wsX12_jamFrom wsX12_has := goodIn_r _ [45] (by decide +kernel) (by decide +kernel)
set_option maxRecDepth 20000 in
theorem gX12_jamFrom_X12_has : GoodIn wsX12_jamFrom (va_wsS RX12 107 yX12_has wsX12_has) := goodIn_app (goodIn_of _ (by decide +kernel)) ggX12_jamFrom_X12_has
set_option maxRecDepth 20000 in
theorem ggX12_jamFrom_X12_jamFrom : GoodIn wsX12_jamFrom wsX12_jamFrom := goodIn_r _ [0, 1, 2, 3, 4, 5, 6, 7, 8, 9, 10, 11, 12, 13, 14, 15, 16, 17, 18, 19, 20, 21, 22, 23, 24, 25, 26, 27, 28, 29, 30, 31, 32, 33, 34, 35, 36, 37, 38, 39, 40, 41, 42, 43, 44, 45, 46, 47, 48, 49, 50, 51, 52, 53, 54, 55, 56, 57, 58, 59, 60, 61, 62, 63, 64, 65, 66, 67, 68, 69, 70, 71, 72, 73, 74, 75, 76, 77, 78] (by decide +kernel) (by decide +kernel)
set_option maxRecDepth 20000 in
theorem gX12_jamFrom_X12_jamFrom : GoodIn wsX12_jamFrom (wsV RX12 372 RX12 yX12_jamFrom wsX12_jamFrom) := goodIn_app (goodIn_of _ (by decide +kernel)) ggX12_jamFrom_X12_jamFrom
theorem dX12_jamFrom_0 : decode cX12_jamFrom 0 = .ok (.iload 5, 2) := by decide +kernel
theorem dX12_jamFrom_2 : decode cX12_jamFrom 2 = .ok (.ifCond .ne 5, 3) := by decide +kernel
theorem dX12_jamFrom_5 : decode cX12_jamFrom 5 = .ok (.iconst 0, 1) := by decide +kernel
theorem dX12_jamFrom_6 : decode cX12_jamFrom 6 = .ok (.ireturn, 1) := by decide +kernel
theorem dX12_jamFrom_7 : decode cX12_jamFrom 7 = .ok (.iload_n 2, 1) := by decide +kernel
theorem dX12_jamFrom_8 : decode cX12_jamFrom 8 = .ok (.iload_n 3, 1) := by decide +kernel
theorem dX12_jamFrom_9 : decode cX12_jamFrom 9 = .ok (.if_icmp .ne 25, 3) := by decide +kernel
theorem dX12_jamFrom_12 : decode cX12_jamFrom 12 = .ok (.aload_n 0, 1) := by decide +kernel
theorem dX12_jamFrom_13 : decode cX12_jamFrom 13 = .ok (.aload_n 0, 1) := by decide +kernel
theorem dX12_jamFrom_14 : decode cX12_jamFrom 14 = .ok (.invokevirtual 332, 3) := by decide +kernel
theorem dX12_jamFrom_17 : decode cX12_jamFrom 17 = .ok (.invokevirtual 335, 3) := by decide +kernel
theorem dX12_jamFrom_20 : decode cX12_jamFrom 20 = .ok (.iload_n 1, 1) := by decide +kernel
theorem dX12_jamFrom_21 : decode cX12_jamFrom 21 = .ok (.invokestatic 107, 3) := by decide +kernel
theorem dX12_jamFrom_24 : decode cX12_jamFrom 24 = .ok (.ifCond .eq 7, 3) := by decide +kernel
theorem dX12_jamFrom_27 : decode cX12_jamFrom 27 = .ok (.iconst 0, 1) := by decide +kernel
theorem dX12_jamFrom_28 : decode cX12_jamFrom 28 = .ok (.goto 5, 3) := by decide +kernel
theorem dX12_jamFrom_31 : decode cX12_jamFrom 31 = .ok (.iload 5, 2) := by decide +kernel
theorem dX12_jamFrom_33 : decode cX12_jamFrom 33 = .ok (.ireturn, 1) := by decide +kernel
theorem dX12_jamFrom_34 : decode cX12_jamFrom 34 = .ok (.iload 5, 2) := by decide +kernel
theorem dX12_jamFrom_36 : decode cX12_jamFrom 36 = .ok (.i2l, 1) := by decide +kernel
theorem dX12_jamFrom_37 : decode cX12_jamFrom 37 = .ok (.iload 4, 2) := by decide +kernel
theorem dX12_jamFrom_39 : decode cX12_jamFrom 39 = .ok (.i2l, 1) := by decide +kernel
theorem dX12_jamFrom_40 : decode cX12_jamFrom 40 = .ok (.lmul, 1) := by decide +kernel
theorem dX12_jamFrom_41 : decode cX12_jamFrom 41 = .ok (.ldc2_w 370, 3) := by decide +kernel
theorem dX12_jamFrom_44 : decode cX12_jamFrom 44 = .ok (.ldiv, 1) := by decide +kernel
theorem dX12_jamFrom_45 : decode cX12_jamFrom 45 = .ok (.l2i, 1) := by decide +kernel
theorem dX12_jamFrom_46 : decode cX12_jamFrom 46 = .ok (.istore 6, 2) := by decide +kernel
theorem dX12_jamFrom_48 : decode cX12_jamFrom 48 = .ok (.aload_n 0, 1) := by decide +kernel
theorem dX12_jamFrom_49 : decode cX12_jamFrom 49 = .ok (.dup, 1) := by decide +kernel
theorem dX12_jamFrom_50 : decode cX12_jamFrom 50 = .ok (.getfield 188, 3) := by decide +kernel
theorem dX12_jamFrom_53 : decode cX12_jamFrom 53 = .ok (.lconst 1, 1) := by decide +kernel
theorem dX12_jamFrom_54 : decode cX12_jamFrom 54 = .ok (.iload_n 2, 1) := by decide +kernel
theorem dX12_jamFrom_55 : decode cX12_jamFrom 55 = .ok (.lshl, 1) := by decide +kernel
theorem dX12_jamFrom_56 : decode cX12_jamFrom 56 = .ok (.lor, 1) := by decide +kernel
theorem dX12_jamFrom_57 : decode cX12_jamFrom 57 = .ok (.putfield 188, 3) := by decide +kernel
theorem dX12_jamFrom_60 : decode cX12_jamFrom 60 = .ok (.aload_n 0, 1) := by decide +kernel
theorem dX12_jamFrom_61 : decode cX12_jamFrom 61 = .ok (.iload_n 1, 1) := by decide +kernel
theorem dX12_jamFrom_62 : decode cX12_jamFrom 62 = .ok (.iload_n 2, 1) := by decide +kernel
theorem dX12_jamFrom_63 : decode cX12_jamFrom 63 = .ok (.iconst 1, 1) := by decide +kernel
theorem dX12_jamFrom_64 : decode cX12_jamFrom 64 = .ok (.iadd, 1) := by decide +kernel
theorem dX12_jamFrom_65 : decode cX12_jamFrom 65 = .ok (.iload_n 3, 1) := by decide +kernel
theorem dX12_jamFrom_66 : decode cX12_jamFrom 66 = .ok (.iload 4, 2) := by decide +kernel
theorem dX12_jamFrom_68 : decode cX12_jamFrom 68 = .ok (.iload 6, 2) := by decide +kernel
theorem dX12_jamFrom_70 : decode cX12_jamFrom 70 = .ok (.invokevirtual 372, 3) := by decide +kernel
theorem dX12_jamFrom_73 : decode cX12_jamFrom 73 = .ok (.istore 7, 2) := by decide +kernel
theorem dX12_jamFrom_75 : decode cX12_jamFrom 75 = .ok (.aload_n 0, 1) := by decide +kernel
theorem dX12_jamFrom_76 : decode cX12_jamFrom 76 = .ok (.dup, 1) := by decide +kernel
theorem dX12_jamFrom_77 : decode cX12_jamFrom 77 = .ok (.getfield 188, 3) := by decide +kernel
theorem dX12_jamFrom_80 : decode cX12_jamFrom 80 = .ok (.lconst 1, 1) := by decide +kernel
theorem dX12_jamFrom_81 : decode cX12_jamFrom 81 = .ok (.iload_n 2, 1) := by decide +kernel
theorem dX12_jamFrom_82 : decode cX12_jamFrom 82 = .ok (.lshl, 1) := by decide +kernel
theorem dX12_jamFrom_83 : decode cX12_jamFrom 83 = .ok (.ldc2_w 376, 3) := by decide +kernel
theorem dX12_jamFrom_86 : decode cX12_jamFrom 86 = .ok (.lxor, 1) := by decide +kernel
theorem dX12_jamFrom_87 : decode cX12_jamFrom 87 = .ok (.land, 1) := by decide +kernel
theorem dX12_jamFrom_88 : decode cX12_jamFrom 88 = .ok (.putfield 188, 3) := by decide +kernel
theorem dX12_jamFrom_91 : decode cX12_jamFrom 91 = .ok (.iload 7, 2) := by decide +kernel
theorem dX12_jamFrom_93 : decode cX12_jamFrom 93 = .ok (.aload_n 0, 1) := by decide +kernel
theorem dX12_jamFrom_94 : decode cX12_jamFrom 94 = .ok (.iload_n 1, 1) := by decide +kernel
theorem dX12_jamFrom_95 : decode cX12_jamFrom 95 = .ok (.iload_n 2, 1) := by decide +kernel
theorem dX12_jamFrom_96 : decode cX12_jamFrom 96 = .ok (.iconst 1, 1) := by decide +kernel
theorem dX12_jamFrom_97 : decode cX12_jamFrom 97 = .ok (.iadd, 1) := by decide +kernel
theorem dX12_jamFrom_98 : decode cX12_jamFrom 98 = .ok (.iload_n 3, 1) := by decide +kernel
theorem dX12_jamFrom_99 : decode cX12_jamFrom 99 = .ok (.iload 4, 2) := by decide +kernel
theorem dX12_jamFrom_101 : decode cX12_jamFrom 101 = .ok (.iload 5, 2) := by decide +kernel
theorem dX12_jamFrom_103 : decode cX12_jamFrom 103 = .ok (.iload 6, 2) := by decide +kernel
theorem dX12_jamFrom_105 : decode cX12_jamFrom 105 = .ok (.isub, 1) := by decide +kernel
theorem dX12_jamFrom_106 : decode cX12_jamFrom 106 = .ok (.invokevirtual 372, 3) := by decide +kernel
theorem dX12_jamFrom_109 : decode cX12_jamFrom 109 = .ok (.iadd, 1) := by decide +kernel
theorem dX12_jamFrom_110 : decode cX12_jamFrom 110 = .ok (.ireturn, 1) := by decide +kernel
set_option maxRecDepth 20000 in
theorem ggX12_jam_X12_isUser : GoodIn wsX12_jam wsX12_isUser := goodIn_r _ [7, 8, 9, 10, 6, 11, 66, 67, 68, 69, 70, 71, 72, 73, 74, 75, 76, 77, 78, 79, 80, 81, 82, 83, 84, 85, 86, 87, 88, 89, 90, 91, 92, 93, 94, 95] (by decide +kernel) (by decide +kernel)
set_option maxRecDepth 20000 in
theorem gX12_jam_X12_isUser : GoodIn wsX12_jam (wsV RX12 228 RX12 yX12_isUser wsX12_isUser) := goodIn_app (goodIn_of _ (by decide +kernel)) ggX12_jam_X12_isUser
set_option maxRecDepth 20000 in
theorem ggX12_jam_X12_in : GoodIn wsX12_jam wsX12_in := goodIn_r _ [11] (by decide +kernel) (by decide +kernel)
set_option maxRecDepth 20000 in
theorem gX12_jam_X12_in : GoodIn wsX12_jam (va_wsS RX12 76 yX12_in wsX12_in) := goodIn_app (goodIn_of _ (by decide +kernel)) ggX12_jam_X12_in
set_option maxRecDepth 20000 in
theorem ggX12_jam_X12_layOccupied : GoodIn wsX12_jam wsX12_layOccupied := goodIn_r _ [15, 16, 8, 17, 18, 19, 6, 20, 1, 21, 22, 23, 24, 25, 26, 27, 28, 29, 30, 31, 32, 66, 67, 68, 69, 70, 71, 72, 73, 74, 75, 76, 77, 78, 79, 80, 81, 82, 83, 84, 85, 86, 87, 88, 89, 90, 91, 92, 93, 94, 95] (by decide +kernel) (by decide +kernel)
set_option maxRecDepth 20000 in
theorem gX12_jam_X12_layOccupied : GoodIn wsX12_jam (wsV RX12 329 RX12 yX12_layOccupied wsX12_layOccupied) := goodIn_app (goodIn_of _ (by decide +kernel)) ggX12_jam_X12_layOccupied
set_option maxRecDepth 20000 in
theorem ggX12_jam_X12_jamFrom : GoodIn wsX12_jam wsX12_jamFrom := goodIn_r _ [36, 37, 38, 39, 40, 41, 42, 6, 43, 44, 45, 46, 47, 8, 48, 49, 50, 51, 52, 53, 54, 55, 29, 56, 57, 58, 59, 17, 18, 19, 20, 1, 21, 22, 23, 24, 60, 61, 62, 63, 16, 64, 65, 30, 31, 32, 33, 34, 35, 66, 67, 68, 69, 70, 71, 72, 73, 74, 75, 76, 77, 78, 79, 80, 81, 82, 83, 84, 85, 86, 87, 88, 89, 90, 91, 92, 93, 94, 95] (by decide +kernel) (by decide +kernel)
set_option maxRecDepth 20000 in
theorem gX12_jam_X12_jamFrom : GoodIn wsX12_jam (wsV RX12 372 RX12 yX12_jamFrom wsX12_jamFrom) := goodIn_app (goodIn_of _ (by decide +kernel)) ggX12_jam_X12_jamFrom
theorem dX12_jam_0 : decode cX12_jam 0 = .ok (.aload_n 0, 1) := by decide +kernel
theorem dX12_jam_1 : decode cX12_jam 1 = .ok (.iload_n 1, 1) := by decide +kernel
theorem dX12_jam_2 : decode cX12_jam 2 = .ok (.invokevirtual 228, 3) := by decide +kernel
theorem dX12_jam_5 : decode cX12_jam 5 = .ok (.ifCond .eq 29, 3) := by decide +kernel
theorem dX12_jam_8 : decode cX12_jam 8 = .ok (.iload_n 2, 1) := by decide +kernel
theorem dX12_jam_9 : decode cX12_jam 9 = .ok (.iconst 0, 1) := by decide +kernel
theorem dX12_jam_10 : decode cX12_jam 10 = .ok (.aload_n 0, 1) := by decide +kernel
theorem dX12_jam_11 : decode cX12_jam 11 = .ok (.getfield 22, 3) := by decide +kernel
theorem dX12_jam_14 : decode cX12_jam 14 = .ok (.iconst 1, 1) := by decide +kernel
theorem dX12_jam_15 : decode cX12_jam 15 = .ok (.iaload, 1) := by decide +kernel
theorem dX12_jam_16 : decode cX12_jam 16 = .ok (.iconst 1, 1) := by decide +kernel
theorem dX12_jam_17 : decode cX12_jam 17 = .ok (.isub, 1) := by decide +kernel
theorem dX12_jam_18 : decode cX12_jam 18 = .ok (.invokestatic 76, 3) := by decide +kernel
theorem dX12_jam_21 : decode cX12_jam 21 = .ok (.ifCond .eq 13, 3) := by decide +kernel
theorem dX12_jam_24 : decode cX12_jam 24 = .ok (.iload_n 3, 1) := by decide +kernel
theorem dX12_jam_25 : decode cX12_jam 25 = .ok (.iconst 0, 1) := by decide +kernel
theorem dX12_jam_26 : decode cX12_jam 26 = .ok (.bipush 100, 2) := by decide +kernel
theorem dX12_jam_28 : decode cX12_jam 28 = .ok (.invokestatic 76, 3) := by decide +kernel
theorem dX12_jam_31 : decode cX12_jam 31 = .ok (.ifCond .ne 5, 3) := by decide +kernel
theorem dX12_jam_34 : decode cX12_jam 34 = .ok (.iconst (-1), 1) := by decide +kernel
theorem dX12_jam_35 : decode cX12_jam 35 = .ok (.ireturn, 1) := by decide +kernel
theorem dX12_jam_36 : decode cX12_jam 36 = .ok (.aload_n 0, 1) := by decide +kernel
theorem dX12_jam_37 : decode cX12_jam 37 = .ok (.invokevirtual 329, 3) := by decide +kernel
theorem dX12_jam_40 : decode cX12_jam 40 = .ok (.aload_n 0, 1) := by decide +kernel
theorem dX12_jam_41 : decode cX12_jam 41 = .ok (.iload_n 1, 1) := by decide +kernel
theorem dX12_jam_42 : decode cX12_jam 42 = .ok (.aload_n 0, 1) := by decide +kernel
theorem dX12_jam_43 : decode cX12_jam 43 = .ok (.getfield 22, 3) := by decide +kernel
theorem dX12_jam_46 : decode cX12_jam 46 = .ok (.iconst 0, 1) := by decide +kernel
theorem dX12_jam_47 : decode cX12_jam 47 = .ok (.iaload, 1) := by decide +kernel
theorem dX12_jam_48 : decode cX12_jam 48 = .ok (.iload_n 2, 1) := by decide +kernel
theorem dX12_jam_49 : decode cX12_jam 49 = .ok (.imul, 1) := by decide +kernel
theorem dX12_jam_50 : decode cX12_jam 50 = .ok (.aload_n 0, 1) := by decide +kernel
theorem dX12_jam_51 : decode cX12_jam 51 = .ok (.getfield 22, 3) := by decide +kernel
theorem dX12_jam_54 : decode cX12_jam 54 = .ok (.iconst 0, 1) := by decide +kernel
theorem dX12_jam_55 : decode cX12_jam 55 = .ok (.iaload, 1) := by decide +kernel
theorem dX12_jam_56 : decode cX12_jam 56 = .ok (.iload_n 2, 1) := by decide +kernel
theorem dX12_jam_57 : decode cX12_jam 57 = .ok (.iconst 1, 1) := by decide +kernel
theorem dX12_jam_58 : decode cX12_jam 58 = .ok (.iadd, 1) := by decide +kernel
theorem dX12_jam_59 : decode cX12_jam 59 = .ok (.imul, 1) := by decide +kernel
theorem dX12_jam_60 : decode cX12_jam 60 = .ok (.iload_n 3, 1) := by decide +kernel
theorem dX12_jam_61 : decode cX12_jam 61 = .ok (.ldc_w 378, 3) := by decide +kernel
theorem dX12_jam_64 : decode cX12_jam 64 = .ok (.invokevirtual 372, 3) := by decide +kernel
theorem dX12_jam_67 : decode cX12_jam 67 = .ok (.ireturn, 1) := by decide +kernel
theorem dX12_timesOfAll_0 : decode cX12_timesOfAll 0 = .ok (.iconst 0, 1) := by decide +kernel
theorem dX12_timesOfAll_1 : decode cX12_timesOfAll 1 = .ok (.istore_n 1, 1) := by decide +kernel
theorem dX12_timesOfAll_2 : decode cX12_timesOfAll 2 = .ok (.iconst 1, 1) := by decide +kernel
theorem dX12_timesOfAll_3 : decode cX12_timesOfAll 3 = .ok (.istore_n 2, 1) := by decide +kernel
theorem dX12_timesOfAll_4 : decode cX12_timesOfAll 4 = .ok (.iload_n 2, 1) := by decide +kernel
theorem dX12_timesOfAll_5 : decode cX12_timesOfAll 5 = .ok (.bipush 6, 2) := by decide +kernel
theorem dX12_timesOfAll_7 : decode cX12_timesOfAll 7 = .ok (.if_icmp .gt 20, 3) := by decide +kernel
theorem dX12_timesOfAll_10 : decode cX12_timesOfAll 10 = .ok (.iload_n 1, 1) := by decide +kernel
theorem dX12_timesOfAll_11 : decode cX12_timesOfAll 11 = .ok (.iload_n 2, 1) := by decide +kernel
theorem dX12_timesOfAll_12 : decode cX12_timesOfAll 12 = .ok (.aload_n 0, 1) := by decide +kernel
theorem dX12_timesOfAll_13 : decode cX12_timesOfAll 13 = .ok (.getfield 28, 3) := by decide +kernel
theorem dX12_timesOfAll_16 : decode cX12_timesOfAll 16 = .ok (.iload_n 2, 1) := by decide +kernel
theorem dX12_timesOfAll_17 : decode cX12_timesOfAll 17 = .ok (.iaload, 1) := by decide +kernel
theorem dX12_timesOfAll_18 : decode cX12_timesOfAll 18 = .ok (.imul, 1) := by decide +kernel
theorem dX12_timesOfAll_19 : decode cX12_timesOfAll 19 = .ok (.iadd, 1) := by decide +kernel
theorem dX12_timesOfAll_20 : decode cX12_timesOfAll 20 = .ok (.istore_n 1, 1) := by decide +kernel
theorem dX12_timesOfAll_21 : decode cX12_timesOfAll 21 = .ok (.iinc 2 1, 3) := by decide +kernel
theorem dX12_timesOfAll_24 : decode cX12_timesOfAll 24 = .ok (.goto (-20), 3) := by decide +kernel
theorem dX12_timesOfAll_27 : decode cX12_timesOfAll 27 = .ok (.iload_n 1, 1) := by decide +kernel
theorem dX12_timesOfAll_28 : decode cX12_timesOfAll 28 = .ok (.ireturn, 1) := by decide +kernel
set_option maxRecDepth 20000 in
theorem ggX12_shareOf_X12_timesOfAll : GoodIn wsX12_shareOf wsX12_timesOfAll := goodIn_r _ [7, 2, 21, 22, 23, 24, 25, 26, 27, 28, 29, 30, 31, 32, 33, 34, 35, 36, 37, 38, 39, 40, 41, 42, 43, 44, 45, 46, 47, 48, 49, 50] (by decide +kernel) (by decide +kernel)
set_option maxRecDepth 20000 in
theorem gX12_shareOf_X12_timesOfAll : GoodIn wsX12_shareOf (wsV RX12 379 RX12 yX12_timesOfAll wsX12_timesOfAll) := goodIn_app (goodIn_of _ (by decide +kernel)) ggX12_shareOf_X12_timesOfAll
set_option maxRecDepth 20000 in
theorem ggX12_shareOf_X12_degreesOfAll : GoodIn wsX12_shareOf wsX12_degreesOfAll := goodIn_r _ [11, 2, 21, 22, 23, 24, 25, 26, 27, 28, 29, 30, 31, 32, 33, 34, 35, 36, 37, 38, 39, 40, 41, 42, 43, 44, 45, 46, 47, 48, 49, 50] (by decide +kernel) (by decide +kernel)
set_option maxRecDepth 20000 in
theorem gX12_shareOf_X12_degreesOfAll : GoodIn wsX12_shareOf (wsV RX12 237 RX12 yX12_degreesOfAll wsX12_degreesOfAll) := goodIn_app (goodIn_of _ (by decide +kernel)) ggX12_shareOf_X12_degreesOfAll
set_option maxRecDepth 20000 in
theorem ggX12_shareOf_J9_min_eb370 : GoodIn wsX12_shareOf wsJ9_min_eb370 := goodIn_r _ [15, 16, 17, 18, 19, 20] (by decide +kernel) (by decide +kernel)
set_option maxRecDepth 20000 in
theorem gX12_shareOf_J9_min_eb370 : GoodIn wsX12_shareOf (va_wsS RX12 382 yJ9_min_eb370 wsJ9_min_eb370) := goodIn_app (goodIn_of _ (by decide +kernel)) ggX12_shareOf_J9_min_eb370
theorem dX12_shareOf_0 : decode cX12_shareOf 0 = .ok (.aload_n 0, 1) := by decide +kernel
theorem dX12_shareOf_1 : decode cX12_shareOf 1 = .ok (.invokevirtual 379, 3) := by decide +kernel
theorem dX12_shareOf_4 : decode cX12_shareOf 4 = .ok (.i2d, 1) := by decide +kernel
theorem dX12_shareOf_5 : decode cX12_shareOf 5 = .ok (.aload_n 0, 1) := by decide +kernel
theorem dX12_shareOf_6 : decode cX12_shareOf 6 = .ok (.invokevirtual 237, 3) := by decide +kernel
theorem dX12_shareOf_9 : decode cX12_shareOf 9 = .ok (.i2d, 1) := by decide +kernel
theorem dX12_shareOf_10 : decode cX12_shareOf 10 = .ok (.ddiv, 1) := by decide +kernel
theorem dX12_shareOf_11 : decode cX12_shareOf 11 = .ok (.dstore_n 3, 1) := by decide +kernel
theorem dX12_shareOf_12 : decode cX12_shareOf 12 = .ok (.dconst 1, 1) := by decide +kernel
theorem dX12_shareOf_13 : decode cX12_shareOf 13 = .ok (.dload_n 3, 1) := by decide +kernel
theorem dX12_shareOf_14 : decode cX12_shareOf 14 = .ok (.aload_n 0, 1) := by decide +kernel
theorem dX12_shareOf_15 : decode cX12_shareOf 15 = .ok (.getfield 22, 3) := by decide +kernel
theorem dX12_shareOf_18 : decode cX12_shareOf 18 = .ok (.iconst 0, 1) := by decide +kernel
theorem dX12_shareOf_19 : decode cX12_shareOf 19 = .ok (.iaload, 1) := by decide +kernel
theorem dX12_shareOf_20 : decode cX12_shareOf 20 = .ok (.i2d, 1) := by decide +kernel
theorem dX12_shareOf_21 : decode cX12_shareOf 21 = .ok (.ddiv, 1) := by decide +kernel
theorem dX12_shareOf_22 : decode cX12_shareOf 22 = .ok (.invokestatic 382, 3) := by decide +kernel
theorem dX12_shareOf_25 : decode cX12_shareOf 25 = .ok (.dstore 5, 2) := by decide +kernel
theorem dX12_shareOf_27 : decode cX12_shareOf 27 = .ok (.dconst 1, 1) := by decide +kernel
theorem dX12_shareOf_28 : decode cX12_shareOf 28 = .ok (.dstore 7, 2) := by decide +kernel
theorem dX12_shareOf_30 : decode cX12_shareOf 30 = .ok (.iconst 0, 1) := by decide +kernel
theorem dX12_shareOf_31 : decode cX12_shareOf 31 = .ok (.istore 9, 2) := by decide +kernel
theorem dX12_shareOf_33 : decode cX12_shareOf 33 = .ok (.iload 9, 2) := by decide +kernel
theorem dX12_shareOf_35 : decode cX12_shareOf 35 = .ok (.iload_n 2, 1) := by decide +kernel
theorem dX12_shareOf_36 : decode cX12_shareOf 36 = .ok (.if_icmp .ge 136, 3) := by decide +kernel
theorem dX12_shareOf_39 : decode cX12_shareOf 39 = .ok (.dconst 1, 1) := by decide +kernel
theorem dX12_shareOf_40 : decode cX12_shareOf 40 = .ok (.dload 5, 2) := by decide +kernel
theorem dX12_shareOf_42 : decode cX12_shareOf 42 = .ok (.dload 7, 2) := by decide +kernel
theorem dX12_shareOf_44 : decode cX12_shareOf 44 = .ok (.dmul, 1) := by decide +kernel
theorem dX12_shareOf_45 : decode cX12_shareOf 45 = .ok (.dsub, 1) := by decide +kernel
theorem dX12_shareOf_46 : decode cX12_shareOf 46 = .ok (.dstore 10, 2) := by decide +kernel
theorem dX12_shareOf_48 : decode cX12_shareOf 48 = .ok (.dconst 1, 1) := by decide +kernel
theorem dX12_shareOf_49 : decode cX12_shareOf 49 = .ok (.dstore 12, 2) := by decide +kernel
theorem dX12_shareOf_51 : decode cX12_shareOf 51 = .ok (.iconst 1, 1) := by decide +kernel
theorem dX12_shareOf_52 : decode cX12_shareOf 52 = .ok (.istore 14, 2) := by decide +kernel
theorem dX12_shareOf_54 : decode cX12_shareOf 54 = .ok (.iload 14, 2) := by decide +kernel
theorem dX12_shareOf_56 : decode cX12_shareOf 56 = .ok (.iload_n 1, 1) := by decide +kernel
theorem dX12_shareOf_57 : decode cX12_shareOf 57 = .ok (.if_icmp .ge 16, 3) := by decide +kernel
theorem dX12_shareOf_60 : decode cX12_shareOf 60 = .ok (.dload 12, 2) := by decide +kernel
theorem dX12_shareOf_62 : decode cX12_shareOf 62 = .ok (.dload 10, 2) := by decide +kernel
theorem dX12_shareOf_64 : decode cX12_shareOf 64 = .ok (.dmul, 1) := by decide +kernel
theorem dX12_shareOf_65 : decode cX12_shareOf 65 = .ok (.dstore 12, 2) := by decide +kernel
theorem dX12_shareOf_67 : decode cX12_shareOf 67 = .ok (.iinc 14 1, 3) := by decide +kernel
theorem dX12_shareOf_70 : decode cX12_shareOf 70 = .ok (.goto (-16), 3) := by decide +kernel
theorem dX12_shareOf_73 : decode cX12_shareOf 73 = .ok (.dconst 1, 1) := by decide +kernel
theorem dX12_shareOf_74 : decode cX12_shareOf 74 = .ok (.dload 12, 2) := by decide +kernel
theorem dX12_shareOf_76 : decode cX12_shareOf 76 = .ok (.dsub, 1) := by decide +kernel
theorem dX12_shareOf_77 : decode cX12_shareOf 77 = .ok (.dstore 14, 2) := by decide +kernel
theorem dX12_shareOf_79 : decode cX12_shareOf 79 = .ok (.dconst 0, 1) := by decide +kernel
theorem dX12_shareOf_80 : decode cX12_shareOf 80 = .ok (.dstore 16, 2) := by decide +kernel
theorem dX12_shareOf_82 : decode cX12_shareOf 82 = .ok (.iconst 1, 1) := by decide +kernel
theorem dX12_shareOf_83 : decode cX12_shareOf 83 = .ok (.istore 18, 2) := by decide +kernel
theorem dX12_shareOf_85 : decode cX12_shareOf 85 = .ok (.iload 18, 2) := by decide +kernel
theorem dX12_shareOf_87 : decode cX12_shareOf 87 = .ok (.bipush 6, 2) := by decide +kernel
theorem dX12_shareOf_89 : decode cX12_shareOf 89 = .ok (.if_icmp .gt 67, 3) := by decide +kernel
theorem dX12_shareOf_92 : decode cX12_shareOf 92 = .ok (.iload 18, 2) := by decide +kernel
theorem dX12_shareOf_94 : decode cX12_shareOf 94 = .ok (.aload_n 0, 1) := by decide +kernel
theorem dX12_shareOf_95 : decode cX12_shareOf 95 = .ok (.getfield 28, 3) := by decide +kernel
theorem dX12_shareOf_98 : decode cX12_shareOf 98 = .ok (.iload 18, 2) := by decide +kernel
theorem dX12_shareOf_100 : decode cX12_shareOf 100 = .ok (.iaload, 1) := by decide +kernel
theorem dX12_shareOf_101 : decode cX12_shareOf 101 = .ok (.imul, 1) := by decide +kernel
theorem dX12_shareOf_102 : decode cX12_shareOf 102 = .ok (.i2d, 1) := by decide +kernel
theorem dX12_shareOf_103 : decode cX12_shareOf 103 = .ok (.dstore 19, 2) := by decide +kernel
theorem dX12_shareOf_105 : decode cX12_shareOf 105 = .ok (.iconst 1, 1) := by decide +kernel
theorem dX12_shareOf_106 : decode cX12_shareOf 106 = .ok (.istore 21, 2) := by decide +kernel
theorem dX12_shareOf_108 : decode cX12_shareOf 108 = .ok (.iload 21, 2) := by decide +kernel
theorem dX12_shareOf_110 : decode cX12_shareOf 110 = .ok (.iload 18, 2) := by decide +kernel
theorem dX12_shareOf_112 : decode cX12_shareOf 112 = .ok (.if_icmp .ge 16, 3) := by decide +kernel
theorem dX12_shareOf_115 : decode cX12_shareOf 115 = .ok (.dload 19, 2) := by decide +kernel
theorem dX12_shareOf_117 : decode cX12_shareOf 117 = .ok (.dload 14, 2) := by decide +kernel
theorem dX12_shareOf_119 : decode cX12_shareOf 119 = .ok (.dmul, 1) := by decide +kernel
theorem dX12_shareOf_120 : decode cX12_shareOf 120 = .ok (.dstore 19, 2) := by decide +kernel
theorem dX12_shareOf_122 : decode cX12_shareOf 122 = .ok (.iinc 21 1, 3) := by decide +kernel
theorem dX12_shareOf_125 : decode cX12_shareOf 125 = .ok (.goto (-17), 3) := by decide +kernel
theorem dX12_shareOf_128 : decode cX12_shareOf 128 = .ok (.aload_n 0, 1) := by decide +kernel
theorem dX12_shareOf_129 : decode cX12_shareOf 129 = .ok (.getfield 28, 3) := by decide +kernel
theorem dX12_shareOf_132 : decode cX12_shareOf 132 = .ok (.iload 18, 2) := by decide +kernel
theorem dX12_shareOf_134 : decode cX12_shareOf 134 = .ok (.iaload, 1) := by decide +kernel
theorem dX12_shareOf_135 : decode cX12_shareOf 135 = .ok (.ifCond .le 11, 3) := by decide +kernel
theorem dX12_shareOf_138 : decode cX12_shareOf 138 = .ok (.dload 16, 2) := by decide +kernel
theorem dX12_shareOf_140 : decode cX12_shareOf 140 = .ok (.dload 19, 2) := by decide +kernel
theorem dX12_shareOf_142 : decode cX12_shareOf 142 = .ok (.dadd, 1) := by decide +kernel
theorem dX12_shareOf_143 : decode cX12_shareOf 143 = .ok (.goto 5, 3) := by decide +kernel
theorem dX12_shareOf_146 : decode cX12_shareOf 146 = .ok (.dload 16, 2) := by decide +kernel
theorem dX12_shareOf_148 : decode cX12_shareOf 148 = .ok (.dstore 16, 2) := by decide +kernel
theorem dX12_shareOf_150 : decode cX12_shareOf 150 = .ok (.iinc 18 1, 3) := by decide +kernel
theorem dX12_shareOf_153 : decode cX12_shareOf 153 = .ok (.goto (-68), 3) := by decide +kernel
theorem dX12_shareOf_156 : decode cX12_shareOf 156 = .ok (.dload 16, 2) := by decide +kernel
theorem dX12_shareOf_158 : decode cX12_shareOf 158 = .ok (.aload_n 0, 1) := by decide +kernel
theorem dX12_shareOf_159 : decode cX12_shareOf 159 = .ok (.invokevirtual 379, 3) := by decide +kernel
theorem dX12_shareOf_162 : decode cX12_shareOf 162 = .ok (.i2d, 1) := by decide +kernel
theorem dX12_shareOf_163 : decode cX12_shareOf 163 = .ok (.ddiv, 1) := by decide +kernel
theorem dX12_shareOf_164 : decode cX12_shareOf 164 = .ok (.dstore 7, 2) := by decide +kernel
theorem dX12_shareOf_166 : decode cX12_shareOf 166 = .ok (.iinc 9 1, 3) := by decide +kernel
theorem dX12_shareOf_169 : decode cX12_shareOf 169 = .ok (.goto (-136), 3) := by decide +kernel
theorem dX12_shareOf_172 : decode cX12_shareOf 172 = .ok (.dload 7, 2) := by decide +kernel
theorem dX12_shareOf_174 : decode cX12_shareOf 174 = .ok (.dreturn, 1) := by decide +kernel
set_option maxRecDepth 20000 in
theorem ggX12_share_X12_isField : GoodIn wsX12_share wsX12_isField := goodIn_r _ [6, 7, 43, 44, 45, 46, 47, 48, 49, 50, 51, 52, 53, 54, 55, 56, 57, 58, 59, 60, 61, 62, 63, 64, 65, 66, 67, 68, 69, 70, 71, 72] (by decide +kernel) (by decide +kernel)
set_option maxRecDepth 20000 in
theorem gX12_share_X12_isField : GoodIn wsX12_share (wsV RX12 151 RX12 yX12_isField wsX12_isField) := goodIn_app (goodIn_of _ (by decide +kernel)) ggX12_share_X12_isField
set_option maxRecDepth 20000 in
theorem ggX12_share_X12_degreesOfAll : GoodIn wsX12_share wsX12_degreesOfAll := goodIn_r _ [11, 12, 43, 44, 45, 46, 47, 48, 49, 50, 51, 52, 53, 54, 55, 56, 57, 58, 59, 60, 61, 62, 63, 64, 65, 66, 67, 68, 69, 70, 71, 72] (by decide +kernel) (by decide +kernel)
set_option maxRecDepth 20000 in
theorem gX12_share_X12_degreesOfAll : GoodIn wsX12_share (wsV RX12 237 RX12 yX12_degreesOfAll wsX12_degreesOfAll) := goodIn_app (goodIn_of _ (by decide +kernel)) ggX12_share_X12_degreesOfAll
set_option maxRecDepth 20000 in
theorem ggX12_share_X12_in : GoodIn wsX12_share wsX12_in := goodIn_r _ [15] (by decide +kernel) (by decide +kernel)
set_option maxRecDepth 20000 in
theorem gX12_share_X12_in : GoodIn wsX12_share (va_wsS RX12 76 yX12_in wsX12_in) := goodIn_app (goodIn_of _ (by decide +kernel)) ggX12_share_X12_in
set_option maxRecDepth 20000 in
theorem ggX12_share_X12_shareOf : GoodIn wsX12_share wsX12_shareOf := goodIn_r _ [19, 20, 12, 21, 22, 23, 5, 24, 8, 9, 10, 11, 25, 26, 27, 28, 29, 30, 31, 32, 33, 43, 44, 45, 46, 47, 48, 49, 50, 51, 52, 53, 54, 55, 56, 57, 58, 59, 60, 61, 62, 63, 64, 65, 66, 67, 68, 69, 70, 71, 72] (by decide +kernel) (by decide +kernel)
set_option maxRecDepth 20000 in
theorem gX12_share_X12_shareOf : GoodIn wsX12_share (wsV RX12 385 RX12 yX12_shareOf wsX12_shareOf) := goodIn_app (goodIn_of _ (by decide +kernel)) ggX12_share_X12_shareOf
set_option maxRecDepth 20000 in
theorem ggX12_share_Jxe99ae_doubleToLongBits_ccdee : GoodIn wsX12_share wsJxe99ae_doubleToLongBits_ccdee := goodIn_r _ [37, 38, 30, 31, 32, 39, 40, 41, 36, 42] (by decide +kernel) (by decide +kernel)
set_option maxRecDepth 20000 in
theorem gX12_share_Jxe99ae_doubleToLongBits_ccdee : GoodIn wsX12_share (va_wsS RX12 389 yJxe99ae_doubleToLongBits_ccdee wsJxe99ae_doubleToLongBits_ccdee) := goodIn_app (goodIn_of _ (by decide +kernel)) ggX12_share_Jxe99ae_doubleToLongBits_ccdee
theorem dX12_share_0 : decode cX12_share 0 = .ok (.aload_n 0, 1) := by decide +kernel
theorem dX12_share_1 : decode cX12_share 1 = .ok (.invokevirtual 151, 3) := by decide +kernel
theorem dX12_share_4 : decode cX12_share 4 = .ok (.ifCond .eq 42, 3) := by decide +kernel
theorem dX12_share_7 : decode cX12_share 7 = .ok (.aload_n 0, 1) := by decide +kernel
theorem dX12_share_8 : decode cX12_share 8 = .ok (.invokevirtual 237, 3) := by decide +kernel
theorem dX12_share_11 : decode cX12_share 11 = .ok (.ifCond .le 35, 3) := by decide +kernel
theorem dX12_share_14 : decode cX12_share 14 = .ok (.iload_n 1, 1) := by decide +kernel
theorem dX12_share_15 : decode cX12_share 15 = .ok (.iconst 1, 1) := by decide +kernel
theorem dX12_share_16 : decode cX12_share 16 = .ok (.bipush 60, 2) := by decide +kernel
theorem dX12_share_18 : decode cX12_share 18 = .ok (.invokestatic 76, 3) := by decide +kernel
theorem dX12_share_21 : decode cX12_share 21 = .ok (.ifCond .eq 25, 3) := by decide +kernel
theorem dX12_share_24 : decode cX12_share 24 = .ok (.iload_n 2, 1) := by decide +kernel
theorem dX12_share_25 : decode cX12_share 25 = .ok (.iconst 0, 1) := by decide +kernel
theorem dX12_share_26 : decode cX12_share 26 = .ok (.bipush 40, 2) := by decide +kernel
theorem dX12_share_28 : decode cX12_share 28 = .ok (.invokestatic 76, 3) := by decide +kernel
theorem dX12_share_31 : decode cX12_share 31 = .ok (.ifCond .eq 15, 3) := by decide +kernel
theorem dX12_share_34 : decode cX12_share 34 = .ok (.aload_n 0, 1) := by decide +kernel
theorem dX12_share_35 : decode cX12_share 35 = .ok (.iload_n 1, 1) := by decide +kernel
theorem dX12_share_36 : decode cX12_share 36 = .ok (.iload_n 2, 1) := by decide +kernel
theorem dX12_share_37 : decode cX12_share 37 = .ok (.invokevirtual 385, 3) := by decide +kernel
theorem dX12_share_40 : decode cX12_share 40 = .ok (.invokestatic 389, 3) := by decide +kernel
theorem dX12_share_43 : decode cX12_share 43 = .ok (.goto 6, 3) := by decide +kernel
theorem dX12_share_46 : decode cX12_share 46 = .ok (.ldc2_w 376, 3) := by decide +kernel
theorem dX12_share_49 : decode cX12_share 49 = .ok (.lreturn, 1) := by decide +kernel
set_option maxRecDepth 20000 in
theorem ggX12_limit_X12_isField : GoodIn wsX12_limit wsX12_isField := goodIn_r _ [6, 7, 31, 32, 33, 34, 35, 36, 37, 38, 39, 40, 41, 42, 43, 44, 45, 46, 47, 48, 49, 50, 51, 52, 53, 54, 55, 56, 57, 58, 59, 60] (by decide +kernel) (by decide +kernel)
set_option maxRecDepth 20000 in
theorem gX12_limit_X12_isField : GoodIn wsX12_limit (wsV RX12 151 RX12 yX12_isField wsX12_isField) := goodIn_app (goodIn_of _ (by decide +kernel)) ggX12_limit_X12_isField
set_option maxRecDepth 20000 in
theorem ggX12_limit_X12_degreesOfAll : GoodIn wsX12_limit wsX12_degreesOfAll := goodIn_r _ [11, 12, 31, 32, 33, 34, 35, 36, 37, 38, 39, 40, 41, 42, 43, 44, 45, 46, 47, 48, 49, 50, 51, 52, 53, 54, 55, 56, 57, 58, 59, 60] (by decide +kernel) (by decide +kernel)
set_option maxRecDepth 20000 in
theorem gX12_limit_X12_degreesOfAll : GoodIn wsX12_limit (wsV RX12 237 RX12 yX12_degreesOfAll wsX12_degreesOfAll) := goodIn_app (goodIn_of _ (by decide +kernel)) ggX12_limit_X12_degreesOfAll
set_option maxRecDepth 20000 in
theorem ggX12_limit_X12_shareOf : GoodIn wsX12_limit wsX12_shareOf := goodIn_r _ [16, 17, 12, 18, 19, 20, 5, 21, 8, 9, 10, 11, 22, 23, 24, 25, 26, 27, 28, 29, 30, 31, 32, 33, 34, 35, 36, 37, 38, 39, 40, 41, 42, 43, 44, 45, 46, 47, 48, 49, 50, 51, 52, 53, 54, 55, 56, 57, 58, 59, 60] (by decide +kernel) (by decide +kernel)
set_option maxRecDepth 20000 in
theorem gX12_limit_X12_shareOf : GoodIn wsX12_limit (wsV RX12 385 RX12 yX12_shareOf wsX12_shareOf) := goodIn_app (goodIn_of _ (by decide +kernel)) ggX12_limit_X12_shareOf
theorem dX12_limit_0 : decode cX12_limit 0 = .ok (.aload_n 0, 1) := by decide +kernel
theorem dX12_limit_1 : decode cX12_limit 1 = .ok (.invokevirtual 151, 3) := by decide +kernel
theorem dX12_limit_4 : decode cX12_limit 4 = .ok (.ifCond .eq 10, 3) := by decide +kernel
theorem dX12_limit_7 : decode cX12_limit 7 = .ok (.aload_n 0, 1) := by decide +kernel
theorem dX12_limit_8 : decode cX12_limit 8 = .ok (.invokevirtual 237, 3) := by decide +kernel
theorem dX12_limit_11 : decode cX12_limit 11 = .ok (.ifCond .ne 5, 3) := by decide +kernel
theorem dX12_limit_14 : decode cX12_limit 14 = .ok (.iconst (-1), 1) := by decide +kernel
theorem dX12_limit_15 : decode cX12_limit 15 = .ok (.ireturn, 1) := by decide +kernel
theorem dX12_limit_16 : decode cX12_limit 16 = .ok (.bipush 60, 2) := by decide +kernel
theorem dX12_limit_18 : decode cX12_limit 18 = .ok (.istore_n 1, 1) := by decide +kernel
theorem dX12_limit_19 : decode cX12_limit 19 = .ok (.iload_n 1, 1) := by decide +kernel
theorem dX12_limit_20 : decode cX12_limit 20 = .ok (.ifCond .le 25, 3) := by decide +kernel
theorem dX12_limit_23 : decode cX12_limit 23 = .ok (.aload_n 0, 1) := by decide +kernel
theorem dX12_limit_24 : decode cX12_limit 24 = .ok (.iload_n 1, 1) := by decide +kernel
theorem dX12_limit_25 : decode cX12_limit 25 = .ok (.bipush 40, 2) := by decide +kernel
theorem dX12_limit_27 : decode cX12_limit 27 = .ok (.invokevirtual 385, 3) := by decide +kernel
theorem dX12_limit_30 : decode cX12_limit 30 = .ok (.ldc2_w 395, 3) := by decide +kernel
theorem dX12_limit_33 : decode cX12_limit 33 = .ok (.dcmp .g, 1) := by decide +kernel
theorem dX12_limit_34 : decode cX12_limit 34 = .ok (.ifCond .ge 5, 3) := by decide +kernel
theorem dX12_limit_37 : decode cX12_limit 37 = .ok (.iload_n 1, 1) := by decide +kernel
theorem dX12_limit_38 : decode cX12_limit 38 = .ok (.ireturn, 1) := by decide +kernel
theorem dX12_limit_39 : decode cX12_limit 39 = .ok (.iinc 1 (-1), 3) := by decide +kernel
theorem dX12_limit_42 : decode cX12_limit 42 = .ok (.goto (-23), 3) := by decide +kernel
theorem dX12_limit_45 : decode cX12_limit 45 = .ok (.iconst (-1), 1) := by decide +kernel
theorem dX12_limit_46 : decode cX12_limit 46 = .ok (.ireturn, 1) := by decide +kernel
set_option maxRecDepth 20000 in
theorem ggX12_sample_X12_isField : GoodIn wsX12_sample wsX12_isField := goodIn_r _ [6, 7, 23, 24, 25, 26, 27, 28, 29, 30, 31, 32, 33, 34, 35, 36, 37, 38, 39, 40, 41, 42, 43, 44, 45, 46, 47, 48, 49, 50, 51, 52] (by decide +kernel) (by decide +kernel)
set_option maxRecDepth 20000 in
theorem gX12_sample_X12_isField : GoodIn wsX12_sample (wsV RX12 151 RX12 yX12_isField wsX12_isField) := goodIn_app (goodIn_of _ (by decide +kernel)) ggX12_sample_X12_isField
set_option maxRecDepth 20000 in
theorem ggX12_sample_X12_degreesOfAll : GoodIn wsX12_sample wsX12_degreesOfAll := goodIn_r _ [11, 12, 23, 24, 25, 26, 27, 28, 29, 30, 31, 32, 33, 34, 35, 36, 37, 38, 39, 40, 41, 42, 43, 44, 45, 46, 47, 48, 49, 50, 51, 52] (by decide +kernel) (by decide +kernel)
set_option maxRecDepth 20000 in
theorem gX12_sample_X12_degreesOfAll : GoodIn wsX12_sample (wsV RX12 237 RX12 yX12_degreesOfAll wsX12_degreesOfAll) := goodIn_app (goodIn_of _ (by decide +kernel)) ggX12_sample_X12_degreesOfAll
set_option maxRecDepth 20000 in
theorem ggX12_sample_X12_drawDegree : GoodIn wsX12_sample wsX12_drawDegree := goodIn_r _ [16, 12, 8, 9, 10, 5, 11, 17, 18, 19, 20, 1, 21, 22, 23, 24, 25, 26, 27, 28, 29, 30, 31, 32, 33, 34, 35, 36, 37, 38, 39, 40, 41, 42, 43, 44, 45, 46, 47, 48, 49, 50, 51, 52] (by decide +kernel) (by decide +kernel)
set_option maxRecDepth 20000 in
theorem gX12_sample_X12_drawDegree : GoodIn wsX12_sample (wsV RX12 262 RX12 yX12_drawDegree wsX12_drawDegree) := goodIn_app (goodIn_of _ (by decide +kernel)) ggX12_sample_X12_drawDegree
theorem dX12_sample_0 : decode cX12_sample 0 = .ok (.aload_n 0, 1) := by decide +kernel
theorem dX12_sample_1 : decode cX12_sample 1 = .ok (.invokevirtual 151, 3) := by decide +kernel
theorem dX12_sample_4 : decode cX12_sample 4 = .ok (.ifCond .eq 10, 3) := by decide +kernel
theorem dX12_sample_7 : decode cX12_sample 7 = .ok (.aload_n 0, 1) := by decide +kernel
theorem dX12_sample_8 : decode cX12_sample 8 = .ok (.invokevirtual 237, 3) := by decide +kernel
theorem dX12_sample_11 : decode cX12_sample 11 = .ok (.ifCond .ne 5, 3) := by decide +kernel
theorem dX12_sample_14 : decode cX12_sample 14 = .ok (.iconst (-1), 1) := by decide +kernel
theorem dX12_sample_15 : decode cX12_sample 15 = .ok (.ireturn, 1) := by decide +kernel
theorem dX12_sample_16 : decode cX12_sample 16 = .ok (.aload_n 0, 1) := by decide +kernel
theorem dX12_sample_17 : decode cX12_sample 17 = .ok (.lload_n 1, 1) := by decide +kernel
theorem dX12_sample_18 : decode cX12_sample 18 = .ok (.putfield 252, 3) := by decide +kernel
theorem dX12_sample_21 : decode cX12_sample 21 = .ok (.aload_n 0, 1) := by decide +kernel
theorem dX12_sample_22 : decode cX12_sample 22 = .ok (.invokevirtual 262, 3) := by decide +kernel
theorem dX12_sample_25 : decode cX12_sample 25 = .ok (.ireturn, 1) := by decide +kernel
set_option maxRecDepth 20000 in
theorem ggX12_isScript_X12_in : GoodIn wsX12_isScript wsX12_in := goodIn_r _ [5] (by decide +kernel) (by decide +kernel)
set_option maxRecDepth 20000 in
theorem gX12_isScript_X12_in : GoodIn wsX12_isScript (va_wsS RX12 76 yX12_in wsX12_in) := goodIn_app (goodIn_of _ (by decide +kernel)) ggX12_isScript_X12_in
theorem dX12_isScript_0 : decode cX12_isScript 0 = .ok (.iload_n 1, 1) := by decide +kernel
theorem dX12_isScript_1 : decode cX12_isScript 1 = .ok (.iconst 0, 1) := by decide +kernel
theorem dX12_isScript_2 : decode cX12_isScript 2 = .ok (.aload_n 0, 1) := by decide +kernel
theorem dX12_isScript_3 : decode cX12_isScript 3 = .ok (.getfield 175, 3) := by decide +kernel
theorem dX12_isScript_6 : decode cX12_isScript 6 = .ok (.iconst 1, 1) := by decide +kernel
theorem dX12_isScript_7 : decode cX12_isScript 7 = .ok (.isub, 1) := by decide +kernel
theorem dX12_isScript_8 : decode cX12_isScript 8 = .ok (.invokestatic 76, 3) := by decide +kernel
theorem dX12_isScript_11 : decode cX12_isScript 11 = .ok (.ireturn, 1) := by decide +kernel
set_option maxRecDepth 20000 in
theorem ggX12_step_X12_isScript : GoodIn wsX12_step wsX12_isScript := goodIn_r _ [8, 9, 10, 11, 7, 12, 13, 14, 15, 16, 17, 18, 19, 20, 21, 22, 23, 24, 25, 26, 27, 28, 29, 30, 31, 32, 33, 34, 35, 36, 37, 38, 39, 40, 41, 42] (by decide +kernel) (by decide +kernel)
set_option maxRecDepth 20000 in
theorem gX12_step_X12_isScript : GoodIn wsX12_step (wsV RX12 397 RX12 yX12_isScript wsX12_isScript) := goodIn_app (goodIn_of _ (by decide +kernel)) ggX12_step_X12_isScript
set_option maxRecDepth 20000 in
theorem ggX12_step_X12_in : GoodIn wsX12_step wsX12_in := goodIn_r _ [12] (by decide +kernel) (by decide +kernel)
set_option maxRecDepth 20000 in
theorem gX12_step_X12_in : GoodIn wsX12_step (va_wsS RX12 76 yX12_in wsX12_in) := goodIn_app (goodIn_of _ (by decide +kernel)) ggX12_step_X12_in
theorem dX12_step_0 : decode cX12_step 0 = .ok (.aload_n 0, 1) := by decide +kernel
theorem dX12_step_1 : decode cX12_step 1 = .ok (.iload_n 1, 1) := by decide +kernel
theorem dX12_step_2 : decode cX12_step 2 = .ok (.invokevirtual 397, 3) := by decide +kernel
theorem dX12_step_5 : decode cX12_step 5 = .ok (.ifCond .eq 46, 3) := by decide +kernel
theorem dX12_step_8 : decode cX12_step 8 = .ok (.iload_n 2, 1) := by decide +kernel
theorem dX12_step_9 : decode cX12_step 9 = .ok (.iconst 0, 1) := by decide +kernel
theorem dX12_step_10 : decode cX12_step 10 = .ok (.aload_n 0, 1) := by decide +kernel
theorem dX12_step_11 : decode cX12_step 11 = .ok (.getfield 34, 3) := by decide +kernel
theorem dX12_step_14 : decode cX12_step 14 = .ok (.iload_n 1, 1) := by decide +kernel
theorem dX12_step_15 : decode cX12_step 15 = .ok (.iaload, 1) := by decide +kernel
theorem dX12_step_16 : decode cX12_step 16 = .ok (.iconst 1, 1) := by decide +kernel
theorem dX12_step_17 : decode cX12_step 17 = .ok (.isub, 1) := by decide +kernel
theorem dX12_step_18 : decode cX12_step 18 = .ok (.invokestatic 76, 3) := by decide +kernel
theorem dX12_step_21 : decode cX12_step 21 = .ok (.ifCond .eq 30, 3) := by decide +kernel
theorem dX12_step_24 : decode cX12_step 24 = .ok (.iload_n 3, 1) := by decide +kernel
theorem dX12_step_25 : decode cX12_step 25 = .ok (.iconst 0, 1) := by decide +kernel
theorem dX12_step_26 : decode cX12_step 26 = .ok (.iconst 1, 1) := by decide +kernel
theorem dX12_step_27 : decode cX12_step 27 = .ok (.invokestatic 76, 3) := by decide +kernel
theorem dX12_step_30 : decode cX12_step 30 = .ok (.ifCond .eq 21, 3) := by decide +kernel
theorem dX12_step_33 : decode cX12_step 33 = .ok (.aload_n 0, 1) := by decide +kernel
theorem dX12_step_34 : decode cX12_step 34 = .ok (.getfield 31, 3) := by decide +kernel
theorem dX12_step_37 : decode cX12_step 37 = .ok (.iconst 2, 1) := by decide +kernel
theorem dX12_step_38 : decode cX12_step 38 = .ok (.bipush 16, 2) := by decide +kernel
theorem dX12_step_40 : decode cX12_step 40 = .ok (.iload_n 1, 1) := by decide +kernel
theorem dX12_step_41 : decode cX12_step 41 = .ok (.imul, 1) := by decide +kernel
theorem dX12_step_42 : decode cX12_step 42 = .ok (.iload_n 2, 1) := by decide +kernel
theorem dX12_step_43 : decode cX12_step 43 = .ok (.iadd, 1) := by decide +kernel
theorem dX12_step_44 : decode cX12_step 44 = .ok (.imul, 1) := by decide +kernel
theorem dX12_step_45 : decode cX12_step 45 = .ok (.iload_n 3, 1) := by decide +kernel
theorem dX12_step_46 : decode cX12_step 46 = .ok (.iadd, 1) := by decide +kernel
theorem dX12_step_47 : decode cX12_step 47 = .ok (.iaload, 1) := by decide +kernel
theorem dX12_step_48 : decode cX12_step 48 = .ok (.goto 6, 3) := by decide +kernel
theorem dX12_step_51 : decode cX12_step 51 = .ok (.ldc_w 313, 3) := by decide +kernel
theorem dX12_step_54 : decode cX12_step 54 = .ok (.ireturn, 1) := by decide +kernel
theorem dX12_actOf_0 : decode cX12_actOf 0 = .ok (.iload_n 0, 1) := by decide +kernel
theorem dX12_actOf_1 : decode cX12_actOf 1 = .ok (.iconst 4, 1) := by decide +kernel
theorem dX12_actOf_2 : decode cX12_actOf 2 = .ok (.if_icmp .ne 8, 3) := by decide +kernel
theorem dX12_actOf_5 : decode cX12_actOf 5 = .ok (.bipush 6, 2) := by decide +kernel
theorem dX12_actOf_7 : decode cX12_actOf 7 = .ok (.goto 13, 3) := by decide +kernel
theorem dX12_actOf_10 : decode cX12_actOf 10 = .ok (.iload_n 0, 1) := by decide +kernel
theorem dX12_actOf_11 : decode cX12_actOf 11 = .ok (.iconst 5, 1) := by decide +kernel
theorem dX12_actOf_12 : decode cX12_actOf 12 = .ok (.if_icmp .ne 7, 3) := by decide +kernel
theorem dX12_actOf_15 : decode cX12_actOf 15 = .ok (.iconst 5, 1) := by decide +kernel
theorem dX12_actOf_16 : decode cX12_actOf 16 = .ok (.goto 4, 3) := by decide +kernel
theorem dX12_actOf_19 : decode cX12_actOf 19 = .ok (.iload_n 0, 1) := by decide +kernel
theorem dX12_actOf_20 : decode cX12_actOf 20 = .ok (.ireturn, 1) := by decide +kernel
set_option maxRecDepth 20000 in
theorem ggX12_goSteps_X12_actOf : GoodIn wsX12_goSteps wsX12_actOf := goodIn_r _ [6] (by decide +kernel) (by decide +kernel)
set_option maxRecDepth 20000 in
theorem gX12_goSteps_X12_actOf : GoodIn wsX12_goSteps (va_wsS RX12 400 yX12_actOf wsX12_actOf) := goodIn_app (goodIn_of _ (by decide +kernel)) ggX12_goSteps_X12_actOf
set_option maxRecDepth 20000 in
theorem ggX12_goSteps_X12_whyNot : GoodIn wsX12_goSteps wsX12_whyNot := goodIn_r _ [10, 11, 12, 13, 14, 5, 15, 16, 17, 18, 19, 20, 21, 22, 23, 24, 25, 26, 27, 28, 29, 30, 31, 32, 33, 34, 35, 36, 37, 38, 39, 40, 41, 42, 43, 44, 45, 46, 47, 48, 49, 50, 51, 52, 53, 54, 55, 56, 57, 58, 59, 60, 61, 62, 63, 64, 65, 66, 67, 68, 69, 70, 71, 72, 73, 74, 75, 76, 77, 78, 79, 80, 81, 82, 83, 84, 85, 86, 87, 88, 89, 90, 91, 92, 93, 94, 95, 96, 97, 98, 99, 100, 101, 102, 103, 104, 185, 186, 187, 188, 189, 190, 191, 192, 193, 194, 195, 196, 197, 198, 199, 200, 201, 202, 203, 204, 205, 206, 207, 208, 209, 210, 211, 212, 213, 214] (by decide +kernel) (by decide +kernel)
set_option maxRecDepth 20000 in
theorem gX12_goSteps_X12_whyNot : GoodIn wsX12_goSteps (wsV RX12 296 RX12 yX12_whyNot wsX12_whyNot) := goodIn_app (goodIn_of _ (by decide +kernel)) ggX12_goSteps_X12_whyNot
set_option maxRecDepth 20000 in
theorem ggX12_goSteps_X12_act : GoodIn wsX12_goSteps wsX12_act := goodIn_r _ [108, 109, 110, 111, 5, 112, 113, 114, 11, 115, 116, 117, 118, 17, 18, 19, 20, 21, 12, 13, 14, 15, 16, 119, 120, 121, 122, 22, 23, 24, 25, 26, 27, 28, 29, 30, 31, 32, 33, 34, 35, 36, 37, 38, 39, 40, 41, 42, 43, 44, 45, 46, 47, 48, 49, 50, 51, 52, 53, 54, 55, 56, 57, 58, 59, 123, 124, 125, 126, 127, 128, 129, 130, 131, 132, 133, 134, 135, 136, 137, 138, 139, 140, 141, 142, 143, 144, 145, 146, 147, 148, 149, 150, 151, 152, 153, 154, 155, 156, 157, 158, 159, 160, 161, 162, 163, 164, 165, 166, 88, 84, 85, 86, 87, 167, 168, 169, 170, 171, 172, 80, 81, 82, 83, 79, 75, 76, 77, 78, 173, 174, 175, 176, 93, 94, 95, 96, 177, 178, 179, 180, 181, 182, 183, 184, 185, 186, 187, 188, 189, 190, 191, 192, 193, 194, 195, 196, 197, 198, 199, 200, 201, 202, 203, 204, 205, 206, 207, 208, 209, 210, 211, 212, 213, 214] (by decide +kernel) (by decide +kernel)
set_option maxRecDepth 20000 in
theorem gX12_goSteps_X12_act : GoodIn wsX12_goSteps (wsV RX12 300 RX12 yX12_act wsX12_act) := goodIn_app (goodIn_of _ (by decide +kernel)) ggX12_goSteps_X12_act
set_option maxRecDepth 20000 in
theorem ggX12_goSteps_X12_doNow : GoodIn wsX12_goSteps wsX12_doNow := goodIn_r _ [118, 11, 17, 18, 19, 5, 20, 21, 12, 13, 14, 15, 16, 119, 120, 121, 122, 22, 23, 24, 25, 26, 27, 28, 29, 30, 31, 32, 33, 34, 35, 36, 37, 38, 39, 40, 41, 42, 43, 44, 45, 46, 47, 48, 49, 50, 51, 52, 53, 54, 55, 56, 57, 58, 59, 123, 124, 125, 126, 127, 128, 129, 130, 131, 132, 133, 134, 135, 136, 137, 138, 139, 140, 141, 142, 143, 144, 145, 146, 147, 148, 149, 150, 151, 152, 153, 154, 155, 156, 157, 158, 159, 160, 161, 162, 163, 164, 165, 166, 88, 84, 85, 86, 87, 167, 168, 169, 170, 171, 172, 80, 81, 82, 83, 79, 75, 76, 77, 78, 173, 174, 175, 176, 93, 94, 95, 96, 177, 178, 179, 180, 185, 186, 187, 188, 189, 190, 191, 192, 193, 194, 195, 196, 197, 198, 199, 200, 201, 202, 203, 204, 205, 206, 207, 208, 209, 210, 211, 212, 213, 214] (by decide +kernel) (by decide +kernel)
set_option maxRecDepth 20000 in
theorem gX12_goSteps_X12_doNow : GoodIn wsX12_goSteps (wsV RX12 289 RX12 yX12_doNow wsX12_doNow) := goodIn_app (goodIn_of _ (by decide +kernel)) ggX12_goSteps_X12_doNow
theorem dX12_goSteps_0 : decode cX12_goSteps 0 = .ok (.iconst 0, 1) := by decide +kernel
theorem dX12_goSteps_1 : decode cX12_goSteps 1 = .ok (.istore_n 3, 1) := by decide +kernel
theorem dX12_goSteps_2 : decode cX12_goSteps 2 = .ok (.iload_n 3, 1) := by decide +kernel
theorem dX12_goSteps_3 : decode cX12_goSteps 3 = .ok (.aload_n 0, 1) := by decide +kernel
theorem dX12_goSteps_4 : decode cX12_goSteps 4 = .ok (.getfield 34, 3) := by decide +kernel
theorem dX12_goSteps_7 : decode cX12_goSteps 7 = .ok (.iload_n 1, 1) := by decide +kernel
theorem dX12_goSteps_8 : decode cX12_goSteps 8 = .ok (.iaload, 1) := by decide +kernel
theorem dX12_goSteps_9 : decode cX12_goSteps 9 = .ok (.if_icmp .ge 92, 3) := by decide +kernel
theorem dX12_goSteps_12 : decode cX12_goSteps 12 = .ok (.aload_n 0, 1) := by decide +kernel
theorem dX12_goSteps_13 : decode cX12_goSteps 13 = .ok (.getfield 31, 3) := by decide +kernel
theorem dX12_goSteps_16 : decode cX12_goSteps 16 = .ok (.iconst 2, 1) := by decide +kernel
theorem dX12_goSteps_17 : decode cX12_goSteps 17 = .ok (.bipush 16, 2) := by decide +kernel
theorem dX12_goSteps_19 : decode cX12_goSteps 19 = .ok (.iload_n 1, 1) := by decide +kernel
theorem dX12_goSteps_20 : decode cX12_goSteps 20 = .ok (.imul, 1) := by decide +kernel
theorem dX12_goSteps_21 : decode cX12_goSteps 21 = .ok (.iload_n 3, 1) := by decide +kernel
theorem dX12_goSteps_22 : decode cX12_goSteps 22 = .ok (.iadd, 1) := by decide +kernel
theorem dX12_goSteps_23 : decode cX12_goSteps 23 = .ok (.imul, 1) := by decide +kernel
theorem dX12_goSteps_24 : decode cX12_goSteps 24 = .ok (.iaload, 1) := by decide +kernel
theorem dX12_goSteps_25 : decode cX12_goSteps 25 = .ok (.invokestatic 400, 3) := by decide +kernel
theorem dX12_goSteps_28 : decode cX12_goSteps 28 = .ok (.istore 4, 2) := by decide +kernel
theorem dX12_goSteps_30 : decode cX12_goSteps 30 = .ok (.aload_n 0, 1) := by decide +kernel
theorem dX12_goSteps_31 : decode cX12_goSteps 31 = .ok (.getfield 31, 3) := by decide +kernel
theorem dX12_goSteps_34 : decode cX12_goSteps 34 = .ok (.iconst 2, 1) := by decide +kernel
theorem dX12_goSteps_35 : decode cX12_goSteps 35 = .ok (.bipush 16, 2) := by decide +kernel
theorem dX12_goSteps_37 : decode cX12_goSteps 37 = .ok (.iload_n 1, 1) := by decide +kernel
theorem dX12_goSteps_38 : decode cX12_goSteps 38 = .ok (.imul, 1) := by decide +kernel
theorem dX12_goSteps_39 : decode cX12_goSteps 39 = .ok (.iload_n 3, 1) := by decide +kernel
theorem dX12_goSteps_40 : decode cX12_goSteps 40 = .ok (.iadd, 1) := by decide +kernel
theorem dX12_goSteps_41 : decode cX12_goSteps 41 = .ok (.imul, 1) := by decide +kernel
theorem dX12_goSteps_42 : decode cX12_goSteps 42 = .ok (.iconst 1, 1) := by decide +kernel
theorem dX12_goSteps_43 : decode cX12_goSteps 43 = .ok (.iadd, 1) := by decide +kernel
theorem dX12_goSteps_44 : decode cX12_goSteps 44 = .ok (.iaload, 1) := by decide +kernel
theorem dX12_goSteps_45 : decode cX12_goSteps 45 = .ok (.istore 5, 2) := by decide +kernel
theorem dX12_goSteps_47 : decode cX12_goSteps 47 = .ok (.aload_n 0, 1) := by decide +kernel
theorem dX12_goSteps_48 : decode cX12_goSteps 48 = .ok (.iload 4, 2) := by decide +kernel
theorem dX12_goSteps_50 : decode cX12_goSteps 50 = .ok (.iload 5, 2) := by decide +kernel
theorem dX12_goSteps_52 : decode cX12_goSteps 52 = .ok (.iconst 0, 1) := by decide +kernel
theorem dX12_goSteps_53 : decode cX12_goSteps 53 = .ok (.invokevirtual 296, 3) := by decide +kernel
theorem dX12_goSteps_56 : decode cX12_goSteps 56 = .ok (.iconst (-1), 1) := by decide +kernel
theorem dX12_goSteps_57 : decode cX12_goSteps 57 = .ok (.if_icmp .eq 5, 3) := by decide +kernel
theorem dX12_goSteps_60 : decode cX12_goSteps 60 = .ok (.iload_n 3, 1) := by decide +kernel
theorem dX12_goSteps_61 : decode cX12_goSteps 61 = .ok (.ireturn, 1) := by decide +kernel
theorem dX12_goSteps_62 : decode cX12_goSteps 62 = .ok (.iload_n 2, 1) := by decide +kernel
theorem dX12_goSteps_63 : decode cX12_goSteps 63 = .ok (.ifCond .eq 19, 3) := by decide +kernel
theorem dX12_goSteps_66 : decode cX12_goSteps 66 = .ok (.aload_n 0, 1) := by decide +kernel
theorem dX12_goSteps_67 : decode cX12_goSteps 67 = .ok (.iload 4, 2) := by decide +kernel
theorem dX12_goSteps_69 : decode cX12_goSteps 69 = .ok (.iload 5, 2) := by decide +kernel
theorem dX12_goSteps_71 : decode cX12_goSteps 71 = .ok (.iconst 0, 1) := by decide +kernel
theorem dX12_goSteps_72 : decode cX12_goSteps 72 = .ok (.iload 5, 2) := by decide +kernel
theorem dX12_goSteps_74 : decode cX12_goSteps 74 = .ok (.i2l, 1) := by decide +kernel
theorem dX12_goSteps_75 : decode cX12_goSteps 75 = .ok (.invokevirtual 300, 3) := by decide +kernel
theorem dX12_goSteps_78 : decode cX12_goSteps 78 = .ok (.pop, 1) := by decide +kernel
theorem dX12_goSteps_79 : decode cX12_goSteps 79 = .ok (.goto 16, 3) := by decide +kernel
theorem dX12_goSteps_82 : decode cX12_goSteps 82 = .ok (.aload_n 0, 1) := by decide +kernel
theorem dX12_goSteps_83 : decode cX12_goSteps 83 = .ok (.iload 4, 2) := by decide +kernel
theorem dX12_goSteps_85 : decode cX12_goSteps 85 = .ok (.iload 5, 2) := by decide +kernel
theorem dX12_goSteps_87 : decode cX12_goSteps 87 = .ok (.iconst 0, 1) := by decide +kernel
theorem dX12_goSteps_88 : decode cX12_goSteps 88 = .ok (.iload 5, 2) := by decide +kernel
theorem dX12_goSteps_90 : decode cX12_goSteps 90 = .ok (.i2l, 1) := by decide +kernel
theorem dX12_goSteps_91 : decode cX12_goSteps 91 = .ok (.invokevirtual 289, 3) := by decide +kernel
theorem dX12_goSteps_94 : decode cX12_goSteps 94 = .ok (.pop, 1) := by decide +kernel
theorem dX12_goSteps_95 : decode cX12_goSteps 95 = .ok (.iinc 3 1, 3) := by decide +kernel
theorem dX12_goSteps_98 : decode cX12_goSteps 98 = .ok (.goto (-96), 3) := by decide +kernel
theorem dX12_goSteps_101 : decode cX12_goSteps 101 = .ok (.iload_n 3, 1) := by decide +kernel
theorem dX12_goSteps_102 : decode cX12_goSteps 102 = .ok (.ireturn, 1) := by decide +kernel
set_option maxRecDepth 20000 in
theorem ggX12_run_X12_isScript : GoodIn wsX12_run wsX12_isScript := goodIn_r _ [7, 8, 9, 10, 6, 11, 204, 205, 206, 207, 208, 209, 210, 211, 212, 213, 214, 215, 216, 217, 218, 219, 220, 221, 222, 223, 224, 225, 226, 227, 228, 229, 230, 231, 232, 233] (by decide +kernel) (by decide +kernel)
set_option maxRecDepth 20000 in
theorem gX12_run_X12_isScript : GoodIn wsX12_run (wsV RX12 397 RX12 yX12_isScript wsX12_isScript) := goodIn_app (goodIn_of _ (by decide +kernel)) ggX12_run_X12_isScript
set_option maxRecDepth 20000 in
theorem ggX12_run_X12_isField : GoodIn wsX12_run wsX12_isField := goodIn_r _ [15, 16, 204, 205, 206, 207, 208, 209, 210, 211, 212, 213, 214, 215, 216, 217, 218, 219, 220, 221, 222, 223, 224, 225, 226, 227, 228, 229, 230, 231, 232, 233] (by decide +kernel) (by decide +kernel)
set_option maxRecDepth 20000 in
theorem gX12_run_X12_isField : GoodIn wsX12_run (wsV RX12 151 RX12 yX12_isField wsX12_isField) := goodIn_app (goodIn_of _ (by decide +kernel)) ggX12_run_X12_isField
set_option maxRecDepth 20000 in
theorem ggX12_run_X12_in : GoodIn wsX12_run wsX12_in := goodIn_r _ [11] (by decide +kernel) (by decide +kernel)
set_option maxRecDepth 20000 in
theorem gX12_run_X12_in : GoodIn wsX12_run (va_wsS RX12 76 yX12_in wsX12_in) := goodIn_app (goodIn_of _ (by decide +kernel)) ggX12_run_X12_in
set_option maxRecDepth 20000 in
theorem ggX12_run_X12_putAside : GoodIn wsX12_run wsX12_putAside := goodIn_r _ [20, 21, 22, 204, 205, 206, 207, 208, 209, 210, 211, 212, 213, 214, 215, 216, 217, 218, 219, 220, 221, 222, 223, 224, 225, 226, 227, 228, 229, 230, 231, 232, 233] (by decide +kernel) (by decide +kernel)
set_option maxRecDepth 20000 in
theorem gX12_run_X12_putAside : GoodIn wsX12_run (wsV RX12 341 RX12 yX12_putAside wsX12_putAside) := goodIn_app (goodIn_of _ (by decide +kernel)) ggX12_run_X12_putAside
set_option maxRecDepth 20000 in
theorem ggX12_run_X12_goSteps : GoodIn wsX12_run wsX12_goSteps := goodIn_r _ [26, 2, 27, 28, 29, 6, 30, 31, 32, 33, 34, 22, 12, 13, 14, 15, 16, 35, 36, 37, 38, 39, 40, 41, 42, 43, 44, 45, 46, 47, 48, 49, 50, 51, 52, 53, 54, 55, 56, 57, 58, 59, 60, 61, 62, 63, 64, 65, 66, 67, 68, 69, 70, 71, 72, 73, 74, 75, 76, 77, 78, 79, 80, 81, 9, 10, 11, 82, 83, 84, 85, 86, 87, 88, 89, 90, 91, 92, 93, 94, 95, 96, 97, 98, 99, 100, 101, 102, 103, 104, 105, 106, 107, 108, 109, 110, 111, 112, 113, 114, 115, 116, 117, 118, 119, 120, 121, 122, 123, 124, 125, 126, 127, 128, 129, 130, 131, 132, 133, 134, 135, 136, 137, 138, 139, 140, 141, 142, 143, 144, 145, 146, 147, 148, 149, 150, 151, 152, 153, 154, 155, 156, 157, 158, 159, 160, 161, 162, 163, 164, 165, 166, 167, 168, 169, 170, 171, 172, 173, 174, 175, 176, 177, 178, 179, 180, 181, 182, 183, 184, 185, 186, 187, 188, 189, 190, 191, 192, 193, 194, 195, 196, 197, 198, 199, 204, 205, 206, 207, 208, 209, 210, 211, 212, 213, 214, 215, 216, 217, 218, 219, 220, 221, 222, 223, 224, 225, 226, 227, 228, 229, 230, 231, 232, 233] (by decide +kernel) (by decide +kernel)
set_option maxRecDepth 20000 in
theorem gX12_run_X12_goSteps : GoodIn wsX12_run (wsV RX12 403 RX12 yX12_goSteps wsX12_goSteps) := goodIn_app (goodIn_of _ (by decide +kernel)) ggX12_run_X12_goSteps
set_option maxRecDepth 20000 in
theorem ggX12_run_X12_knownMany : GoodIn wsX12_run wsX12_knownMany := goodIn_r _ [153, 154, 155, 156, 6, 157, 16, 54, 55, 56, 57, 22, 158, 159, 160, 204, 205, 206, 207, 208, 209, 210, 211, 212, 213, 214, 215, 216, 217, 218, 219, 220, 221, 222, 223, 224, 225, 226, 227, 228, 229, 230, 231, 232, 233] (by decide +kernel) (by decide +kernel)
set_option maxRecDepth 20000 in
theorem gX12_run_X12_knownMany : GoodIn wsX12_run (wsV RX12 219 RX12 yX12_knownMany wsX12_knownMany) := goodIn_app (goodIn_of _ (by decide +kernel)) ggX12_run_X12_knownMany
set_option maxRecDepth 20000 in
theorem ggX12_run_X12_bringBack : GoodIn wsX12_run wsX12_bringBack := goodIn_r _ [203, 22, 21, 204, 205, 206, 207, 208, 209, 210, 211, 212, 213, 214, 215, 216, 217, 218, 219, 220, 221, 222, 223, 224, 225, 226, 227, 228, 229, 230, 231, 232, 233] (by decide +kernel) (by decide +kernel)
set_option maxRecDepth 20000 in
theorem gX12_run_X12_bringBack : GoodIn wsX12_run (wsV RX12 344 RX12 yX12_bringBack wsX12_bringBack) := goodIn_app (goodIn_of _ (by decide +kernel)) ggX12_run_X12_bringBack
theorem dX12_run_0 : decode cX12_run 0 = .ok (.aload_n 0, 1) := by decide +kernel
theorem dX12_run_1 : decode cX12_run 1 = .ok (.iload_n 1, 1) := by decide +kernel
theorem dX12_run_2 : decode cX12_run 2 = .ok (.invokevirtual 397, 3) := by decide +kernel
theorem dX12_run_5 : decode cX12_run 5 = .ok (.ifCond .eq 19, 3) := by decide +kernel
theorem dX12_run_8 : decode cX12_run 8 = .ok (.aload_n 0, 1) := by decide +kernel
theorem dX12_run_9 : decode cX12_run 9 = .ok (.invokevirtual 151, 3) := by decide +kernel
theorem dX12_run_12 : decode cX12_run 12 = .ok (.ifCond .eq 12, 3) := by decide +kernel
theorem dX12_run_15 : decode cX12_run 15 = .ok (.iload_n 2, 1) := by decide +kernel
theorem dX12_run_16 : decode cX12_run 16 = .ok (.iconst 0, 1) := by decide +kernel
theorem dX12_run_17 : decode cX12_run 17 = .ok (.iconst 1, 1) := by decide +kernel
theorem dX12_run_18 : decode cX12_run 18 = .ok (.invokestatic 76, 3) := by decide +kernel
theorem dX12_run_21 : decode cX12_run 21 = .ok (.ifCond .ne 7, 3) := by decide +kernel
theorem dX12_run_24 : decode cX12_run 24 = .ok (.ldc_w 313, 3) := by decide +kernel
theorem dX12_run_27 : decode cX12_run 27 = .ok (.ireturn, 1) := by decide +kernel
theorem dX12_run_28 : decode cX12_run 28 = .ok (.aload_n 0, 1) := by decide +kernel
theorem dX12_run_29 : decode cX12_run 29 = .ok (.invokevirtual 341, 3) := by decide +kernel
theorem dX12_run_32 : decode cX12_run 32 = .ok (.aload_n 0, 1) := by decide +kernel
theorem dX12_run_33 : decode cX12_run 33 = .ok (.iload_n 1, 1) := by decide +kernel
theorem dX12_run_34 : decode cX12_run 34 = .ok (.iconst 0, 1) := by decide +kernel
theorem dX12_run_35 : decode cX12_run 35 = .ok (.invokevirtual 403, 3) := by decide +kernel
theorem dX12_run_38 : decode cX12_run 38 = .ok (.istore_n 3, 1) := by decide +kernel
theorem dX12_run_39 : decode cX12_run 39 = .ok (.aload_n 0, 1) := by decide +kernel
theorem dX12_run_40 : decode cX12_run 40 = .ok (.invokevirtual 219, 3) := by decide +kernel
theorem dX12_run_43 : decode cX12_run 43 = .ok (.istore 4, 2) := by decide +kernel
theorem dX12_run_45 : decode cX12_run 45 = .ok (.aload_n 0, 1) := by decide +kernel
theorem dX12_run_46 : decode cX12_run 46 = .ok (.invokevirtual 344, 3) := by decide +kernel
theorem dX12_run_49 : decode cX12_run 49 = .ok (.iload_n 2, 1) := by decide +kernel
theorem dX12_run_50 : decode cX12_run 50 = .ok (.iconst 1, 1) := by decide +kernel
theorem dX12_run_51 : decode cX12_run 51 = .ok (.if_icmp .ne 8, 3) := by decide +kernel
theorem dX12_run_54 : decode cX12_run 54 = .ok (.iload 4, 2) := by decide +kernel
theorem dX12_run_56 : decode cX12_run 56 = .ok (.goto 18, 3) := by decide +kernel
theorem dX12_run_59 : decode cX12_run 59 = .ok (.iload_n 3, 1) := by decide +kernel
theorem dX12_run_60 : decode cX12_run 60 = .ok (.aload_n 0, 1) := by decide +kernel
theorem dX12_run_61 : decode cX12_run 61 = .ok (.getfield 34, 3) := by decide +kernel
theorem dX12_run_64 : decode cX12_run 64 = .ok (.iload_n 1, 1) := by decide +kernel
theorem dX12_run_65 : decode cX12_run 65 = .ok (.iaload, 1) := by decide +kernel
theorem dX12_run_66 : decode cX12_run 66 = .ok (.if_icmp .ne 7, 3) := by decide +kernel
theorem dX12_run_69 : decode cX12_run 69 = .ok (.iconst (-1), 1) := by decide +kernel
theorem dX12_run_70 : decode cX12_run 70 = .ok (.goto 4, 3) := by decide +kernel
theorem dX12_run_73 : decode cX12_run 73 = .ok (.iload_n 3, 1) := by decide +kernel
theorem dX12_run_74 : decode cX12_run 74 = .ok (.ireturn, 1) := by decide +kernel
set_option maxRecDepth 20000 in
theorem ggX12_perform_X12_isScript : GoodIn wsX12_perform wsX12_isScript := goodIn_r _ [5, 6, 7, 8, 4, 9, 194, 195, 196, 197, 198, 199, 200, 201, 202, 203, 204, 205, 206, 207, 208, 209, 210, 211, 212, 213, 214, 215, 216, 217, 218, 219, 220, 221, 222, 223] (by decide +kernel) (by decide +kernel)
set_option maxRecDepth 20000 in
theorem gX12_perform_X12_isScript : GoodIn wsX12_perform (wsV RX12 397 RX12 yX12_isScript wsX12_isScript) := goodIn_app (goodIn_of _ (by decide +kernel)) ggX12_perform_X12_isScript
set_option maxRecDepth 20000 in
theorem ggX12_perform_X12_isField : GoodIn wsX12_perform wsX12_isField := goodIn_r _ [13, 14, 194, 195, 196, 197, 198, 199, 200, 201, 202, 203, 204, 205, 206, 207, 208, 209, 210, 211, 212, 213, 214, 215, 216, 217, 218, 219, 220, 221, 222, 223] (by decide +kernel) (by decide +kernel)
set_option maxRecDepth 20000 in
theorem gX12_perform_X12_isField : GoodIn wsX12_perform (wsV RX12 151 RX12 yX12_isField wsX12_isField) := goodIn_app (goodIn_of _ (by decide +kernel)) ggX12_perform_X12_isField
set_option maxRecDepth 20000 in
theorem ggX12_perform_X12_goSteps : GoodIn wsX12_perform wsX12_goSteps := goodIn_r _ [18, 19, 20, 21, 22, 4, 23, 24, 25, 26, 27, 28, 10, 11, 12, 13, 14, 29, 30, 31, 32, 33, 34, 35, 36, 37, 38, 39, 40, 41, 42, 43, 44, 45, 46, 47, 48, 49, 50, 51, 52, 53, 54, 55, 56, 57, 58, 59, 60, 61, 62, 63, 64, 65, 66, 67, 68, 69, 70, 71, 72, 73, 74, 75, 7, 8, 9, 76, 77, 78, 79, 80, 81, 82, 83, 84, 85, 86, 87, 88, 89, 90, 91, 92, 93, 94, 95, 96, 97, 98, 99, 100, 101, 102, 103, 104, 105, 106, 107, 108, 109, 110, 111, 112, 113, 114, 115, 116, 117, 118, 119, 120, 121, 122, 123, 124, 125, 126, 127, 128, 129, 130, 131, 132, 133, 134, 135, 136, 137, 138, 139, 140, 141, 142, 143, 144, 145, 146, 147, 148, 149, 150, 151, 152, 153, 154, 155, 156, 157, 158, 159, 160, 161, 162, 163, 164, 165, 166, 167, 168, 169, 170, 171, 172, 173, 174, 175, 176, 177, 178, 179, 180, 181, 182, 183, 184, 185, 186, 187, 188, 189, 190, 191, 192, 193, 194, 195, 196, 197, 198, 199, 200, 201, 202, 203, 204, 205, 206, 207, 208, 209, 210, 211, 212, 213, 214, 215, 216, 217, 218, 219, 220, 221, 222, 223] (by decide +kernel) (by decide +kernel)
set_option maxRecDepth 20000 in
theorem gX12_perform_X12_goSteps : GoodIn wsX12_perform (wsV RX12 403 RX12 yX12_goSteps wsX12_goSteps) := goodIn_app (goodIn_of _ (by decide +kernel)) ggX12_perform_X12_goSteps
theorem dX12_perform_0 : decode cX12_perform 0 = .ok (.aload_n 0, 1) := by decide +kernel
theorem dX12_perform_1 : decode cX12_perform 1 = .ok (.iload_n 1, 1) := by decide +kernel
theorem dX12_perform_2 : decode cX12_perform 2 = .ok (.invokevirtual 397, 3) := by decide +kernel
theorem dX12_perform_5 : decode cX12_perform 5 = .ok (.ifCond .eq 19, 3) := by decide +kernel
theorem dX12_perform_8 : decode cX12_perform 8 = .ok (.aload_n 0, 1) := by decide +kernel
theorem dX12_perform_9 : decode cX12_perform 9 = .ok (.invokevirtual 151, 3) := by decide +kernel
theorem dX12_perform_12 : decode cX12_perform 12 = .ok (.ifCond .eq 12, 3) := by decide +kernel
theorem dX12_perform_15 : decode cX12_perform 15 = .ok (.aload_n 0, 1) := by decide +kernel
theorem dX12_perform_16 : decode cX12_perform 16 = .ok (.iload_n 1, 1) := by decide +kernel
theorem dX12_perform_17 : decode cX12_perform 17 = .ok (.iconst 1, 1) := by decide +kernel
theorem dX12_perform_18 : decode cX12_perform 18 = .ok (.invokevirtual 403, 3) := by decide +kernel
theorem dX12_perform_21 : decode cX12_perform 21 = .ok (.goto 4, 3) := by decide +kernel
theorem dX12_perform_24 : decode cX12_perform 24 = .ok (.iconst (-1), 1) := by decide +kernel
theorem dX12_perform_25 : decode cX12_perform 25 = .ok (.ireturn, 1) := by decide +kernel
set_option maxRecDepth 20000 in
theorem ggX12_fullestSlot_X12_slotMany : GoodIn wsX12_fullestSlot wsX12_slotMany := goodIn_r _ [5, 6, 7, 8, 9, 4, 10, 11, 24, 25, 26, 27, 28, 29, 30, 31, 32, 33, 34, 35, 36, 37, 38, 39, 40, 41, 42, 43, 44, 45, 46, 47, 48, 49, 50, 51, 52, 53] (by decide +kernel) (by decide +kernel)
set_option maxRecDepth 20000 in
theorem gX12_fullestSlot_X12_slotMany : GoodIn wsX12_fullestSlot (wsV RX12 154 RX12 yX12_slotMany wsX12_slotMany) := goodIn_app (goodIn_of _ (by decide +kernel)) ggX12_fullestSlot_X12_slotMany
set_option maxRecDepth 20000 in
theorem ggX12_fullestSlot_X12_copiesIn : GoodIn wsX12_fullestSlot wsX12_copiesIn := goodIn_r _ [15, 11, 16, 17, 18, 4, 19, 20, 21, 22, 23, 24, 25, 26, 27, 28, 29, 30, 31, 32, 33, 34, 35, 36, 37, 38, 39, 40, 41, 42, 43, 44, 45, 46, 47, 48, 49, 50, 51, 52, 53] (by decide +kernel) (by decide +kernel)
set_option maxRecDepth 20000 in
theorem gX12_fullestSlot_X12_copiesIn : GoodIn wsX12_fullestSlot (wsV RX12 326 RX12 yX12_copiesIn wsX12_copiesIn) := goodIn_app (goodIn_of _ (by decide +kernel)) ggX12_fullestSlot_X12_copiesIn
theorem dX12_fullestSlot_0 : decode cX12_fullestSlot 0 = .ok (.iconst 0, 1) := by decide +kernel
theorem dX12_fullestSlot_1 : decode cX12_fullestSlot 1 = .ok (.istore_n 1, 1) := by decide +kernel
theorem dX12_fullestSlot_2 : decode cX12_fullestSlot 2 = .ok (.iconst 1, 1) := by decide +kernel
theorem dX12_fullestSlot_3 : decode cX12_fullestSlot 3 = .ok (.istore_n 2, 1) := by decide +kernel
theorem dX12_fullestSlot_4 : decode cX12_fullestSlot 4 = .ok (.iload_n 2, 1) := by decide +kernel
theorem dX12_fullestSlot_5 : decode cX12_fullestSlot 5 = .ok (.aload_n 0, 1) := by decide +kernel
theorem dX12_fullestSlot_6 : decode cX12_fullestSlot 6 = .ok (.invokevirtual 154, 3) := by decide +kernel
theorem dX12_fullestSlot_9 : decode cX12_fullestSlot 9 = .ok (.if_icmp .ge 28, 3) := by decide +kernel
theorem dX12_fullestSlot_12 : decode cX12_fullestSlot 12 = .ok (.aload_n 0, 1) := by decide +kernel
theorem dX12_fullestSlot_13 : decode cX12_fullestSlot 13 = .ok (.iload_n 2, 1) := by decide +kernel
theorem dX12_fullestSlot_14 : decode cX12_fullestSlot 14 = .ok (.invokevirtual 326, 3) := by decide +kernel
theorem dX12_fullestSlot_17 : decode cX12_fullestSlot 17 = .ok (.aload_n 0, 1) := by decide +kernel
theorem dX12_fullestSlot_18 : decode cX12_fullestSlot 18 = .ok (.iload_n 1, 1) := by decide +kernel
theorem dX12_fullestSlot_19 : decode cX12_fullestSlot 19 = .ok (.invokevirtual 326, 3) := by decide +kernel
theorem dX12_fullestSlot_22 : decode cX12_fullestSlot 22 = .ok (.if_icmp .le 7, 3) := by decide +kernel
theorem dX12_fullestSlot_25 : decode cX12_fullestSlot 25 = .ok (.iload_n 2, 1) := by decide +kernel
theorem dX12_fullestSlot_26 : decode cX12_fullestSlot 26 = .ok (.goto 4, 3) := by decide +kernel
theorem dX12_fullestSlot_29 : decode cX12_fullestSlot 29 = .ok (.iload_n 1, 1) := by decide +kernel
theorem dX12_fullestSlot_30 : decode cX12_fullestSlot 30 = .ok (.istore_n 1, 1) := by decide +kernel
theorem dX12_fullestSlot_31 : decode cX12_fullestSlot 31 = .ok (.iinc 2 1, 3) := by decide +kernel
theorem dX12_fullestSlot_34 : decode cX12_fullestSlot 34 = .ok (.goto (-30), 3) := by decide +kernel
theorem dX12_fullestSlot_37 : decode cX12_fullestSlot 37 = .ok (.iload_n 1, 1) := by decide +kernel
theorem dX12_fullestSlot_38 : decode cX12_fullestSlot 38 = .ok (.ireturn, 1) := by decide +kernel
set_option maxRecDepth 20000 in
theorem ggX12_busiest_X12_copyMany : GoodIn wsX12_busiest wsX12_copyMany := goodIn_r _ [6, 7, 8, 9, 5, 10, 11, 12, 13, 14, 15, 16, 17, 18, 19, 20, 21, 22, 23, 24, 25, 26, 27, 28, 29, 30, 31, 32, 33, 34, 35, 36, 37, 38, 39, 40] (by decide +kernel) (by decide +kernel)
set_option maxRecDepth 20000 in
theorem gX12_busiest_X12_copyMany : GoodIn wsX12_busiest (wsV RX12 270 RX12 yX12_copyMany wsX12_copyMany) := goodIn_app (goodIn_of _ (by decide +kernel)) ggX12_busiest_X12_copyMany
theorem dX12_busiest_0 : decode cX12_busiest 0 = .ok (.iconst 0, 1) := by decide +kernel
theorem dX12_busiest_1 : decode cX12_busiest 1 = .ok (.istore_n 1, 1) := by decide +kernel
theorem dX12_busiest_2 : decode cX12_busiest 2 = .ok (.iconst 1, 1) := by decide +kernel
theorem dX12_busiest_3 : decode cX12_busiest 3 = .ok (.istore_n 2, 1) := by decide +kernel
theorem dX12_busiest_4 : decode cX12_busiest 4 = .ok (.iload_n 2, 1) := by decide +kernel
theorem dX12_busiest_5 : decode cX12_busiest 5 = .ok (.aload_n 0, 1) := by decide +kernel
theorem dX12_busiest_6 : decode cX12_busiest 6 = .ok (.getfield 148, 3) := by decide +kernel
theorem dX12_busiest_9 : decode cX12_busiest 9 = .ok (.if_icmp .ge 28, 3) := by decide +kernel
theorem dX12_busiest_12 : decode cX12_busiest 12 = .ok (.aload_n 0, 1) := by decide +kernel
theorem dX12_busiest_13 : decode cX12_busiest 13 = .ok (.iload_n 2, 1) := by decide +kernel
theorem dX12_busiest_14 : decode cX12_busiest 14 = .ok (.invokevirtual 270, 3) := by decide +kernel
theorem dX12_busiest_17 : decode cX12_busiest 17 = .ok (.aload_n 0, 1) := by decide +kernel
theorem dX12_busiest_18 : decode cX12_busiest 18 = .ok (.iload_n 1, 1) := by decide +kernel
theorem dX12_busiest_19 : decode cX12_busiest 19 = .ok (.invokevirtual 270, 3) := by decide +kernel
theorem dX12_busiest_22 : decode cX12_busiest 22 = .ok (.if_icmp .le 7, 3) := by decide +kernel
theorem dX12_busiest_25 : decode cX12_busiest 25 = .ok (.iload_n 2, 1) := by decide +kernel
theorem dX12_busiest_26 : decode cX12_busiest 26 = .ok (.goto 4, 3) := by decide +kernel
theorem dX12_busiest_29 : decode cX12_busiest 29 = .ok (.iload_n 1, 1) := by decide +kernel
theorem dX12_busiest_30 : decode cX12_busiest 30 = .ok (.istore_n 1, 1) := by decide +kernel
theorem dX12_busiest_31 : decode cX12_busiest 31 = .ok (.iinc 2 1, 3) := by decide +kernel
theorem dX12_busiest_34 : decode cX12_busiest 34 = .ok (.goto (-30), 3) := by decide +kernel
theorem dX12_busiest_37 : decode cX12_busiest 37 = .ok (.iload_n 1, 1) := by decide +kernel
theorem dX12_busiest_38 : decode cX12_busiest 38 = .ok (.ireturn, 1) := by decide +kernel
theorem dX12_strongest_0 : decode cX12_strongest 0 = .ok (.iconst 0, 1) := by decide +kernel
theorem dX12_strongest_1 : decode cX12_strongest 1 = .ok (.istore_n 1, 1) := by decide +kernel
theorem dX12_strongest_2 : decode cX12_strongest 2 = .ok (.iconst 1, 1) := by decide +kernel
theorem dX12_strongest_3 : decode cX12_strongest 3 = .ok (.istore_n 2, 1) := by decide +kernel
theorem dX12_strongest_4 : decode cX12_strongest 4 = .ok (.iload_n 2, 1) := by decide +kernel
theorem dX12_strongest_5 : decode cX12_strongest 5 = .ok (.aload_n 0, 1) := by decide +kernel
theorem dX12_strongest_6 : decode cX12_strongest 6 = .ok (.getfield 148, 3) := by decide +kernel
theorem dX12_strongest_9 : decode cX12_strongest 9 = .ok (.if_icmp .ge 31, 3) := by decide +kernel
theorem dX12_strongest_12 : decode cX12_strongest 12 = .ok (.aload_n 0, 1) := by decide +kernel
theorem dX12_strongest_13 : decode cX12_strongest 13 = .ok (.getfield 43, 3) := by decide +kernel
theorem dX12_strongest_16 : decode cX12_strongest 16 = .ok (.iload_n 2, 1) := by decide +kernel
theorem dX12_strongest_17 : decode cX12_strongest 17 = .ok (.faload, 1) := by decide +kernel
theorem dX12_strongest_18 : decode cX12_strongest 18 = .ok (.aload_n 0, 1) := by decide +kernel
theorem dX12_strongest_19 : decode cX12_strongest 19 = .ok (.getfield 43, 3) := by decide +kernel
theorem dX12_strongest_22 : decode cX12_strongest 22 = .ok (.iload_n 1, 1) := by decide +kernel
theorem dX12_strongest_23 : decode cX12_strongest 23 = .ok (.faload, 1) := by decide +kernel
theorem dX12_strongest_24 : decode cX12_strongest 24 = .ok (.fcmp .l, 1) := by decide +kernel
theorem dX12_strongest_25 : decode cX12_strongest 25 = .ok (.ifCond .le 7, 3) := by decide +kernel
theorem dX12_strongest_28 : decode cX12_strongest 28 = .ok (.iload_n 2, 1) := by decide +kernel
theorem dX12_strongest_29 : decode cX12_strongest 29 = .ok (.goto 4, 3) := by decide +kernel
theorem dX12_strongest_32 : decode cX12_strongest 32 = .ok (.iload_n 1, 1) := by decide +kernel
theorem dX12_strongest_33 : decode cX12_strongest 33 = .ok (.istore_n 1, 1) := by decide +kernel
theorem dX12_strongest_34 : decode cX12_strongest 34 = .ok (.iinc 2 1, 3) := by decide +kernel
theorem dX12_strongest_37 : decode cX12_strongest 37 = .ok (.goto (-33), 3) := by decide +kernel
theorem dX12_strongest_40 : decode cX12_strongest 40 = .ok (.iload_n 1, 1) := by decide +kernel
theorem dX12_strongest_41 : decode cX12_strongest 41 = .ok (.ireturn, 1) := by decide +kernel
set_option maxRecDepth 20000 in
theorem ggX12_slotsWith_X12_slotMany : GoodIn wsX12_slotsWith wsX12_slotMany := goodIn_r _ [5, 6, 7, 8, 9, 4, 10, 11, 24, 25, 26, 27, 28, 29, 30, 31, 32, 33, 34, 35, 36, 37, 38, 39, 40, 41, 42, 43, 44, 45, 46, 47, 48, 49, 50, 51, 52, 53] (by decide +kernel) (by decide +kernel)
set_option maxRecDepth 20000 in
theorem gX12_slotsWith_X12_slotMany : GoodIn wsX12_slotsWith (wsV RX12 154 RX12 yX12_slotMany wsX12_slotMany) := goodIn_app (goodIn_of _ (by decide +kernel)) ggX12_slotsWith_X12_slotMany
set_option maxRecDepth 20000 in
theorem ggX12_slotsWith_X12_copiesIn : GoodIn wsX12_slotsWith wsX12_copiesIn := goodIn_r _ [15, 11, 16, 17, 18, 4, 19, 20, 21, 22, 23, 24, 25, 26, 27, 28, 29, 30, 31, 32, 33, 34, 35, 36, 37, 38, 39, 40, 41, 42, 43, 44, 45, 46, 47, 48, 49, 50, 51, 52, 53] (by decide +kernel) (by decide +kernel)
set_option maxRecDepth 20000 in
theorem gX12_slotsWith_X12_copiesIn : GoodIn wsX12_slotsWith (wsV RX12 326 RX12 yX12_copiesIn wsX12_copiesIn) := goodIn_app (goodIn_of _ (by decide +kernel)) ggX12_slotsWith_X12_copiesIn
theorem dX12_slotsWith_0 : decode cX12_slotsWith 0 = .ok (.iconst 0, 1) := by decide +kernel
theorem dX12_slotsWith_1 : decode cX12_slotsWith 1 = .ok (.istore_n 2, 1) := by decide +kernel
theorem dX12_slotsWith_2 : decode cX12_slotsWith 2 = .ok (.iconst 0, 1) := by decide +kernel
theorem dX12_slotsWith_3 : decode cX12_slotsWith 3 = .ok (.istore_n 3, 1) := by decide +kernel
theorem dX12_slotsWith_4 : decode cX12_slotsWith 4 = .ok (.iload_n 3, 1) := by decide +kernel
theorem dX12_slotsWith_5 : decode cX12_slotsWith 5 = .ok (.aload_n 0, 1) := by decide +kernel
theorem dX12_slotsWith_6 : decode cX12_slotsWith 6 = .ok (.invokevirtual 154, 3) := by decide +kernel
theorem dX12_slotsWith_9 : decode cX12_slotsWith 9 = .ok (.if_icmp .ge 26, 3) := by decide +kernel
theorem dX12_slotsWith_12 : decode cX12_slotsWith 12 = .ok (.iload_n 2, 1) := by decide +kernel
theorem dX12_slotsWith_13 : decode cX12_slotsWith 13 = .ok (.aload_n 0, 1) := by decide +kernel
theorem dX12_slotsWith_14 : decode cX12_slotsWith 14 = .ok (.iload_n 3, 1) := by decide +kernel
theorem dX12_slotsWith_15 : decode cX12_slotsWith 15 = .ok (.invokevirtual 326, 3) := by decide +kernel
theorem dX12_slotsWith_18 : decode cX12_slotsWith 18 = .ok (.iload_n 1, 1) := by decide +kernel
theorem dX12_slotsWith_19 : decode cX12_slotsWith 19 = .ok (.if_icmp .ne 7, 3) := by decide +kernel
theorem dX12_slotsWith_22 : decode cX12_slotsWith 22 = .ok (.iconst 1, 1) := by decide +kernel
theorem dX12_slotsWith_23 : decode cX12_slotsWith 23 = .ok (.goto 4, 3) := by decide +kernel
theorem dX12_slotsWith_26 : decode cX12_slotsWith 26 = .ok (.iconst 0, 1) := by decide +kernel
theorem dX12_slotsWith_27 : decode cX12_slotsWith 27 = .ok (.iadd, 1) := by decide +kernel
theorem dX12_slotsWith_28 : decode cX12_slotsWith 28 = .ok (.istore_n 2, 1) := by decide +kernel
theorem dX12_slotsWith_29 : decode cX12_slotsWith 29 = .ok (.iinc 3 1, 3) := by decide +kernel
theorem dX12_slotsWith_32 : decode cX12_slotsWith 32 = .ok (.goto (-28), 3) := by decide +kernel
theorem dX12_slotsWith_35 : decode cX12_slotsWith 35 = .ok (.iload_n 2, 1) := by decide +kernel
theorem dX12_slotsWith_36 : decode cX12_slotsWith 36 = .ok (.ireturn, 1) := by decide +kernel
set_option maxRecDepth 20000 in
theorem ggX12_copiesOfAll_X12_copyMany : GoodIn wsX12_copiesOfAll wsX12_copyMany := goodIn_r _ [6, 7, 8, 9, 5, 10, 11, 12, 13, 14, 15, 16, 17, 18, 19, 20, 21, 22, 23, 24, 25, 26, 27, 28, 29, 30, 31, 32, 33, 34, 35, 36, 37, 38, 39, 40] (by decide +kernel) (by decide +kernel)
set_option maxRecDepth 20000 in
theorem gX12_copiesOfAll_X12_copyMany : GoodIn wsX12_copiesOfAll (wsV RX12 270 RX12 yX12_copyMany wsX12_copyMany) := goodIn_app (goodIn_of _ (by decide +kernel)) ggX12_copiesOfAll_X12_copyMany
theorem dX12_copiesOfAll_0 : decode cX12_copiesOfAll 0 = .ok (.iconst 0, 1) := by decide +kernel
theorem dX12_copiesOfAll_1 : decode cX12_copiesOfAll 1 = .ok (.istore_n 1, 1) := by decide +kernel
theorem dX12_copiesOfAll_2 : decode cX12_copiesOfAll 2 = .ok (.iconst 0, 1) := by decide +kernel
theorem dX12_copiesOfAll_3 : decode cX12_copiesOfAll 3 = .ok (.istore_n 2, 1) := by decide +kernel
theorem dX12_copiesOfAll_4 : decode cX12_copiesOfAll 4 = .ok (.iload_n 2, 1) := by decide +kernel
theorem dX12_copiesOfAll_5 : decode cX12_copiesOfAll 5 = .ok (.aload_n 0, 1) := by decide +kernel
theorem dX12_copiesOfAll_6 : decode cX12_copiesOfAll 6 = .ok (.getfield 148, 3) := by decide +kernel
theorem dX12_copiesOfAll_9 : decode cX12_copiesOfAll 9 = .ok (.if_icmp .ge 17, 3) := by decide +kernel
theorem dX12_copiesOfAll_12 : decode cX12_copiesOfAll 12 = .ok (.iload_n 1, 1) := by decide +kernel
theorem dX12_copiesOfAll_13 : decode cX12_copiesOfAll 13 = .ok (.aload_n 0, 1) := by decide +kernel
theorem dX12_copiesOfAll_14 : decode cX12_copiesOfAll 14 = .ok (.iload_n 2, 1) := by decide +kernel
theorem dX12_copiesOfAll_15 : decode cX12_copiesOfAll 15 = .ok (.invokevirtual 270, 3) := by decide +kernel
theorem dX12_copiesOfAll_18 : decode cX12_copiesOfAll 18 = .ok (.iadd, 1) := by decide +kernel
theorem dX12_copiesOfAll_19 : decode cX12_copiesOfAll 19 = .ok (.istore_n 1, 1) := by decide +kernel
theorem dX12_copiesOfAll_20 : decode cX12_copiesOfAll 20 = .ok (.iinc 2 1, 3) := by decide +kernel
theorem dX12_copiesOfAll_23 : decode cX12_copiesOfAll 23 = .ok (.goto (-19), 3) := by decide +kernel
theorem dX12_copiesOfAll_26 : decode cX12_copiesOfAll 26 = .ok (.iload_n 1, 1) := by decide +kernel
theorem dX12_copiesOfAll_27 : decode cX12_copiesOfAll 27 = .ok (.ireturn, 1) := by decide +kernel
set_option maxRecDepth 20000 in
theorem ggX12_most_X12_isField : GoodIn wsX12_most wsX12_isField := goodIn_r _ [7, 8, 84, 85, 86, 87, 88, 89, 90, 91, 92, 93, 94, 95, 96, 97, 98, 99, 100, 101, 102, 103, 104, 105, 106, 107, 108, 109, 110, 111, 112, 113] (by decide +kernel) (by decide +kernel)
set_option maxRecDepth 20000 in
theorem gX12_most_X12_isField : GoodIn wsX12_most (wsV RX12 151 RX12 yX12_isField wsX12_isField) := goodIn_app (goodIn_of _ (by decide +kernel)) ggX12_most_X12_isField
set_option maxRecDepth 20000 in
theorem ggX12_most_X12_in : GoodIn wsX12_most wsX12_in := goodIn_r _ [11] (by decide +kernel) (by decide +kernel)
set_option maxRecDepth 20000 in
theorem gX12_most_X12_in : GoodIn wsX12_most (va_wsS RX12 76 yX12_in wsX12_in) := goodIn_app (goodIn_of _ (by decide +kernel)) ggX12_most_X12_in
set_option maxRecDepth 20000 in
theorem ggX12_most_X12_knownSet : GoodIn wsX12_most wsX12_knownSet := goodIn_r _ [15, 8, 16, 17, 18, 6, 19, 2, 84, 85, 86, 87, 88, 89, 90, 91, 92, 93, 94, 95, 96, 97, 98, 99, 100, 101, 102, 103, 104, 105, 106, 107, 108, 109, 110, 111, 112, 113] (by decide +kernel) (by decide +kernel)
set_option maxRecDepth 20000 in
theorem gX12_most_X12_knownSet : GoodIn wsX12_most (wsV RX12 213 RX12 yX12_knownSet wsX12_knownSet) := goodIn_app (goodIn_of _ (by decide +kernel)) ggX12_most_X12_knownSet
set_option maxRecDepth 20000 in
theorem ggX12_most_X12_fullestSlot : GoodIn wsX12_most wsX12_fullestSlot := goodIn_r _ [23, 24, 25, 26, 6, 27, 28, 3, 4, 5, 7, 8, 29, 30, 31, 32, 33, 34, 35, 36, 2, 37, 38, 39, 84, 85, 86, 87, 88, 89, 90, 91, 92, 93, 94, 95, 96, 97, 98, 99, 100, 101, 102, 103, 104, 105, 106, 107, 108, 109, 110, 111, 112, 113] (by decide +kernel) (by decide +kernel)
set_option maxRecDepth 20000 in
theorem gX12_most_X12_fullestSlot : GoodIn wsX12_most (wsV RX12 406 RX12 yX12_fullestSlot wsX12_fullestSlot) := goodIn_app (goodIn_of _ (by decide +kernel)) ggX12_most_X12_fullestSlot
set_option maxRecDepth 20000 in
theorem ggX12_most_X12_busiest : GoodIn wsX12_most wsX12_busiest := goodIn_r _ [43, 8, 44, 45, 46, 6, 47, 2, 48, 49, 50, 84, 85, 86, 87, 88, 89, 90, 91, 92, 93, 94, 95, 96, 97, 98, 99, 100, 101, 102, 103, 104, 105, 106, 107, 108, 109, 110, 111, 112, 113] (by decide +kernel) (by decide +kernel)
set_option maxRecDepth 20000 in
theorem gX12_most_X12_busiest : GoodIn wsX12_most (wsV RX12 409 RX12 yX12_busiest wsX12_busiest) := goodIn_app (goodIn_of _ (by decide +kernel)) ggX12_most_X12_busiest
set_option maxRecDepth 20000 in
theorem ggX12_most_X12_strongest : GoodIn wsX12_most wsX12_strongest := goodIn_r _ [54, 8, 55, 84, 85, 86, 87, 88, 89, 90, 91, 92, 93, 94, 95, 96, 97, 98, 99, 100, 101, 102, 103, 104, 105, 106, 107, 108, 109, 110, 111, 112, 113] (by decide +kernel) (by decide +kernel)
set_option maxRecDepth 20000 in
theorem gX12_most_X12_strongest : GoodIn wsX12_most (wsV RX12 412 RX12 yX12_strongest wsX12_strongest) := goodIn_app (goodIn_of _ (by decide +kernel)) ggX12_most_X12_strongest
set_option maxRecDepth 20000 in
theorem ggX12_most_X12_slotsWith : GoodIn wsX12_most wsX12_slotsWith := goodIn_r _ [59, 24, 25, 26, 6, 27, 28, 3, 4, 5, 7, 8, 29, 30, 31, 32, 33, 34, 35, 36, 2, 37, 38, 39, 84, 85, 86, 87, 88, 89, 90, 91, 92, 93, 94, 95, 96, 97, 98, 99, 100, 101, 102, 103, 104, 105, 106, 107, 108, 109, 110, 111, 112, 113] (by decide +kernel) (by decide +kernel)
set_option maxRecDepth 20000 in
theorem gX12_most_X12_slotsWith : GoodIn wsX12_most (wsV RX12 415 RX12 yX12_slotsWith wsX12_slotsWith) := goodIn_app (goodIn_of _ (by decide +kernel)) ggX12_most_X12_slotsWith
set_option maxRecDepth 20000 in
theorem ggX12_most_X12_copiesOfAll : GoodIn wsX12_most wsX12_copiesOfAll := goodIn_r _ [63, 8, 44, 45, 46, 6, 47, 2, 48, 49, 50, 84, 85, 86, 87, 88, 89, 90, 91, 92, 93, 94, 95, 96, 97, 98, 99, 100, 101, 102, 103, 104, 105, 106, 107, 108, 109, 110, 111, 112, 113] (by decide +kernel) (by decide +kernel)
set_option maxRecDepth 20000 in
theorem gX12_most_X12_copiesOfAll : GoodIn wsX12_most (wsV RX12 418 RX12 yX12_copiesOfAll wsX12_copiesOfAll) := goodIn_app (goodIn_of _ (by decide +kernel)) ggX12_most_X12_copiesOfAll
set_option maxRecDepth 20000 in
theorem ggX12_most_X12_shelfAt : GoodIn wsX12_most wsX12_shelfAt := goodIn_r _ [67] (by decide +kernel) (by decide +kernel)
set_option maxRecDepth 20000 in
theorem gX12_most_X12_shelfAt : GoodIn wsX12_most (wsV RX12 246 RX12 yX12_shelfAt wsX12_shelfAt) := goodIn_app (goodIn_of _ (by decide +kernel)) ggX12_most_X12_shelfAt
set_option maxRecDepth 20000 in
theorem ggX12_most_X12_parts : GoodIn wsX12_most wsX12_parts := goodIn_r _ [71, 8, 72, 73, 74, 6, 75, 76, 77, 78, 79, 12, 13, 14, 15, 16, 17, 18, 19, 2, 37, 38, 39, 80, 81, 82, 83, 48, 49, 50, 84, 85, 86, 87, 88, 89, 90, 91, 92, 93, 94, 95, 96, 97, 98, 99, 100, 101, 102, 103, 104, 105, 106, 107, 108, 109, 110, 111, 112, 113] (by decide +kernel) (by decide +kernel)
set_option maxRecDepth 20000 in
theorem gX12_most_X12_parts : GoodIn wsX12_most (wsV RX12 421 RX12 yX12_parts wsX12_parts) := goodIn_app (goodIn_of _ (by decide +kernel)) ggX12_most_X12_parts
theorem dX12_most_0 : decode cX12_most 0 = .ok (.aload_n 0, 1) := by decide +kernel
theorem dX12_most_1 : decode cX12_most 1 = .ok (.invokevirtual 151, 3) := by decide +kernel
theorem dX12_most_4 : decode cX12_most 4 = .ok (.ifCond .eq 13, 3) := by decide +kernel
theorem dX12_most_7 : decode cX12_most 7 = .ok (.iload_n 1, 1) := by decide +kernel
theorem dX12_most_8 : decode cX12_most 8 = .ok (.iconst 0, 1) := by decide +kernel
theorem dX12_most_9 : decode cX12_most 9 = .ok (.bipush 8, 2) := by decide +kernel
theorem dX12_most_11 : decode cX12_most 11 = .ok (.invokestatic 76, 3) := by decide +kernel
theorem dX12_most_14 : decode cX12_most 14 = .ok (.ifCond .ne 7, 3) := by decide +kernel
theorem dX12_most_17 : decode cX12_most 17 = .ok (.ldc_w 313, 3) := by decide +kernel
theorem dX12_most_20 : decode cX12_most 20 = .ok (.ireturn, 1) := by decide +kernel
theorem dX12_most_21 : decode cX12_most 21 = .ok (.iload_n 1, 1) := by decide +kernel
theorem dX12_most_22 : decode cX12_most 22 = .ok (.tableswitch 116 0 7 #[46, 51, 56, 61, 66, 72, 78, 83], 46) := by decide +kernel
theorem dX12_most_68 : decode cX12_most 68 = .ok (.aload_n 0, 1) := by decide +kernel
theorem dX12_most_69 : decode cX12_most 69 = .ok (.invokevirtual 213, 3) := by decide +kernel
theorem dX12_most_72 : decode cX12_most 72 = .ok (.ireturn, 1) := by decide +kernel
theorem dX12_most_73 : decode cX12_most 73 = .ok (.aload_n 0, 1) := by decide +kernel
theorem dX12_most_74 : decode cX12_most 74 = .ok (.invokevirtual 406, 3) := by decide +kernel
theorem dX12_most_77 : decode cX12_most 77 = .ok (.ireturn, 1) := by decide +kernel
theorem dX12_most_78 : decode cX12_most 78 = .ok (.aload_n 0, 1) := by decide +kernel
theorem dX12_most_79 : decode cX12_most 79 = .ok (.invokevirtual 409, 3) := by decide +kernel
theorem dX12_most_82 : decode cX12_most 82 = .ok (.ireturn, 1) := by decide +kernel
theorem dX12_most_83 : decode cX12_most 83 = .ok (.aload_n 0, 1) := by decide +kernel
theorem dX12_most_84 : decode cX12_most 84 = .ok (.invokevirtual 412, 3) := by decide +kernel
theorem dX12_most_87 : decode cX12_most 87 = .ok (.ireturn, 1) := by decide +kernel
theorem dX12_most_88 : decode cX12_most 88 = .ok (.aload_n 0, 1) := by decide +kernel
theorem dX12_most_89 : decode cX12_most 89 = .ok (.iconst 0, 1) := by decide +kernel
theorem dX12_most_90 : decode cX12_most 90 = .ok (.invokevirtual 415, 3) := by decide +kernel
theorem dX12_most_93 : decode cX12_most 93 = .ok (.ireturn, 1) := by decide +kernel
theorem dX12_most_94 : decode cX12_most 94 = .ok (.aload_n 0, 1) := by decide +kernel
theorem dX12_most_95 : decode cX12_most 95 = .ok (.iconst 1, 1) := by decide +kernel
theorem dX12_most_96 : decode cX12_most 96 = .ok (.invokevirtual 415, 3) := by decide +kernel
theorem dX12_most_99 : decode cX12_most 99 = .ok (.ireturn, 1) := by decide +kernel
theorem dX12_most_100 : decode cX12_most 100 = .ok (.aload_n 0, 1) := by decide +kernel
theorem dX12_most_101 : decode cX12_most 101 = .ok (.invokevirtual 418, 3) := by decide +kernel
theorem dX12_most_104 : decode cX12_most 104 = .ok (.ireturn, 1) := by decide +kernel
theorem dX12_most_105 : decode cX12_most 105 = .ok (.aload_n 0, 1) := by decide +kernel
theorem dX12_most_106 : decode cX12_most 106 = .ok (.getfield 37, 3) := by decide +kernel
theorem dX12_most_109 : decode cX12_most 109 = .ok (.aload_n 0, 1) := by decide +kernel
theorem dX12_most_110 : decode cX12_most 110 = .ok (.iconst 0, 1) := by decide +kernel
theorem dX12_most_111 : decode cX12_most 111 = .ok (.invokevirtual 246, 3) := by decide +kernel
theorem dX12_most_114 : decode cX12_most 114 = .ok (.iaload, 1) := by decide +kernel
theorem dX12_most_115 : decode cX12_most 115 = .ok (.aload_n 0, 1) := by decide +kernel
theorem dX12_most_116 : decode cX12_most 116 = .ok (.getfield 37, 3) := by decide +kernel
theorem dX12_most_119 : decode cX12_most 119 = .ok (.aload_n 0, 1) := by decide +kernel
theorem dX12_most_120 : decode cX12_most 120 = .ok (.iconst 1, 1) := by decide +kernel
theorem dX12_most_121 : decode cX12_most 121 = .ok (.invokevirtual 246, 3) := by decide +kernel
theorem dX12_most_124 : decode cX12_most 124 = .ok (.iaload, 1) := by decide +kernel
theorem dX12_most_125 : decode cX12_most 125 = .ok (.iadd, 1) := by decide +kernel
theorem dX12_most_126 : decode cX12_most 126 = .ok (.aload_n 0, 1) := by decide +kernel
theorem dX12_most_127 : decode cX12_most 127 = .ok (.getfield 37, 3) := by decide +kernel
theorem dX12_most_130 : decode cX12_most 130 = .ok (.aload_n 0, 1) := by decide +kernel
theorem dX12_most_131 : decode cX12_most 131 = .ok (.iconst 2, 1) := by decide +kernel
theorem dX12_most_132 : decode cX12_most 132 = .ok (.invokevirtual 246, 3) := by decide +kernel
theorem dX12_most_135 : decode cX12_most 135 = .ok (.iaload, 1) := by decide +kernel
theorem dX12_most_136 : decode cX12_most 136 = .ok (.iadd, 1) := by decide +kernel
theorem dX12_most_137 : decode cX12_most 137 = .ok (.ireturn, 1) := by decide +kernel
theorem dX12_most_138 : decode cX12_most 138 = .ok (.aload_n 0, 1) := by decide +kernel
theorem dX12_most_139 : decode cX12_most 139 = .ok (.invokevirtual 421, 3) := by decide +kernel
theorem dX12_most_142 : decode cX12_most 142 = .ok (.ireturn, 1) := by decide +kernel
set_option maxRecDepth 20000 in
theorem ggX12_image_X12_isField : GoodIn wsX12_image wsX12_isField := goodIn_r _ [8, 9, 25, 26, 27, 28, 29, 30, 31, 32, 33, 34, 35, 36, 37, 38, 39, 40, 41, 42, 43, 44, 45, 46, 47, 48, 49, 50, 51, 52, 53, 54] (by decide +kernel) (by decide +kernel)
set_option maxRecDepth 20000 in
theorem gX12_image_X12_isField : GoodIn wsX12_image (wsV RX12 151 RX12 yX12_isField wsX12_isField) := goodIn_app (goodIn_of _ (by decide +kernel)) ggX12_image_X12_isField
set_option maxRecDepth 20000 in
theorem ggX12_image_X12_knownMany : GoodIn wsX12_image wsX12_knownMany := goodIn_r _ [13, 14, 15, 16, 7, 17, 9, 18, 19, 20, 21, 2, 22, 23, 24, 25, 26, 27, 28, 29, 30, 31, 32, 33, 34, 35, 36, 37, 38, 39, 40, 41, 42, 43, 44, 45, 46, 47, 48, 49, 50, 51, 52, 53, 54] (by decide +kernel) (by decide +kernel)
set_option maxRecDepth 20000 in
theorem gX12_image_X12_knownMany : GoodIn wsX12_image (wsV RX12 219 RX12 yX12_knownMany wsX12_knownMany) := goodIn_app (goodIn_of _ (by decide +kernel)) ggX12_image_X12_knownMany
theorem dX12_image_0 : decode cX12_image 0 = .ok (.aload_n 0, 1) := by decide +kernel
theorem dX12_image_1 : decode cX12_image 1 = .ok (.invokevirtual 151, 3) := by decide +kernel
theorem dX12_image_4 : decode cX12_image 4 = .ok (.ifCond .ne 5, 3) := by decide +kernel
theorem dX12_image_7 : decode cX12_image 7 = .ok (.iconst (-1), 1) := by decide +kernel
theorem dX12_image_8 : decode cX12_image 8 = .ok (.ireturn, 1) := by decide +kernel
theorem dX12_image_9 : decode cX12_image 9 = .ok (.iconst 0, 1) := by decide +kernel
theorem dX12_image_10 : decode cX12_image 10 = .ok (.istore_n 1, 1) := by decide +kernel
theorem dX12_image_11 : decode cX12_image 11 = .ok (.iload_n 1, 1) := by decide +kernel
theorem dX12_image_12 : decode cX12_image 12 = .ok (.sipush 245, 3) := by decide +kernel
theorem dX12_image_15 : decode cX12_image 15 = .ok (.if_icmp .ge 21, 3) := by decide +kernel
theorem dX12_image_18 : decode cX12_image 18 = .ok (.aload_n 0, 1) := by decide +kernel
theorem dX12_image_19 : decode cX12_image 19 = .ok (.getfield 62, 3) := by decide +kernel
theorem dX12_image_22 : decode cX12_image 22 = .ok (.iload_n 1, 1) := by decide +kernel
theorem dX12_image_23 : decode cX12_image 23 = .ok (.aload_n 0, 1) := by decide +kernel
theorem dX12_image_24 : decode cX12_image 24 = .ok (.getfield 37, 3) := by decide +kernel
theorem dX12_image_27 : decode cX12_image 27 = .ok (.iload_n 1, 1) := by decide +kernel
theorem dX12_image_28 : decode cX12_image 28 = .ok (.iaload, 1) := by decide +kernel
theorem dX12_image_29 : decode cX12_image 29 = .ok (.iastore, 1) := by decide +kernel
theorem dX12_image_30 : decode cX12_image 30 = .ok (.iinc 1 1, 3) := by decide +kernel
theorem dX12_image_33 : decode cX12_image 33 = .ok (.goto (-22), 3) := by decide +kernel
theorem dX12_image_36 : decode cX12_image 36 = .ok (.aload_n 0, 1) := by decide +kernel
theorem dX12_image_37 : decode cX12_image 37 = .ok (.iconst 1, 1) := by decide +kernel
theorem dX12_image_38 : decode cX12_image 38 = .ok (.putfield 168, 3) := by decide +kernel
theorem dX12_image_41 : decode cX12_image 41 = .ok (.aload_n 0, 1) := by decide +kernel
theorem dX12_image_42 : decode cX12_image 42 = .ok (.invokevirtual 219, 3) := by decide +kernel
theorem dX12_image_45 : decode cX12_image 45 = .ok (.ireturn, 1) := by decide +kernel
set_option maxRecDepth 20000 in
theorem ggX12_back_X12_knownMany : GoodIn wsX12_back wsX12_knownMany := goodIn_r _ [9, 10, 11, 12, 8, 13, 14, 15, 16, 17, 18, 2, 19, 20, 21, 22, 23, 24, 25, 26, 27, 28, 29, 30, 31, 32, 33, 34, 35, 36, 37, 38, 39, 40, 41, 42, 43, 44, 45, 46, 47, 48, 49, 50, 51] (by decide +kernel) (by decide +kernel)
set_option maxRecDepth 20000 in
theorem gX12_back_X12_knownMany : GoodIn wsX12_back (wsV RX12 219 RX12 yX12_knownMany wsX12_knownMany) := goodIn_app (goodIn_of _ (by decide +kernel)) ggX12_back_X12_knownMany
theorem dX12_back_0 : decode cX12_back 0 = .ok (.aload_n 0, 1) := by decide +kernel
theorem dX12_back_1 : decode cX12_back 1 = .ok (.getfield 168, 3) := by decide +kernel
theorem dX12_back_4 : decode cX12_back 4 = .ok (.ifCond .ne 5, 3) := by decide +kernel
theorem dX12_back_7 : decode cX12_back 7 = .ok (.iconst (-1), 1) := by decide +kernel
theorem dX12_back_8 : decode cX12_back 8 = .ok (.ireturn, 1) := by decide +kernel
theorem dX12_back_9 : decode cX12_back 9 = .ok (.iconst 0, 1) := by decide +kernel
theorem dX12_back_10 : decode cX12_back 10 = .ok (.istore_n 1, 1) := by decide +kernel
theorem dX12_back_11 : decode cX12_back 11 = .ok (.iload_n 1, 1) := by decide +kernel
theorem dX12_back_12 : decode cX12_back 12 = .ok (.sipush 245, 3) := by decide +kernel
theorem dX12_back_15 : decode cX12_back 15 = .ok (.if_icmp .ge 21, 3) := by decide +kernel
theorem dX12_back_18 : decode cX12_back 18 = .ok (.aload_n 0, 1) := by decide +kernel
theorem dX12_back_19 : decode cX12_back 19 = .ok (.getfield 37, 3) := by decide +kernel
theorem dX12_back_22 : decode cX12_back 22 = .ok (.iload_n 1, 1) := by decide +kernel
theorem dX12_back_23 : decode cX12_back 23 = .ok (.aload_n 0, 1) := by decide +kernel
theorem dX12_back_24 : decode cX12_back 24 = .ok (.getfield 62, 3) := by decide +kernel
theorem dX12_back_27 : decode cX12_back 27 = .ok (.iload_n 1, 1) := by decide +kernel
theorem dX12_back_28 : decode cX12_back 28 = .ok (.iaload, 1) := by decide +kernel
theorem dX12_back_29 : decode cX12_back 29 = .ok (.iastore, 1) := by decide +kernel
theorem dX12_back_30 : decode cX12_back 30 = .ok (.iinc 1 1, 3) := by decide +kernel
theorem dX12_back_33 : decode cX12_back 33 = .ok (.goto (-22), 3) := by decide +kernel
theorem dX12_back_36 : decode cX12_back 36 = .ok (.aload_n 0, 1) := by decide +kernel
theorem dX12_back_37 : decode cX12_back 37 = .ok (.iconst 0, 1) := by decide +kernel
theorem dX12_back_38 : decode cX12_back 38 = .ok (.putfield 165, 3) := by decide +kernel
theorem dX12_back_41 : decode cX12_back 41 = .ok (.aload_n 0, 1) := by decide +kernel
theorem dX12_back_42 : decode cX12_back 42 = .ok (.invokevirtual 219, 3) := by decide +kernel
theorem dX12_back_45 : decode cX12_back 45 = .ok (.ireturn, 1) := by decide +kernel
theorem dX12_count_0 : decode cX12_count 0 = .ok (.iload_n 1, 1) := by decide +kernel
theorem dX12_count_1 : decode cX12_count 1 = .ok (.tableswitch 63 0 4 #[35, 40, 45, 50, 58], 35) := by decide +kernel
theorem dX12_count_36 : decode cX12_count 36 = .ok (.aload_n 0, 1) := by decide +kernel
theorem dX12_count_37 : decode cX12_count 37 = .ok (.getfield 148, 3) := by decide +kernel
theorem dX12_count_40 : decode cX12_count 40 = .ok (.ireturn, 1) := by decide +kernel
theorem dX12_count_41 : decode cX12_count 41 = .ok (.aload_n 0, 1) := by decide +kernel
theorem dX12_count_42 : decode cX12_count 42 = .ok (.getfield 175, 3) := by decide +kernel
theorem dX12_count_45 : decode cX12_count 45 = .ok (.ireturn, 1) := by decide +kernel
theorem dX12_count_46 : decode cX12_count 46 = .ok (.aload_n 0, 1) := by decide +kernel
theorem dX12_count_47 : decode cX12_count 47 = .ok (.getfield 73, 3) := by decide +kernel
theorem dX12_count_50 : decode cX12_count 50 = .ok (.ireturn, 1) := by decide +kernel
theorem dX12_count_51 : decode cX12_count 51 = .ok (.aload_n 0, 1) := by decide +kernel
theorem dX12_count_52 : decode cX12_count 52 = .ok (.getfield 37, 3) := by decide +kernel
theorem dX12_count_55 : decode cX12_count 55 = .ok (.bipush 64, 2) := by decide +kernel
theorem dX12_count_57 : decode cX12_count 57 = .ok (.iaload, 1) := by decide +kernel
theorem dX12_count_58 : decode cX12_count 58 = .ok (.ireturn, 1) := by decide +kernel
theorem dX12_count_59 : decode cX12_count 59 = .ok (.aload_n 0, 1) := by decide +kernel
theorem dX12_count_60 : decode cX12_count 60 = .ok (.getfield 165, 3) := by decide +kernel
theorem dX12_count_63 : decode cX12_count 63 = .ok (.ireturn, 1) := by decide +kernel
theorem dX12_count_64 : decode cX12_count 64 = .ok (.ldc_w 313, 3) := by decide +kernel
theorem dX12_count_67 : decode cX12_count 67 = .ok (.ireturn, 1) := by decide +kernel
theorem dJ11_isValidCodePoint_9a6ad_0 : decode cJ11_isValidCodePoint_9a6ad 0 = .ok (.iload_n 0, 1) := by decide +kernel
theorem dJ11_isValidCodePoint_9a6ad_1 : decode cJ11_isValidCodePoint_9a6ad 1 = .ok (.bipush 16, 2) := by decide +kernel
theorem dJ11_isValidCodePoint_9a6ad_3 : decode cJ11_isValidCodePoint_9a6ad 3 = .ok (.iushr, 1) := by decide +kernel
theorem dJ11_isValidCodePoint_9a6ad_4 : decode cJ11_isValidCodePoint_9a6ad 4 = .ok (.istore_n 1, 1) := by decide +kernel
theorem dJ11_isValidCodePoint_9a6ad_5 : decode cJ11_isValidCodePoint_9a6ad 5 = .ok (.iload_n 1, 1) := by decide +kernel
theorem dJ11_isValidCodePoint_9a6ad_6 : decode cJ11_isValidCodePoint_9a6ad 6 = .ok (.bipush 17, 2) := by decide +kernel
theorem dJ11_isValidCodePoint_9a6ad_8 : decode cJ11_isValidCodePoint_9a6ad 8 = .ok (.if_icmp .ge 7, 3) := by decide +kernel
theorem dJ11_isValidCodePoint_9a6ad_11 : decode cJ11_isValidCodePoint_9a6ad 11 = .ok (.iconst 1, 1) := by decide +kernel
theorem dJ11_isValidCodePoint_9a6ad_12 : decode cJ11_isValidCodePoint_9a6ad 12 = .ok (.goto 4, 3) := by decide +kernel
theorem dJ11_isValidCodePoint_9a6ad_15 : decode cJ11_isValidCodePoint_9a6ad 15 = .ok (.iconst 0, 1) := by decide +kernel
theorem dJ11_isValidCodePoint_9a6ad_16 : decode cJ11_isValidCodePoint_9a6ad 16 = .ok (.ireturn, 1) := by decide +kernel
theorem dJ11_highSurrogate_5068e_0 : decode cJ11_highSurrogate_5068e 0 = .ok (.iload_n 0, 1) := by decide +kernel
theorem dJ11_highSurrogate_5068e_1 : decode cJ11_highSurrogate_5068e 1 = .ok (.bipush 10, 2) := by decide +kernel
theorem dJ11_highSurrogate_5068e_3 : decode cJ11_highSurrogate_5068e 3 = .ok (.iushr, 1) := by decide +kernel
theorem dJ11_highSurrogate_5068e_4 : decode cJ11_highSurrogate_5068e 4 = .ok (.ldc 110, 2) := by decide +kernel
theorem dJ11_highSurrogate_5068e_6 : decode cJ11_highSurrogate_5068e 6 = .ok (.iadd, 1) := by decide +kernel
theorem dJ11_highSurrogate_5068e_7 : decode cJ11_highSurrogate_5068e 7 = .ok (.i2c, 1) := by decide +kernel
theorem dJ11_highSurrogate_5068e_8 : decode cJ11_highSurrogate_5068e 8 = .ok (.ireturn, 1) := by decide +kernel
theorem dJ11_lowSurrogate_5068e_0 : decode cJ11_lowSurrogate_5068e 0 = .ok (.iload_n 0, 1) := by decide +kernel
theorem dJ11_lowSurrogate_5068e_1 : decode cJ11_lowSurrogate_5068e 1 = .ok (.sipush 1023, 3) := by decide +kernel
theorem dJ11_lowSurrogate_5068e_4 : decode cJ11_lowSurrogate_5068e 4 = .ok (.iand, 1) := by decide +kernel
theorem dJ11_lowSurrogate_5068e_5 : decode cJ11_lowSurrogate_5068e 5 = .ok (.ldc 76, 2) := by decide +kernel
theorem dJ11_lowSurrogate_5068e_7 : decode cJ11_lowSurrogate_5068e 7 = .ok (.iadd, 1) := by decide +kernel
theorem dJ11_lowSurrogate_5068e_8 : decode cJ11_lowSurrogate_5068e 8 = .ok (.i2c, 1) := by decide +kernel
theorem dJ11_lowSurrogate_5068e_9 : decode cJ11_lowSurrogate_5068e 9 = .ok (.ireturn, 1) := by decide +kernel
theorem dJxe99ae_isNaN_b9ae7_0 : decode cJxe99ae_isNaN_b9ae7 0 = .ok (.dload_n 0, 1) := by decide +kernel
theorem dJxe99ae_isNaN_b9ae7_1 : decode cJxe99ae_isNaN_b9ae7 1 = .ok (.dload_n 0, 1) := by decide +kernel
theorem dJxe99ae_isNaN_b9ae7_2 : decode cJxe99ae_isNaN_b9ae7 2 = .ok (.dcmp .l, 1) := by decide +kernel
theorem dJxe99ae_isNaN_b9ae7_3 : decode cJxe99ae_isNaN_b9ae7 3 = .ok (.ifCond .eq 7, 3) := by decide +kernel
theorem dJxe99ae_isNaN_b9ae7_6 : decode cJxe99ae_isNaN_b9ae7 6 = .ok (.iconst 1, 1) := by decide +kernel
theorem dJxe99ae_isNaN_b9ae7_7 : decode cJxe99ae_isNaN_b9ae7 7 = .ok (.goto 4, 3) := by decide +kernel
theorem dJxe99ae_isNaN_b9ae7_10 : decode cJxe99ae_isNaN_b9ae7 10 = .ok (.iconst 0, 1) := by decide +kernel
theorem dJxe99ae_isNaN_b9ae7_11 : decode cJxe99ae_isNaN_b9ae7 11 = .ok (.ireturn, 1) := by decide +kernel
set_option maxRecDepth 20000 in
theorem ggJxe99ae_doubleToLongBits_ccdee_Jxe99ae_isNaN_b9ae7 : GoodIn wsJxe99ae_doubleToLongBits_ccdee wsJxe99ae_isNaN_b9ae7 := goodIn_r _ [9] (by decide +kernel) (by decide +kernel)
set_option maxRecDepth 20000 in
theorem gJxe99ae_doubleToLongBits_ccdee_Jxe99ae_isNaN_b9ae7 : GoodIn wsJxe99ae_doubleToLongBits_ccdee (va_wsS RJxe99ae 122 yJxe99ae_isNaN_b9ae7 wsJxe99ae_isNaN_b9ae7) := goodIn_app (goodIn_of _ (by decide +kernel)) ggJxe99ae_doubleToLongBits_ccdee_Jxe99ae_isNaN_b9ae7
theorem dJxe99ae_doubleToLongBits_ccdee_0 : decode cJxe99ae_doubleToLongBits_ccdee 0 = .ok (.dload_n 0, 1) := by decide +kernel
theorem dJxe99ae_doubleToLongBits_ccdee_1 : decode cJxe99ae_doubleToLongBits_ccdee 1 = .ok (.invokestatic 122, 3) := by decide +kernel
theorem dJxe99ae_doubleToLongBits_ccdee_4 : decode cJxe99ae_doubleToLongBits_ccdee 4 = .ok (.ifCond .ne 8, 3) := by decide +kernel
theorem dJxe99ae_doubleToLongBits_ccdee_7 : decode cJxe99ae_doubleToLongBits_ccdee 7 = .ok (.dload_n 0, 1) := by decide +kernel
theorem dJxe99ae_doubleToLongBits_ccdee_8 : decode cJxe99ae_doubleToLongBits_ccdee 8 = .ok (.invokestatic 134, 3) := by decide +kernel
theorem dJxe99ae_doubleToLongBits_ccdee_11 : decode cJxe99ae_doubleToLongBits_ccdee 11 = .ok (.lreturn, 1) := by decide +kernel
theorem dJxe99ae_doubleToLongBits_ccdee_12 : decode cJxe99ae_doubleToLongBits_ccdee 12 = .ok (.ldc2_w 137, 3) := by decide +kernel
theorem dJxe99ae_doubleToLongBits_ccdee_15 : decode cJxe99ae_doubleToLongBits_ccdee 15 = .ok (.lreturn, 1) := by decide +kernel
theorem dJxf58ca_isNaN_12338_0 : decode cJxf58ca_isNaN_12338 0 = .ok (.fload_n 0, 1) := by decide +kernel
theorem dJxf58ca_isNaN_12338_1 : decode cJxf58ca_isNaN_12338 1 = .ok (.fload_n 0, 1) := by decide +kernel
theorem dJxf58ca_isNaN_12338_2 : decode cJxf58ca_isNaN_12338 2 = .ok (.fcmp .l, 1) := by decide +kernel
theorem dJxf58ca_isNaN_12338_3 : decode cJxf58ca_isNaN_12338 3 = .ok (.ifCond .eq 7, 3) := by decide +kernel
theorem dJxf58ca_isNaN_12338_6 : decode cJxf58ca_isNaN_12338 6 = .ok (.iconst 1, 1) := by decide +kernel
theorem dJxf58ca_isNaN_12338_7 : decode cJxf58ca_isNaN_12338 7 = .ok (.goto 4, 3) := by decide +kernel
theorem dJxf58ca_isNaN_12338_10 : decode cJxf58ca_isNaN_12338 10 = .ok (.iconst 0, 1) := by decide +kernel
theorem dJxf58ca_isNaN_12338_11 : decode cJxf58ca_isNaN_12338 11 = .ok (.ireturn, 1) := by decide +kernel
set_option maxRecDepth 20000 in
theorem ggJxf58ca_floatToIntBits_5c35a_Jxf58ca_isNaN_12338 : GoodIn wsJxf58ca_floatToIntBits_5c35a wsJxf58ca_isNaN_12338 := goodIn_r _ [9] (by decide +kernel) (by decide +kernel)
set_option maxRecDepth 20000 in
theorem gJxf58ca_floatToIntBits_5c35a_Jxf58ca_isNaN_12338 : GoodIn wsJxf58ca_floatToIntBits_5c35a (va_wsS RJxf58ca 59 yJxf58ca_isNaN_12338 wsJxf58ca_isNaN_12338) := goodIn_app (goodIn_of _ (by decide +kernel)) ggJxf58ca_floatToIntBits_5c35a_Jxf58ca_isNaN_12338
theorem dJxf58ca_floatToIntBits_5c35a_0 : decode cJxf58ca_floatToIntBits_5c35a 0 = .ok (.fload_n 0, 1) := by decide +kernel
theorem dJxf58ca_floatToIntBits_5c35a_1 : decode cJxf58ca_floatToIntBits_5c35a 1 = .ok (.invokestatic 59, 3) := by decide +kernel
theorem dJxf58ca_floatToIntBits_5c35a_4 : decode cJxf58ca_floatToIntBits_5c35a 4 = .ok (.ifCond .ne 8, 3) := by decide +kernel
theorem dJxf58ca_floatToIntBits_5c35a_7 : decode cJxf58ca_floatToIntBits_5c35a 7 = .ok (.fload_n 0, 1) := by decide +kernel
theorem dJxf58ca_floatToIntBits_5c35a_8 : decode cJxf58ca_floatToIntBits_5c35a 8 = .ok (.invokestatic 74, 3) := by decide +kernel
theorem dJxf58ca_floatToIntBits_5c35a_11 : decode cJxf58ca_floatToIntBits_5c35a 11 = .ok (.ireturn, 1) := by decide +kernel
theorem dJxf58ca_floatToIntBits_5c35a_12 : decode cJxf58ca_floatToIntBits_5c35a 12 = .ok (.ldc 77, 2) := by decide +kernel
theorem dJxf58ca_floatToIntBits_5c35a_14 : decode cJxf58ca_floatToIntBits_5c35a 14 = .ok (.ireturn, 1) := by decide +kernel
theorem dJ6_numberOfLeadingZeros_0f7a4_0 : decode cJ6_numberOfLeadingZeros_0f7a4 0 = .ok (.iload_n 0, 1) := by decide +kernel
theorem dJ6_numberOfLeadingZeros_0f7a4_1 : decode cJ6_numberOfLeadingZeros_0f7a4 1 = .ok (.ifCond .gt 14, 3) := by decide +kernel
theorem dJ6_numberOfLeadingZeros_0f7a4_4 : decode cJ6_numberOfLeadingZeros_0f7a4 4 = .ok (.iload_n 0, 1) := by decide +kernel
theorem dJ6_numberOfLeadingZeros_0f7a4_5 : decode cJ6_numberOfLeadingZeros_0f7a4 5 = .ok (.ifCond .ne 8, 3) := by decide +kernel
theorem dJ6_numberOfLeadingZeros_0f7a4_8 : decode cJ6_numberOfLeadingZeros_0f7a4 8 = .ok (.bipush 32, 2) := by decide +kernel
theorem dJ6_numberOfLeadingZeros_0f7a4_10 : decode cJ6_numberOfLeadingZeros_0f7a4 10 = .ok (.goto 4, 3) := by decide +kernel
theorem dJ6_numberOfLeadingZeros_0f7a4_13 : decode cJ6_numberOfLeadingZeros_0f7a4 13 = .ok (.iconst 0, 1) := by decide +kernel
theorem dJ6_numberOfLeadingZeros_0f7a4_14 : decode cJ6_numberOfLeadingZeros_0f7a4 14 = .ok (.ireturn, 1) := by decide +kernel
theorem dJ6_numberOfLeadingZeros_0f7a4_15 : decode cJ6_numberOfLeadingZeros_0f7a4 15 = .ok (.bipush 31, 2) := by decide +kernel
theorem dJ6_numberOfLeadingZeros_0f7a4_17 : decode cJ6_numberOfLeadingZeros_0f7a4 17 = .ok (.istore_n 1, 1) := by decide +kernel
theorem dJ6_numberOfLeadingZeros_0f7a4_18 : decode cJ6_numberOfLeadingZeros_0f7a4 18 = .ok (.iload_n 0, 1) := by decide +kernel
theorem dJ6_numberOfLeadingZeros_0f7a4_19 : decode cJ6_numberOfLeadingZeros_0f7a4 19 = .ok (.ldc_w 264, 3) := by decide +kernel
theorem dJ6_numberOfLeadingZeros_0f7a4_22 : decode cJ6_numberOfLeadingZeros_0f7a4 22 = .ok (.if_icmp .lt 11, 3) := by decide +kernel
theorem dJ6_numberOfLeadingZeros_0f7a4_25 : decode cJ6_numberOfLeadingZeros_0f7a4 25 = .ok (.iinc 1 (-16), 3) := by decide +kernel
theorem dJ6_numberOfLeadingZeros_0f7a4_28 : decode cJ6_numberOfLeadingZeros_0f7a4 28 = .ok (.iload_n 0, 1) := by decide +kernel
theorem dJ6_numberOfLeadingZeros_0f7a4_29 : decode cJ6_numberOfLeadingZeros_0f7a4 29 = .ok (.bipush 16, 2) := by decide +kernel
theorem dJ6_numberOfLeadingZeros_0f7a4_31 : decode cJ6_numberOfLeadingZeros_0f7a4 31 = .ok (.iushr, 1) := by decide +kernel
theorem dJ6_numberOfLeadingZeros_0f7a4_32 : decode cJ6_numberOfLeadingZeros_0f7a4 32 = .ok (.istore_n 0, 1) := by decide +kernel
theorem dJ6_numberOfLeadingZeros_0f7a4_33 : decode cJ6_numberOfLeadingZeros_0f7a4 33 = .ok (.iload_n 0, 1) := by decide +kernel
theorem dJ6_numberOfLeadingZeros_0f7a4_34 : decode cJ6_numberOfLeadingZeros_0f7a4 34 = .ok (.sipush 256, 3) := by decide +kernel
theorem dJ6_numberOfLeadingZeros_0f7a4_37 : decode cJ6_numberOfLeadingZeros_0f7a4 37 = .ok (.if_icmp .lt 11, 3) := by decide +kernel
theorem dJ6_numberOfLeadingZeros_0f7a4_40 : decode cJ6_numberOfLeadingZeros_0f7a4 40 = .ok (.iinc 1 (-8), 3) := by decide +kernel
theorem dJ6_numberOfLeadingZeros_0f7a4_43 : decode cJ6_numberOfLeadingZeros_0f7a4 43 = .ok (.iload_n 0, 1) := by decide +kernel
theorem dJ6_numberOfLeadingZeros_0f7a4_44 : decode cJ6_numberOfLeadingZeros_0f7a4 44 = .ok (.bipush 8, 2) := by decide +kernel
theorem dJ6_numberOfLeadingZeros_0f7a4_46 : decode cJ6_numberOfLeadingZeros_0f7a4 46 = .ok (.iushr, 1) := by decide +kernel
theorem dJ6_numberOfLeadingZeros_0f7a4_47 : decode cJ6_numberOfLeadingZeros_0f7a4 47 = .ok (.istore_n 0, 1) := by decide +kernel
theorem dJ6_numberOfLeadingZeros_0f7a4_48 : decode cJ6_numberOfLeadingZeros_0f7a4 48 = .ok (.iload_n 0, 1) := by decide +kernel
theorem dJ6_numberOfLeadingZeros_0f7a4_49 : decode cJ6_numberOfLeadingZeros_0f7a4 49 = .ok (.bipush 16, 2) := by decide +kernel
theorem dJ6_numberOfLeadingZeros_0f7a4_51 : decode cJ6_numberOfLeadingZeros_0f7a4 51 = .ok (.if_icmp .lt 10, 3) := by decide +kernel
theorem dJ6_numberOfLeadingZeros_0f7a4_54 : decode cJ6_numberOfLeadingZeros_0f7a4 54 = .ok (.iinc 1 (-4), 3) := by decide +kernel
theorem dJ6_numberOfLeadingZeros_0f7a4_57 : decode cJ6_numberOfLeadingZeros_0f7a4 57 = .ok (.iload_n 0, 1) := by decide +kernel
theorem dJ6_numberOfLeadingZeros_0f7a4_58 : decode cJ6_numberOfLeadingZeros_0f7a4 58 = .ok (.iconst 4, 1) := by decide +kernel
theorem dJ6_numberOfLeadingZeros_0f7a4_59 : decode cJ6_numberOfLeadingZeros_0f7a4 59 = .ok (.iushr, 1) := by decide +kernel
theorem dJ6_numberOfLeadingZeros_0f7a4_60 : decode cJ6_numberOfLeadingZeros_0f7a4 60 = .ok (.istore_n 0, 1) := by decide +kernel
theorem dJ6_numberOfLeadingZeros_0f7a4_61 : decode cJ6_numberOfLeadingZeros_0f7a4 61 = .ok (.iload_n 0, 1) := by decide +kernel
theorem dJ6_numberOfLeadingZeros_0f7a4_62 : decode cJ6_numberOfLeadingZeros_0f7a4 62 = .ok (.iconst 4, 1) := by decide +kernel
theorem dJ6_numberOfLeadingZeros_0f7a4_63 : decode cJ6_numberOfLeadingZeros_0f7a4 63 = .ok (.if_icmp .lt 10, 3) := by decide +kernel
theorem dJ6_numberOfLeadingZeros_0f7a4_66 : decode cJ6_numberOfLeadingZeros_0f7a4 66 = .ok (.iinc 1 (-2), 3) := by decide +kernel
theorem dJ6_numberOfLeadingZeros_0f7a4_69 : decode cJ6_numberOfLeadingZeros_0f7a4 69 = .ok (.iload_n 0, 1) := by decide +kernel
theorem dJ6_numberOfLeadingZeros_0f7a4_70 : decode cJ6_numberOfLeadingZeros_0f7a4 70 = .ok (.iconst 2, 1) := by decide +kernel
theorem dJ6_numberOfLeadingZeros_0f7a4_71 : decode cJ6_numberOfLeadingZeros_0f7a4 71 = .ok (.iushr, 1) := by decide +kernel
theorem dJ6_numberOfLeadingZeros_0f7a4_72 : decode cJ6_numberOfLeadingZeros_0f7a4 72 = .ok (.istore_n 0, 1) := by decide +kernel
theorem dJ6_numberOfLeadingZeros_0f7a4_73 : decode cJ6_numberOfLeadingZeros_0f7a4 73 = .ok (.iload_n 1, 1) := by decide +kernel
theorem dJ6_numberOfLeadingZeros_0f7a4_74 : decode cJ6_numberOfLeadingZeros_0f7a4 74 = .ok (.iload_n 0, 1) := by decide +kernel
theorem dJ6_numberOfLeadingZeros_0f7a4_75 : decode cJ6_numberOfLeadingZeros_0f7a4 75 = .ok (.iconst 1, 1) := by decide +kernel
theorem dJ6_numberOfLeadingZeros_0f7a4_76 : decode cJ6_numberOfLeadingZeros_0f7a4 76 = .ok (.iushr, 1) := by decide +kernel
theorem dJ6_numberOfLeadingZeros_0f7a4_77 : decode cJ6_numberOfLeadingZeros_0f7a4 77 = .ok (.isub, 1) := by decide +kernel
theorem dJ6_numberOfLeadingZeros_0f7a4_78 : decode cJ6_numberOfLeadingZeros_0f7a4 78 = .ok (.ireturn, 1) := by decide +kernel
theorem dJ6_numberOfTrailingZeros_0f7a4_0 : decode cJ6_numberOfTrailingZeros_0f7a4 0 = .ok (.iload_n 0, 1) := by decide +kernel
theorem dJ6_numberOfTrailingZeros_0f7a4_1 : decode cJ6_numberOfTrailingZeros_0f7a4 1 = .ok (.iconst (-1), 1) := by decide +kernel
theorem dJ6_numberOfTrailingZeros_0f7a4_2 : decode cJ6_numberOfTrailingZeros_0f7a4 2 = .ok (.ixor, 1) := by decide +kernel
theorem dJ6_numberOfTrailingZeros_0f7a4_3 : decode cJ6_numberOfTrailingZeros_0f7a4 3 = .ok (.iload_n 0, 1) := by decide +kernel
theorem dJ6_numberOfTrailingZeros_0f7a4_4 : decode cJ6_numberOfTrailingZeros_0f7a4 4 = .ok (.iconst 1, 1) := by decide +kernel
theorem dJ6_numberOfTrailingZeros_0f7a4_5 : decode cJ6_numberOfTrailingZeros_0f7a4 5 = .ok (.isub, 1) := by decide +kernel
theorem dJ6_numberOfTrailingZeros_0f7a4_6 : decode cJ6_numberOfTrailingZeros_0f7a4 6 = .ok (.iand, 1) := by decide +kernel
theorem dJ6_numberOfTrailingZeros_0f7a4_7 : decode cJ6_numberOfTrailingZeros_0f7a4 7 = .ok (.istore_n 0, 1) := by decide +kernel
theorem dJ6_numberOfTrailingZeros_0f7a4_8 : decode cJ6_numberOfTrailingZeros_0f7a4 8 = .ok (.iload_n 0, 1) := by decide +kernel
theorem dJ6_numberOfTrailingZeros_0f7a4_9 : decode cJ6_numberOfTrailingZeros_0f7a4 9 = .ok (.ifCond .gt 8, 3) := by decide +kernel
theorem dJ6_numberOfTrailingZeros_0f7a4_12 : decode cJ6_numberOfTrailingZeros_0f7a4 12 = .ok (.iload_n 0, 1) := by decide +kernel
theorem dJ6_numberOfTrailingZeros_0f7a4_13 : decode cJ6_numberOfTrailingZeros_0f7a4 13 = .ok (.bipush 32, 2) := by decide +kernel
theorem dJ6_numberOfTrailingZeros_0f7a4_15 : decode cJ6_numberOfTrailingZeros_0f7a4 15 = .ok (.iand, 1) := by decide +kernel
theorem dJ6_numberOfTrailingZeros_0f7a4_16 : decode cJ6_numberOfTrailingZeros_0f7a4 16 = .ok (.ireturn, 1) := by decide +kernel
theorem dJ6_numberOfTrailingZeros_0f7a4_17 : decode cJ6_numberOfTrailingZeros_0f7a4 17 = .ok (.iconst 1, 1) := by decide +kernel
theorem dJ6_numberOfTrailingZeros_0f7a4_18 : decode cJ6_numberOfTrailingZeros_0f7a4 18 = .ok (.istore_n 1, 1) := by decide +kernel
theorem dJ6_numberOfTrailingZeros_0f7a4_19 : decode cJ6_numberOfTrailingZeros_0f7a4 19 = .ok (.iload_n 0, 1) := by decide +kernel
theorem dJ6_numberOfTrailingZeros_0f7a4_20 : decode cJ6_numberOfTrailingZeros_0f7a4 20 = .ok (.ldc_w 264, 3) := by decide +kernel
theorem dJ6_numberOfTrailingZeros_0f7a4_23 : decode cJ6_numberOfTrailingZeros_0f7a4 23 = .ok (.if_icmp .le 11, 3) := by decide +kernel
theorem dJ6_numberOfTrailingZeros_0f7a4_26 : decode cJ6_numberOfTrailingZeros_0f7a4 26 = .ok (.iinc 1 16, 3) := by decide +kernel
theorem dJ6_numberOfTrailingZeros_0f7a4_29 : decode cJ6_numberOfTrailingZeros_0f7a4 29 = .ok (.iload_n 0, 1) := by decide +kernel
theorem dJ6_numberOfTrailingZeros_0f7a4_30 : decode cJ6_numberOfTrailingZeros_0f7a4 30 = .ok (.bipush 16, 2) := by decide +kernel
theorem dJ6_numberOfTrailingZeros_0f7a4_32 : decode cJ6_numberOfTrailingZeros_0f7a4 32 = .ok (.iushr, 1) := by decide +kernel
theorem dJ6_numberOfTrailingZeros_0f7a4_33 : decode cJ6_numberOfTrailingZeros_0f7a4 33 = .ok (.istore_n 0, 1) := by decide +kernel
theorem dJ6_numberOfTrailingZeros_0f7a4_34 : decode cJ6_numberOfTrailingZeros_0f7a4 34 = .ok (.iload_n 0, 1) := by decide +kernel
theorem dJ6_numberOfTrailingZeros_0f7a4_35 : decode cJ6_numberOfTrailingZeros_0f7a4 35 = .ok (.sipush 256, 3) := by decide +kernel
theorem dJ6_numberOfTrailingZeros_0f7a4_38 : decode cJ6_numberOfTrailingZeros_0f7a4 38 = .ok (.if_icmp .le 11, 3) := by decide +kernel
theorem dJ6_numberOfTrailingZeros_0f7a4_41 : decode cJ6_numberOfTrailingZeros_0f7a4 41 = .ok (.iinc 1 8, 3) := by decide +kernel
theorem dJ6_numberOfTrailingZeros_0f7a4_44 : decode cJ6_numberOfTrailingZeros_0f7a4 44 = .ok (.iload_n 0, 1) := by decide +kernel
theorem dJ6_numberOfTrailingZeros_0f7a4_45 : decode cJ6_numberOfTrailingZeros_0f7a4 45 = .ok (.bipush 8, 2) := by decide +kernel
theorem dJ6_numberOfTrailingZeros_0f7a4_47 : decode cJ6_numberOfTrailingZeros_0f7a4 47 = .ok (.iushr, 1) := by decide +kernel
theorem dJ6_numberOfTrailingZeros_0f7a4_48 : decode cJ6_numberOfTrailingZeros_0f7a4 48 = .ok (.istore_n 0, 1) := by decide +kernel
theorem dJ6_numberOfTrailingZeros_0f7a4_49 : decode cJ6_numberOfTrailingZeros_0f7a4 49 = .ok (.iload_n 0, 1) := by decide +kernel
theorem dJ6_numberOfTrailingZeros_0f7a4_50 : decode cJ6_numberOfTrailingZeros_0f7a4 50 = .ok (.bipush 16, 2) := by decide +kernel
theorem dJ6_numberOfTrailingZeros_0f7a4_52 : decode cJ6_numberOfTrailingZeros_0f7a4 52 = .ok (.if_icmp .le 10, 3) := by decide +kernel
theorem dJ6_numberOfTrailingZeros_0f7a4_55 : decode cJ6_numberOfTrailingZeros_0f7a4 55 = .ok (.iinc 1 4, 3) := by decide +kernel
theorem dJ6_numberOfTrailingZeros_0f7a4_58 : decode cJ6_numberOfTrailingZeros_0f7a4 58 = .ok (.iload_n 0, 1) := by decide +kernel
theorem dJ6_numberOfTrailingZeros_0f7a4_59 : decode cJ6_numberOfTrailingZeros_0f7a4 59 = .ok (.iconst 4, 1) := by decide +kernel
theorem dJ6_numberOfTrailingZeros_0f7a4_60 : decode cJ6_numberOfTrailingZeros_0f7a4 60 = .ok (.iushr, 1) := by decide +kernel
theorem dJ6_numberOfTrailingZeros_0f7a4_61 : decode cJ6_numberOfTrailingZeros_0f7a4 61 = .ok (.istore_n 0, 1) := by decide +kernel
theorem dJ6_numberOfTrailingZeros_0f7a4_62 : decode cJ6_numberOfTrailingZeros_0f7a4 62 = .ok (.iload_n 0, 1) := by decide +kernel
theorem dJ6_numberOfTrailingZeros_0f7a4_63 : decode cJ6_numberOfTrailingZeros_0f7a4 63 = .ok (.iconst 4, 1) := by decide +kernel
theorem dJ6_numberOfTrailingZeros_0f7a4_64 : decode cJ6_numberOfTrailingZeros_0f7a4 64 = .ok (.if_icmp .le 10, 3) := by decide +kernel
theorem dJ6_numberOfTrailingZeros_0f7a4_67 : decode cJ6_numberOfTrailingZeros_0f7a4 67 = .ok (.iinc 1 2, 3) := by decide +kernel
theorem dJ6_numberOfTrailingZeros_0f7a4_70 : decode cJ6_numberOfTrailingZeros_0f7a4 70 = .ok (.iload_n 0, 1) := by decide +kernel
theorem dJ6_numberOfTrailingZeros_0f7a4_71 : decode cJ6_numberOfTrailingZeros_0f7a4 71 = .ok (.iconst 2, 1) := by decide +kernel
theorem dJ6_numberOfTrailingZeros_0f7a4_72 : decode cJ6_numberOfTrailingZeros_0f7a4 72 = .ok (.iushr, 1) := by decide +kernel
theorem dJ6_numberOfTrailingZeros_0f7a4_73 : decode cJ6_numberOfTrailingZeros_0f7a4 73 = .ok (.istore_n 0, 1) := by decide +kernel
theorem dJ6_numberOfTrailingZeros_0f7a4_74 : decode cJ6_numberOfTrailingZeros_0f7a4 74 = .ok (.iload_n 1, 1) := by decide +kernel
theorem dJ6_numberOfTrailingZeros_0f7a4_75 : decode cJ6_numberOfTrailingZeros_0f7a4 75 = .ok (.iload_n 0, 1) := by decide +kernel
theorem dJ6_numberOfTrailingZeros_0f7a4_76 : decode cJ6_numberOfTrailingZeros_0f7a4 76 = .ok (.iconst 1, 1) := by decide +kernel
theorem dJ6_numberOfTrailingZeros_0f7a4_77 : decode cJ6_numberOfTrailingZeros_0f7a4 77 = .ok (.iushr, 1) := by decide +kernel
theorem dJ6_numberOfTrailingZeros_0f7a4_78 : decode cJ6_numberOfTrailingZeros_0f7a4 78 = .ok (.iadd, 1) := by decide +kernel
theorem dJ6_numberOfTrailingZeros_0f7a4_79 : decode cJ6_numberOfTrailingZeros_0f7a4 79 = .ok (.ireturn, 1) := by decide +kernel
theorem dJ6_bitCount_0f7a4_0 : decode cJ6_bitCount_0f7a4 0 = .ok (.iload_n 0, 1) := by decide +kernel
theorem dJ6_bitCount_0f7a4_1 : decode cJ6_bitCount_0f7a4 1 = .ok (.iload_n 0, 1) := by decide +kernel
theorem dJ6_bitCount_0f7a4_2 : decode cJ6_bitCount_0f7a4 2 = .ok (.iconst 1, 1) := by decide +kernel
theorem dJ6_bitCount_0f7a4_3 : decode cJ6_bitCount_0f7a4 3 = .ok (.iushr, 1) := by decide +kernel
theorem dJ6_bitCount_0f7a4_4 : decode cJ6_bitCount_0f7a4 4 = .ok (.ldc_w 265, 3) := by decide +kernel
theorem dJ6_bitCount_0f7a4_7 : decode cJ6_bitCount_0f7a4 7 = .ok (.iand, 1) := by decide +kernel
theorem dJ6_bitCount_0f7a4_8 : decode cJ6_bitCount_0f7a4 8 = .ok (.isub, 1) := by decide +kernel
theorem dJ6_bitCount_0f7a4_9 : decode cJ6_bitCount_0f7a4 9 = .ok (.istore_n 0, 1) := by decide +kernel
theorem dJ6_bitCount_0f7a4_10 : decode cJ6_bitCount_0f7a4 10 = .ok (.iload_n 0, 1) := by decide +kernel
theorem dJ6_bitCount_0f7a4_11 : decode cJ6_bitCount_0f7a4 11 = .ok (.ldc_w 266, 3) := by decide +kernel
theorem dJ6_bitCount_0f7a4_14 : decode cJ6_bitCount_0f7a4 14 = .ok (.iand, 1) := by decide +kernel
theorem dJ6_bitCount_0f7a4_15 : decode cJ6_bitCount_0f7a4 15 = .ok (.iload_n 0, 1) := by decide +kernel
theorem dJ6_bitCount_0f7a4_16 : decode cJ6_bitCount_0f7a4 16 = .ok (.iconst 2, 1) := by decide +kernel
theorem dJ6_bitCount_0f7a4_17 : decode cJ6_bitCount_0f7a4 17 = .ok (.iushr, 1) := by decide +kernel
theorem dJ6_bitCount_0f7a4_18 : decode cJ6_bitCount_0f7a4 18 = .ok (.ldc_w 266, 3) := by decide +kernel
theorem dJ6_bitCount_0f7a4_21 : decode cJ6_bitCount_0f7a4 21 = .ok (.iand, 1) := by decide +kernel
theorem dJ6_bitCount_0f7a4_22 : decode cJ6_bitCount_0f7a4 22 = .ok (.iadd, 1) := by decide +kernel
theorem dJ6_bitCount_0f7a4_23 : decode cJ6_bitCount_0f7a4 23 = .ok (.istore_n 0, 1) := by decide +kernel
theorem dJ6_bitCount_0f7a4_24 : decode cJ6_bitCount_0f7a4 24 = .ok (.iload_n 0, 1) := by decide +kernel
theorem dJ6_bitCount_0f7a4_25 : decode cJ6_bitCount_0f7a4 25 = .ok (.iload_n 0, 1) := by decide +kernel
theorem dJ6_bitCount_0f7a4_26 : decode cJ6_bitCount_0f7a4 26 = .ok (.iconst 4, 1) := by decide +kernel
theorem dJ6_bitCount_0f7a4_27 : decode cJ6_bitCount_0f7a4 27 = .ok (.iushr, 1) := by decide +kernel
theorem dJ6_bitCount_0f7a4_28 : decode cJ6_bitCount_0f7a4 28 = .ok (.iadd, 1) := by decide +kernel
theorem dJ6_bitCount_0f7a4_29 : decode cJ6_bitCount_0f7a4 29 = .ok (.ldc_w 267, 3) := by decide +kernel
theorem dJ6_bitCount_0f7a4_32 : decode cJ6_bitCount_0f7a4 32 = .ok (.iand, 1) := by decide +kernel
theorem dJ6_bitCount_0f7a4_33 : decode cJ6_bitCount_0f7a4 33 = .ok (.istore_n 0, 1) := by decide +kernel
theorem dJ6_bitCount_0f7a4_34 : decode cJ6_bitCount_0f7a4 34 = .ok (.iload_n 0, 1) := by decide +kernel
theorem dJ6_bitCount_0f7a4_35 : decode cJ6_bitCount_0f7a4 35 = .ok (.iload_n 0, 1) := by decide +kernel
theorem dJ6_bitCount_0f7a4_36 : decode cJ6_bitCount_0f7a4 36 = .ok (.bipush 8, 2) := by decide +kernel
theorem dJ6_bitCount_0f7a4_38 : decode cJ6_bitCount_0f7a4 38 = .ok (.iushr, 1) := by decide +kernel
theorem dJ6_bitCount_0f7a4_39 : decode cJ6_bitCount_0f7a4 39 = .ok (.iadd, 1) := by decide +kernel
theorem dJ6_bitCount_0f7a4_40 : decode cJ6_bitCount_0f7a4 40 = .ok (.istore_n 0, 1) := by decide +kernel
theorem dJ6_bitCount_0f7a4_41 : decode cJ6_bitCount_0f7a4 41 = .ok (.iload_n 0, 1) := by decide +kernel
theorem dJ6_bitCount_0f7a4_42 : decode cJ6_bitCount_0f7a4 42 = .ok (.iload_n 0, 1) := by decide +kernel
theorem dJ6_bitCount_0f7a4_43 : decode cJ6_bitCount_0f7a4 43 = .ok (.bipush 16, 2) := by decide +kernel
theorem dJ6_bitCount_0f7a4_45 : decode cJ6_bitCount_0f7a4 45 = .ok (.iushr, 1) := by decide +kernel
theorem dJ6_bitCount_0f7a4_46 : decode cJ6_bitCount_0f7a4 46 = .ok (.iadd, 1) := by decide +kernel
theorem dJ6_bitCount_0f7a4_47 : decode cJ6_bitCount_0f7a4 47 = .ok (.istore_n 0, 1) := by decide +kernel
theorem dJ6_bitCount_0f7a4_48 : decode cJ6_bitCount_0f7a4 48 = .ok (.iload_n 0, 1) := by decide +kernel
theorem dJ6_bitCount_0f7a4_49 : decode cJ6_bitCount_0f7a4 49 = .ok (.bipush 63, 2) := by decide +kernel
theorem dJ6_bitCount_0f7a4_51 : decode cJ6_bitCount_0f7a4 51 = .ok (.iand, 1) := by decide +kernel
theorem dJ6_bitCount_0f7a4_52 : decode cJ6_bitCount_0f7a4 52 = .ok (.ireturn, 1) := by decide +kernel
theorem dJ13_bitCount_95d88_0 : decode cJ13_bitCount_95d88 0 = .ok (.lload_n 0, 1) := by decide +kernel
theorem dJ13_bitCount_95d88_1 : decode cJ13_bitCount_95d88 1 = .ok (.lload_n 0, 1) := by decide +kernel
theorem dJ13_bitCount_95d88_2 : decode cJ13_bitCount_95d88 2 = .ok (.iconst 1, 1) := by decide +kernel
theorem dJ13_bitCount_95d88_3 : decode cJ13_bitCount_95d88 3 = .ok (.lushr, 1) := by decide +kernel
theorem dJ13_bitCount_95d88_4 : decode cJ13_bitCount_95d88 4 = .ok (.ldc2_w 314, 3) := by decide +kernel
theorem dJ13_bitCount_95d88_7 : decode cJ13_bitCount_95d88 7 = .ok (.land, 1) := by decide +kernel
theorem dJ13_bitCount_95d88_8 : decode cJ13_bitCount_95d88 8 = .ok (.lsub, 1) := by decide +kernel
theorem dJ13_bitCount_95d88_9 : decode cJ13_bitCount_95d88 9 = .ok (.lstore_n 0, 1) := by decide +kernel
theorem dJ13_bitCount_95d88_10 : decode cJ13_bitCount_95d88 10 = .ok (.lload_n 0, 1) := by decide +kernel
theorem dJ13_bitCount_95d88_11 : decode cJ13_bitCount_95d88 11 = .ok (.ldc2_w 316, 3) := by decide +kernel
theorem dJ13_bitCount_95d88_14 : decode cJ13_bitCount_95d88 14 = .ok (.land, 1) := by decide +kernel
theorem dJ13_bitCount_95d88_15 : decode cJ13_bitCount_95d88 15 = .ok (.lload_n 0, 1) := by decide +kernel
theorem dJ13_bitCount_95d88_16 : decode cJ13_bitCount_95d88 16 = .ok (.iconst 2, 1) := by decide +kernel
theorem dJ13_bitCount_95d88_17 : decode cJ13_bitCount_95d88 17 = .ok (.lushr, 1) := by decide +kernel
theorem dJ13_bitCount_95d88_18 : decode cJ13_bitCount_95d88 18 = .ok (.ldc2_w 316, 3) := by decide +kernel
theorem dJ13_bitCount_95d88_21 : decode cJ13_bitCount_95d88 21 = .ok (.land, 1) := by decide +kernel
theorem dJ13_bitCount_95d88_22 : decode cJ13_bitCount_95d88 22 = .ok (.ladd, 1) := by decide +kernel
theorem dJ13_bitCount_95d88_23 : decode cJ13_bitCount_95d88 23 = .ok (.lstore_n 0, 1) := by decide +kernel
theorem dJ13_bitCount_95d88_24 : decode cJ13_bitCount_95d88 24 = .ok (.lload_n 0, 1) := by decide +kernel
theorem dJ13_bitCount_95d88_25 : decode cJ13_bitCount_95d88 25 = .ok (.lload_n 0, 1) := by decide +kernel
theorem dJ13_bitCount_95d88_26 : decode cJ13_bitCount_95d88 26 = .ok (.iconst 4, 1) := by decide +kernel
theorem dJ13_bitCount_95d88_27 : decode cJ13_bitCount_95d88 27 = .ok (.lushr, 1) := by decide +kernel
theorem dJ13_bitCount_95d88_28 : decode cJ13_bitCount_95d88 28 = .ok (.ladd, 1) := by decide +kernel
theorem dJ13_bitCount_95d88_29 : decode cJ13_bitCount_95d88 29 = .ok (.ldc2_w 318, 3) := by decide +kernel
theorem dJ13_bitCount_95d88_32 : decode cJ13_bitCount_95d88 32 = .ok (.land, 1) := by decide +kernel
theorem dJ13_bitCount_95d88_33 : decode cJ13_bitCount_95d88 33 = .ok (.lstore_n 0, 1) := by decide +kernel
theorem dJ13_bitCount_95d88_34 : decode cJ13_bitCount_95d88 34 = .ok (.lload_n 0, 1) := by decide +kernel
theorem dJ13_bitCount_95d88_35 : decode cJ13_bitCount_95d88 35 = .ok (.lload_n 0, 1) := by decide +kernel
theorem dJ13_bitCount_95d88_36 : decode cJ13_bitCount_95d88 36 = .ok (.bipush 8, 2) := by decide +kernel
theorem dJ13_bitCount_95d88_38 : decode cJ13_bitCount_95d88 38 = .ok (.lushr, 1) := by decide +kernel
theorem dJ13_bitCount_95d88_39 : decode cJ13_bitCount_95d88 39 = .ok (.ladd, 1) := by decide +kernel
theorem dJ13_bitCount_95d88_40 : decode cJ13_bitCount_95d88 40 = .ok (.lstore_n 0, 1) := by decide +kernel
theorem dJ13_bitCount_95d88_41 : decode cJ13_bitCount_95d88 41 = .ok (.lload_n 0, 1) := by decide +kernel
theorem dJ13_bitCount_95d88_42 : decode cJ13_bitCount_95d88 42 = .ok (.lload_n 0, 1) := by decide +kernel
theorem dJ13_bitCount_95d88_43 : decode cJ13_bitCount_95d88 43 = .ok (.bipush 16, 2) := by decide +kernel
theorem dJ13_bitCount_95d88_45 : decode cJ13_bitCount_95d88 45 = .ok (.lushr, 1) := by decide +kernel
theorem dJ13_bitCount_95d88_46 : decode cJ13_bitCount_95d88 46 = .ok (.ladd, 1) := by decide +kernel
theorem dJ13_bitCount_95d88_47 : decode cJ13_bitCount_95d88 47 = .ok (.lstore_n 0, 1) := by decide +kernel
theorem dJ13_bitCount_95d88_48 : decode cJ13_bitCount_95d88 48 = .ok (.lload_n 0, 1) := by decide +kernel
theorem dJ13_bitCount_95d88_49 : decode cJ13_bitCount_95d88 49 = .ok (.lload_n 0, 1) := by decide +kernel
theorem dJ13_bitCount_95d88_50 : decode cJ13_bitCount_95d88 50 = .ok (.bipush 32, 2) := by decide +kernel
theorem dJ13_bitCount_95d88_52 : decode cJ13_bitCount_95d88 52 = .ok (.lushr, 1) := by decide +kernel
theorem dJ13_bitCount_95d88_53 : decode cJ13_bitCount_95d88 53 = .ok (.ladd, 1) := by decide +kernel
theorem dJ13_bitCount_95d88_54 : decode cJ13_bitCount_95d88 54 = .ok (.lstore_n 0, 1) := by decide +kernel
theorem dJ13_bitCount_95d88_55 : decode cJ13_bitCount_95d88 55 = .ok (.lload_n 0, 1) := by decide +kernel
theorem dJ13_bitCount_95d88_56 : decode cJ13_bitCount_95d88 56 = .ok (.l2i, 1) := by decide +kernel
theorem dJ13_bitCount_95d88_57 : decode cJ13_bitCount_95d88 57 = .ok (.bipush 127, 2) := by decide +kernel
theorem dJ13_bitCount_95d88_59 : decode cJ13_bitCount_95d88 59 = .ok (.iand, 1) := by decide +kernel
theorem dJ13_bitCount_95d88_60 : decode cJ13_bitCount_95d88 60 = .ok (.ireturn, 1) := by decide +kernel
theorem dJ9_floorMod_7cf53_0 : decode cJ9_floorMod_7cf53 0 = .ok (.iload_n 0, 1) := by decide +kernel
theorem dJ9_floorMod_7cf53_1 : decode cJ9_floorMod_7cf53 1 = .ok (.iload_n 1, 1) := by decide +kernel
theorem dJ9_floorMod_7cf53_2 : decode cJ9_floorMod_7cf53 2 = .ok (.irem, 1) := by decide +kernel
theorem dJ9_floorMod_7cf53_3 : decode cJ9_floorMod_7cf53 3 = .ok (.istore_n 2, 1) := by decide +kernel
theorem dJ9_floorMod_7cf53_4 : decode cJ9_floorMod_7cf53 4 = .ok (.iload_n 0, 1) := by decide +kernel
theorem dJ9_floorMod_7cf53_5 : decode cJ9_floorMod_7cf53 5 = .ok (.iload_n 1, 1) := by decide +kernel
theorem dJ9_floorMod_7cf53_6 : decode cJ9_floorMod_7cf53 6 = .ok (.ixor, 1) := by decide +kernel
theorem dJ9_floorMod_7cf53_7 : decode cJ9_floorMod_7cf53 7 = .ok (.ifCond .ge 11, 3) := by decide +kernel
theorem dJ9_floorMod_7cf53_10 : decode cJ9_floorMod_7cf53 10 = .ok (.iload_n 2, 1) := by decide +kernel
theorem dJ9_floorMod_7cf53_11 : decode cJ9_floorMod_7cf53 11 = .ok (.ifCond .eq 7, 3) := by decide +kernel
theorem dJ9_floorMod_7cf53_14 : decode cJ9_floorMod_7cf53 14 = .ok (.iload_n 2, 1) := by decide +kernel
theorem dJ9_floorMod_7cf53_15 : decode cJ9_floorMod_7cf53 15 = .ok (.iload_n 1, 1) := by decide +kernel
theorem dJ9_floorMod_7cf53_16 : decode cJ9_floorMod_7cf53 16 = .ok (.iadd, 1) := by decide +kernel
theorem dJ9_floorMod_7cf53_17 : decode cJ9_floorMod_7cf53 17 = .ok (.ireturn, 1) := by decide +kernel
theorem dJ9_floorMod_7cf53_18 : decode cJ9_floorMod_7cf53 18 = .ok (.iload_n 2, 1) := by decide +kernel
theorem dJ9_floorMod_7cf53_19 : decode cJ9_floorMod_7cf53 19 = .ok (.ireturn, 1) := by decide +kernel
theorem dJ9_max_7cf53_0 : decode cJ9_max_7cf53 0 = .ok (.iload_n 0, 1) := by decide +kernel
theorem dJ9_max_7cf53_1 : decode cJ9_max_7cf53 1 = .ok (.iload_n 1, 1) := by decide +kernel
theorem dJ9_max_7cf53_2 : decode cJ9_max_7cf53 2 = .ok (.if_icmp .lt 7, 3) := by decide +kernel
theorem dJ9_max_7cf53_5 : decode cJ9_max_7cf53 5 = .ok (.iload_n 0, 1) := by decide +kernel
theorem dJ9_max_7cf53_6 : decode cJ9_max_7cf53 6 = .ok (.goto 4, 3) := by decide +kernel
theorem dJ9_max_7cf53_9 : decode cJ9_max_7cf53 9 = .ok (.iload_n 1, 1) := by decide +kernel
theorem dJ9_max_7cf53_10 : decode cJ9_max_7cf53 10 = .ok (.ireturn, 1) := by decide +kernel
theorem dJ9_min_7cf53_0 : decode cJ9_min_7cf53 0 = .ok (.iload_n 0, 1) := by decide +kernel
theorem dJ9_min_7cf53_1 : decode cJ9_min_7cf53 1 = .ok (.iload_n 1, 1) := by decide +kernel
theorem dJ9_min_7cf53_2 : decode cJ9_min_7cf53 2 = .ok (.if_icmp .gt 7, 3) := by decide +kernel
theorem dJ9_min_7cf53_5 : decode cJ9_min_7cf53 5 = .ok (.iload_n 0, 1) := by decide +kernel
theorem dJ9_min_7cf53_6 : decode cJ9_min_7cf53 6 = .ok (.goto 4, 3) := by decide +kernel
theorem dJ9_min_7cf53_9 : decode cJ9_min_7cf53 9 = .ok (.iload_n 1, 1) := by decide +kernel
theorem dJ9_min_7cf53_10 : decode cJ9_min_7cf53 10 = .ok (.ireturn, 1) := by decide +kernel
theorem dJ9_min_eb370_0 : decode cJ9_min_eb370 0 = .ok (.dload_n 0, 1) := by decide +kernel
theorem dJ9_min_eb370_1 : decode cJ9_min_eb370 1 = .ok (.dload_n 0, 1) := by decide +kernel
theorem dJ9_min_eb370_2 : decode cJ9_min_eb370 2 = .ok (.dcmp .l, 1) := by decide +kernel
theorem dJ9_min_eb370_3 : decode cJ9_min_eb370 3 = .ok (.ifCond .eq 5, 3) := by decide +kernel
theorem dJ9_min_eb370_6 : decode cJ9_min_eb370 6 = .ok (.dload_n 0, 1) := by decide +kernel
theorem dJ9_min_eb370_7 : decode cJ9_min_eb370 7 = .ok (.dreturn, 1) := by decide +kernel
theorem dJ9_min_eb370_8 : decode cJ9_min_eb370 8 = .ok (.dload_n 0, 1) := by decide +kernel
theorem dJ9_min_eb370_9 : decode cJ9_min_eb370 9 = .ok (.dconst 0, 1) := by decide +kernel
theorem dJ9_min_eb370_10 : decode cJ9_min_eb370 10 = .ok (.dcmp .l, 1) := by decide +kernel
theorem dJ9_min_eb370_11 : decode cJ9_min_eb370 11 = .ok (.ifCond .ne 22, 3) := by decide +kernel
theorem dJ9_min_eb370_14 : decode cJ9_min_eb370 14 = .ok (.dload_n 2, 1) := by decide +kernel
theorem dJ9_min_eb370_15 : decode cJ9_min_eb370 15 = .ok (.dconst 0, 1) := by decide +kernel
theorem dJ9_min_eb370_16 : decode cJ9_min_eb370 16 = .ok (.dcmp .l, 1) := by decide +kernel
theorem dJ9_min_eb370_17 : decode cJ9_min_eb370 17 = .ok (.ifCond .ne 16, 3) := by decide +kernel
theorem dJ9_min_eb370_20 : decode cJ9_min_eb370 20 = .ok (.dload_n 2, 1) := by decide +kernel
theorem dJ9_min_eb370_21 : decode cJ9_min_eb370 21 = .ok (.invokestatic 79, 3) := by decide +kernel
theorem dJ9_min_eb370_24 : decode cJ9_min_eb370 24 = .ok (.getstatic 174, 3) := by decide +kernel
theorem dJ9_min_eb370_27 : decode cJ9_min_eb370 27 = .ok (.lcmp, 1) := by decide +kernel
theorem dJ9_min_eb370_28 : decode cJ9_min_eb370 28 = .ok (.ifCond .ne 5, 3) := by decide +kernel
theorem dJ9_min_eb370_31 : decode cJ9_min_eb370 31 = .ok (.dload_n 2, 1) := by decide +kernel
theorem dJ9_min_eb370_32 : decode cJ9_min_eb370 32 = .ok (.dreturn, 1) := by decide +kernel
theorem dJ9_min_eb370_33 : decode cJ9_min_eb370 33 = .ok (.dload_n 0, 1) := by decide +kernel
theorem dJ9_min_eb370_34 : decode cJ9_min_eb370 34 = .ok (.dload_n 2, 1) := by decide +kernel
theorem dJ9_min_eb370_35 : decode cJ9_min_eb370 35 = .ok (.dcmp .g, 1) := by decide +kernel
theorem dJ9_min_eb370_36 : decode cJ9_min_eb370 36 = .ok (.ifCond .gt 7, 3) := by decide +kernel
theorem dJ9_min_eb370_39 : decode cJ9_min_eb370 39 = .ok (.dload_n 0, 1) := by decide +kernel
theorem dJ9_min_eb370_40 : decode cJ9_min_eb370 40 = .ok (.goto 4, 3) := by decide +kernel
theorem dJ9_min_eb370_43 : decode cJ9_min_eb370 43 = .ok (.dload_n 2, 1) := by decide +kernel
theorem dJ9_min_eb370_44 : decode cJ9_min_eb370 44 = .ok (.dreturn, 1) := by decide +kernel
set_option maxRecDepth 20000 in
theorem ggJ0_length_8abf5_J0_coder_7d493 : GoodIn wsJ0_length_8abf5 wsJ0_coder_7d493 := goodIn_r _ [6, 7, 8] (by decide +kernel) (by decide +kernel)
set_option maxRecDepth 20000 in
theorem gJ0_length_8abf5_J0_coder_7d493 : GoodIn wsJ0_length_8abf5 (wsV RJ0 335 RJ0 yJ0_coder_7d493 wsJ0_coder_7d493) := goodIn_app (goodIn_of _ (by decide +kernel)) ggJ0_length_8abf5_J0_coder_7d493
theorem dJ0_length_8abf5_0 : decode cJ0_length_8abf5 0 = .ok (.aload_n 0, 1) := by decide +kernel
theorem dJ0_length_8abf5_1 : decode cJ0_length_8abf5 1 = .ok (.getfield 9, 3) := by decide +kernel
theorem dJ0_length_8abf5_4 : decode cJ0_length_8abf5 4 = .ok (.arraylength, 1) := by decide +kernel
theorem dJ0_length_8abf5_5 : decode cJ0_length_8abf5 5 = .ok (.aload_n 0, 1) := by decide +kernel
theorem dJ0_length_8abf5_6 : decode cJ0_length_8abf5 6 = .ok (.invokevirtual 335, 3) := by decide +kernel
theorem dJ0_length_8abf5_9 : decode cJ0_length_8abf5 9 = .ok (.ishr, 1) := by decide +kernel
theorem dJ0_length_8abf5_10 : decode cJ0_length_8abf5 10 = .ok (.ireturn, 1) := by decide +kernel
set_option maxRecDepth 20000 in
theorem ggJ0_indexOf_0f7a4_J0_indexOf_7cf53 : GoodIn wsJ0_indexOf_0f7a4 wsJ0_indexOf_7cf53 := goodIn_r _ [5, 6, 7, 8, 9, 4, 10, 11, 12, 13, 14, 15, 16, 17, 18, 19, 20, 21, 22, 23, 24, 25, 26, 27, 28, 29, 30, 31, 32, 33, 34, 35, 36, 37, 38, 39, 40, 41, 42, 43, 44, 45, 46, 47, 48, 49, 50, 51, 52, 53, 54, 55, 56, 57, 58, 59, 60, 61, 62, 63, 64, 65, 66, 67, 68, 69, 70, 71, 72, 73, 74, 75, 76, 77, 78, 79, 80, 81, 82, 83, 84, 85] (by decide +kernel) (by decide +kernel)
set_option maxRecDepth 20000 in
theorem gJ0_indexOf_0f7a4_J0_indexOf_7cf53 : GoodIn wsJ0_indexOf_0f7a4 (wsV RJ0 633 RJ0 yJ0_indexOf_7cf53 wsJ0_indexOf_7cf53) := goodIn_app (goodIn_of _ (by decide +kernel)) ggJ0_indexOf_0f7a4_J0_indexOf_7cf53
theorem dJ0_indexOf_0f7a4_0 : decode cJ0_indexOf_0f7a4 0 = .ok (.aload_n 0, 1) := by decide +kernel
theorem dJ0_indexOf_0f7a4_1 : decode cJ0_indexOf_0f7a4 1 = .ok (.iload_n 1, 1) := by decide +kernel
theorem dJ0_indexOf_0f7a4_2 : decode cJ0_indexOf_0f7a4 2 = .ok (.iconst 0, 1) := by decide +kernel
theorem dJ0_indexOf_0f7a4_3 : decode cJ0_indexOf_0f7a4 3 = .ok (.invokevirtual 633, 3) := by decide +kernel
theorem dJ0_indexOf_0f7a4_6 : decode cJ0_indexOf_0f7a4 6 = .ok (.ireturn, 1) := by decide +kernel
set_option maxRecDepth 20000 in
theorem ggJ0_indexOf_7cf53_J0_isLatin1_aae02 : GoodIn wsJ0_indexOf_7cf53 wsJ0_isLatin1_aae02 := goodIn_r _ [6, 7, 8] (by decide +kernel) (by decide +kernel)
set_option maxRecDepth 20000 in
theorem gJ0_indexOf_7cf53_J0_isLatin1_aae02 : GoodIn wsJ0_indexOf_7cf53 (wsV RJ0 492 RJ0 yJ0_isLatin1_aae02 wsJ0_isLatin1_aae02) := goodIn_app (goodIn_of _ (by decide +kernel)) ggJ0_indexOf_7cf53_J0_isLatin1_aae02
set_option maxRecDepth 20000 in
theorem ggJ0_indexOf_7cf53_J0_length_8abf5 : GoodIn wsJ0_indexOf_7cf53 wsJ0_length_8abf5 := goodIn_r _ [12, 1, 13, 14, 15, 5, 16, 7, 8] (by decide +kernel) (by decide +kernel)
set_option maxRecDepth 20000 in
theorem gJ0_indexOf_7cf53_J0_length_8abf5 : GoodIn wsJ0_indexOf_7cf53 (wsV RJ0 505 RJ0 yJ0_length_8abf5 wsJ0_length_8abf5) := goodIn_app (goodIn_of _ (by decide +kernel)) ggJ0_indexOf_7cf53_J0_length_8abf5
set_option maxRecDepth 20000 in
theorem ggJ0_indexOf_7cf53_J1_indexOf_4cfef : GoodIn wsJ0_indexOf_7cf53 wsJ1_indexOf_4cfef := goodIn_r _ [20, 21, 22, 23, 24, 25, 26, 27, 28, 29, 19, 30, 31, 32, 33] (by decide +kernel) (by decide +kernel)
set_option maxRecDepth 20000 in
theorem gJ0_indexOf_7cf53_J1_indexOf_4cfef : GoodIn wsJ0_indexOf_7cf53 (va_wsS RJ0 637 yJ1_indexOf_4cfef wsJ1_indexOf_4cfef) := goodIn_app (goodIn_of _ (by decide +kernel)) ggJ0_indexOf_7cf53_J1_indexOf_4cfef
set_option maxRecDepth 20000 in
theorem ggJ0_indexOf_7cf53_J2_indexOf_4cfef : GoodIn wsJ0_indexOf_7cf53 wsJ2_indexOf_4cfef := goodIn_r _ [37, 38, 22, 23, 24, 39, 26, 27, 40, 41, 42, 36, 43, 44, 45, 46, 47, 48, 49, 50, 51, 5, 52, 53, 54, 55, 56, 57, 58, 59, 60, 61, 62, 63, 64, 65, 66, 67, 68, 69, 70, 71, 72, 73, 74, 75, 76, 77, 78, 79, 80, 81] (by decide +kernel) (by decide +kernel)
set_option maxRecDepth 20000 in
theorem gJ0_indexOf_7cf53_J2_indexOf_4cfef : GoodIn wsJ0_indexOf_7cf53 (va_wsS RJ0 640 yJ2_indexOf_4cfef wsJ2_indexOf_4cfef) := goodIn_app (goodIn_of _ (by decide +kernel)) ggJ0_indexOf_7cf53_J2_indexOf_4cfef
theorem dJ0_indexOf_7cf53_0 : decode cJ0_indexOf_7cf53 0 = .ok (.aload_n 0, 1) := by decide +kernel
theorem dJ0_indexOf_7cf53_1 : decode cJ0_indexOf_7cf53 1 = .ok (.invokevirtual 492, 3) := by decide +kernel
theorem dJ0_indexOf_7cf53_4 : decode cJ0_indexOf_7cf53 4 = .ok (.ifCond .eq 19, 3) := by decide +kernel
theorem dJ0_indexOf_7cf53_7 : decode cJ0_indexOf_7cf53 7 = .ok (.aload_n 0, 1) := by decide +kernel
theorem dJ0_indexOf_7cf53_8 : decode cJ0_indexOf_7cf53 8 = .ok (.getfield 9, 3) := by decide +kernel
theorem dJ0_indexOf_7cf53_11 : decode cJ0_indexOf_7cf53 11 = .ok (.iload_n 1, 1) := by decide +kernel
theorem dJ0_indexOf_7cf53_12 : decode cJ0_indexOf_7cf53 12 = .ok (.iload_n 2, 1) := by decide +kernel
theorem dJ0_indexOf_7cf53_13 : decode cJ0_indexOf_7cf53 13 = .ok (.aload_n 0, 1) := by decide +kernel
theorem dJ0_indexOf_7cf53_14 : decode cJ0_indexOf_7cf53 14 = .ok (.invokevirtual 505, 3) := by decide +kernel
theorem dJ0_indexOf_7cf53_17 : decode cJ0_indexOf_7cf53 17 = .ok (.invokestatic 637, 3) := by decide +kernel
theorem dJ0_indexOf_7cf53_20 : decode cJ0_indexOf_7cf53 20 = .ok (.goto 16, 3) := by decide +kernel
theorem dJ0_indexOf_7cf53_23 : decode cJ0_indexOf_7cf53 23 = .ok (.aload_n 0, 1) := by decide +kernel
theorem dJ0_indexOf_7cf53_24 : decode cJ0_indexOf_7cf53 24 = .ok (.getfield 9, 3) := by decide +kernel
theorem dJ0_indexOf_7cf53_27 : decode cJ0_indexOf_7cf53 27 = .ok (.iload_n 1, 1) := by decide +kernel
theorem dJ0_indexOf_7cf53_28 : decode cJ0_indexOf_7cf53 28 = .ok (.iload_n 2, 1) := by decide +kernel
theorem dJ0_indexOf_7cf53_29 : decode cJ0_indexOf_7cf53 29 = .ok (.aload_n 0, 1) := by decide +kernel
theorem dJ0_indexOf_7cf53_30 : decode cJ0_indexOf_7cf53 30 = .ok (.invokevirtual 505, 3) := by decide +kernel
theorem dJ0_indexOf_7cf53_33 : decode cJ0_indexOf_7cf53 33 = .ok (.invokestatic 640, 3) := by decide +kernel
theorem dJ0_indexOf_7cf53_36 : decode cJ0_indexOf_7cf53 36 = .ok (.ireturn, 1) := by decide +kernel
theorem dJ0_coder_7d493_0 : decode cJ0_coder_7d493 0 = .ok (.getstatic 38, 3) := by decide +kernel
theorem dJ0_coder_7d493_3 : decode cJ0_coder_7d493 3 = .ok (.ifCond .eq 10, 3) := by decide +kernel
theorem dJ0_coder_7d493_6 : decode cJ0_coder_7d493 6 = .ok (.aload_n 0, 1) := by decide +kernel
theorem dJ0_coder_7d493_7 : decode cJ0_coder_7d493 7 = .ok (.getfield 15, 3) := by decide +kernel
theorem dJ0_coder_7d493_10 : decode cJ0_coder_7d493 10 = .ok (.goto 4, 3) := by decide +kernel
theorem dJ0_coder_7d493_13 : decode cJ0_coder_7d493 13 = .ok (.iconst 1, 1) := by decide +kernel
theorem dJ0_coder_7d493_14 : decode cJ0_coder_7d493 14 = .ok (.ireturn, 1) := by decide +kernel
theorem dJ0_isLatin1_aae02_0 : decode cJ0_isLatin1_aae02 0 = .ok (.getstatic 38, 3) := by decide +kernel
theorem dJ0_isLatin1_aae02_3 : decode cJ0_isLatin1_aae02 3 = .ok (.ifCond .eq 14, 3) := by decide +kernel
theorem dJ0_isLatin1_aae02_6 : decode cJ0_isLatin1_aae02 6 = .ok (.aload_n 0, 1) := by decide +kernel
theorem dJ0_isLatin1_aae02_7 : decode cJ0_isLatin1_aae02 7 = .ok (.getfield 15, 3) := by decide +kernel
theorem dJ0_isLatin1_aae02_10 : decode cJ0_isLatin1_aae02 10 = .ok (.ifCond .ne 7, 3) := by decide +kernel
theorem dJ0_isLatin1_aae02_13 : decode cJ0_isLatin1_aae02 13 = .ok (.iconst 1, 1) := by decide +kernel
theorem dJ0_isLatin1_aae02_14 : decode cJ0_isLatin1_aae02 14 = .ok (.goto 4, 3) := by decide +kernel
theorem dJ0_isLatin1_aae02_17 : decode cJ0_isLatin1_aae02 17 = .ok (.iconst 0, 1) := by decide +kernel
theorem dJ0_isLatin1_aae02_18 : decode cJ0_isLatin1_aae02 18 = .ok (.ireturn, 1) := by decide +kernel
set_option maxRecDepth 20000 in
theorem ggJ0_checkBoundsBeginEnd_23922_J3_checkFromToIndex_8c36e : GoodIn wsJ0_checkBoundsBeginEnd_23922 wsJ3_checkFromToIndex_8c36e := goodIn_r _ [5] (by decide +kernel) (by decide +kernel)
set_option maxRecDepth 20000 in
theorem gJ0_checkBoundsBeginEnd_23922_J3_checkFromToIndex_8c36e : GoodIn wsJ0_checkBoundsBeginEnd_23922 (va_wsS RJ0 1062 yJ3_checkFromToIndex_8c36e wsJ3_checkFromToIndex_8c36e) := goodIn_app (goodIn_of _ (by decide +kernel)) ggJ0_checkBoundsBeginEnd_23922_J3_checkFromToIndex_8c36e
theorem dJ0_checkBoundsBeginEnd_23922_0 : decode cJ0_checkBoundsBeginEnd_23922 0 = .ok (.iload_n 0, 1) := by decide +kernel
theorem dJ0_checkBoundsBeginEnd_23922_1 : decode cJ0_checkBoundsBeginEnd_23922 1 = .ok (.iload_n 1, 1) := by decide +kernel
theorem dJ0_checkBoundsBeginEnd_23922_2 : decode cJ0_checkBoundsBeginEnd_23922 2 = .ok (.iload_n 2, 1) := by decide +kernel
theorem dJ0_checkBoundsBeginEnd_23922_3 : decode cJ0_checkBoundsBeginEnd_23922 3 = .ok (.getstatic 1053, 3) := by decide +kernel
theorem dJ0_checkBoundsBeginEnd_23922_6 : decode cJ0_checkBoundsBeginEnd_23922 6 = .ok (.invokestatic 1062, 3) := by decide +kernel
theorem dJ0_checkBoundsBeginEnd_23922_9 : decode cJ0_checkBoundsBeginEnd_23922 9 = .ok (.pop, 1) := by decide +kernel
theorem dJ0_checkBoundsBeginEnd_23922_10 : decode cJ0_checkBoundsBeginEnd_23922 10 = .ok (.return_, 1) := by decide +kernel
theorem dJ1_canEncode_9a6ad_0 : decode cJ1_canEncode_9a6ad 0 = .ok (.iload_n 0, 1) := by decide +kernel
theorem dJ1_canEncode_9a6ad_1 : decode cJ1_canEncode_9a6ad 1 = .ok (.ifCond .lt 14, 3) := by decide +kernel
theorem dJ1_canEncode_9a6ad_4 : decode cJ1_canEncode_9a6ad 4 = .ok (.iload_n 0, 1) := by decide +kernel
theorem dJ1_canEncode_9a6ad_5 : decode cJ1_canEncode_9a6ad 5 = .ok (.sipush 255, 3) := by decide +kernel
theorem dJ1_canEncode_9a6ad_8 : decode cJ1_canEncode_9a6ad 8 = .ok (.if_icmp .gt 7, 3) := by decide +kernel
theorem dJ1_canEncode_9a6ad_11 : decode cJ1_canEncode_9a6ad 11 = .ok (.iconst 1, 1) := by decide +kernel
theorem dJ1_canEncode_9a6ad_12 : decode cJ1_canEncode_9a6ad 12 = .ok (.goto 4, 3) := by decide +kernel
theorem dJ1_canEncode_9a6ad_15 : decode cJ1_canEncode_9a6ad 15 = .ok (.iconst 0, 1) := by decide +kernel
theorem dJ1_canEncode_9a6ad_16 : decode cJ1_canEncode_9a6ad 16 = .ok (.ireturn, 1) := by decide +kernel
set_option maxRecDepth 20000 in
theorem ggJ1_indexOf_4cfef_J1_canEncode_9a6ad : GoodIn wsJ1_indexOf_4cfef wsJ1_canEncode_9a6ad := goodIn_r _ [11] (by decide +kernel) (by decide +kernel)
set_option maxRecDepth 20000 in
theorem gJ1_indexOf_4cfef_J1_canEncode_9a6ad : GoodIn wsJ1_indexOf_4cfef (va_wsS RJ1 88 yJ1_canEncode_9a6ad wsJ1_canEncode_9a6ad) := goodIn_app (goodIn_of _ (by decide +kernel)) ggJ1_indexOf_4cfef_J1_canEncode_9a6ad
set_option maxRecDepth 20000 in
theorem ggJ1_indexOf_4cfef_J1_indexOfChar_4cfef : GoodIn wsJ1_indexOf_4cfef wsJ1_indexOfChar_4cfef := goodIn_r _ [14] (by decide +kernel) (by decide +kernel)
set_option maxRecDepth 20000 in
theorem gJ1_indexOf_4cfef_J1_indexOfChar_4cfef : GoodIn wsJ1_indexOf_4cfef (va_wsS RJ1 95 yJ1_indexOfChar_4cfef wsJ1_indexOfChar_4cfef) := goodIn_app (goodIn_of _ (by decide +kernel)) ggJ1_indexOf_4cfef_J1_indexOfChar_4cfef
theorem dJ1_indexOf_4cfef_0 : decode cJ1_indexOf_4cfef 0 = .ok (.iload_n 1, 1) := by decide +kernel
theorem dJ1_indexOf_4cfef_1 : decode cJ1_indexOf_4cfef 1 = .ok (.invokestatic 88, 3) := by decide +kernel
theorem dJ1_indexOf_4cfef_4 : decode cJ1_indexOf_4cfef 4 = .ok (.ifCond .ne 5, 3) := by decide +kernel
theorem dJ1_indexOf_4cfef_7 : decode cJ1_indexOf_4cfef 7 = .ok (.iconst (-1), 1) := by decide +kernel
theorem dJ1_indexOf_4cfef_8 : decode cJ1_indexOf_4cfef 8 = .ok (.ireturn, 1) := by decide +kernel
theorem dJ1_indexOf_4cfef_9 : decode cJ1_indexOf_4cfef 9 = .ok (.iload_n 2, 1) := by decide +kernel
theorem dJ1_indexOf_4cfef_10 : decode cJ1_indexOf_4cfef 10 = .ok (.iconst 0, 1) := by decide +kernel
theorem dJ1_indexOf_4cfef_11 : decode cJ1_indexOf_4cfef 11 = .ok (.invokestatic 92, 3) := by decide +kernel
theorem dJ1_indexOf_4cfef_14 : decode cJ1_indexOf_4cfef 14 = .ok (.istore_n 2, 1) := by decide +kernel
theorem dJ1_indexOf_4cfef_15 : decode cJ1_indexOf_4cfef 15 = .ok (.iload_n 3, 1) := by decide +kernel
theorem dJ1_indexOf_4cfef_16 : decode cJ1_indexOf_4cfef 16 = .ok (.aload_n 0, 1) := by decide +kernel
theorem dJ1_indexOf_4cfef_17 : decode cJ1_indexOf_4cfef 17 = .ok (.arraylength, 1) := by decide +kernel
theorem dJ1_indexOf_4cfef_18 : decode cJ1_indexOf_4cfef 18 = .ok (.invokestatic 38, 3) := by decide +kernel
theorem dJ1_indexOf_4cfef_21 : decode cJ1_indexOf_4cfef 21 = .ok (.istore_n 3, 1) := by decide +kernel
theorem dJ1_indexOf_4cfef_22 : decode cJ1_indexOf_4cfef 22 = .ok (.iload_n 2, 1) := by decide +kernel
theorem dJ1_indexOf_4cfef_23 : decode cJ1_indexOf_4cfef 23 = .ok (.iload_n 3, 1) := by decide +kernel
theorem dJ1_indexOf_4cfef_24 : decode cJ1_indexOf_4cfef 24 = .ok (.if_icmp .lt 5, 3) := by decide +kernel
theorem dJ1_indexOf_4cfef_27 : decode cJ1_indexOf_4cfef 27 = .ok (.iconst (-1), 1) := by decide +kernel
theorem dJ1_indexOf_4cfef_28 : decode cJ1_indexOf_4cfef 28 = .ok (.ireturn, 1) := by decide +kernel
theorem dJ1_indexOf_4cfef_29 : decode cJ1_indexOf_4cfef 29 = .ok (.aload_n 0, 1) := by decide +kernel
theorem dJ1_indexOf_4cfef_30 : decode cJ1_indexOf_4cfef 30 = .ok (.iload_n 1, 1) := by decide +kernel
theorem dJ1_indexOf_4cfef_31 : decode cJ1_indexOf_4cfef 31 = .ok (.iload_n 2, 1) := by decide +kernel
theorem dJ1_indexOf_4cfef_32 : decode cJ1_indexOf_4cfef 32 = .ok (.iload_n 3, 1) := by decide +kernel
theorem dJ1_indexOf_4cfef_33 : decode cJ1_indexOf_4cfef 33 = .ok (.invokestatic 95, 3) := by decide +kernel
theorem dJ1_indexOf_4cfef_36 : decode cJ1_indexOf_4cfef 36 = .ok (.ireturn, 1) := by decide +kernel
theorem dJ1_indexOfChar_4cfef_0 : decode cJ1_indexOfChar_4cfef 0 = .ok (.iload_n 1, 1) := by decide +kernel
theorem dJ1_indexOfChar_4cfef_1 : decode cJ1_indexOfChar_4cfef 1 = .ok (.i2b, 1) := by decide +kernel
theorem dJ1_indexOfChar_4cfef_2 : decode cJ1_indexOfChar_4cfef 2 = .ok (.istore 4, 2) := by decide +kernel
theorem dJ1_indexOfChar_4cfef_4 : decode cJ1_indexOfChar_4cfef 4 = .ok (.iload_n 2, 1) := by decide +kernel
theorem dJ1_indexOfChar_4cfef_5 : decode cJ1_indexOfChar_4cfef 5 = .ok (.istore 5, 2) := by decide +kernel
theorem dJ1_indexOfChar_4cfef_7 : decode cJ1_indexOfChar_4cfef 7 = .ok (.iload 5, 2) := by decide +kernel
theorem dJ1_indexOfChar_4cfef_9 : decode cJ1_indexOfChar_4cfef 9 = .ok (.iload_n 3, 1) := by decide +kernel
theorem dJ1_indexOfChar_4cfef_10 : decode cJ1_indexOfChar_4cfef 10 = .ok (.if_icmp .ge 21, 3) := by decide +kernel
theorem dJ1_indexOfChar_4cfef_13 : decode cJ1_indexOfChar_4cfef 13 = .ok (.aload_n 0, 1) := by decide +kernel
theorem dJ1_indexOfChar_4cfef_14 : decode cJ1_indexOfChar_4cfef 14 = .ok (.iload 5, 2) := by decide +kernel
theorem dJ1_indexOfChar_4cfef_16 : decode cJ1_indexOfChar_4cfef 16 = .ok (.baload, 1) := by decide +kernel
theorem dJ1_indexOfChar_4cfef_17 : decode cJ1_indexOfChar_4cfef 17 = .ok (.iload 4, 2) := by decide +kernel
theorem dJ1_indexOfChar_4cfef_19 : decode cJ1_indexOfChar_4cfef 19 = .ok (.if_icmp .ne 6, 3) := by decide +kernel
theorem dJ1_indexOfChar_4cfef_22 : decode cJ1_indexOfChar_4cfef 22 = .ok (.iload 5, 2) := by decide +kernel
theorem dJ1_indexOfChar_4cfef_24 : decode cJ1_indexOfChar_4cfef 24 = .ok (.ireturn, 1) := by decide +kernel
theorem dJ1_indexOfChar_4cfef_25 : decode cJ1_indexOfChar_4cfef 25 = .ok (.iinc 5 1, 3) := by decide +kernel
theorem dJ1_indexOfChar_4cfef_28 : decode cJ1_indexOfChar_4cfef 28 = .ok (.goto (-21), 3) := by decide +kernel
theorem dJ1_indexOfChar_4cfef_31 : decode cJ1_indexOfChar_4cfef 31 = .ok (.iconst (-1), 1) := by decide +kernel
theorem dJ1_indexOfChar_4cfef_32 : decode cJ1_indexOfChar_4cfef 32 = .ok (.ireturn, 1) := by decide +kernel
set_option maxRecDepth 20000 in
theorem ggJ2_getChar_3b067_J2_length_9d52b : GoodIn wsJ2_getChar_3b067 wsJ2_length_9d52b := goodIn_r _ [7] (by decide +kernel) (by decide +kernel)
set_option maxRecDepth 20000 in
theorem gJ2_getChar_3b067_J2_length_9d52b : GoodIn wsJ2_getChar_3b067 (va_wsS RJ2 48 yJ2_length_9d52b wsJ2_length_9d52b) := goodIn_app (goodIn_of _ (by decide +kernel)) ggJ2_getChar_3b067_J2_length_9d52b
theorem dJ2_getChar_3b067_0 : decode cJ2_getChar_3b067 0 = .ok (.getstatic 44, 3) := by decide +kernel
theorem dJ2_getChar_3b067_3 : decode cJ2_getChar_3b067 3 = .ok (.ifCond .ne 25, 3) := by decide +kernel
theorem dJ2_getChar_3b067_6 : decode cJ2_getChar_3b067 6 = .ok (.iload_n 1, 1) := by decide +kernel
theorem dJ2_getChar_3b067_7 : decode cJ2_getChar_3b067 7 = .ok (.ifCond .lt 11, 3) := by decide +kernel
theorem dJ2_getChar_3b067_10 : decode cJ2_getChar_3b067 10 = .ok (.iload_n 1, 1) := by decide +kernel
theorem dJ2_getChar_3b067_11 : decode cJ2_getChar_3b067 11 = .ok (.aload_n 0, 1) := by decide +kernel
theorem dJ2_getChar_3b067_12 : decode cJ2_getChar_3b067 12 = .ok (.invokestatic 48, 3) := by decide +kernel
theorem dJ2_getChar_3b067_15 : decode cJ2_getChar_3b067 15 = .ok (.if_icmp .lt 13, 3) := by decide +kernel
theorem dJ2_getChar_3b067_18 : decode cJ2_getChar_3b067 18 = .ok (.new 52, 3) := by decide +kernel
theorem dJ2_getChar_3b067_21 : decode cJ2_getChar_3b067 21 = .ok (.dup, 1) := by decide +kernel
theorem dJ2_getChar_3b067_22 : decode cJ2_getChar_3b067 22 = .ok (.ldc 54, 2) := by decide +kernel
theorem dJ2_getChar_3b067_24 : decode cJ2_getChar_3b067 24 = .ok (.invokespecial 56, 3) := by decide +kernel
theorem dJ2_getChar_3b067_27 : decode cJ2_getChar_3b067 27 = .ok (.athrow, 1) := by decide +kernel
theorem dJ2_getChar_3b067_28 : decode cJ2_getChar_3b067 28 = .ok (.iload_n 1, 1) := by decide +kernel
theorem dJ2_getChar_3b067_29 : decode cJ2_getChar_3b067 29 = .ok (.iconst 1, 1) := by decide +kernel
theorem dJ2_getChar_3b067_30 : decode cJ2_getChar_3b067 30 = .ok (.ishl, 1) := by decide +kernel
theorem dJ2_getChar_3b067_31 : decode cJ2_getChar_3b067 31 = .ok (.istore_n 1, 1) := by decide +kernel
theorem dJ2_getChar_3b067_32 : decode cJ2_getChar_3b067 32 = .ok (.aload_n 0, 1) := by decide +kernel
theorem dJ2_getChar_3b067_33 : decode cJ2_getChar_3b067 33 = .ok (.iload_n 1, 1) := by decide +kernel
theorem dJ2_getChar_3b067_34 : decode cJ2_getChar_3b067 34 = .ok (.iinc 1 1, 3) := by decide +kernel
theorem dJ2_getChar_3b067_37 : decode cJ2_getChar_3b067 37 = .ok (.baload, 1) := by decide +kernel
theorem dJ2_getChar_3b067_38 : decode cJ2_getChar_3b067 38 = .ok (.sipush 255, 3) := by decide +kernel
theorem dJ2_getChar_3b067_41 : decode cJ2_getChar_3b067 41 = .ok (.iand, 1) := by decide +kernel
theorem dJ2_getChar_3b067_42 : decode cJ2_getChar_3b067 42 = .ok (.getstatic 59, 3) := by decide +kernel
theorem dJ2_getChar_3b067_45 : decode cJ2_getChar_3b067 45 = .ok (.ishl, 1) := by decide +kernel
theorem dJ2_getChar_3b067_46 : decode cJ2_getChar_3b067 46 = .ok (.aload_n 0, 1) := by decide +kernel
theorem dJ2_getChar_3b067_47 : decode cJ2_getChar_3b067 47 = .ok (.iload_n 1, 1) := by decide +kernel
theorem dJ2_getChar_3b067_48 : decode cJ2_getChar_3b067 48 = .ok (.baload, 1) := by decide +kernel
theorem dJ2_getChar_3b067_49 : decode cJ2_getChar_3b067 49 = .ok (.sipush 255, 3) := by decide +kernel
theorem dJ2_getChar_3b067_52 : decode cJ2_getChar_3b067 52 = .ok (.iand, 1) := by decide +kernel
theorem dJ2_getChar_3b067_53 : decode cJ2_getChar_3b067 53 = .ok (.getstatic 63, 3) := by decide +kernel
theorem dJ2_getChar_3b067_56 : decode cJ2_getChar_3b067 56 = .ok (.ishl, 1) := by decide +kernel
theorem dJ2_getChar_3b067_57 : decode cJ2_getChar_3b067 57 = .ok (.ior, 1) := by decide +kernel
theorem dJ2_getChar_3b067_58 : decode cJ2_getChar_3b067 58 = .ok (.i2c, 1) := by decide +kernel
theorem dJ2_getChar_3b067_59 : decode cJ2_getChar_3b067 59 = .ok (.ireturn, 1) := by decide +kernel
theorem dJ2_length_9d52b_0 : decode cJ2_length_9d52b 0 = .ok (.aload_n 0, 1) := by decide +kernel
theorem dJ2_length_9d52b_1 : decode cJ2_length_9d52b 1 = .ok (.arraylength, 1) := by decide +kernel
theorem dJ2_length_9d52b_2 : decode cJ2_length_9d52b 2 = .ok (.iconst 1, 1) := by decide +kernel
theorem dJ2_length_9d52b_3 : decode cJ2_length_9d52b 3 = .ok (.ishr, 1) := by decide +kernel
theorem dJ2_length_9d52b_4 : decode cJ2_length_9d52b 4 = .ok (.ireturn, 1) := by decide +kernel
set_option maxRecDepth 20000 in
theorem ggJ2_indexOf_4cfef_J2_indexOfChar_4cfef : GoodIn wsJ2_indexOf_4cfef wsJ2_indexOfChar_4cfef := goodIn_r _ [12, 13, 14, 11, 15, 16, 17, 18, 19, 20, 21, 22, 23, 24, 25, 26, 27, 28, 29, 30, 31, 32, 33, 34, 35, 36] (by decide +kernel) (by decide +kernel)
set_option maxRecDepth 20000 in
theorem gJ2_indexOf_4cfef_J2_indexOfChar_4cfef : GoodIn wsJ2_indexOf_4cfef (va_wsS RJ2 228 yJ2_indexOfChar_4cfef wsJ2_indexOfChar_4cfef) := goodIn_app (goodIn_of _ (by decide +kernel)) ggJ2_indexOf_4cfef_J2_indexOfChar_4cfef
set_option maxRecDepth 20000 in
theorem ggJ2_indexOf_4cfef_J2_indexOfSupplementary_4cfef : GoodIn wsJ2_indexOf_4cfef wsJ2_indexOfSupplementary_4cfef := goodIn_r _ [39, 40, 41, 42, 43, 44, 45, 46, 47, 48, 49, 50, 51, 13, 14, 11, 15, 16, 17, 18, 19, 20, 21, 22, 23, 24, 25, 26, 27, 31, 32, 33, 34, 35, 36] (by decide +kernel) (by decide +kernel)
set_option maxRecDepth 20000 in
theorem gJ2_indexOf_4cfef_J2_indexOfSupplementary_4cfef : GoodIn wsJ2_indexOf_4cfef (va_wsS RJ2 232 yJ2_indexOfSupplementary_4cfef wsJ2_indexOfSupplementary_4cfef) := goodIn_app (goodIn_of _ (by decide +kernel)) ggJ2_indexOf_4cfef_J2_indexOfSupplementary_4cfef
theorem dJ2_indexOf_4cfef_0 : decode cJ2_indexOf_4cfef 0 = .ok (.iload_n 2, 1) := by decide +kernel
theorem dJ2_indexOf_4cfef_1 : decode cJ2_indexOf_4cfef 1 = .ok (.iconst 0, 1) := by decide +kernel
theorem dJ2_indexOf_4cfef_2 : decode cJ2_indexOf_4cfef 2 = .ok (.invokestatic 224, 3) := by decide +kernel
theorem dJ2_indexOf_4cfef_5 : decode cJ2_indexOf_4cfef 5 = .ok (.istore_n 2, 1) := by decide +kernel
theorem dJ2_indexOf_4cfef_6 : decode cJ2_indexOf_4cfef 6 = .ok (.iload_n 3, 1) := by decide +kernel
theorem dJ2_indexOf_4cfef_7 : decode cJ2_indexOf_4cfef 7 = .ok (.aload_n 0, 1) := by decide +kernel
theorem dJ2_indexOf_4cfef_8 : decode cJ2_indexOf_4cfef 8 = .ok (.arraylength, 1) := by decide +kernel
theorem dJ2_indexOf_4cfef_9 : decode cJ2_indexOf_4cfef 9 = .ok (.iconst 1, 1) := by decide +kernel
theorem dJ2_indexOf_4cfef_10 : decode cJ2_indexOf_4cfef 10 = .ok (.ishr, 1) := by decide +kernel
theorem dJ2_indexOf_4cfef_11 : decode cJ2_indexOf_4cfef 11 = .ok (.invokestatic 183, 3) := by decide +kernel
theorem dJ2_indexOf_4cfef_14 : decode cJ2_indexOf_4cfef 14 = .ok (.istore_n 3, 1) := by decide +kernel
theorem dJ2_indexOf_4cfef_15 : decode cJ2_indexOf_4cfef 15 = .ok (.iload_n 2, 1) := by decide +kernel
theorem dJ2_indexOf_4cfef_16 : decode cJ2_indexOf_4cfef 16 = .ok (.iload_n 3, 1) := by decide +kernel
theorem dJ2_indexOf_4cfef_17 : decode cJ2_indexOf_4cfef 17 = .ok (.if_icmp .lt 5, 3) := by decide +kernel
theorem dJ2_indexOf_4cfef_20 : decode cJ2_indexOf_4cfef 20 = .ok (.iconst (-1), 1) := by decide +kernel
theorem dJ2_indexOf_4cfef_21 : decode cJ2_indexOf_4cfef 21 = .ok (.ireturn, 1) := by decide +kernel
theorem dJ2_indexOf_4cfef_22 : decode cJ2_indexOf_4cfef 22 = .ok (.iload_n 1, 1) := by decide +kernel
theorem dJ2_indexOf_4cfef_23 : decode cJ2_indexOf_4cfef 23 = .ok (.ldc 227, 2) := by decide +kernel
theorem dJ2_indexOf_4cfef_25 : decode cJ2_indexOf_4cfef 25 = .ok (.if_icmp .ge 11, 3) := by decide +kernel
theorem dJ2_indexOf_4cfef_28 : decode cJ2_indexOf_4cfef 28 = .ok (.aload_n 0, 1) := by decide +kernel
theorem dJ2_indexOf_4cfef_29 : decode cJ2_indexOf_4cfef 29 = .ok (.iload_n 1, 1) := by decide +kernel
theorem dJ2_indexOf_4cfef_30 : decode cJ2_indexOf_4cfef 30 = .ok (.iload_n 2, 1) := by decide +kernel
theorem dJ2_indexOf_4cfef_31 : decode cJ2_indexOf_4cfef 31 = .ok (.iload_n 3, 1) := by decide +kernel
theorem dJ2_indexOf_4cfef_32 : decode cJ2_indexOf_4cfef 32 = .ok (.invokestatic 228, 3) := by decide +kernel
theorem dJ2_indexOf_4cfef_35 : decode cJ2_indexOf_4cfef 35 = .ok (.ireturn, 1) := by decide +kernel
theorem dJ2_indexOf_4cfef_36 : decode cJ2_indexOf_4cfef 36 = .ok (.aload_n 0, 1) := by decide +kernel
theorem dJ2_indexOf_4cfef_37 : decode cJ2_indexOf_4cfef 37 = .ok (.iload_n 1, 1) := by decide +kernel
theorem dJ2_indexOf_4cfef_38 : decode cJ2_indexOf_4cfef 38 = .ok (.iload_n 2, 1) := by decide +kernel
theorem dJ2_indexOf_4cfef_39 : decode cJ2_indexOf_4cfef 39 = .ok (.iload_n 3, 1) := by decide +kernel
theorem dJ2_indexOf_4cfef_40 : decode cJ2_indexOf_4cfef 40 = .ok (.invokestatic 232, 3) := by decide +kernel
theorem dJ2_indexOf_4cfef_43 : decode cJ2_indexOf_4cfef 43 = .ok (.ireturn, 1) := by decide +kernel
set_option maxRecDepth 20000 in
theorem ggJ2_indexOfChar_4cfef_J2_checkBoundsBeginEnd_d044e : GoodIn wsJ2_indexOfChar_4cfef wsJ2_checkBoundsBeginEnd_d044e := goodIn_r _ [4, 5, 6, 3, 7, 8, 9, 10, 11, 12, 13, 14, 15, 16] (by decide +kernel) (by decide +kernel)
set_option maxRecDepth 20000 in
theorem gJ2_indexOfChar_4cfef_J2_checkBoundsBeginEnd_d044e : GoodIn wsJ2_indexOfChar_4cfef (va_wsS RJ2 96 yJ2_checkBoundsBeginEnd_d044e wsJ2_checkBoundsBeginEnd_d044e) := goodIn_app (goodIn_of _ (by decide +kernel)) ggJ2_indexOfChar_4cfef_J2_checkBoundsBeginEnd_d044e
set_option maxRecDepth 20000 in
theorem ggJ2_indexOfChar_4cfef_J2_indexOfCharUnsafe_4cfef : GoodIn wsJ2_indexOfChar_4cfef wsJ2_indexOfCharUnsafe_4cfef := goodIn_r _ [19, 20, 21, 3, 22, 23, 24, 25, 5, 6, 7] (by decide +kernel) (by decide +kernel)
set_option maxRecDepth 20000 in
theorem gJ2_indexOfChar_4cfef_J2_indexOfCharUnsafe_4cfef : GoodIn wsJ2_indexOfChar_4cfef (va_wsS RJ2 244 yJ2_indexOfCharUnsafe_4cfef wsJ2_indexOfCharUnsafe_4cfef) := goodIn_app (goodIn_of _ (by decide +kernel)) ggJ2_indexOfChar_4cfef_J2_indexOfCharUnsafe_4cfef
theorem dJ2_indexOfChar_4cfef_0 : decode cJ2_indexOfChar_4cfef 0 = .ok (.iload_n 2, 1) := by decide +kernel
theorem dJ2_indexOfChar_4cfef_1 : decode cJ2_indexOfChar_4cfef 1 = .ok (.iload_n 3, 1) := by decide +kernel
theorem dJ2_indexOfChar_4cfef_2 : decode cJ2_indexOfChar_4cfef 2 = .ok (.aload_n 0, 1) := by decide +kernel
theorem dJ2_indexOfChar_4cfef_3 : decode cJ2_indexOfChar_4cfef 3 = .ok (.invokestatic 96, 3) := by decide +kernel
theorem dJ2_indexOfChar_4cfef_6 : decode cJ2_indexOfChar_4cfef 6 = .ok (.aload_n 0, 1) := by decide +kernel
theorem dJ2_indexOfChar_4cfef_7 : decode cJ2_indexOfChar_4cfef 7 = .ok (.iload_n 1, 1) := by decide +kernel
theorem dJ2_indexOfChar_4cfef_8 : decode cJ2_indexOfChar_4cfef 8 = .ok (.iload_n 2, 1) := by decide +kernel
theorem dJ2_indexOfChar_4cfef_9 : decode cJ2_indexOfChar_4cfef 9 = .ok (.iload_n 3, 1) := by decide +kernel
theorem dJ2_indexOfChar_4cfef_10 : decode cJ2_indexOfChar_4cfef 10 = .ok (.invokestatic 244, 3) := by decide +kernel
theorem dJ2_indexOfChar_4cfef_13 : decode cJ2_indexOfChar_4cfef 13 = .ok (.ireturn, 1) := by decide +kernel
set_option maxRecDepth 20000 in
theorem ggJ2_indexOfCharUnsafe_4cfef_J2_getChar_3b067 : GoodIn wsJ2_indexOfCharUnsafe_4cfef wsJ2_getChar_3b067 := goodIn_r _ [4, 5, 6, 7, 8, 9, 3, 10] (by decide +kernel) (by decide +kernel)
set_option maxRecDepth 20000 in
theorem gJ2_indexOfCharUnsafe_4cfef_J2_getChar_3b067 : GoodIn wsJ2_indexOfCharUnsafe_4cfef (va_wsS RJ2 71 yJ2_getChar_3b067 wsJ2_getChar_3b067) := goodIn_app (goodIn_of _ (by decide +kernel)) ggJ2_indexOfCharUnsafe_4cfef_J2_getChar_3b067
theorem dJ2_indexOfCharUnsafe_4cfef_0 : decode cJ2_indexOfCharUnsafe_4cfef 0 = .ok (.iload_n 2, 1) := by decide +kernel
theorem dJ2_indexOfCharUnsafe_4cfef_1 : decode cJ2_indexOfCharUnsafe_4cfef 1 = .ok (.istore 4, 2) := by decide +kernel
theorem dJ2_indexOfCharUnsafe_4cfef_3 : decode cJ2_indexOfCharUnsafe_4cfef 3 = .ok (.iload 4, 2) := by decide +kernel
theorem dJ2_indexOfCharUnsafe_4cfef_5 : decode cJ2_indexOfCharUnsafe_4cfef 5 = .ok (.iload_n 3, 1) := by decide +kernel
theorem dJ2_indexOfCharUnsafe_4cfef_6 : decode cJ2_indexOfCharUnsafe_4cfef 6 = .ok (.if_icmp .ge 22, 3) := by decide +kernel
theorem dJ2_indexOfCharUnsafe_4cfef_9 : decode cJ2_indexOfCharUnsafe_4cfef 9 = .ok (.aload_n 0, 1) := by decide +kernel
theorem dJ2_indexOfCharUnsafe_4cfef_10 : decode cJ2_indexOfCharUnsafe_4cfef 10 = .ok (.iload 4, 2) := by decide +kernel
theorem dJ2_indexOfCharUnsafe_4cfef_12 : decode cJ2_indexOfCharUnsafe_4cfef 12 = .ok (.invokestatic 71, 3) := by decide +kernel
theorem dJ2_indexOfCharUnsafe_4cfef_15 : decode cJ2_indexOfCharUnsafe_4cfef 15 = .ok (.iload_n 1, 1) := by decide +kernel
theorem dJ2_indexOfCharUnsafe_4cfef_16 : decode cJ2_indexOfCharUnsafe_4cfef 16 = .ok (.if_icmp .ne 6, 3) := by decide +kernel
theorem dJ2_indexOfCharUnsafe_4cfef_19 : decode cJ2_indexOfCharUnsafe_4cfef 19 = .ok (.iload 4, 2) := by decide +kernel
theorem dJ2_indexOfCharUnsafe_4cfef_21 : decode cJ2_indexOfCharUnsafe_4cfef 21 = .ok (.ireturn, 1) := by decide +kernel
theorem dJ2_indexOfCharUnsafe_4cfef_22 : decode cJ2_indexOfCharUnsafe_4cfef 22 = .ok (.iinc 4 1, 3) := by decide +kernel
theorem dJ2_indexOfCharUnsafe_4cfef_25 : decode cJ2_indexOfCharUnsafe_4cfef 25 = .ok (.goto (-22), 3) := by decide +kernel
theorem dJ2_indexOfCharUnsafe_4cfef_28 : decode cJ2_indexOfCharUnsafe_4cfef 28 = .ok (.iconst (-1), 1) := by decide +kernel
theorem dJ2_indexOfCharUnsafe_4cfef_29 : decode cJ2_indexOfCharUnsafe_4cfef 29 = .ok (.ireturn, 1) := by decide +kernel
set_option maxRecDepth 20000 in
theorem ggJ2_indexOfSupplementary_4cfef_J11_isValidCodePoint_9a6ad : GoodIn wsJ2_indexOfSupplementary_4cfef wsJ11_isValidCodePoint_9a6ad := goodIn_r _ [4] (by decide +kernel) (by decide +kernel)
set_option maxRecDepth 20000 in
theorem gJ2_indexOfSupplementary_4cfef_J11_isValidCodePoint_9a6ad : GoodIn wsJ2_indexOfSupplementary_4cfef (va_wsS RJ2 164 yJ11_isValidCodePoint_9a6ad wsJ11_isValidCodePoint_9a6ad) := goodIn_app (goodIn_of _ (by decide +kernel)) ggJ2_indexOfSupplementary_4cfef_J11_isValidCodePoint_9a6ad
set_option maxRecDepth 20000 in
theorem ggJ2_indexOfSupplementary_4cfef_J11_highSurrogate_5068e : GoodIn wsJ2_indexOfSupplementary_4cfef wsJ11_highSurrogate_5068e := goodIn_r _ [7, 8] (by decide +kernel) (by decide +kernel)
set_option maxRecDepth 20000 in
theorem gJ2_indexOfSupplementary_4cfef_J11_highSurrogate_5068e : GoodIn wsJ2_indexOfSupplementary_4cfef (va_wsS RJ2 157 yJ11_highSurrogate_5068e wsJ11_highSurrogate_5068e) := goodIn_app (goodIn_of _ (by decide +kernel)) ggJ2_indexOfSupplementary_4cfef_J11_highSurrogate_5068e
set_option maxRecDepth 20000 in
theorem ggJ2_indexOfSupplementary_4cfef_J11_lowSurrogate_5068e : GoodIn wsJ2_indexOfSupplementary_4cfef wsJ11_lowSurrogate_5068e := goodIn_r _ [11, 12] (by decide +kernel) (by decide +kernel)
set_option maxRecDepth 20000 in
theorem gJ2_indexOfSupplementary_4cfef_J11_lowSurrogate_5068e : GoodIn wsJ2_indexOfSupplementary_4cfef (va_wsS RJ2 161 yJ11_lowSurrogate_5068e wsJ11_lowSurrogate_5068e) := goodIn_app (goodIn_of _ (by decide +kernel)) ggJ2_indexOfSupplementary_4cfef_J11_lowSurrogate_5068e
set_option maxRecDepth 20000 in
theorem ggJ2_indexOfSupplementary_4cfef_J2_checkBoundsBeginEnd_d044e : GoodIn wsJ2_indexOfSupplementary_4cfef wsJ2_checkBoundsBeginEnd_d044e := goodIn_r _ [16, 17, 18, 15, 19, 20, 21, 22, 23, 24, 25, 26, 27, 28] (by decide +kernel) (by decide +kernel)
set_option maxRecDepth 20000 in
theorem gJ2_indexOfSupplementary_4cfef_J2_checkBoundsBeginEnd_d044e : GoodIn wsJ2_indexOfSupplementary_4cfef (va_wsS RJ2 96 yJ2_checkBoundsBeginEnd_d044e wsJ2_checkBoundsBeginEnd_d044e) := goodIn_app (goodIn_of _ (by decide +kernel)) ggJ2_indexOfSupplementary_4cfef_J2_checkBoundsBeginEnd_d044e
set_option maxRecDepth 20000 in
theorem ggJ2_indexOfSupplementary_4cfef_J2_getChar_3b067 : GoodIn wsJ2_indexOfSupplementary_4cfef wsJ2_getChar_3b067 := goodIn_r _ [31, 32, 33, 34, 17, 18, 15, 19] (by decide +kernel) (by decide +kernel)
set_option maxRecDepth 20000 in
theorem gJ2_indexOfSupplementary_4cfef_J2_getChar_3b067 : GoodIn wsJ2_indexOfSupplementary_4cfef (va_wsS RJ2 71 yJ2_getChar_3b067 wsJ2_getChar_3b067) := goodIn_app (goodIn_of _ (by decide +kernel)) ggJ2_indexOfSupplementary_4cfef_J2_getChar_3b067
theorem dJ2_indexOfSupplementary_4cfef_0 : decode cJ2_indexOfSupplementary_4cfef 0 = .ok (.iload_n 1, 1) := by decide +kernel
theorem dJ2_indexOfSupplementary_4cfef_1 : decode cJ2_indexOfSupplementary_4cfef 1 = .ok (.invokestatic 164, 3) := by decide +kernel
theorem dJ2_indexOfSupplementary_4cfef_4 : decode cJ2_indexOfSupplementary_4cfef 4 = .ok (.ifCond .eq 65, 3) := by decide +kernel
theorem dJ2_indexOfSupplementary_4cfef_7 : decode cJ2_indexOfSupplementary_4cfef 7 = .ok (.iload_n 1, 1) := by decide +kernel
theorem dJ2_indexOfSupplementary_4cfef_8 : decode cJ2_indexOfSupplementary_4cfef 8 = .ok (.invokestatic 157, 3) := by decide +kernel
theorem dJ2_indexOfSupplementary_4cfef_11 : decode cJ2_indexOfSupplementary_4cfef 11 = .ok (.istore 4, 2) := by decide +kernel
theorem dJ2_indexOfSupplementary_4cfef_13 : decode cJ2_indexOfSupplementary_4cfef 13 = .ok (.iload_n 1, 1) := by decide +kernel
theorem dJ2_indexOfSupplementary_4cfef_14 : decode cJ2_indexOfSupplementary_4cfef 14 = .ok (.invokestatic 161, 3) := by decide +kernel
theorem dJ2_indexOfSupplementary_4cfef_17 : decode cJ2_indexOfSupplementary_4cfef 17 = .ok (.istore 5, 2) := by decide +kernel
theorem dJ2_indexOfSupplementary_4cfef_19 : decode cJ2_indexOfSupplementary_4cfef 19 = .ok (.iload_n 2, 1) := by decide +kernel
theorem dJ2_indexOfSupplementary_4cfef_20 : decode cJ2_indexOfSupplementary_4cfef 20 = .ok (.iload_n 3, 1) := by decide +kernel
theorem dJ2_indexOfSupplementary_4cfef_21 : decode cJ2_indexOfSupplementary_4cfef 21 = .ok (.aload_n 0, 1) := by decide +kernel
theorem dJ2_indexOfSupplementary_4cfef_22 : decode cJ2_indexOfSupplementary_4cfef 22 = .ok (.invokestatic 96, 3) := by decide +kernel
theorem dJ2_indexOfSupplementary_4cfef_25 : decode cJ2_indexOfSupplementary_4cfef 25 = .ok (.iload_n 2, 1) := by decide +kernel
theorem dJ2_indexOfSupplementary_4cfef_26 : decode cJ2_indexOfSupplementary_4cfef 26 = .ok (.istore 6, 2) := by decide +kernel
theorem dJ2_indexOfSupplementary_4cfef_28 : decode cJ2_indexOfSupplementary_4cfef 28 = .ok (.iload 6, 2) := by decide +kernel
theorem dJ2_indexOfSupplementary_4cfef_30 : decode cJ2_indexOfSupplementary_4cfef 30 = .ok (.iload_n 3, 1) := by decide +kernel
theorem dJ2_indexOfSupplementary_4cfef_31 : decode cJ2_indexOfSupplementary_4cfef 31 = .ok (.iconst 1, 1) := by decide +kernel
theorem dJ2_indexOfSupplementary_4cfef_32 : decode cJ2_indexOfSupplementary_4cfef 32 = .ok (.isub, 1) := by decide +kernel
theorem dJ2_indexOfSupplementary_4cfef_33 : decode cJ2_indexOfSupplementary_4cfef 33 = .ok (.if_icmp .ge 36, 3) := by decide +kernel
theorem dJ2_indexOfSupplementary_4cfef_36 : decode cJ2_indexOfSupplementary_4cfef 36 = .ok (.aload_n 0, 1) := by decide +kernel
theorem dJ2_indexOfSupplementary_4cfef_37 : decode cJ2_indexOfSupplementary_4cfef 37 = .ok (.iload 6, 2) := by decide +kernel
theorem dJ2_indexOfSupplementary_4cfef_39 : decode cJ2_indexOfSupplementary_4cfef 39 = .ok (.invokestatic 71, 3) := by decide +kernel
theorem dJ2_indexOfSupplementary_4cfef_42 : decode cJ2_indexOfSupplementary_4cfef 42 = .ok (.iload 4, 2) := by decide +kernel
theorem dJ2_indexOfSupplementary_4cfef_44 : decode cJ2_indexOfSupplementary_4cfef 44 = .ok (.if_icmp .ne 19, 3) := by decide +kernel
theorem dJ2_indexOfSupplementary_4cfef_47 : decode cJ2_indexOfSupplementary_4cfef 47 = .ok (.aload_n 0, 1) := by decide +kernel
theorem dJ2_indexOfSupplementary_4cfef_48 : decode cJ2_indexOfSupplementary_4cfef 48 = .ok (.iload 6, 2) := by decide +kernel
theorem dJ2_indexOfSupplementary_4cfef_50 : decode cJ2_indexOfSupplementary_4cfef 50 = .ok (.iconst 1, 1) := by decide +kernel
theorem dJ2_indexOfSupplementary_4cfef_51 : decode cJ2_indexOfSupplementary_4cfef 51 = .ok (.iadd, 1) := by decide +kernel
theorem dJ2_indexOfSupplementary_4cfef_52 : decode cJ2_indexOfSupplementary_4cfef 52 = .ok (.invokestatic 71, 3) := by decide +kernel
theorem dJ2_indexOfSupplementary_4cfef_55 : decode cJ2_indexOfSupplementary_4cfef 55 = .ok (.iload 5, 2) := by decide +kernel
theorem dJ2_indexOfSupplementary_4cfef_57 : decode cJ2_indexOfSupplementary_4cfef 57 = .ok (.if_icmp .ne 6, 3) := by decide +kernel
theorem dJ2_indexOfSupplementary_4cfef_60 : decode cJ2_indexOfSupplementary_4cfef 60 = .ok (.iload 6, 2) := by decide +kernel
theorem dJ2_indexOfSupplementary_4cfef_62 : decode cJ2_indexOfSupplementary_4cfef 62 = .ok (.ireturn, 1) := by decide +kernel
theorem dJ2_indexOfSupplementary_4cfef_63 : decode cJ2_indexOfSupplementary_4cfef 63 = .ok (.iinc 6 1, 3) := by decide +kernel
theorem dJ2_indexOfSupplementary_4cfef_66 : decode cJ2_indexOfSupplementary_4cfef 66 = .ok (.goto (-38), 3) := by decide +kernel
theorem dJ2_indexOfSupplementary_4cfef_69 : decode cJ2_indexOfSupplementary_4cfef 69 = .ok (.iconst (-1), 1) := by decide +kernel
theorem dJ2_indexOfSupplementary_4cfef_70 : decode cJ2_indexOfSupplementary_4cfef 70 = .ok (.ireturn, 1) := by decide +kernel
set_option maxRecDepth 20000 in
theorem ggJ2_checkBoundsBeginEnd_d044e_J2_length_9d52b : GoodIn wsJ2_checkBoundsBeginEnd_d044e wsJ2_length_9d52b := goodIn_r _ [4] (by decide +kernel) (by decide +kernel)
set_option maxRecDepth 20000 in
theorem gJ2_checkBoundsBeginEnd_d044e_J2_length_9d52b : GoodIn wsJ2_checkBoundsBeginEnd_d044e (va_wsS RJ2 48 yJ2_length_9d52b wsJ2_length_9d52b) := goodIn_app (goodIn_of _ (by decide +kernel)) ggJ2_checkBoundsBeginEnd_d044e_J2_length_9d52b
set_option maxRecDepth 20000 in
theorem ggJ2_checkBoundsBeginEnd_d044e_J0_checkBoundsBeginEnd_23922 : GoodIn wsJ2_checkBoundsBeginEnd_d044e wsJ0_checkBoundsBeginEnd_23922 := goodIn_r _ [8, 9, 10, 11, 12, 13] (by decide +kernel) (by decide +kernel)
set_option maxRecDepth 20000 in
theorem gJ2_checkBoundsBeginEnd_d044e_J0_checkBoundsBeginEnd_23922 : GoodIn wsJ2_checkBoundsBeginEnd_d044e (va_wsS RJ2 241 yJ0_checkBoundsBeginEnd_23922 wsJ0_checkBoundsBeginEnd_23922) := goodIn_app (goodIn_of _ (by decide +kernel)) ggJ2_checkBoundsBeginEnd_d044e_J0_checkBoundsBeginEnd_23922
theorem dJ2_checkBoundsBeginEnd_d044e_0 : decode cJ2_checkBoundsBeginEnd_d044e 0 = .ok (.iload_n 0, 1) := by decide +kernel
theorem dJ2_checkBoundsBeginEnd_d044e_1 : decode cJ2_checkBoundsBeginEnd_d044e 1 = .ok (.iload_n 1, 1) := by decide +kernel
theorem dJ2_checkBoundsBeginEnd_d044e_2 : decode cJ2_checkBoundsBeginEnd_d044e 2 = .ok (.aload_n 2, 1) := by decide +kernel
theorem dJ2_checkBoundsBeginEnd_d044e_3 : decode cJ2_checkBoundsBeginEnd_d044e 3 = .ok (.invokestatic 48, 3) := by decide +kernel
theorem dJ2_checkBoundsBeginEnd_d044e_6 : decode cJ2_checkBoundsBeginEnd_d044e 6 = .ok (.invokestatic 241, 3) := by decide +kernel
theorem dJ2_checkBoundsBeginEnd_d044e_9 : decode cJ2_checkBoundsBeginEnd_d044e 9 = .ok (.return_, 1) := by decide +kernel
theorem dJ7_fill_d0a16_0 : decode cJ7_fill_d0a16 0 = .ok (.iconst 0, 1) := by decide +kernel
theorem dJ7_fill_d0a16_1 : decode cJ7_fill_d0a16 1 = .ok (.istore_n 3, 1) := by decide +kernel
theorem dJ7_fill_d0a16_2 : decode cJ7_fill_d0a16 2 = .ok (.aload_n 0, 1) := by decide +kernel
theorem dJ7_fill_d0a16_3 : decode cJ7_fill_d0a16 3 = .ok (.arraylength, 1) := by decide +kernel
theorem dJ7_fill_d0a16_4 : decode cJ7_fill_d0a16 4 = .ok (.istore 4, 2) := by decide +kernel
theorem dJ7_fill_d0a16_6 : decode cJ7_fill_d0a16 6 = .ok (.iload_n 3, 1) := by decide +kernel
theorem dJ7_fill_d0a16_7 : decode cJ7_fill_d0a16 7 = .ok (.iload 4, 2) := by decide +kernel
theorem dJ7_fill_d0a16_9 : decode cJ7_fill_d0a16 9 = .ok (.if_icmp .ge 13, 3) := by decide +kernel
theorem dJ7_fill_d0a16_12 : decode cJ7_fill_d0a16 12 = .ok (.aload_n 0, 1) := by decide +kernel
theorem dJ7_fill_d0a16_13 : decode cJ7_fill_d0a16 13 = .ok (.iload_n 3, 1) := by decide +kernel
theorem dJ7_fill_d0a16_14 : decode cJ7_fill_d0a16 14 = .ok (.lload_n 1, 1) := by decide +kernel
theorem dJ7_fill_d0a16_15 : decode cJ7_fill_d0a16 15 = .ok (.lastore, 1) := by decide +kernel
theorem dJ7_fill_d0a16_16 : decode cJ7_fill_d0a16 16 = .ok (.iinc 3 1, 3) := by decide +kernel
theorem dJ7_fill_d0a16_19 : decode cJ7_fill_d0a16 19 = .ok (.goto (-13), 3) := by decide +kernel
theorem dJ7_fill_d0a16_22 : decode cJ7_fill_d0a16 22 = .ok (.return_, 1) := by decide +kernel
theorem dJ7_fill_53178_0 : decode cJ7_fill_53178 0 = .ok (.iconst 0, 1) := by decide +kernel
theorem dJ7_fill_53178_1 : decode cJ7_fill_53178 1 = .ok (.istore_n 2, 1) := by decide +kernel
theorem dJ7_fill_53178_2 : decode cJ7_fill_53178 2 = .ok (.aload_n 0, 1) := by decide +kernel
theorem dJ7_fill_53178_3 : decode cJ7_fill_53178 3 = .ok (.arraylength, 1) := by decide +kernel
theorem dJ7_fill_53178_4 : decode cJ7_fill_53178 4 = .ok (.istore_n 3, 1) := by decide +kernel
theorem dJ7_fill_53178_5 : decode cJ7_fill_53178 5 = .ok (.iload_n 2, 1) := by decide +kernel
theorem dJ7_fill_53178_6 : decode cJ7_fill_53178 6 = .ok (.iload_n 3, 1) := by decide +kernel
theorem dJ7_fill_53178_7 : decode cJ7_fill_53178 7 = .ok (.if_icmp .ge 13, 3) := by decide +kernel
theorem dJ7_fill_53178_10 : decode cJ7_fill_53178 10 = .ok (.aload_n 0, 1) := by decide +kernel
theorem dJ7_fill_53178_11 : decode cJ7_fill_53178 11 = .ok (.iload_n 2, 1) := by decide +kernel
theorem dJ7_fill_53178_12 : decode cJ7_fill_53178 12 = .ok (.iload_n 1, 1) := by decide +kernel
theorem dJ7_fill_53178_13 : decode cJ7_fill_53178 13 = .ok (.iastore, 1) := by decide +kernel
theorem dJ7_fill_53178_14 : decode cJ7_fill_53178 14 = .ok (.iinc 2 1, 3) := by decide +kernel
theorem dJ7_fill_53178_17 : decode cJ7_fill_53178 17 = .ok (.goto (-12), 3) := by decide +kernel
theorem dJ7_fill_53178_20 : decode cJ7_fill_53178 20 = .ok (.return_, 1) := by decide +kernel
theorem dJ3_checkFromToIndex_8c36e_0 : decode cJ3_checkFromToIndex_8c36e 0 = .ok (.iload_n 0, 1) := by decide +kernel
theorem dJ3_checkFromToIndex_8c36e_1 : decode cJ3_checkFromToIndex_8c36e 1 = .ok (.ifCond .lt 13, 3) := by decide +kernel
theorem dJ3_checkFromToIndex_8c36e_4 : decode cJ3_checkFromToIndex_8c36e 4 = .ok (.iload_n 0, 1) := by decide +kernel
theorem dJ3_checkFromToIndex_8c36e_5 : decode cJ3_checkFromToIndex_8c36e 5 = .ok (.iload_n 1, 1) := by decide +kernel
theorem dJ3_checkFromToIndex_8c36e_6 : decode cJ3_checkFromToIndex_8c36e 6 = .ok (.if_icmp .gt 8, 3) := by decide +kernel
theorem dJ3_checkFromToIndex_8c36e_9 : decode cJ3_checkFromToIndex_8c36e 9 = .ok (.iload_n 1, 1) := by decide +kernel
theorem dJ3_checkFromToIndex_8c36e_10 : decode cJ3_checkFromToIndex_8c36e 10 = .ok (.iload_n 2, 1) := by decide +kernel
theorem dJ3_checkFromToIndex_8c36e_11 : decode cJ3_checkFromToIndex_8c36e 11 = .ok (.if_icmp .le 11, 3) := by decide +kernel
theorem dJ3_checkFromToIndex_8c36e_14 : decode cJ3_checkFromToIndex_8c36e 14 = .ok (.aload_n 3, 1) := by decide +kernel
theorem dJ3_checkFromToIndex_8c36e_15 : decode cJ3_checkFromToIndex_8c36e 15 = .ok (.iload_n 0, 1) := by decide +kernel
theorem dJ3_checkFromToIndex_8c36e_16 : decode cJ3_checkFromToIndex_8c36e 16 = .ok (.iload_n 1, 1) := by decide +kernel
theorem dJ3_checkFromToIndex_8c36e_17 : decode cJ3_checkFromToIndex_8c36e 17 = .ok (.iload_n 2, 1) := by decide +kernel
theorem dJ3_checkFromToIndex_8c36e_18 : decode cJ3_checkFromToIndex_8c36e 18 = .ok (.invokestatic 99, 3) := by decide +kernel
theorem dJ3_checkFromToIndex_8c36e_21 : decode cJ3_checkFromToIndex_8c36e 21 = .ok (.athrow, 1) := by decide +kernel
theorem dJ3_checkFromToIndex_8c36e_22 : decode cJ3_checkFromToIndex_8c36e 22 = .ok (.iload_n 0, 1) := by decide +kernel
theorem dJ3_checkFromToIndex_8c36e_23 : decode cJ3_checkFromToIndex_8c36e 23 = .ok (.ireturn, 1) := by decide +kernel
set_option maxRecDepth 20000 in
theorem ggL_user_X11_user : GoodIn wsL_user wsX11_user := goodIn_ca (goodIn_r _ [6, 7, 8, 9, 10, 11, 12, 13, 14, 15, 16, 17, 18, 19, 20, 5, 21, 22, 23, 24, 25, 26, 27, 28, 29, 30, 31, 32, 33, 34, 35, 36, 37, 38, 39, 40, 41, 42, 43, 44, 45, 46, 47, 48, 49, 50, 51, 52, 53, 54, 55, 56, 57, 58, 59, 60, 61, 62, 63, 64, 65, 66, 67, 68, 69, 70, 71, 72, 73, 74, 75, 76, 77, 78, 79, 80, 81, 82, 83, 84, 85, 86, 87, 88, 89, 90, 91, 92, 93, 94, 95, 96, 97, 98, 99, 100, 101, 102, 103, 104, 105, 106, 107, 108, 109, 110, 111, 112, 113, 114, 115, 116, 117, 118, 119, 120, 121, 122, 123, 124, 125, 126, 127, 128, 129, 130, 131, 132, 133, 134, 135, 136, 137, 138, 139, 140, 141, 142] (by decide +kernel) (by decide +kernel)) (goodIn_sub (fun _ h => List.mem_cons_of_mem _ (List.mem_append_right _ h)) (by decide +kernel))
set_option maxRecDepth 20000 in
theorem gL_user_X11_user : GoodIn wsL_user (wsV RL 7 RX11 yX11_user wsX11_user) := goodIn_app (goodIn_of _ (by decide +kernel)) ggL_user_X11_user
theorem dL_user_0 : decode cL_user 0 = .ok (.aload_n 3, 1) := by decide +kernel
theorem dL_user_1 : decode cL_user 1 = .ok (.iconst 0, 1) := by decide +kernel
theorem dL_user_2 : decode cL_user 2 = .ok (.aload_n 0, 1) := by decide +kernel
theorem dL_user_3 : decode cL_user 3 = .ok (.iload_n 1, 1) := by decide +kernel
theorem dL_user_4 : decode cL_user 4 = .ok (.iload_n 2, 1) := by decide +kernel
theorem dL_user_5 : decode cL_user 5 = .ok (.invokevirtual 7, 3) := by decide +kernel
theorem dL_user_8 : decode cL_user 8 = .ok (.i2l, 1) := by decide +kernel
theorem dL_user_9 : decode cL_user 9 = .ok (.lastore, 1) := by decide +kernel
theorem dL_user_10 : decode cL_user 10 = .ok (.goto 7, 3) := by decide +kernel
theorem dL_user_13 : decode cL_user 13 = .ok (.astore 4, 2) := by decide +kernel
theorem dL_user_15 : decode cL_user 15 = .ok (.iconst 1, 1) := by decide +kernel
theorem dL_user_16 : decode cL_user 16 = .ok (.ireturn, 1) := by decide +kernel
theorem dL_user_17 : decode cL_user 17 = .ok (.iconst 0, 1) := by decide +kernel
theorem dL_user_18 : decode cL_user 18 = .ok (.ireturn, 1) := by decide +kernel
set_option maxRecDepth 20000 in
theorem ggL_law_X11_init : GoodIn wsL_law wsX11_init := goodIn_r _ [10, 11, 12, 13, 14, 15, 16, 17, 18, 19, 20, 21, 22, 23, 24, 25, 26, 27, 28, 29, 30, 31, 32, 33, 34, 35, 36, 37, 38, 39, 40, 41, 42, 43, 44, 45, 46, 47, 48, 49, 50, 51, 52, 53, 54, 55, 56, 57, 58, 59, 60, 61, 62, 63, 64, 65, 66, 67, 68, 69, 70, 71, 72, 73, 74, 75, 76, 77, 78, 79, 80, 81, 82, 83, 84, 85, 86, 87, 88, 6, 89, 90, 91, 92, 93, 94, 95, 96, 97, 98, 99, 100, 101, 102, 103, 104, 105, 106, 107, 108, 109, 110, 111, 112, 113, 114, 115, 116, 117, 118, 119, 120, 121, 122, 123, 124, 125, 126, 127, 128, 129, 130, 131, 132, 133, 134, 135, 1756, 1757, 1758, 1759, 1707, 1708, 1709, 1710, 1711, 1712, 1713, 1714, 1715, 1716, 1717, 1718, 1719, 1720, 1721, 1722, 1723, 1724, 1725, 1760, 1761, 1762, 1763, 1764, 1765, 1766, 1767, 1768, 1769, 1770, 1771, 1772, 1773, 1774, 1775, 1776, 1777, 1778, 1779, 1780, 1781, 1782, 1783, 1784, 1785, 1786, 1787, 1788, 1789, 1790, 1791, 1792, 1793, 1794, 1795, 1796, 1797, 1798, 1799, 1800, 1801, 1802, 1803] (by decide +kernel) (by decide +kernel)
set_option maxRecDepth 20000 in
theorem gL_law_X11_init : GoodIn wsL_law (wsX11_init) := ggL_law_X11_init
set_option maxRecDepth 20000 in
theorem ggL_law_X12_init : GoodIn wsL_law wsX12_init := goodIn_r _ [138, 139, 12, 13, 43, 140, 141, 142, 143, 144, 145, 146, 147, 148, 149, 150, 111, 151, 152, 153, 154, 155, 156, 157, 1726, 1727, 1728, 1729, 1730, 1731, 1732, 1733, 1734, 1735, 1736, 1737, 1738, 1739, 1740, 1741, 1742, 1743, 1744, 1745, 1746, 1747, 1748, 1749, 1750, 1751, 1752, 1753, 1754, 1755] (by decide +kernel) (by decide +kernel)
set_option maxRecDepth 20000 in
theorem gL_law_X12_init : GoodIn wsL_law (wsX12_init) := ggL_law_X12_init
set_option maxRecDepth 20000 in
theorem ggL_law_X11_feed : GoodIn wsL_law wsX11_feed := goodIn_r _ [161, 17, 162, 163, 164, 16, 165, 166, 167, 168, 169, 170, 69, 1707, 1708, 1709, 1710, 1711, 1712, 1713, 1714, 1715, 1716, 1717, 1718, 1719, 1720, 1721, 1722, 1723, 1724, 1725, 1756, 1757, 1758, 1759] (by decide +kernel) (by decide +kernel)
set_option maxRecDepth 20000 in
theorem gL_law_X11_feed : GoodIn wsL_law (wsV RL 19 RX11 yX11_feed wsX11_feed) := goodIn_app (goodIn_of _ (by decide +kernel)) ggL_law_X11_feed
set_option maxRecDepth 20000 in
theorem ggL_law_X12_feed : GoodIn wsL_law wsX12_feed := goodIn_r _ [174, 175, 140, 176, 177, 5, 178, 1726, 1727, 1728, 1729, 1730, 1731, 1732, 1733, 1734, 1735, 1736, 1737, 1738, 1739, 1740, 1741, 1742, 1743, 1744, 1745, 1746, 1747, 1748, 1749, 1750, 1751, 1752, 1753, 1754, 1755] (by decide +kernel) (by decide +kernel)
set_option maxRecDepth 20000 in
theorem gL_law_X12_feed : GoodIn wsL_law (wsV RL 23 RX12 yX12_feed wsX12_feed) := goodIn_app (goodIn_of _ (by decide +kernel)) ggL_law_X12_feed
set_option maxRecDepth 20000 in
theorem ggL_law_X11_end : GoodIn wsL_law wsX11_end := goodIn_r _ [182, 17, 162, 1707, 1708, 1709, 1710, 1711, 1712, 1713, 1714, 1715, 1716, 1717, 1718, 1719, 1720, 1721, 1722, 1723, 1724, 1725, 1756, 1757, 1758, 1759] (by decide +kernel) (by decide +kernel)
set_option maxRecDepth 20000 in
theorem gL_law_X11_end : GoodIn wsL_law (wsV RL 24 RX11 yX11_end wsX11_end) := goodIn_app (goodIn_of _ (by decide +kernel)) ggL_law_X11_end
set_option maxRecDepth 20000 in
theorem ggL_law_X12_end : GoodIn wsL_law wsX12_end := goodIn_r _ [186, 175, 187, 188, 5, 189, 1726, 1727, 1728, 1729, 1730, 1731, 1732, 1733, 1734, 1735, 1736, 1737, 1738, 1739, 1740, 1741, 1742, 1743, 1744, 1745, 1746, 1747, 1748, 1749, 1750, 1751, 1752, 1753, 1754, 1755] (by decide +kernel) (by decide +kernel)
set_option maxRecDepth 20000 in
theorem gL_law_X12_end : GoodIn wsL_law (wsV RL 28 RX12 yX12_end wsX12_end) := goodIn_app (goodIn_of _ (by decide +kernel)) ggL_law_X12_end
set_option maxRecDepth 20000 in
theorem ggL_law_X11_fault : GoodIn wsL_law wsX11_fault := goodIn_r _ [193, 21, 17, 26, 194, 195, 196, 20, 197, 198, 199, 200, 201, 202, 203, 204, 205, 206, 207, 208, 79, 209, 210, 211, 212, 213, 214, 215, 216, 217, 218, 219, 220, 221, 222, 223, 224, 225, 226, 73, 227, 228, 229, 230, 231, 232, 233, 234, 235, 16, 236, 237, 170, 69, 238, 239, 240, 241, 242, 243, 244, 245, 246, 247, 248, 249, 250, 251, 252, 253, 254, 255, 256, 257, 258, 259, 260, 261, 262, 263, 264, 265, 266, 267, 268, 269, 270, 271, 272, 273, 274, 275, 276, 277, 278, 279, 280, 281, 282, 283, 284, 285, 286, 287, 288, 289, 290, 291, 292, 293, 294, 295, 296, 297, 298, 299, 300, 301, 302, 303, 304, 305, 306, 307, 308, 309, 310, 311, 312, 313, 314, 315, 316, 317, 318, 319, 320, 321, 322, 323, 324, 325, 326, 327, 328, 329, 330, 331, 332, 333, 334, 335, 336, 337, 338, 339, 340, 341, 342, 343, 344, 345, 346, 347, 348, 349, 350, 74, 75, 76, 77, 78, 351, 352, 353, 354, 355, 356, 357, 358, 359, 360, 361, 25, 362, 363, 364, 365, 366, 367, 368, 369, 83, 84, 370, 371, 372, 373, 374, 375, 376, 1707, 1708, 1709, 1710, 1711, 1712, 1713, 1714, 1715, 1716, 1717, 1718, 1719, 1720, 1721, 1722, 1723, 1724, 1725, 1756, 1757, 1758, 1759, 1760, 1761, 1762, 1763, 1764, 1765, 1766, 1767, 1768, 1769, 1770, 1771, 1772, 1773, 1774, 1775, 1776, 1777] (by decide +kernel) (by decide +kernel)
set_option maxRecDepth 20000 in
theorem gL_law_X11_fault : GoodIn wsL_law (wsV RL 29 RX11 yX11_fault wsX11_fault) := goodIn_app (goodIn_of _ (by decide +kernel)) ggL_law_X11_fault
set_option maxRecDepth 20000 in
theorem ggL_law_X12_fault : GoodIn wsL_law wsX12_fault := goodIn_r _ [380, 381, 382, 383, 5, 384, 385, 386, 387, 388, 141, 142, 143, 389, 390, 391, 392, 393, 394, 395, 396, 397, 398, 399, 175, 140, 400, 401, 402, 403, 404, 405, 406, 407, 408, 409, 410, 411, 412, 413, 414, 415, 416, 417, 418, 419, 420, 421, 422, 423, 424, 425, 426, 187, 188, 189, 427, 428, 429, 430, 431, 432, 433, 434, 148, 435, 436, 437, 438, 147, 439, 440, 441, 1726, 1727, 1728, 1729, 1730, 1731, 1732, 1733, 1734, 1735, 1736, 1737, 1738, 1739, 1740, 1741, 1742, 1743, 1744, 1745, 1746, 1747, 1748, 1749, 1750, 1751, 1752, 1753, 1754, 1755] (by decide +kernel) (by decide +kernel)
set_option maxRecDepth 20000 in
theorem gL_law_X12_fault : GoodIn wsL_law (wsV RL 33 RX12 yX12_fault wsX12_fault) := goodIn_app (goodIn_of _ (by decide +kernel)) ggL_law_X12_fault
set_option maxRecDepth 20000 in
theorem ggL_law_X11_text : GoodIn wsL_law wsX11_text := goodIn_r _ [445, 446, 447, 448, 2, 449, 21, 17, 22, 162, 31, 52, 37, 450, 42, 451, 452, 453, 194, 195, 196, 20, 197, 198, 199, 200, 201, 202, 203, 204, 205, 206, 207, 208, 79, 209, 210, 211, 212, 213, 214, 215, 216, 217, 218, 219, 220, 221, 222, 223, 224, 225, 226, 73, 227, 228, 229, 230, 231, 232, 233, 234, 235, 16, 236, 237, 170, 69, 238, 239, 240, 241, 242, 243, 244, 245, 246, 247, 248, 249, 250, 251, 252, 253, 254, 255, 256, 257, 258, 259, 260, 261, 262, 263, 264, 265, 266, 267, 268, 269, 270, 271, 272, 273, 274, 275, 276, 277, 278, 279, 280, 281, 282, 283, 284, 285, 286, 287, 288, 289, 290, 291, 292, 293, 294, 295, 296, 297, 298, 299, 300, 301, 302, 303, 304, 305, 306, 307, 308, 309, 310, 311, 312, 313, 314, 315, 316, 317, 318, 319, 320, 321, 322, 323, 324, 325, 326, 327, 328, 329, 330, 331, 332, 333, 334, 335, 336, 337, 338, 339, 340, 341, 342, 343, 344, 345, 346, 347, 348, 349, 350, 74, 75, 76, 77, 78, 351, 352, 353, 354, 355, 356, 357, 358, 454, 455, 456, 30, 457, 88, 89, 91, 458, 459, 460, 461, 462, 463, 464, 465, 466, 467, 468, 469, 470, 471, 472, 473, 474, 51, 475, 116, 476, 112, 477, 478, 479, 113, 480, 481, 482, 483, 484, 485, 486, 487, 488, 489, 490, 491, 492, 493, 494, 495, 26, 27, 359, 360, 361, 25, 362, 363, 364, 365, 366, 367, 368, 369, 83, 84, 370, 371, 372, 373, 374, 375, 376, 1707, 1708, 1709, 1710, 1711, 1712, 1713, 1714, 1715, 1716, 1717, 1718, 1719, 1720, 1721, 1722, 1723, 1724, 1725, 1756, 1757, 1758, 1759, 1783, 1784, 1785, 1786, 1787, 1788, 1789, 1760, 1761, 1762, 1763, 1764, 1765, 1766, 1767, 1768, 1769, 1770, 1771, 1772, 1773, 1774, 1778, 1779, 1780, 1781, 1782, 1791, 1792, 1793, 1794, 1795, 1796, 1797, 1775, 1776, 1777] (by decide +kernel) (by decide +kernel)
set_option maxRecDepth 20000 in
theorem gL_law_X11_text : GoodIn wsL_law (wsV RL 34 RX11 yX11_text wsX11_text) := goodIn_app (goodIn_of _ (by decide +kernel)) ggL_law_X11_text
set_option maxRecDepth 20000 in
theorem ggL_law_X12_text : GoodIn wsL_law wsX12_text := goodIn_r _ [499, 175, 500, 381, 382, 383, 5, 384, 385, 386, 387, 388, 141, 142, 143, 389, 390, 391, 392, 393, 394, 395, 396, 397, 398, 399, 140, 400, 401, 402, 403, 404, 405, 406, 407, 408, 409, 410, 411, 412, 413, 414, 415, 416, 417, 418, 419, 420, 421, 422, 423, 424, 425, 426, 187, 188, 189, 427, 428, 429, 430, 501, 502, 503, 504, 505, 144, 145, 146, 149, 506, 151, 507, 508, 509, 510, 511, 512, 431, 432, 433, 434, 148, 435, 436, 437, 438, 147, 439, 440, 441, 1726, 1727, 1728, 1729, 1730, 1731, 1732, 1733, 1734, 1735, 1736, 1737, 1738, 1739, 1740, 1741, 1742, 1743, 1744, 1745, 1746, 1747, 1748, 1749, 1750, 1751, 1752, 1753, 1754, 1755] (by decide +kernel) (by decide +kernel)
set_option maxRecDepth 20000 in
theorem gL_law_X12_text : GoodIn wsL_law (wsV RL 37 RX12 yX12_text wsX12_text) := goodIn_app (goodIn_of _ (by decide +kernel)) ggL_law_X12_text
set_option maxRecDepth 20000 in
theorem ggL_law_X11_rule : GoodIn wsL_law wsX11_rule := goodIn_r _ [516, 22, 517, 518, 31, 519, 520, 521, 522, 523, 2, 524, 453, 525, 526, 527, 20, 528, 213, 214, 1707, 1708, 1709, 1710, 1711, 1712, 1713, 1714, 1715, 1716, 1717, 1718, 1719, 1720, 1721, 1722, 1723, 1724, 1725, 1760, 1761, 1762, 1763, 1764, 1765, 1766, 1767, 1768, 1769, 1770, 1771, 1772, 1773, 1774, 1778, 1779, 1780, 1781, 1782] (by decide +kernel) (by decide +kernel)
set_option maxRecDepth 20000 in
theorem gL_law_X11_rule : GoodIn wsL_law (wsV RL 38 RX11 yX11_rule wsX11_rule) := goodIn_app (goodIn_of _ (by decide +kernel)) ggL_law_X11_rule
set_option maxRecDepth 20000 in
theorem ggL_law_X12_rule : GoodIn wsL_law wsX12_rule := goodIn_r _ [532, 149, 144, 533, 534, 535, 5, 536, 505, 187, 188, 189, 537, 538, 539, 540, 1726, 1727, 1728, 1729, 1730, 1731, 1732, 1733, 1734, 1735, 1736, 1737, 1738, 1739, 1740, 1741, 1742, 1743, 1744, 1745, 1746, 1747, 1748, 1749, 1750, 1751, 1752, 1753, 1754, 1755] (by decide +kernel) (by decide +kernel)
set_option maxRecDepth 20000 in
theorem gL_law_X12_rule : GoodIn wsL_law (wsV RL 41 RX12 yX12_rule wsX12_rule) := goodIn_app (goodIn_of _ (by decide +kernel)) ggL_law_X12_rule
set_option maxRecDepth 20000 in
theorem ggL_law_X11_weight : GoodIn wsL_law wsX11_weight := goodIn_r _ [544, 22, 545, 521, 522, 523, 2, 524, 453, 1707, 1708, 1709, 1710, 1711, 1712, 1713, 1714, 1715, 1716, 1717, 1718, 1719, 1720, 1721, 1722, 1723, 1724, 1725, 1760, 1761, 1762, 1763, 1764, 1765, 1766, 1767, 1768, 1769, 1770, 1771, 1772, 1773, 1774] (by decide +kernel) (by decide +kernel)
set_option maxRecDepth 20000 in
theorem gL_law_X11_weight : GoodIn wsL_law (wsV RL 42 RX11 yX11_weight wsX11_weight) := goodIn_app (goodIn_of _ (by decide +kernel)) ggL_law_X11_weight
set_option maxRecDepth 20000 in
theorem ggL_law_X12_weight : GoodIn wsL_law wsX12_weight := goodIn_r _ [549, 146, 533, 534, 535, 5, 536, 505, 187, 188, 189, 1726, 1727, 1728, 1729, 1730, 1731, 1732, 1733, 1734, 1735, 1736, 1737, 1738, 1739, 1740, 1741, 1742, 1743, 1744, 1745, 1746, 1747, 1748, 1749, 1750, 1751, 1752, 1753, 1754, 1755] (by decide +kernel) (by decide +kernel)
set_option maxRecDepth 20000 in
theorem gL_law_X12_weight : GoodIn wsL_law (wsV RL 45 RX12 yX12_weight wsX12_weight) := goodIn_app (goodIn_of _ (by decide +kernel)) ggL_law_X12_weight
set_option maxRecDepth 20000 in
theorem ggL_law_L_user : GoodIn wsL_law wsL_user := goodIn_ca (goodIn_r _ [553, 554, 555, 556, 557, 2, 558, 559, 560, 22, 561, 562, 563, 31, 564, 565, 52, 60, 566, 567, 568, 569, 453, 570, 571, 572, 573, 574, 575, 576, 577, 578, 579, 51, 580, 115, 581, 116, 476, 582, 583, 584, 218, 219, 220, 585, 586, 587, 20, 588, 76, 214, 213, 589, 469, 470, 471, 590, 591, 592, 30, 593, 89, 594, 595, 596, 597, 481, 114, 598, 599, 600, 59, 601, 130, 602, 603, 604, 605, 606, 607, 526, 527, 528, 608, 609, 610, 611, 612, 613, 614, 615, 112, 478, 113, 1707, 1708, 1709, 1710, 1711, 1712, 1713, 1714, 1715, 1716, 1717, 1718, 1719, 1720, 1721, 1722, 1723, 1724, 1725, 1760, 1761, 1762, 1763, 1764, 1765, 1766, 1767, 1768, 1769, 1770, 1771, 1772, 1773, 1774, 1778, 1779, 1780, 1781, 1782, 1791, 1792, 1793, 1794, 1795, 1796, 1797, 1801, 1802] (by decide +kernel) (by decide +kernel)) (goodIn_sub (fun _ h => List.mem_append_right _ h) (by decide +kernel))
set_option maxRecDepth 20000 in
theorem gL_law_L_user : GoodIn wsL_law (va_wsS RL 46 yL_user wsL_user) := goodIn_app (goodIn_of _ (by decide +kernel)) ggL_law_L_user
set_option maxRecDepth 20000 in
theorem ggL_law_X12_user : GoodIn wsL_law wsX12_user := goodIn_r _ [619, 620, 149, 145, 621, 622, 623, 5, 624, 505, 187, 188, 189, 625, 626, 627, 628, 629, 630, 631, 632, 633, 634, 635, 636, 637, 638, 639, 154, 640, 641, 642, 643, 644, 645, 646, 647, 152, 537, 538, 539, 540, 144, 533, 534, 535, 536, 648, 649, 650, 651, 652, 653, 654, 655, 656, 151, 657, 658, 659, 660, 407, 408, 409, 661, 662, 663, 664, 665, 666, 667, 668, 506, 669, 670, 671, 672, 673, 674, 675, 676, 677, 678, 679, 680, 1726, 1727, 1728, 1729, 1730, 1731, 1732, 1733, 1734, 1735, 1736, 1737, 1738, 1739, 1740, 1741, 1742, 1743, 1744, 1745, 1746, 1747, 1748, 1749, 1750, 1751, 1752, 1753, 1754, 1755] (by decide +kernel) (by decide +kernel)
set_option maxRecDepth 20000 in
theorem gL_law_X12_user : GoodIn wsL_law (wsV RL 51 RX12 yX12_user wsX12_user) := goodIn_app (goodIn_of _ (by decide +kernel)) ggL_law_X12_user
set_option maxRecDepth 20000 in
theorem ggL_law_X12_thrown : GoodIn wsL_law wsX12_thrown := goodIn_r _ [684, 620, 1726, 1727, 1728, 1729, 1730, 1731, 1732, 1733, 1734, 1735, 1736, 1737, 1738, 1739, 1740, 1741, 1742, 1743, 1744, 1745, 1746, 1747, 1748, 1749, 1750, 1751, 1752, 1753, 1754, 1755] (by decide +kernel) (by decide +kernel)
set_option maxRecDepth 20000 in
theorem gL_law_X12_thrown : GoodIn wsL_law (wsV RL 52 RX12 yX12_thrown wsX12_thrown) := goodIn_app (goodIn_of _ (by decide +kernel)) ggL_law_X12_thrown
set_option maxRecDepth 20000 in
theorem ggL_law_X11_copies : GoodIn wsL_law wsX11_copies := goodIn_r _ [688, 31, 564, 566, 567, 568, 2, 569, 22, 453, 1707, 1708, 1709, 1710, 1711, 1712, 1713, 1714, 1715, 1716, 1717, 1718, 1719, 1720, 1721, 1722, 1723, 1724, 1725, 1778, 1779, 1780, 1781, 1782, 1760, 1761, 1762, 1763, 1764, 1765, 1766, 1767, 1768, 1769, 1770, 1771, 1772, 1773, 1774] (by decide +kernel) (by decide +kernel)
set_option maxRecDepth 20000 in
theorem gL_law_X11_copies : GoodIn wsL_law (wsV RL 56 RX11 yX11_copies wsX11_copies) := goodIn_app (goodIn_of _ (by decide +kernel)) ggL_law_X11_copies
set_option maxRecDepth 20000 in
theorem ggL_law_X12_copies : GoodIn wsL_law wsX12_copies := goodIn_r _ [692, 149, 621, 622, 623, 5, 624, 505, 187, 188, 189, 1726, 1727, 1728, 1729, 1730, 1731, 1732, 1733, 1734, 1735, 1736, 1737, 1738, 1739, 1740, 1741, 1742, 1743, 1744, 1745, 1746, 1747, 1748, 1749, 1750, 1751, 1752, 1753, 1754, 1755] (by decide +kernel) (by decide +kernel)
set_option maxRecDepth 20000 in
theorem gL_law_X12_copies : GoodIn wsL_law (wsV RL 60 RX12 yX12_copies wsX12_copies) := goodIn_app (goodIn_of _ (by decide +kernel)) ggL_law_X12_copies
set_option maxRecDepth 20000 in
theorem ggL_law_X11_strength : GoodIn wsL_law wsX11_strength := goodIn_r _ [696, 52, 697, 566, 567, 568, 2, 569, 22, 453, 698, 699, 700, 701, 702, 1707, 1708, 1709, 1710, 1711, 1712, 1713, 1714, 1715, 1716, 1717, 1718, 1719, 1720, 1721, 1722, 1723, 1724, 1725, 1791, 1792, 1793, 1794, 1795, 1796, 1797, 1760, 1761, 1762, 1763, 1764, 1765, 1766, 1767, 1768, 1769, 1770, 1771, 1772, 1773, 1774] (by decide +kernel) (by decide +kernel)
set_option maxRecDepth 20000 in
theorem gL_law_X11_strength : GoodIn wsL_law (wsV RL 61 RX11 yX11_strength wsX11_strength) := goodIn_app (goodIn_of _ (by decide +kernel)) ggL_law_X11_strength
set_option maxRecDepth 20000 in
theorem ggL_law_X12_strength : GoodIn wsL_law wsX12_strength := goodIn_r _ [706, 151, 621, 622, 623, 5, 624, 505, 187, 188, 189, 707, 708, 709, 710, 711, 712, 713, 714, 715, 716, 717, 718, 1726, 1727, 1728, 1729, 1730, 1731, 1732, 1733, 1734, 1735, 1736, 1737, 1738, 1739, 1740, 1741, 1742, 1743, 1744, 1745, 1746, 1747, 1748, 1749, 1750, 1751, 1752, 1753, 1754, 1755] (by decide +kernel) (by decide +kernel)
set_option maxRecDepth 20000 in
theorem gL_law_X12_strength : GoodIn wsL_law (wsV RL 64 RX12 yX12_strength wsX12_strength) := goodIn_app (goodIn_of _ (by decide +kernel)) ggL_law_X12_strength
set_option maxRecDepth 20000 in
theorem ggL_law_X11_din : GoodIn wsL_law wsX11_din := goodIn_r _ [722, 52, 31, 723, 724, 725, 2, 726, 565, 566, 567, 568, 569, 22, 453, 727, 728, 729, 730, 525, 526, 527, 20, 528, 213, 214, 731, 591, 592, 30, 593, 89, 577, 578, 579, 51, 580, 115, 581, 116, 476, 582, 583, 584, 218, 219, 220, 585, 586, 587, 588, 76, 589, 469, 470, 471, 590, 594, 595, 596, 597, 481, 114, 732, 733, 734, 735, 113, 698, 699, 700, 701, 702, 1707, 1708, 1709, 1710, 1711, 1712, 1713, 1714, 1715, 1716, 1717, 1718, 1719, 1720, 1721, 1722, 1723, 1724, 1725, 1778, 1779, 1780, 1781, 1782, 1760, 1761, 1762, 1763, 1764, 1765, 1766, 1767, 1768, 1769, 1770, 1771, 1772, 1773, 1774, 1791, 1792, 1793, 1794, 1795, 1796, 1797] (by decide +kernel) (by decide +kernel)
set_option maxRecDepth 20000 in
theorem gL_law_X11_din : GoodIn wsL_law (wsV RL 65 RX11 yX11_din wsX11_din) := goodIn_app (goodIn_of _ (by decide +kernel)) ggL_law_X11_din
set_option maxRecDepth 20000 in
theorem ggL_law_X12_din : GoodIn wsL_law wsX12_din := goodIn_r _ [739, 740, 741, 742, 5, 743, 621, 622, 623, 624, 505, 187, 188, 189, 744, 745, 746, 747, 537, 538, 539, 540, 144, 533, 534, 535, 536, 640, 641, 642, 643, 149, 657, 658, 659, 660, 407, 408, 409, 669, 670, 671, 672, 506, 151, 707, 708, 709, 710, 711, 712, 713, 714, 715, 716, 717, 718, 1726, 1727, 1728, 1729, 1730, 1731, 1732, 1733, 1734, 1735, 1736, 1737, 1738, 1739, 1740, 1741, 1742, 1743, 1744, 1745, 1746, 1747, 1748, 1749, 1750, 1751, 1752, 1753, 1754, 1755] (by decide +kernel) (by decide +kernel)
set_option maxRecDepth 20000 in
theorem gL_law_X12_din : GoodIn wsL_law (wsV RL 68 RX12 yX12_din wsX12_din) := goodIn_app (goodIn_of _ (by decide +kernel)) ggL_law_X12_din
set_option maxRecDepth 20000 in
theorem ggL_law_X11_margin : GoodIn wsL_law wsX11_margin := goodIn_r _ [751, 52, 31, 723, 724, 725, 2, 726, 565, 566, 567, 568, 569, 22, 453, 727, 728, 729, 730, 525, 526, 527, 20, 528, 213, 214, 731, 591, 592, 30, 593, 89, 577, 578, 579, 51, 580, 115, 581, 116, 476, 582, 583, 584, 218, 219, 220, 585, 586, 587, 588, 76, 589, 469, 470, 471, 590, 594, 595, 596, 597, 481, 114, 752, 753, 754, 755, 112, 478, 756, 733, 734, 735, 113, 698, 699, 700, 701, 702, 1707, 1708, 1709, 1710, 1711, 1712, 1713, 1714, 1715, 1716, 1717, 1718, 1719, 1720, 1721, 1722, 1723, 1724, 1725, 1778, 1779, 1780, 1781, 1782, 1760, 1761, 1762, 1763, 1764, 1765, 1766, 1767, 1768, 1769, 1770, 1771, 1772, 1773, 1774, 1791, 1792, 1793, 1794, 1795, 1796, 1797] (by decide +kernel) (by decide +kernel)
set_option maxRecDepth 20000 in
theorem gL_law_X11_margin : GoodIn wsL_law (wsV RL 69 RX11 yX11_margin wsX11_margin) := goodIn_app (goodIn_of _ (by decide +kernel)) ggL_law_X11_margin
set_option maxRecDepth 20000 in
theorem ggL_law_X12_margin : GoodIn wsL_law wsX12_margin := goodIn_r _ [760, 151, 740, 741, 742, 5, 743, 621, 622, 623, 624, 505, 187, 188, 189, 744, 745, 746, 747, 537, 538, 539, 540, 144, 533, 534, 535, 536, 640, 641, 642, 643, 149, 657, 658, 659, 660, 407, 408, 409, 665, 666, 667, 668, 506, 669, 670, 671, 672, 707, 708, 709, 710, 711, 712, 713, 714, 715, 716, 717, 718, 1726, 1727, 1728, 1729, 1730, 1731, 1732, 1733, 1734, 1735, 1736, 1737, 1738, 1739, 1740, 1741, 1742, 1743, 1744, 1745, 1746, 1747, 1748, 1749, 1750, 1751, 1752, 1753, 1754, 1755] (by decide +kernel) (by decide +kernel)
set_option maxRecDepth 20000 in
theorem gL_law_X12_margin : GoodIn wsL_law (wsV RL 72 RX12 yX12_margin wsX12_margin) := goodIn_app (goodIn_of _ (by decide +kernel)) ggL_law_X12_margin
set_option maxRecDepth 20000 in
theorem ggL_law_X11_clear : GoodIn wsL_law wsX11_clear := goodIn_r _ [764, 52, 31, 765, 723, 724, 725, 2, 726, 565, 566, 567, 568, 569, 22, 453, 727, 728, 729, 730, 525, 526, 527, 20, 528, 213, 214, 731, 591, 592, 30, 593, 89, 577, 578, 579, 51, 580, 115, 581, 116, 476, 582, 583, 584, 218, 219, 220, 585, 586, 587, 588, 76, 589, 469, 470, 471, 590, 594, 595, 596, 597, 481, 114, 766, 609, 610, 611, 612, 613, 614, 615, 112, 478, 113, 1707, 1708, 1709, 1710, 1711, 1712, 1713, 1714, 1715, 1716, 1717, 1718, 1719, 1720, 1721, 1722, 1723, 1724, 1725, 1791, 1792, 1793, 1794, 1795, 1796, 1797, 1778, 1779, 1780, 1781, 1782, 1760, 1761, 1762, 1763, 1764, 1765, 1766, 1767, 1768, 1769, 1770, 1771, 1772, 1773, 1774] (by decide +kernel) (by decide +kernel)
set_option maxRecDepth 20000 in
theorem gL_law_X11_clear : GoodIn wsL_law (wsV RL 73 RX11 yX11_clear wsX11_clear) := goodIn_app (goodIn_of _ (by decide +kernel)) ggL_law_X11_clear
set_option maxRecDepth 20000 in
theorem ggL_law_X12_clear : GoodIn wsL_law wsX12_clear := goodIn_r _ [770, 740, 741, 742, 5, 743, 621, 622, 623, 624, 505, 187, 188, 189, 744, 745, 746, 747, 537, 538, 539, 540, 144, 533, 534, 535, 536, 640, 641, 642, 643, 149, 657, 658, 659, 660, 407, 408, 409, 652, 653, 654, 655, 656, 151, 661, 662, 663, 664, 665, 666, 667, 668, 506, 669, 670, 671, 672, 1726, 1727, 1728, 1729, 1730, 1731, 1732, 1733, 1734, 1735, 1736, 1737, 1738, 1739, 1740, 1741, 1742, 1743, 1744, 1745, 1746, 1747, 1748, 1749, 1750, 1751, 1752, 1753, 1754, 1755] (by decide +kernel) (by decide +kernel)
set_option maxRecDepth 20000 in
theorem gL_law_X12_clear : GoodIn wsL_law (wsV RL 76 RX12 yX12_clear wsX12_clear) := goodIn_app (goodIn_of _ (by decide +kernel)) ggL_law_X12_clear
set_option maxRecDepth 20000 in
theorem ggL_law_X11_slot : GoodIn wsL_law wsX11_slot := goodIn_r _ [774, 775, 52, 31, 776, 765, 521, 522, 523, 2, 524, 22, 453, 727, 728, 729, 730, 525, 526, 527, 20, 528, 213, 214, 577, 578, 579, 51, 580, 115, 581, 116, 476, 582, 583, 584, 218, 219, 220, 585, 586, 587, 588, 76, 589, 469, 470, 471, 590, 591, 592, 30, 593, 89, 594, 595, 596, 597, 481, 114, 777, 778, 488, 779, 780, 781, 782, 766, 609, 610, 611, 612, 613, 614, 615, 112, 478, 113, 1707, 1708, 1709, 1710, 1711, 1712, 1713, 1714, 1715, 1716, 1717, 1718, 1719, 1720, 1721, 1722, 1723, 1724, 1725, 1791, 1792, 1793, 1794, 1795, 1796, 1797, 1760, 1761, 1762, 1763, 1764, 1765, 1766, 1767, 1768, 1769, 1770, 1771, 1772, 1773, 1774, 1778, 1779, 1780, 1781, 1782] (by decide +kernel) (by decide +kernel)
set_option maxRecDepth 20000 in
theorem gL_law_X11_slot : GoodIn wsL_law (wsV RL 77 RX11 yX11_slot wsX11_slot) := goodIn_app (goodIn_of _ (by decide +kernel)) ggL_law_X11_slot
set_option maxRecDepth 20000 in
theorem ggL_law_X12_slot : GoodIn wsL_law wsX12_slot := goodIn_r _ [786, 787, 744, 745, 746, 5, 747, 537, 538, 539, 540, 144, 533, 534, 535, 536, 505, 187, 188, 189, 788, 789, 790, 791, 657, 658, 659, 660, 149, 407, 408, 409, 661, 662, 663, 664, 640, 641, 642, 643, 629, 630, 631, 648, 649, 650, 651, 652, 653, 654, 655, 656, 151, 665, 666, 667, 668, 506, 669, 670, 671, 672, 1726, 1727, 1728, 1729, 1730, 1731, 1732, 1733, 1734, 1735, 1736, 1737, 1738, 1739, 1740, 1741, 1742, 1743, 1744, 1745, 1746, 1747, 1748, 1749, 1750, 1751, 1752, 1753, 1754, 1755] (by decide +kernel) (by decide +kernel)
set_option maxRecDepth 20000 in
theorem gL_law_X12_slot : GoodIn wsL_law (wsV RL 80 RX12 yX12_slot wsX12_slot) := goodIn_app (goodIn_of _ (by decide +kernel)) ggL_law_X12_slot
set_option maxRecDepth 20000 in
theorem ggL_law_X11_peel : GoodIn wsL_law wsX11_peel := goodIn_r _ [795, 796, 797, 798, 2, 799, 44, 800, 801, 802, 803, 56, 31, 42, 37, 804, 805, 806, 55, 807, 123, 808, 124, 809, 810, 578, 579, 51, 580, 115, 581, 116, 476, 582, 583, 584, 218, 219, 220, 585, 586, 587, 20, 588, 76, 214, 213, 589, 469, 470, 471, 590, 591, 592, 30, 593, 89, 594, 595, 596, 597, 481, 114, 811, 604, 605, 606, 607, 526, 527, 528, 608, 609, 610, 611, 612, 613, 614, 615, 112, 478, 113, 812, 813, 814, 815, 816, 817, 818, 819, 820, 821, 822, 823, 824, 825, 826, 827, 828, 829, 830, 831, 832, 833, 834, 835, 836, 837, 838, 839, 840, 841, 842, 843, 844, 845, 846, 847, 41, 848, 103, 849, 850, 851, 281, 278, 282, 852, 853, 854, 855, 88, 856, 243, 244, 245, 90, 91, 459, 857, 858, 859, 860, 861, 862, 863, 864, 865, 866, 867, 488, 868, 490, 869, 870, 871, 872, 873, 874, 778, 779, 780, 781, 782, 875, 876, 877, 878, 879, 880, 881, 882, 883, 884, 885, 886, 887, 888, 889, 890, 891, 892, 893, 894, 895, 896, 897, 898, 899, 900, 901, 902, 903, 122, 904, 905, 906, 907, 47, 908, 909, 910, 911, 912, 913, 914, 915, 916, 917, 918, 919, 920, 921, 922, 923, 924, 925, 926, 927, 928, 929, 930, 571, 572, 573, 574, 575, 576, 931, 932, 933, 934, 935, 936, 937, 36, 938, 939, 95, 96, 97, 1707, 1708, 1709, 1710, 1711, 1712, 1713, 1714, 1715, 1716, 1717, 1718, 1719, 1720, 1721, 1722, 1723, 1724, 1725, 1798, 1799, 1800, 1760, 1761, 1762, 1763, 1764, 1765, 1766, 1767, 1768, 1769, 1770, 1771, 1772, 1773, 1774, 1791, 1792, 1793, 1794, 1795, 1796, 1797, 1778, 1779, 1780, 1781, 1782, 1787, 1788, 1789, 1790, 1783, 1784, 1785, 1786] (by decide +kernel) (by decide +kernel)
set_option maxRecDepth 20000 in
theorem gL_law_X11_peel : GoodIn wsL_law (wsV RL 81 RX11 yX11_peel wsX11_peel) := goodIn_app (goodIn_of _ (by decide +kernel)) ggL_law_X11_peel
set_option maxRecDepth 20000 in
theorem ggL_law_X12_peel : GoodIn wsL_law wsX12_peel := goodIn_r _ [943, 944, 945, 946, 5, 947, 150, 948, 949, 950, 951, 149, 533, 534, 535, 536, 505, 537, 538, 539, 540, 144, 952, 953, 954, 955, 648, 649, 650, 651, 652, 653, 654, 655, 656, 151, 640, 641, 642, 643, 657, 658, 659, 660, 407, 408, 409, 661, 662, 663, 664, 665, 666, 667, 668, 506, 669, 670, 671, 672, 621, 622, 623, 624, 187, 188, 189, 744, 745, 746, 747, 956, 957, 958, 959, 960, 961, 962, 963, 145, 964, 965, 966, 967, 968, 969, 970, 971, 146, 972, 973, 974, 975, 976, 977, 978, 979, 980, 981, 982, 983, 984, 985, 986, 987, 988, 989, 990, 991, 992, 993, 994, 995, 507, 153, 996, 997, 998, 999, 1000, 1001, 1002, 1003, 1004, 1005, 1006, 673, 674, 675, 676, 644, 645, 646, 647, 152, 1007, 1008, 1009, 1010, 1011, 1012, 1013, 1014, 629, 630, 631, 509, 510, 511, 512, 625, 626, 627, 628, 1015, 1016, 1017, 1018, 1019, 1020, 281, 278, 282, 1021, 1022, 1023, 1024, 1025, 1026, 1027, 1028, 1029, 1030, 1031, 1032, 1033, 1034, 1035, 1036, 1037, 1038, 1039, 1040, 1041, 1042, 1726, 1727, 1728, 1729, 1730, 1731, 1732, 1733, 1734, 1735, 1736, 1737, 1738, 1739, 1740, 1741, 1742, 1743, 1744, 1745, 1746, 1747, 1748, 1749, 1750, 1751, 1752, 1753, 1754, 1755] (by decide +kernel) (by decide +kernel)
set_option maxRecDepth 20000 in
theorem gL_law_X12_peel : GoodIn wsL_law (wsV RL 84 RX12 yX12_peel wsX12_peel) := goodIn_app (goodIn_of _ (by decide +kernel)) ggL_law_X12_peel
set_option maxRecDepth 20000 in
theorem ggL_law_X11_round : GoodIn wsL_law wsX11_round := goodIn_r _ [1046, 796, 797, 798, 2, 799, 44, 800, 801, 802, 803, 56, 31, 42, 37, 804, 805, 806, 55, 807, 123, 808, 124, 809, 810, 578, 579, 51, 580, 115, 581, 116, 476, 582, 583, 584, 218, 219, 220, 585, 586, 587, 20, 588, 76, 214, 213, 589, 469, 470, 471, 590, 591, 592, 30, 593, 89, 594, 595, 596, 597, 481, 114, 811, 604, 605, 606, 607, 526, 527, 528, 608, 609, 610, 611, 612, 613, 614, 615, 112, 478, 113, 812, 813, 814, 815, 816, 817, 818, 819, 820, 821, 822, 823, 824, 825, 826, 827, 828, 829, 830, 831, 832, 833, 834, 835, 836, 837, 838, 839, 840, 841, 842, 843, 844, 845, 846, 847, 41, 848, 103, 849, 850, 851, 281, 278, 282, 852, 853, 854, 855, 88, 856, 243, 244, 245, 90, 91, 459, 857, 858, 859, 860, 861, 862, 863, 864, 865, 866, 867, 488, 868, 490, 869, 870, 871, 872, 873, 874, 778, 779, 780, 781, 782, 875, 876, 877, 878, 879, 880, 881, 882, 883, 884, 885, 886, 887, 888, 889, 890, 891, 892, 893, 894, 895, 896, 897, 898, 899, 900, 901, 902, 903, 122, 904, 905, 906, 907, 47, 908, 909, 910, 911, 912, 913, 914, 915, 916, 917, 918, 919, 920, 921, 922, 923, 924, 925, 926, 927, 928, 929, 930, 571, 572, 573, 574, 575, 576, 931, 932, 933, 934, 935, 936, 937, 36, 938, 939, 95, 96, 97, 1707, 1708, 1709, 1710, 1711, 1712, 1713, 1714, 1715, 1716, 1717, 1718, 1719, 1720, 1721, 1722, 1723, 1724, 1725, 1798, 1799, 1800, 1760, 1761, 1762, 1763, 1764, 1765, 1766, 1767, 1768, 1769, 1770, 1771, 1772, 1773, 1774, 1791, 1792, 1793, 1794, 1795, 1796, 1797, 1778, 1779, 1780, 1781, 1782, 1787, 1788, 1789, 1790, 1783, 1784, 1785, 1786] (by decide +kernel) (by decide +kernel)
set_option maxRecDepth 20000 in
theorem gL_law_X11_round : GoodIn wsL_law (wsV RL 85 RX11 yX11_round wsX11_round) := goodIn_app (goodIn_of _ (by decide +kernel)) ggL_law_X11_round
set_option maxRecDepth 20000 in
theorem ggL_law_X12_round : GoodIn wsL_law wsX12_round := goodIn_r _ [1050, 944, 945, 946, 5, 947, 150, 948, 949, 950, 951, 149, 533, 534, 535, 536, 505, 537, 538, 539, 540, 144, 952, 953, 954, 955, 648, 649, 650, 651, 652, 653, 654, 655, 656, 151, 640, 641, 642, 643, 657, 658, 659, 660, 407, 408, 409, 661, 662, 663, 664, 665, 666, 667, 668, 506, 669, 670, 671, 672, 621, 622, 623, 624, 187, 188, 189, 744, 745, 746, 747, 956, 957, 958, 959, 960, 961, 962, 963, 145, 964, 965, 966, 967, 968, 969, 970, 971, 146, 972, 973, 974, 975, 976, 977, 978, 979, 980, 981, 982, 983, 984, 985, 986, 987, 988, 989, 990, 991, 992, 993, 994, 995, 507, 153, 996, 997, 998, 999, 1000, 1001, 1002, 1003, 1004, 1005, 1006, 673, 674, 675, 676, 644, 645, 646, 647, 152, 1007, 1008, 1009, 1010, 1011, 1012, 1013, 1014, 629, 630, 631, 509, 510, 511, 512, 625, 626, 627, 628, 1015, 1016, 1017, 1018, 1019, 1020, 281, 278, 282, 1021, 1022, 1023, 1024, 1025, 1026, 1027, 1028, 1029, 1030, 1031, 1032, 1033, 1034, 1035, 1036, 1037, 1038, 1039, 1040, 1041, 1042, 1726, 1727, 1728, 1729, 1730, 1731, 1732, 1733, 1734, 1735, 1736, 1737, 1738, 1739, 1740, 1741, 1742, 1743, 1744, 1745, 1746, 1747, 1748, 1749, 1750, 1751, 1752, 1753, 1754, 1755] (by decide +kernel) (by decide +kernel)
set_option maxRecDepth 20000 in
theorem gL_law_X12_round : GoodIn wsL_law (wsV RL 88 RX12 yX12_round wsX12_round) := goodIn_app (goodIn_of _ (by decide +kernel)) ggL_law_X12_round
set_option maxRecDepth 20000 in
theorem ggL_law_X11_tell : GoodIn wsL_law wsX11_tell := goodIn_r _ [1054, 796, 797, 798, 2, 799, 44, 800, 801, 802, 803, 56, 31, 42, 37, 804, 805, 806, 55, 807, 123, 808, 124, 809, 810, 578, 579, 51, 580, 115, 581, 116, 476, 582, 583, 584, 218, 219, 220, 585, 586, 587, 20, 588, 76, 214, 213, 589, 469, 470, 471, 590, 591, 592, 30, 593, 89, 594, 595, 596, 597, 481, 114, 811, 604, 605, 606, 607, 526, 527, 528, 608, 609, 610, 611, 612, 613, 614, 615, 112, 478, 113, 812, 813, 814, 815, 816, 817, 818, 819, 820, 821, 822, 823, 824, 825, 826, 827, 828, 829, 830, 831, 832, 833, 834, 835, 836, 837, 838, 839, 840, 841, 842, 843, 844, 845, 846, 847, 41, 848, 103, 849, 850, 851, 281, 278, 282, 852, 853, 854, 855, 88, 856, 243, 244, 245, 90, 91, 459, 857, 858, 859, 860, 861, 862, 863, 864, 865, 866, 867, 488, 868, 490, 869, 870, 871, 872, 873, 874, 778, 779, 780, 781, 782, 875, 876, 877, 878, 879, 880, 881, 882, 883, 884, 885, 886, 887, 888, 889, 890, 891, 892, 893, 894, 895, 896, 897, 898, 899, 900, 901, 902, 903, 122, 904, 905, 906, 907, 47, 908, 909, 910, 911, 912, 913, 914, 915, 916, 917, 918, 919, 920, 921, 922, 923, 924, 925, 926, 927, 928, 929, 930, 571, 572, 573, 574, 575, 576, 931, 932, 933, 934, 935, 936, 937, 36, 938, 939, 95, 96, 97, 1707, 1708, 1709, 1710, 1711, 1712, 1713, 1714, 1715, 1716, 1717, 1718, 1719, 1720, 1721, 1722, 1723, 1724, 1725, 1798, 1799, 1800, 1760, 1761, 1762, 1763, 1764, 1765, 1766, 1767, 1768, 1769, 1770, 1771, 1772, 1773, 1774, 1791, 1792, 1793, 1794, 1795, 1796, 1797, 1778, 1779, 1780, 1781, 1782, 1787, 1788, 1789, 1790, 1783, 1784, 1785, 1786] (by decide +kernel) (by decide +kernel)
set_option maxRecDepth 20000 in
theorem gL_law_X11_tell : GoodIn wsL_law (wsV RL 89 RX11 yX11_tell wsX11_tell) := goodIn_app (goodIn_of _ (by decide +kernel)) ggL_law_X11_tell
set_option maxRecDepth 20000 in
theorem ggL_law_X12_tell : GoodIn wsL_law wsX12_tell := goodIn_r _ [1058, 944, 945, 946, 5, 947, 150, 948, 949, 950, 951, 149, 533, 534, 535, 536, 505, 537, 538, 539, 540, 144, 952, 953, 954, 955, 648, 649, 650, 651, 652, 653, 654, 655, 656, 151, 640, 641, 642, 643, 657, 658, 659, 660, 407, 408, 409, 661, 662, 663, 664, 665, 666, 667, 668, 506, 669, 670, 671, 672, 621, 622, 623, 624, 187, 188, 189, 744, 745, 746, 747, 956, 957, 958, 959, 960, 961, 962, 963, 145, 964, 965, 966, 967, 968, 969, 970, 971, 146, 972, 973, 974, 975, 976, 977, 978, 979, 980, 981, 982, 983, 984, 985, 986, 987, 988, 989, 990, 991, 992, 993, 994, 995, 507, 153, 996, 997, 998, 999, 1000, 1001, 1002, 1003, 1004, 1005, 1006, 673, 674, 675, 676, 644, 645, 646, 647, 152, 1007, 1008, 1009, 1010, 1011, 1012, 1013, 1014, 629, 630, 631, 509, 510, 511, 512, 625, 626, 627, 628, 1015, 1016, 1017, 1018, 1019, 1020, 281, 278, 282, 1021, 1022, 1023, 1024, 1025, 1026, 1027, 1028, 1029, 1030, 1031, 1032, 1033, 1034, 1035, 1036, 1037, 1038, 1039, 1040, 1041, 1042, 1726, 1727, 1728, 1729, 1730, 1731, 1732, 1733, 1734, 1735, 1736, 1737, 1738, 1739, 1740, 1741, 1742, 1743, 1744, 1745, 1746, 1747, 1748, 1749, 1750, 1751, 1752, 1753, 1754, 1755] (by decide +kernel) (by decide +kernel)
set_option maxRecDepth 20000 in
theorem gL_law_X12_tell : GoodIn wsL_law (wsV RL 92 RX12 yX12_tell wsX12_tell) := goodIn_app (goodIn_of _ (by decide +kernel)) ggL_law_X12_tell
set_option maxRecDepth 20000 in
theorem ggL_law_X11_forget : GoodIn wsL_law wsX11_forget := goodIn_r _ [1062, 796, 797, 798, 2, 799, 44, 800, 801, 802, 803, 56, 31, 42, 37, 804, 805, 806, 55, 807, 123, 808, 124, 809, 810, 578, 579, 51, 580, 115, 581, 116, 476, 582, 583, 584, 218, 219, 220, 585, 586, 587, 20, 588, 76, 214, 213, 589, 469, 470, 471, 590, 591, 592, 30, 593, 89, 594, 595, 596, 597, 481, 114, 811, 604, 605, 606, 607, 526, 527, 528, 608, 609, 610, 611, 612, 613, 614, 615, 112, 478, 113, 812, 813, 814, 815, 816, 817, 818, 819, 820, 821, 822, 823, 824, 825, 826, 827, 828, 829, 830, 831, 832, 833, 834, 835, 836, 837, 838, 839, 840, 841, 842, 843, 844, 845, 846, 847, 41, 848, 103, 849, 850, 851, 281, 278, 282, 852, 853, 854, 855, 88, 856, 243, 244, 245, 90, 91, 459, 857, 858, 859, 860, 861, 862, 863, 864, 865, 866, 867, 488, 868, 490, 869, 870, 871, 872, 873, 874, 778, 779, 780, 781, 782, 875, 876, 877, 878, 879, 880, 881, 882, 883, 884, 885, 886, 887, 888, 889, 890, 891, 892, 893, 894, 895, 896, 897, 898, 899, 900, 901, 902, 903, 122, 904, 905, 906, 907, 47, 908, 909, 910, 911, 912, 913, 914, 915, 916, 917, 918, 919, 920, 921, 922, 923, 924, 925, 926, 927, 928, 929, 930, 571, 572, 573, 574, 575, 576, 931, 932, 933, 934, 935, 936, 937, 36, 938, 939, 95, 96, 97, 1707, 1708, 1709, 1710, 1711, 1712, 1713, 1714, 1715, 1716, 1717, 1718, 1719, 1720, 1721, 1722, 1723, 1724, 1725, 1798, 1799, 1800, 1760, 1761, 1762, 1763, 1764, 1765, 1766, 1767, 1768, 1769, 1770, 1771, 1772, 1773, 1774, 1791, 1792, 1793, 1794, 1795, 1796, 1797, 1778, 1779, 1780, 1781, 1782, 1787, 1788, 1789, 1790, 1783, 1784, 1785, 1786] (by decide +kernel) (by decide +kernel)
set_option maxRecDepth 20000 in
theorem gL_law_X11_forget : GoodIn wsL_law (wsV RL 93 RX11 yX11_forget wsX11_forget) := goodIn_app (goodIn_of _ (by decide +kernel)) ggL_law_X11_forget
set_option maxRecDepth 20000 in
theorem ggL_law_X12_forget : GoodIn wsL_law wsX12_forget := goodIn_r _ [1066, 944, 945, 946, 5, 947, 150, 948, 949, 950, 951, 149, 533, 534, 535, 536, 505, 537, 538, 539, 540, 144, 952, 953, 954, 955, 648, 649, 650, 651, 652, 653, 654, 655, 656, 151, 640, 641, 642, 643, 657, 658, 659, 660, 407, 408, 409, 661, 662, 663, 664, 665, 666, 667, 668, 506, 669, 670, 671, 672, 621, 622, 623, 624, 187, 188, 189, 744, 745, 746, 747, 956, 957, 958, 959, 960, 961, 962, 963, 145, 964, 965, 966, 967, 968, 969, 970, 971, 146, 972, 973, 974, 975, 976, 977, 978, 979, 980, 981, 982, 983, 984, 985, 986, 987, 988, 989, 990, 991, 992, 993, 994, 995, 507, 153, 996, 997, 998, 999, 1000, 1001, 1002, 1003, 1004, 1005, 1006, 673, 674, 675, 676, 644, 645, 646, 647, 152, 1007, 1008, 1009, 1010, 1011, 1012, 1013, 1014, 629, 630, 631, 509, 510, 511, 512, 625, 626, 627, 628, 1015, 1016, 1017, 1018, 1019, 1020, 281, 278, 282, 1021, 1022, 1023, 1024, 1025, 1026, 1027, 1028, 1029, 1030, 1031, 1032, 1033, 1034, 1035, 1036, 1037, 1038, 1039, 1040, 1041, 1042, 1726, 1727, 1728, 1729, 1730, 1731, 1732, 1733, 1734, 1735, 1736, 1737, 1738, 1739, 1740, 1741, 1742, 1743, 1744, 1745, 1746, 1747, 1748, 1749, 1750, 1751, 1752, 1753, 1754, 1755] (by decide +kernel) (by decide +kernel)
set_option maxRecDepth 20000 in
theorem gL_law_X12_forget : GoodIn wsL_law (wsV RL 96 RX12 yX12_forget wsX12_forget) := goodIn_app (goodIn_of _ (by decide +kernel)) ggL_law_X12_forget
set_option maxRecDepth 20000 in
theorem ggL_law_X11_turn : GoodIn wsL_law wsX11_turn := goodIn_r _ [1070, 796, 797, 798, 2, 799, 44, 800, 801, 802, 803, 56, 31, 42, 37, 804, 805, 806, 55, 807, 123, 808, 124, 809, 810, 578, 579, 51, 580, 115, 581, 116, 476, 582, 583, 584, 218, 219, 220, 585, 586, 587, 20, 588, 76, 214, 213, 589, 469, 470, 471, 590, 591, 592, 30, 593, 89, 594, 595, 596, 597, 481, 114, 811, 604, 605, 606, 607, 526, 527, 528, 608, 609, 610, 611, 612, 613, 614, 615, 112, 478, 113, 812, 813, 814, 815, 816, 817, 818, 819, 820, 821, 822, 823, 824, 825, 826, 827, 828, 829, 830, 831, 832, 833, 834, 835, 836, 837, 838, 839, 840, 841, 842, 843, 844, 845, 846, 847, 41, 848, 103, 849, 850, 851, 281, 278, 282, 852, 853, 854, 855, 88, 856, 243, 244, 245, 90, 91, 459, 857, 858, 859, 860, 861, 862, 863, 864, 865, 866, 867, 488, 868, 490, 869, 870, 871, 872, 873, 874, 778, 779, 780, 781, 782, 875, 876, 877, 878, 879, 880, 881, 882, 883, 884, 885, 886, 887, 888, 889, 890, 891, 892, 893, 894, 895, 896, 897, 898, 899, 900, 901, 902, 903, 122, 904, 905, 906, 907, 47, 908, 909, 910, 911, 912, 913, 914, 915, 916, 917, 918, 919, 920, 921, 922, 923, 924, 925, 926, 927, 928, 929, 930, 571, 572, 573, 574, 575, 576, 931, 932, 933, 934, 935, 936, 937, 36, 938, 939, 95, 96, 97, 1707, 1708, 1709, 1710, 1711, 1712, 1713, 1714, 1715, 1716, 1717, 1718, 1719, 1720, 1721, 1722, 1723, 1724, 1725, 1798, 1799, 1800, 1760, 1761, 1762, 1763, 1764, 1765, 1766, 1767, 1768, 1769, 1770, 1771, 1772, 1773, 1774, 1791, 1792, 1793, 1794, 1795, 1796, 1797, 1778, 1779, 1780, 1781, 1782, 1787, 1788, 1789, 1790, 1783, 1784, 1785, 1786] (by decide +kernel) (by decide +kernel)
set_option maxRecDepth 20000 in
theorem gL_law_X11_turn : GoodIn wsL_law (wsV RL 97 RX11 yX11_turn wsX11_turn) := goodIn_app (goodIn_of _ (by decide +kernel)) ggL_law_X11_turn
set_option maxRecDepth 20000 in
theorem ggL_law_X12_turn : GoodIn wsL_law wsX12_turn := goodIn_r _ [1074, 944, 945, 946, 5, 947, 150, 948, 949, 950, 951, 149, 533, 534, 535, 536, 505, 537, 538, 539, 540, 144, 952, 953, 954, 955, 648, 649, 650, 651, 652, 653, 654, 655, 656, 151, 640, 641, 642, 643, 657, 658, 659, 660, 407, 408, 409, 661, 662, 663, 664, 665, 666, 667, 668, 506, 669, 670, 671, 672, 621, 622, 623, 624, 187, 188, 189, 744, 745, 746, 747, 956, 957, 958, 959, 960, 961, 962, 963, 145, 964, 965, 966, 967, 968, 969, 970, 971, 146, 972, 973, 974, 975, 976, 977, 978, 979, 980, 981, 982, 983, 984, 985, 986, 987, 988, 989, 990, 991, 992, 993, 994, 995, 507, 153, 996, 997, 998, 999, 1000, 1001, 1002, 1003, 1004, 1005, 1006, 673, 674, 675, 676, 644, 645, 646, 647, 152, 1007, 1008, 1009, 1010, 1011, 1012, 1013, 1014, 629, 630, 631, 509, 510, 511, 512, 625, 626, 627, 628, 1015, 1016, 1017, 1018, 1019, 1020, 281, 278, 282, 1021, 1022, 1023, 1024, 1025, 1026, 1027, 1028, 1029, 1030, 1031, 1032, 1033, 1034, 1035, 1036, 1037, 1038, 1039, 1040, 1041, 1042, 1726, 1727, 1728, 1729, 1730, 1731, 1732, 1733, 1734, 1735, 1736, 1737, 1738, 1739, 1740, 1741, 1742, 1743, 1744, 1745, 1746, 1747, 1748, 1749, 1750, 1751, 1752, 1753, 1754, 1755] (by decide +kernel) (by decide +kernel)
set_option maxRecDepth 20000 in
theorem gL_law_X12_turn : GoodIn wsL_law (wsV RL 100 RX12 yX12_turn wsX12_turn) := goodIn_app (goodIn_of _ (by decide +kernel)) ggL_law_X12_turn
set_option maxRecDepth 20000 in
theorem ggL_law_X11_capture : GoodIn wsL_law wsX11_capture := goodIn_r _ [1078, 796, 797, 798, 2, 799, 44, 800, 801, 802, 803, 56, 31, 42, 37, 804, 805, 806, 55, 807, 123, 808, 124, 809, 810, 578, 579, 51, 580, 115, 581, 116, 476, 582, 583, 584, 218, 219, 220, 585, 586, 587, 20, 588, 76, 214, 213, 589, 469, 470, 471, 590, 591, 592, 30, 593, 89, 594, 595, 596, 597, 481, 114, 811, 604, 605, 606, 607, 526, 527, 528, 608, 609, 610, 611, 612, 613, 614, 615, 112, 478, 113, 812, 813, 814, 815, 816, 817, 818, 819, 820, 821, 822, 823, 824, 825, 826, 827, 828, 829, 830, 831, 832, 833, 834, 835, 836, 837, 838, 839, 840, 841, 842, 843, 844, 845, 846, 847, 41, 848, 103, 849, 850, 851, 281, 278, 282, 852, 853, 854, 855, 88, 856, 243, 244, 245, 90, 91, 459, 857, 858, 859, 860, 861, 862, 863, 864, 865, 866, 867, 488, 868, 490, 869, 870, 871, 872, 873, 874, 778, 779, 780, 781, 782, 875, 876, 877, 878, 879, 880, 881, 882, 883, 884, 885, 886, 887, 888, 889, 890, 891, 892, 893, 894, 895, 896, 897, 898, 899, 900, 901, 902, 903, 122, 904, 905, 906, 907, 47, 908, 909, 910, 911, 912, 913, 914, 915, 916, 917, 918, 919, 920, 921, 922, 923, 924, 925, 926, 927, 928, 929, 930, 571, 572, 573, 574, 575, 576, 931, 932, 933, 934, 935, 936, 937, 36, 938, 939, 95, 96, 97, 1707, 1708, 1709, 1710, 1711, 1712, 1713, 1714, 1715, 1716, 1717, 1718, 1719, 1720, 1721, 1722, 1723, 1724, 1725, 1798, 1799, 1800, 1760, 1761, 1762, 1763, 1764, 1765, 1766, 1767, 1768, 1769, 1770, 1771, 1772, 1773, 1774, 1791, 1792, 1793, 1794, 1795, 1796, 1797, 1778, 1779, 1780, 1781, 1782, 1787, 1788, 1789, 1790, 1783, 1784, 1785, 1786] (by decide +kernel) (by decide +kernel)
set_option maxRecDepth 20000 in
theorem gL_law_X11_capture : GoodIn wsL_law (wsV RL 101 RX11 yX11_capture wsX11_capture) := goodIn_app (goodIn_of _ (by decide +kernel)) ggL_law_X11_capture
set_option maxRecDepth 20000 in
theorem ggL_law_X12_capture : GoodIn wsL_law wsX12_capture := goodIn_r _ [1082, 944, 945, 946, 5, 947, 150, 948, 949, 950, 951, 149, 533, 534, 535, 536, 505, 537, 538, 539, 540, 144, 952, 953, 954, 955, 648, 649, 650, 651, 652, 653, 654, 655, 656, 151, 640, 641, 642, 643, 657, 658, 659, 660, 407, 408, 409, 661, 662, 663, 664, 665, 666, 667, 668, 506, 669, 670, 671, 672, 621, 622, 623, 624, 187, 188, 189, 744, 745, 746, 747, 956, 957, 958, 959, 960, 961, 962, 963, 145, 964, 965, 966, 967, 968, 969, 970, 971, 146, 972, 973, 974, 975, 976, 977, 978, 979, 980, 981, 982, 983, 984, 985, 986, 987, 988, 989, 990, 991, 992, 993, 994, 995, 507, 153, 996, 997, 998, 999, 1000, 1001, 1002, 1003, 1004, 1005, 1006, 673, 674, 675, 676, 644, 645, 646, 647, 152, 1007, 1008, 1009, 1010, 1011, 1012, 1013, 1014, 629, 630, 631, 509, 510, 511, 512, 625, 626, 627, 628, 1015, 1016, 1017, 1018, 1019, 1020, 281, 278, 282, 1021, 1022, 1023, 1024, 1025, 1026, 1027, 1028, 1029, 1030, 1031, 1032, 1033, 1034, 1035, 1036, 1037, 1038, 1039, 1040, 1041, 1042, 1726, 1727, 1728, 1729, 1730, 1731, 1732, 1733, 1734, 1735, 1736, 1737, 1738, 1739, 1740, 1741, 1742, 1743, 1744, 1745, 1746, 1747, 1748, 1749, 1750, 1751, 1752, 1753, 1754, 1755] (by decide +kernel) (by decide +kernel)
set_option maxRecDepth 20000 in
theorem gL_law_X12_capture : GoodIn wsL_law (wsV RL 104 RX12 yX12_capture wsX12_capture) := goodIn_app (goodIn_of _ (by decide +kernel)) ggL_law_X12_capture
set_option maxRecDepth 20000 in
theorem ggL_law_X11_draw : GoodIn wsL_law wsX11_draw := goodIn_r _ [1086, 796, 797, 798, 2, 799, 44, 800, 801, 802, 803, 56, 31, 42, 37, 804, 805, 806, 55, 807, 123, 808, 124, 809, 810, 578, 579, 51, 580, 115, 581, 116, 476, 582, 583, 584, 218, 219, 220, 585, 586, 587, 20, 588, 76, 214, 213, 589, 469, 470, 471, 590, 591, 592, 30, 593, 89, 594, 595, 596, 597, 481, 114, 811, 604, 605, 606, 607, 526, 527, 528, 608, 609, 610, 611, 612, 613, 614, 615, 112, 478, 113, 812, 813, 814, 815, 816, 817, 818, 819, 820, 821, 822, 823, 824, 825, 826, 827, 828, 829, 830, 831, 832, 833, 834, 835, 836, 837, 838, 839, 840, 841, 842, 843, 844, 845, 846, 847, 41, 848, 103, 849, 850, 851, 281, 278, 282, 852, 853, 854, 855, 88, 856, 243, 244, 245, 90, 91, 459, 857, 858, 859, 860, 861, 862, 863, 864, 865, 866, 867, 488, 868, 490, 869, 870, 871, 872, 873, 874, 778, 779, 780, 781, 782, 875, 876, 877, 878, 879, 880, 881, 882, 883, 884, 885, 886, 887, 888, 889, 890, 891, 892, 893, 894, 895, 896, 897, 898, 899, 900, 901, 902, 903, 122, 904, 905, 906, 907, 47, 908, 909, 910, 911, 912, 913, 914, 915, 916, 917, 918, 919, 920, 921, 922, 923, 924, 925, 926, 927, 928, 929, 930, 571, 572, 573, 574, 575, 576, 931, 932, 933, 934, 935, 936, 937, 36, 938, 939, 95, 96, 97, 1707, 1708, 1709, 1710, 1711, 1712, 1713, 1714, 1715, 1716, 1717, 1718, 1719, 1720, 1721, 1722, 1723, 1724, 1725, 1798, 1799, 1800, 1760, 1761, 1762, 1763, 1764, 1765, 1766, 1767, 1768, 1769, 1770, 1771, 1772, 1773, 1774, 1791, 1792, 1793, 1794, 1795, 1796, 1797, 1778, 1779, 1780, 1781, 1782, 1787, 1788, 1789, 1790, 1783, 1784, 1785, 1786] (by decide +kernel) (by decide +kernel)
set_option maxRecDepth 20000 in
theorem gL_law_X11_draw : GoodIn wsL_law (wsV RL 107 RX11 yX11_draw wsX11_draw) := goodIn_app (goodIn_of _ (by decide +kernel)) ggL_law_X11_draw
set_option maxRecDepth 20000 in
theorem ggL_law_X12_draw_ : GoodIn wsL_law wsX12_draw_ := goodIn_r _ [1090, 944, 945, 946, 5, 947, 150, 948, 949, 950, 951, 149, 533, 534, 535, 536, 505, 537, 538, 539, 540, 144, 952, 953, 954, 955, 648, 649, 650, 651, 652, 653, 654, 655, 656, 151, 640, 641, 642, 643, 657, 658, 659, 660, 407, 408, 409, 661, 662, 663, 664, 665, 666, 667, 668, 506, 669, 670, 671, 672, 621, 622, 623, 624, 187, 188, 189, 744, 745, 746, 747, 956, 957, 958, 959, 960, 961, 962, 963, 145, 964, 965, 966, 967, 968, 969, 970, 971, 146, 972, 973, 974, 975, 976, 977, 978, 979, 980, 981, 982, 983, 984, 985, 986, 987, 988, 989, 990, 991, 992, 993, 994, 995, 507, 153, 996, 997, 998, 999, 1000, 1001, 1002, 1003, 1004, 1005, 1006, 673, 674, 675, 676, 644, 645, 646, 647, 152, 1007, 1008, 1009, 1010, 1011, 1012, 1013, 1014, 629, 630, 631, 509, 510, 511, 512, 625, 626, 627, 628, 1015, 1016, 1017, 1018, 1019, 1020, 281, 278, 282, 1021, 1022, 1023, 1024, 1025, 1026, 1027, 1028, 1029, 1030, 1031, 1032, 1033, 1034, 1035, 1036, 1037, 1038, 1039, 1040, 1041, 1042, 1726, 1727, 1728, 1729, 1730, 1731, 1732, 1733, 1734, 1735, 1736, 1737, 1738, 1739, 1740, 1741, 1742, 1743, 1744, 1745, 1746, 1747, 1748, 1749, 1750, 1751, 1752, 1753, 1754, 1755] (by decide +kernel) (by decide +kernel)
set_option maxRecDepth 20000 in
theorem gL_law_X12_draw_ : GoodIn wsL_law (wsV RL 111 RX12 yX12_draw_ wsX12_draw_) := goodIn_app (goodIn_of _ (by decide +kernel)) ggL_law_X12_draw_
set_option maxRecDepth 20000 in
theorem ggL_law_X11_swap : GoodIn wsL_law wsX11_swap := goodIn_r _ [1094, 796, 797, 798, 2, 799, 44, 800, 801, 802, 803, 56, 31, 42, 37, 804, 805, 806, 55, 807, 123, 808, 124, 809, 810, 578, 579, 51, 580, 115, 581, 116, 476, 582, 583, 584, 218, 219, 220, 585, 586, 587, 20, 588, 76, 214, 213, 589, 469, 470, 471, 590, 591, 592, 30, 593, 89, 594, 595, 596, 597, 481, 114, 811, 604, 605, 606, 607, 526, 527, 528, 608, 609, 610, 611, 612, 613, 614, 615, 112, 478, 113, 812, 813, 814, 815, 816, 817, 818, 819, 820, 821, 822, 823, 824, 825, 826, 827, 828, 829, 830, 831, 832, 833, 834, 835, 836, 837, 838, 839, 840, 841, 842, 843, 844, 845, 846, 847, 41, 848, 103, 849, 850, 851, 281, 278, 282, 852, 853, 854, 855, 88, 856, 243, 244, 245, 90, 91, 459, 857, 858, 859, 860, 861, 862, 863, 864, 865, 866, 867, 488, 868, 490, 869, 870, 871, 872, 873, 874, 778, 779, 780, 781, 782, 875, 876, 877, 878, 879, 880, 881, 882, 883, 884, 885, 886, 887, 888, 889, 890, 891, 892, 893, 894, 895, 896, 897, 898, 899, 900, 901, 902, 903, 122, 904, 905, 906, 907, 47, 908, 909, 910, 911, 912, 913, 914, 915, 916, 917, 918, 919, 920, 921, 922, 923, 924, 925, 926, 927, 928, 929, 930, 571, 572, 573, 574, 575, 576, 931, 932, 933, 934, 935, 936, 937, 36, 938, 939, 95, 96, 97, 1707, 1708, 1709, 1710, 1711, 1712, 1713, 1714, 1715, 1716, 1717, 1718, 1719, 1720, 1721, 1722, 1723, 1724, 1725, 1798, 1799, 1800, 1760, 1761, 1762, 1763, 1764, 1765, 1766, 1767, 1768, 1769, 1770, 1771, 1772, 1773, 1774, 1791, 1792, 1793, 1794, 1795, 1796, 1797, 1778, 1779, 1780, 1781, 1782, 1787, 1788, 1789, 1790, 1783, 1784, 1785, 1786] (by decide +kernel) (by decide +kernel)
set_option maxRecDepth 20000 in
theorem gL_law_X11_swap : GoodIn wsL_law (wsV RL 112 RX11 yX11_swap wsX11_swap) := goodIn_app (goodIn_of _ (by decide +kernel)) ggL_law_X11_swap
set_option maxRecDepth 20000 in
theorem ggL_law_X12_swap : GoodIn wsL_law wsX12_swap := goodIn_r _ [1098, 944, 945, 946, 5, 947, 150, 948, 949, 950, 951, 149, 533, 534, 535, 536, 505, 537, 538, 539, 540, 144, 952, 953, 954, 955, 648, 649, 650, 651, 652, 653, 654, 655, 656, 151, 640, 641, 642, 643, 657, 658, 659, 660, 407, 408, 409, 661, 662, 663, 664, 665, 666, 667, 668, 506, 669, 670, 671, 672, 621, 622, 623, 624, 187, 188, 189, 744, 745, 746, 747, 956, 957, 958, 959, 960, 961, 962, 963, 145, 964, 965, 966, 967, 968, 969, 970, 971, 146, 972, 973, 974, 975, 976, 977, 978, 979, 980, 981, 982, 983, 984, 985, 986, 987, 988, 989, 990, 991, 992, 993, 994, 995, 507, 153, 996, 997, 998, 999, 1000, 1001, 1002, 1003, 1004, 1005, 1006, 673, 674, 675, 676, 644, 645, 646, 647, 152, 1007, 1008, 1009, 1010, 1011, 1012, 1013, 1014, 629, 630, 631, 509, 510, 511, 512, 625, 626, 627, 628, 1015, 1016, 1017, 1018, 1019, 1020, 281, 278, 282, 1021, 1022, 1023, 1024, 1025, 1026, 1027, 1028, 1029, 1030, 1031, 1032, 1033, 1034, 1035, 1036, 1037, 1038, 1039, 1040, 1041, 1042, 1726, 1727, 1728, 1729, 1730, 1731, 1732, 1733, 1734, 1735, 1736, 1737, 1738, 1739, 1740, 1741, 1742, 1743, 1744, 1745, 1746, 1747, 1748, 1749, 1750, 1751, 1752, 1753, 1754, 1755] (by decide +kernel) (by decide +kernel)
set_option maxRecDepth 20000 in
theorem gL_law_X12_swap : GoodIn wsL_law (wsV RL 115 RX12 yX12_swap wsX12_swap) := goodIn_app (goodIn_of _ (by decide +kernel)) ggL_law_X12_swap
set_option maxRecDepth 20000 in
theorem ggL_law_X11_file : GoodIn wsL_law wsX11_file := goodIn_r _ [1102, 796, 797, 798, 2, 799, 44, 800, 801, 802, 803, 56, 31, 42, 37, 804, 805, 806, 55, 807, 123, 808, 124, 809, 810, 578, 579, 51, 580, 115, 581, 116, 476, 582, 583, 584, 218, 219, 220, 585, 586, 587, 20, 588, 76, 214, 213, 589, 469, 470, 471, 590, 591, 592, 30, 593, 89, 594, 595, 596, 597, 481, 114, 811, 604, 605, 606, 607, 526, 527, 528, 608, 609, 610, 611, 612, 613, 614, 615, 112, 478, 113, 812, 813, 814, 815, 816, 817, 818, 819, 820, 821, 822, 823, 824, 825, 826, 827, 828, 829, 830, 831, 832, 833, 834, 835, 836, 837, 838, 839, 840, 841, 842, 843, 844, 845, 846, 847, 41, 848, 103, 849, 850, 851, 281, 278, 282, 852, 853, 854, 855, 88, 856, 243, 244, 245, 90, 91, 459, 857, 858, 859, 860, 861, 862, 863, 864, 865, 866, 867, 488, 868, 490, 869, 870, 871, 872, 873, 874, 778, 779, 780, 781, 782, 875, 876, 877, 878, 879, 880, 881, 882, 883, 884, 885, 886, 887, 888, 889, 890, 891, 892, 893, 894, 895, 896, 897, 898, 899, 900, 901, 902, 903, 122, 904, 905, 906, 907, 47, 908, 909, 910, 911, 912, 913, 914, 915, 916, 917, 918, 919, 920, 921, 922, 923, 924, 925, 926, 927, 928, 929, 930, 571, 572, 573, 574, 575, 576, 931, 932, 933, 934, 935, 936, 937, 36, 938, 939, 95, 96, 97, 1707, 1708, 1709, 1710, 1711, 1712, 1713, 1714, 1715, 1716, 1717, 1718, 1719, 1720, 1721, 1722, 1723, 1724, 1725, 1798, 1799, 1800, 1760, 1761, 1762, 1763, 1764, 1765, 1766, 1767, 1768, 1769, 1770, 1771, 1772, 1773, 1774, 1791, 1792, 1793, 1794, 1795, 1796, 1797, 1778, 1779, 1780, 1781, 1782, 1787, 1788, 1789, 1790, 1783, 1784, 1785, 1786] (by decide +kernel) (by decide +kernel)
set_option maxRecDepth 20000 in
theorem gL_law_X11_file : GoodIn wsL_law (wsV RL 116 RX11 yX11_file wsX11_file) := goodIn_app (goodIn_of _ (by decide +kernel)) ggL_law_X11_file
set_option maxRecDepth 20000 in
theorem ggL_law_X12_file : GoodIn wsL_law wsX12_file := goodIn_r _ [1106, 944, 945, 946, 5, 947, 150, 948, 949, 950, 951, 149, 533, 534, 535, 536, 505, 537, 538, 539, 540, 144, 952, 953, 954, 955, 648, 649, 650, 651, 652, 653, 654, 655, 656, 151, 640, 641, 642, 643, 657, 658, 659, 660, 407, 408, 409, 661, 662, 663, 664, 665, 666, 667, 668, 506, 669, 670, 671, 672, 621, 622, 623, 624, 187, 188, 189, 744, 745, 746, 747, 956, 957, 958, 959, 960, 961, 962, 963, 145, 964, 965, 966, 967, 968, 969, 970, 971, 146, 972, 973, 974, 975, 976, 977, 978, 979, 980, 981, 982, 983, 984, 985, 986, 987, 988, 989, 990, 991, 992, 993, 994, 995, 507, 153, 996, 997, 998, 999, 1000, 1001, 1002, 1003, 1004, 1005, 1006, 673, 674, 675, 676, 644, 645, 646, 647, 152, 1007, 1008, 1009, 1010, 1011, 1012, 1013, 1014, 629, 630, 631, 509, 510, 511, 512, 625, 626, 627, 628, 1015, 1016, 1017, 1018, 1019, 1020, 281, 278, 282, 1021, 1022, 1023, 1024, 1025, 1026, 1027, 1028, 1029, 1030, 1031, 1032, 1033, 1034, 1035, 1036, 1037, 1038, 1039, 1040, 1041, 1042, 1726, 1727, 1728, 1729, 1730, 1731, 1732, 1733, 1734, 1735, 1736, 1737, 1738, 1739, 1740, 1741, 1742, 1743, 1744, 1745, 1746, 1747, 1748, 1749, 1750, 1751, 1752, 1753, 1754, 1755] (by decide +kernel) (by decide +kernel)
set_option maxRecDepth 20000 in
theorem gL_law_X12_file : GoodIn wsL_law (wsV RL 119 RX12 yX12_file wsX12_file) := goodIn_app (goodIn_of _ (by decide +kernel)) ggL_law_X12_file
set_option maxRecDepth 20000 in
theorem ggL_law_X11_shelf : GoodIn wsL_law wsX11_shelf := goodIn_r _ [1110, 31, 1111, 1112, 1707, 1708, 1709, 1710, 1711, 1712, 1713, 1714, 1715, 1716, 1717, 1718, 1719, 1720, 1721, 1722, 1723, 1724, 1725, 1778, 1779, 1780, 1781, 1782] (by decide +kernel) (by decide +kernel)
set_option maxRecDepth 20000 in
theorem gL_law_X11_shelf : GoodIn wsL_law (wsV RL 120 RX11 yX11_shelf wsX11_shelf) := goodIn_app (goodIn_of _ (by decide +kernel)) ggL_law_X11_shelf
set_option maxRecDepth 20000 in
theorem ggL_law_X12_shelf : GoodIn wsL_law wsX12_shelf := goodIn_r _ [1116, 149, 533, 534, 535, 5, 536, 505, 187, 188, 189, 976, 977, 978, 979, 1726, 1727, 1728, 1729, 1730, 1731, 1732, 1733, 1734, 1735, 1736, 1737, 1738, 1739, 1740, 1741, 1742, 1743, 1744, 1745, 1746, 1747, 1748, 1749, 1750, 1751, 1752, 1753, 1754, 1755] (by decide +kernel) (by decide +kernel)
set_option maxRecDepth 20000 in
theorem gL_law_X12_shelf : GoodIn wsL_law (wsV RL 123 RX12 yX12_shelf wsX12_shelf) := goodIn_app (goodIn_of _ (by decide +kernel)) ggL_law_X12_shelf
set_option maxRecDepth 20000 in
theorem ggL_law_X11_years : GoodIn wsL_law wsX11_years := goodIn_r _ [1120, 48, 31, 521, 522, 523, 2, 524, 22, 453, 1121, 906, 907, 47, 908, 909, 1122, 1123, 1124, 1125, 1126, 917, 918, 919, 920, 921, 800, 801, 802, 803, 56, 42, 37, 804, 805, 806, 55, 807, 123, 808, 124, 809, 810, 578, 579, 51, 580, 115, 581, 116, 476, 582, 583, 584, 218, 219, 220, 585, 586, 587, 20, 588, 76, 214, 213, 589, 469, 470, 471, 590, 591, 592, 30, 593, 89, 594, 595, 596, 597, 481, 114, 811, 604, 605, 606, 607, 526, 527, 528, 608, 609, 610, 611, 612, 613, 614, 615, 112, 478, 113, 812, 813, 814, 815, 816, 817, 818, 819, 820, 821, 822, 823, 824, 825, 826, 827, 828, 829, 830, 831, 832, 833, 834, 835, 836, 837, 838, 839, 840, 841, 842, 843, 844, 845, 846, 847, 41, 848, 103, 849, 850, 851, 281, 278, 282, 852, 853, 854, 855, 88, 856, 243, 244, 245, 90, 91, 459, 857, 858, 859, 860, 861, 862, 863, 864, 865, 866, 867, 488, 868, 490, 869, 870, 871, 872, 873, 874, 778, 779, 780, 781, 782, 875, 876, 877, 878, 879, 880, 881, 882, 883, 884, 885, 886, 887, 888, 889, 890, 891, 892, 893, 894, 895, 896, 897, 898, 899, 900, 901, 902, 903, 122, 904, 905, 910, 911, 912, 913, 914, 915, 916, 922, 923, 924, 925, 926, 927, 928, 929, 930, 571, 572, 573, 574, 575, 576, 931, 932, 933, 934, 935, 936, 937, 36, 938, 939, 95, 96, 97, 1127, 1128, 1707, 1708, 1709, 1710, 1711, 1712, 1713, 1714, 1715, 1716, 1717, 1718, 1719, 1720, 1721, 1722, 1723, 1724, 1725, 1760, 1761, 1762, 1763, 1764, 1765, 1766, 1767, 1768, 1769, 1770, 1771, 1772, 1773, 1774, 1790, 1798, 1799, 1800, 1791, 1792, 1793, 1794, 1795, 1796, 1797, 1778, 1779, 1780, 1781, 1782, 1787, 1788, 1789, 1783, 1784, 1785, 1786] (by decide +kernel) (by decide +kernel)
set_option maxRecDepth 20000 in
theorem gL_law_X11_years : GoodIn wsL_law (wsV RL 124 RX11 yX11_years wsX11_years) := goodIn_app (goodIn_of _ (by decide +kernel)) ggL_law_X11_years
set_option maxRecDepth 20000 in
theorem ggL_law_X12_years : GoodIn wsL_law wsX12_years := goodIn_r _ [1132, 1019, 533, 534, 535, 5, 536, 505, 187, 188, 189, 1133, 1134, 1135, 1136, 1025, 1026, 1027, 1028, 1029, 1030, 1137, 1138, 1139, 1140, 948, 949, 950, 951, 149, 537, 538, 539, 540, 144, 952, 953, 954, 955, 648, 649, 650, 651, 652, 653, 654, 655, 656, 151, 640, 641, 642, 643, 657, 658, 659, 660, 407, 408, 409, 661, 662, 663, 664, 665, 666, 667, 668, 506, 669, 670, 671, 672, 621, 622, 623, 624, 744, 745, 746, 747, 956, 957, 958, 959, 960, 961, 962, 963, 145, 964, 965, 966, 967, 968, 969, 970, 971, 146, 972, 973, 974, 975, 976, 977, 978, 979, 980, 981, 982, 983, 984, 985, 986, 987, 988, 989, 990, 991, 992, 993, 994, 995, 507, 153, 996, 997, 998, 999, 1000, 1001, 1002, 1003, 1004, 1005, 1006, 673, 674, 675, 676, 644, 645, 646, 647, 152, 1007, 1008, 1009, 1010, 1011, 1012, 1013, 1014, 629, 630, 631, 509, 510, 511, 512, 625, 626, 627, 628, 1015, 1016, 1017, 1018, 1020, 281, 278, 282, 1021, 1022, 1023, 1024, 1031, 1032, 1033, 1034, 1035, 1036, 1037, 1038, 1039, 1040, 1041, 1042, 1726, 1727, 1728, 1729, 1730, 1731, 1732, 1733, 1734, 1735, 1736, 1737, 1738, 1739, 1740, 1741, 1742, 1743, 1744, 1745, 1746, 1747, 1748, 1749, 1750, 1751, 1752, 1753, 1754, 1755] (by decide +kernel) (by decide +kernel)
set_option maxRecDepth 20000 in
theorem gL_law_X12_years : GoodIn wsL_law (wsV RL 127 RX12 yX12_years wsX12_years) := goodIn_app (goodIn_of _ (by decide +kernel)) ggL_law_X12_years
set_option maxRecDepth 20000 in
theorem ggL_law_X11_status : GoodIn wsL_law wsX11_status := goodIn_r _ [1144, 44, 1707, 1708, 1709, 1710, 1711, 1712, 1713, 1714, 1715, 1716, 1717, 1718, 1719, 1720, 1721, 1722, 1723, 1724, 1725] (by decide +kernel) (by decide +kernel)
set_option maxRecDepth 20000 in
theorem gL_law_X11_status : GoodIn wsL_law (wsV RL 128 RX11 yX11_status wsX11_status) := goodIn_app (goodIn_of _ (by decide +kernel)) ggL_law_X11_status
set_option maxRecDepth 20000 in
theorem ggL_law_X12_status : GoodIn wsL_law wsX12_status := goodIn_r _ [1148, 150, 187, 188, 5, 189, 1726, 1727, 1728, 1729, 1730, 1731, 1732, 1733, 1734, 1735, 1736, 1737, 1738, 1739, 1740, 1741, 1742, 1743, 1744, 1745, 1746, 1747, 1748, 1749, 1750, 1751, 1752, 1753, 1754, 1755] (by decide +kernel) (by decide +kernel)
set_option maxRecDepth 20000 in
theorem gL_law_X12_status : GoodIn wsL_law (wsV RL 131 RX12 yX12_status wsX12_status) := goodIn_app (goodIn_of _ (by decide +kernel)) ggL_law_X12_status
set_option maxRecDepth 20000 in
theorem ggL_law_X11_undo : GoodIn wsL_law wsX11_undo := goodIn_r _ [1152, 42, 451, 31, 37, 450, 1153, 1154, 1155, 41, 1156, 849, 850, 103, 852, 853, 854, 30, 855, 88, 856, 243, 244, 245, 89, 90, 91, 459, 1707, 1708, 1709, 1710, 1711, 1712, 1713, 1714, 1715, 1716, 1717, 1718, 1719, 1720, 1721, 1722, 1723, 1724, 1725, 1787, 1788, 1789, 1783, 1784, 1785, 1786, 1778, 1779, 1780, 1781, 1782] (by decide +kernel) (by decide +kernel)
set_option maxRecDepth 20000 in
theorem gL_law_X11_undo : GoodIn wsL_law (wsV RL 132 RX11 yX11_undo wsX11_undo) := goodIn_app (goodIn_of _ (by decide +kernel)) ggL_law_X11_undo
set_option maxRecDepth 20000 in
theorem ggL_law_X12_undo : GoodIn wsL_law wsX12_undo := goodIn_r _ [1160, 507, 149, 153, 1726, 1727, 1728, 1729, 1730, 1731, 1732, 1733, 1734, 1735, 1736, 1737, 1738, 1739, 1740, 1741, 1742, 1743, 1744, 1745, 1746, 1747, 1748, 1749, 1750, 1751, 1752, 1753, 1754, 1755] (by decide +kernel) (by decide +kernel)
set_option maxRecDepth 20000 in
theorem gL_law_X12_undo : GoodIn wsL_law (wsV RL 135 RX12 yX12_undo wsX12_undo) := goodIn_app (goodIn_of _ (by decide +kernel)) ggL_law_X12_undo
set_option maxRecDepth 20000 in
theorem ggL_law_X11_log : GoodIn wsL_law wsX11_log := goodIn_r _ [1164, 37, 775, 1165, 1166, 1167, 36, 1168, 939, 1169, 281, 278, 282, 1170, 1171, 1172, 1173, 95, 96, 97, 1174, 1175, 1176, 1177, 1707, 1708, 1709, 1710, 1711, 1712, 1713, 1714, 1715, 1716, 1717, 1718, 1719, 1720, 1721, 1722, 1723, 1724, 1725, 1783, 1784, 1785, 1786] (by decide +kernel) (by decide +kernel)
set_option maxRecDepth 20000 in
theorem gL_law_X11_log : GoodIn wsL_law (wsV RL 136 RX11 yX11_log wsX11_log) := goodIn_app (goodIn_of _ (by decide +kernel)) ggL_law_X11_log
set_option maxRecDepth 20000 in
theorem ggL_law_X12_log : GoodIn wsL_law wsX12_log := goodIn_r _ [1181, 149, 787, 187, 188, 5, 189, 1726, 1727, 1728, 1729, 1730, 1731, 1732, 1733, 1734, 1735, 1736, 1737, 1738, 1739, 1740, 1741, 1742, 1743, 1744, 1745, 1746, 1747, 1748, 1749, 1750, 1751, 1752, 1753, 1754, 1755] (by decide +kernel) (by decide +kernel)
set_option maxRecDepth 20000 in
theorem gL_law_X12_log : GoodIn wsL_law (wsV RL 139 RX12 yX12_log wsX12_log) := goodIn_app (goodIn_of _ (by decide +kernel)) ggL_law_X12_log
set_option maxRecDepth 20000 in
theorem ggL_law_X11_solved : GoodIn wsL_law wsX11_solved := goodIn_r _ [1185, 52, 31, 60, 22, 765, 521, 522, 523, 2, 524, 453, 577, 578, 579, 51, 580, 115, 581, 116, 476, 582, 583, 584, 218, 219, 220, 585, 586, 587, 20, 588, 76, 214, 213, 589, 469, 470, 471, 590, 591, 592, 30, 593, 89, 594, 595, 596, 597, 481, 114, 1186, 1187, 1188, 59, 1189, 130, 602, 603, 604, 605, 606, 607, 526, 527, 528, 608, 609, 610, 611, 612, 613, 614, 615, 112, 478, 113, 1190, 483, 484, 485, 205, 1191, 1192, 1193, 1194, 1195, 1196, 1197, 1198, 777, 778, 488, 779, 780, 781, 782, 1707, 1708, 1709, 1710, 1711, 1712, 1713, 1714, 1715, 1716, 1717, 1718, 1719, 1720, 1721, 1722, 1723, 1724, 1725, 1791, 1792, 1793, 1794, 1795, 1796, 1797, 1760, 1761, 1762, 1763, 1764, 1765, 1766, 1767, 1768, 1769, 1770, 1771, 1772, 1773, 1774, 1778, 1779, 1780, 1781, 1782, 1801, 1802] (by decide +kernel) (by decide +kernel)
set_option maxRecDepth 20000 in
theorem gL_law_X11_solved : GoodIn wsL_law (wsV RL 140 RX11 yX11_solved wsX11_solved) := goodIn_app (goodIn_of _ (by decide +kernel)) ggL_law_X11_solved
set_option maxRecDepth 20000 in
theorem ggL_law_X12_solved : GoodIn wsL_law wsX12_solved := goodIn_r _ [1202, 533, 534, 535, 5, 536, 505, 187, 188, 189, 636, 637, 638, 639, 154, 149, 1203, 1204, 1205, 1206, 644, 645, 646, 647, 152, 537, 538, 539, 540, 144, 648, 649, 650, 651, 652, 653, 654, 655, 656, 151, 640, 641, 642, 643, 657, 658, 659, 660, 407, 408, 409, 661, 662, 663, 664, 665, 666, 667, 668, 506, 669, 670, 671, 672, 673, 674, 675, 676, 1011, 1012, 1013, 1014, 677, 678, 679, 680, 629, 630, 631, 1726, 1727, 1728, 1729, 1730, 1731, 1732, 1733, 1734, 1735, 1736, 1737, 1738, 1739, 1740, 1741, 1742, 1743, 1744, 1745, 1746, 1747, 1748, 1749, 1750, 1751, 1752, 1753, 1754, 1755] (by decide +kernel) (by decide +kernel)
set_option maxRecDepth 20000 in
theorem gL_law_X12_solved : GoodIn wsL_law (wsV RL 143 RX12 yX12_solved wsX12_solved) := goodIn_app (goodIn_of _ (by decide +kernel)) ggL_law_X12_solved
set_option maxRecDepth 20000 in
theorem ggL_law_X11_ahead : GoodIn wsL_law wsX11_ahead := goodIn_r _ [1210, 52, 31, 22, 60, 521, 522, 523, 2, 524, 453, 577, 578, 579, 51, 580, 115, 581, 116, 476, 582, 583, 584, 218, 219, 220, 585, 586, 587, 20, 588, 76, 214, 213, 589, 469, 470, 471, 590, 591, 592, 30, 593, 89, 594, 595, 596, 597, 481, 114, 1190, 483, 484, 485, 205, 1211, 1212, 1213, 59, 1214, 130, 602, 603, 604, 605, 606, 607, 526, 527, 528, 608, 609, 610, 611, 612, 613, 614, 615, 112, 478, 113, 1707, 1708, 1709, 1710, 1711, 1712, 1713, 1714, 1715, 1716, 1717, 1718, 1719, 1720, 1721, 1722, 1723, 1724, 1725, 1760, 1761, 1762, 1763, 1764, 1765, 1766, 1767, 1768, 1769, 1770, 1771, 1772, 1773, 1774, 1791, 1792, 1793, 1794, 1795, 1796, 1797, 1778, 1779, 1780, 1781, 1782, 1801, 1802] (by decide +kernel) (by decide +kernel)
set_option maxRecDepth 20000 in
theorem gL_law_X11_ahead : GoodIn wsL_law (wsV RL 144 RX11 yX11_ahead wsX11_ahead) := goodIn_app (goodIn_of _ (by decide +kernel)) ggL_law_X11_ahead
set_option maxRecDepth 20000 in
theorem ggL_law_X12_ahead_ : GoodIn wsL_law wsX12_ahead_ := goodIn_r _ [1218, 533, 534, 535, 5, 536, 505, 187, 188, 189, 636, 637, 638, 639, 154, 149, 644, 645, 646, 647, 152, 537, 538, 539, 540, 144, 648, 649, 650, 651, 652, 653, 654, 655, 656, 151, 640, 641, 642, 643, 657, 658, 659, 660, 407, 408, 409, 661, 662, 663, 664, 665, 666, 667, 668, 506, 669, 670, 671, 672, 673, 674, 675, 676, 1011, 1012, 1013, 1014, 677, 678, 679, 680, 1726, 1727, 1728, 1729, 1730, 1731, 1732, 1733, 1734, 1735, 1736, 1737, 1738, 1739, 1740, 1741, 1742, 1743, 1744, 1745, 1746, 1747, 1748, 1749, 1750, 1751, 1752, 1753, 1754, 1755] (by decide +kernel) (by decide +kernel)
set_option maxRecDepth 20000 in
theorem gL_law_X12_ahead_ : GoodIn wsL_law (wsV RL 147 RX12 yX12_ahead_ wsX12_ahead_) := goodIn_app (goodIn_of _ (by decide +kernel)) ggL_law_X12_ahead_
set_option maxRecDepth 20000 in
theorem ggL_law_X11_fewest : GoodIn wsL_law wsX11_fewest := goodIn_r _ [1222, 52, 31, 60, 521, 522, 523, 2, 524, 22, 453, 577, 578, 579, 51, 580, 115, 581, 116, 476, 582, 583, 584, 218, 219, 220, 585, 586, 587, 20, 588, 76, 214, 213, 589, 469, 470, 471, 590, 591, 592, 30, 593, 89, 594, 595, 596, 597, 481, 114, 1223, 1224, 1225, 59, 1226, 130, 602, 1227, 1192, 1193, 1194, 607, 526, 527, 528, 1195, 1196, 1197, 1198, 608, 609, 610, 611, 612, 613, 614, 615, 112, 478, 113, 1228, 778, 488, 779, 780, 781, 782, 777, 1707, 1708, 1709, 1710, 1711, 1712, 1713, 1714, 1715, 1716, 1717, 1718, 1719, 1720, 1721, 1722, 1723, 1724, 1725, 1760, 1761, 1762, 1763, 1764, 1765, 1766, 1767, 1768, 1769, 1770, 1771, 1772, 1773, 1774, 1791, 1792, 1793, 1794, 1795, 1796, 1797, 1778, 1779, 1780, 1781, 1782, 1801, 1802] (by decide +kernel) (by decide +kernel)
set_option maxRecDepth 20000 in
theorem gL_law_X11_fewest : GoodIn wsL_law (wsV RL 148 RX11 yX11_fewest wsX11_fewest) := goodIn_app (goodIn_of _ (by decide +kernel)) ggL_law_X11_fewest
set_option maxRecDepth 20000 in
theorem ggL_law_X12_fewest : GoodIn wsL_law wsX12_fewest := goodIn_r _ [1232, 533, 534, 535, 5, 536, 505, 187, 188, 189, 1233, 1234, 1235, 1236, 155, 537, 538, 539, 540, 144, 657, 658, 659, 660, 149, 407, 408, 409, 1237, 1238, 1239, 1240, 1241, 1242, 1243, 1244, 1011, 1012, 1013, 1014, 640, 641, 642, 643, 629, 630, 631, 1245, 1246, 1247, 1248, 1249, 1250, 1251, 1252, 1253, 1254, 1255, 1256, 656, 506, 151, 1726, 1727, 1728, 1729, 1730, 1731, 1732, 1733, 1734, 1735, 1736, 1737, 1738, 1739, 1740, 1741, 1742, 1743, 1744, 1745, 1746, 1747, 1748, 1749, 1750, 1751, 1752, 1753, 1754, 1755] (by decide +kernel) (by decide +kernel)
set_option maxRecDepth 20000 in
theorem gL_law_X12_fewest : GoodIn wsL_law (wsV RL 151 RX12 yX12_fewest wsX12_fewest) := goodIn_app (goodIn_of _ (by decide +kernel)) ggL_law_X12_fewest
set_option maxRecDepth 20000 in
theorem ggL_law_X11_tight : GoodIn wsL_law wsX11_tight := goodIn_r _ [1260, 52, 31, 60, 521, 522, 523, 2, 524, 22, 453, 577, 578, 579, 51, 580, 115, 581, 116, 476, 582, 583, 584, 218, 219, 220, 585, 586, 587, 20, 588, 76, 214, 213, 589, 469, 470, 471, 590, 591, 592, 30, 593, 89, 594, 595, 596, 597, 481, 114, 1261, 1262, 1263, 59, 1264, 130, 602, 1265, 1227, 1192, 1193, 1194, 607, 526, 527, 528, 1195, 1196, 1197, 1198, 608, 609, 610, 611, 612, 613, 614, 615, 112, 478, 113, 1707, 1708, 1709, 1710, 1711, 1712, 1713, 1714, 1715, 1716, 1717, 1718, 1719, 1720, 1721, 1722, 1723, 1724, 1725, 1760, 1761, 1762, 1763, 1764, 1765, 1766, 1767, 1768, 1769, 1770, 1771, 1772, 1773, 1774, 1791, 1792, 1793, 1794, 1795, 1796, 1797, 1778, 1779, 1780, 1781, 1782, 1801, 1802] (by decide +kernel) (by decide +kernel)
set_option maxRecDepth 20000 in
theorem gL_law_X11_tight : GoodIn wsL_law (wsV RL 152 RX11 yX11_tight wsX11_tight) := goodIn_app (goodIn_of _ (by decide +kernel)) ggL_law_X11_tight
set_option maxRecDepth 20000 in
theorem ggL_law_X12_tight : GoodIn wsL_law wsX12_tight := goodIn_r _ [1269, 149, 533, 534, 535, 5, 536, 505, 1233, 1234, 1235, 1236, 155, 537, 538, 539, 540, 144, 657, 658, 659, 660, 407, 408, 409, 636, 637, 638, 639, 154, 1237, 1238, 1239, 1240, 1241, 1242, 1243, 1244, 1011, 1012, 1013, 1014, 640, 641, 642, 643, 1249, 1250, 1251, 1252, 1253, 1254, 1255, 1256, 656, 506, 151, 677, 678, 679, 680, 1726, 1727, 1728, 1729, 1730, 1731, 1732, 1733, 1734, 1735, 1736, 1737, 1738, 1739, 1740, 1741, 1742, 1743, 1744, 1745, 1746, 1747, 1748, 1749, 1750, 1751, 1752, 1753, 1754, 1755] (by decide +kernel) (by decide +kernel)
set_option maxRecDepth 20000 in
theorem gL_law_X12_tight : GoodIn wsL_law (wsV RL 155 RX12 yX12_tight wsX12_tight) := goodIn_app (goodIn_of _ (by decide +kernel)) ggL_law_X12_tight
set_option maxRecDepth 20000 in
theorem ggL_law_X11_touch : GoodIn wsL_law wsX11_touch := goodIn_r _ [1273, 31, 565, 564, 566, 567, 568, 2, 569, 22, 453, 570, 571, 572, 573, 574, 575, 576, 1707, 1708, 1709, 1710, 1711, 1712, 1713, 1714, 1715, 1716, 1717, 1718, 1719, 1720, 1721, 1722, 1723, 1724, 1725, 1778, 1779, 1780, 1781, 1782, 1760, 1761, 1762, 1763, 1764, 1765, 1766, 1767, 1768, 1769, 1770, 1771, 1772, 1773, 1774] (by decide +kernel) (by decide +kernel)
set_option maxRecDepth 20000 in
theorem gL_law_X11_touch : GoodIn wsL_law (wsV RL 156 RX11 yX11_touch wsX11_touch) := goodIn_app (goodIn_of _ (by decide +kernel)) ggL_law_X11_touch
set_option maxRecDepth 20000 in
theorem ggL_law_X12_touch : GoodIn wsL_law wsX12_touch := goodIn_r _ [1277, 621, 622, 623, 5, 624, 505, 187, 188, 189, 640, 641, 642, 643, 149, 1278, 1279, 1280, 1281, 629, 630, 631, 1726, 1727, 1728, 1729, 1730, 1731, 1732, 1733, 1734, 1735, 1736, 1737, 1738, 1739, 1740, 1741, 1742, 1743, 1744, 1745, 1746, 1747, 1748, 1749, 1750, 1751, 1752, 1753, 1754, 1755] (by decide +kernel) (by decide +kernel)
set_option maxRecDepth 20000 in
theorem gL_law_X12_touch : GoodIn wsL_law (wsV RL 159 RX12 yX12_touch wsX12_touch) := goodIn_app (goodIn_of _ (by decide +kernel)) ggL_law_X12_touch
set_option maxRecDepth 20000 in
theorem ggL_law_X11_frame : GoodIn wsL_law wsX11_frame := goodIn_r _ [1285, 52, 31, 22, 765, 60, 1286, 1287, 1288, 2, 1289, 518, 521, 522, 523, 524, 453, 577, 578, 579, 51, 580, 115, 581, 116, 476, 582, 583, 584, 218, 219, 220, 585, 586, 587, 20, 588, 76, 214, 213, 589, 469, 470, 471, 590, 591, 592, 30, 593, 89, 594, 595, 596, 597, 481, 114, 1290, 1291, 1292, 1293, 205, 777, 778, 488, 779, 780, 781, 782, 1294, 1295, 1296, 59, 1297, 129, 1298, 130, 1299, 1228, 1300, 1301, 1302, 1303, 602, 1304, 609, 610, 611, 612, 613, 614, 615, 112, 478, 113, 1191, 1192, 1193, 1194, 607, 526, 527, 528, 1195, 1196, 1197, 1198, 608, 1707, 1708, 1709, 1710, 1711, 1712, 1713, 1714, 1715, 1716, 1717, 1718, 1719, 1720, 1721, 1722, 1723, 1724, 1725, 1791, 1792, 1793, 1794, 1795, 1796, 1797, 1760, 1761, 1762, 1763, 1764, 1765, 1766, 1767, 1768, 1769, 1770, 1771, 1772, 1773, 1774, 1778, 1779, 1780, 1781, 1782, 1801, 1802] (by decide +kernel) (by decide +kernel)
set_option maxRecDepth 20000 in
theorem gL_law_X11_frame : GoodIn wsL_law (wsV RL 160 RX11 yX11_frame wsX11_frame) := goodIn_app (goodIn_of _ (by decide +kernel)) ggL_law_X11_frame
set_option maxRecDepth 20000 in
theorem ggL_law_X12_frame : GoodIn wsL_law wsX12_frame := goodIn_r _ [1308, 144, 505, 145, 533, 534, 535, 5, 536, 187, 188, 189, 1233, 1234, 1235, 1236, 155, 537, 538, 539, 540, 657, 658, 659, 660, 149, 407, 408, 409, 1237, 1238, 1239, 1240, 1241, 1242, 1243, 1244, 1011, 1012, 1013, 1014, 640, 641, 642, 643, 1249, 1250, 1251, 1252, 1253, 1254, 1255, 1256, 656, 506, 151, 788, 789, 790, 791, 648, 649, 650, 651, 652, 653, 654, 655, 661, 662, 663, 664, 665, 666, 667, 668, 669, 670, 671, 672, 1726, 1727, 1728, 1729, 1730, 1731, 1732, 1733, 1734, 1735, 1736, 1737, 1738, 1739, 1740, 1741, 1742, 1743, 1744, 1745, 1746, 1747, 1748, 1749, 1750, 1751, 1752, 1753, 1754, 1755] (by decide +kernel) (by decide +kernel)
set_option maxRecDepth 20000 in
theorem gL_law_X12_frame : GoodIn wsL_law (wsV RL 163 RX12 yX12_frame wsX12_frame) := goodIn_app (goodIn_of _ (by decide +kernel)) ggL_law_X12_frame
set_option maxRecDepth 20000 in
theorem ggL_law_X11_stuck : GoodIn wsL_law wsX11_stuck := goodIn_r _ [1312, 52, 31, 60, 765, 521, 522, 523, 2, 524, 22, 453, 577, 578, 579, 51, 580, 115, 581, 116, 476, 582, 583, 584, 218, 219, 220, 585, 586, 587, 20, 588, 76, 214, 213, 589, 469, 470, 471, 590, 591, 592, 30, 593, 89, 594, 595, 596, 597, 481, 114, 1313, 1314, 1315, 59, 1316, 130, 602, 1228, 778, 488, 779, 780, 781, 782, 1317, 1318, 1319, 1320, 603, 604, 605, 606, 607, 526, 527, 528, 608, 609, 610, 611, 612, 613, 614, 615, 112, 478, 113, 777, 1321, 1322, 1323, 1324, 1191, 1192, 1193, 1194, 1195, 1196, 1197, 1198, 1707, 1708, 1709, 1710, 1711, 1712, 1713, 1714, 1715, 1716, 1717, 1718, 1719, 1720, 1721, 1722, 1723, 1724, 1725, 1791, 1792, 1793, 1794, 1795, 1796, 1797, 1760, 1761, 1762, 1763, 1764, 1765, 1766, 1767, 1768, 1769, 1770, 1771, 1772, 1773, 1774, 1778, 1779, 1780, 1781, 1782, 1801, 1802] (by decide +kernel) (by decide +kernel)
set_option maxRecDepth 20000 in
theorem gL_law_X11_stuck : GoodIn wsL_law (wsV RL 164 RX11 yX11_stuck wsX11_stuck) := goodIn_app (goodIn_of _ (by decide +kernel)) ggL_law_X11_stuck
set_option maxRecDepth 20000 in
theorem ggL_law_X12_stuck : GoodIn wsL_law wsX12_stuck := goodIn_r _ [1328, 533, 534, 535, 5, 536, 505, 187, 188, 189, 1233, 1234, 1235, 1236, 155, 537, 538, 539, 540, 144, 657, 658, 659, 660, 149, 407, 408, 409, 1237, 1238, 1239, 1240, 1241, 1242, 1243, 1244, 1011, 1012, 1013, 1014, 640, 641, 642, 643, 1329, 1330, 1331, 1332, 1253, 1254, 1255, 1256, 656, 506, 151, 629, 630, 631, 1726, 1727, 1728, 1729, 1730, 1731, 1732, 1733, 1734, 1735, 1736, 1737, 1738, 1739, 1740, 1741, 1742, 1743, 1744, 1745, 1746, 1747, 1748, 1749, 1750, 1751, 1752, 1753, 1754, 1755] (by decide +kernel) (by decide +kernel)
set_option maxRecDepth 20000 in
theorem gL_law_X12_stuck : GoodIn wsL_law (wsV RL 167 RX12 yX12_stuck wsX12_stuck) := goodIn_app (goodIn_of _ (by decide +kernel)) ggL_law_X12_stuck
set_option maxRecDepth 20000 in
theorem ggL_law_X11_slid : GoodIn wsL_law wsX11_slid := goodIn_r _ [1336, 22, 518, 52, 31, 60, 521, 522, 523, 2, 524, 453, 577, 578, 579, 51, 580, 115, 581, 116, 476, 582, 583, 584, 218, 219, 220, 585, 586, 587, 20, 588, 76, 214, 213, 589, 469, 470, 471, 590, 591, 592, 30, 593, 89, 594, 595, 596, 597, 481, 114, 1190, 483, 484, 485, 205, 1337, 1338, 1339, 59, 1340, 130, 602, 129, 1341, 1342, 1343, 1344, 1345, 1298, 1346, 1196, 1197, 1198, 608, 609, 610, 611, 612, 613, 614, 615, 112, 478, 113, 1707, 1708, 1709, 1710, 1711, 1712, 1713, 1714, 1715, 1716, 1717, 1718, 1719, 1720, 1721, 1722, 1723, 1724, 1725, 1760, 1761, 1762, 1763, 1764, 1765, 1766, 1767, 1768, 1769, 1770, 1771, 1772, 1773, 1774, 1791, 1792, 1793, 1794, 1795, 1796, 1797, 1778, 1779, 1780, 1781, 1782, 1801, 1802] (by decide +kernel) (by decide +kernel)
set_option maxRecDepth 20000 in
theorem gL_law_X11_slid : GoodIn wsL_law (wsV RL 168 RX11 yX11_slid wsX11_slid) := goodIn_app (goodIn_of _ (by decide +kernel)) ggL_law_X11_slid
set_option maxRecDepth 20000 in
theorem ggL_law_X12_slid : GoodIn wsL_law wsX12_slid := goodIn_r _ [1350, 144, 533, 534, 535, 5, 536, 505, 187, 188, 189, 1351, 1352, 1353, 1354, 156, 636, 637, 638, 639, 154, 149, 640, 641, 642, 643, 1000, 1001, 1002, 1003, 952, 953, 954, 955, 648, 649, 650, 651, 652, 653, 654, 655, 656, 151, 657, 658, 659, 660, 407, 408, 409, 661, 662, 663, 664, 665, 666, 667, 668, 506, 669, 670, 671, 672, 1004, 1005, 1006, 673, 674, 675, 676, 1011, 1012, 1013, 1014, 677, 678, 679, 680, 1726, 1727, 1728, 1729, 1730, 1731, 1732, 1733, 1734, 1735, 1736, 1737, 1738, 1739, 1740, 1741, 1742, 1743, 1744, 1745, 1746, 1747, 1748, 1749, 1750, 1751, 1752, 1753, 1754, 1755] (by decide +kernel) (by decide +kernel)
set_option maxRecDepth 20000 in
theorem gL_law_X12_slid : GoodIn wsL_law (wsV RL 171 RX12 yX12_slid wsX12_slid) := goodIn_app (goodIn_of _ (by decide +kernel)) ggL_law_X12_slid
set_option maxRecDepth 20000 in
theorem ggL_law_X11_slidAt : GoodIn wsL_law wsX11_slidAt := goodIn_r _ [1358, 22, 518, 31, 565, 52, 60, 566, 567, 568, 2, 569, 453, 577, 578, 579, 51, 580, 115, 581, 116, 476, 582, 583, 584, 218, 219, 220, 585, 586, 587, 20, 588, 76, 214, 213, 589, 469, 470, 471, 590, 591, 592, 30, 593, 89, 594, 595, 596, 597, 481, 114, 1359, 1360, 1361, 59, 1362, 130, 602, 129, 1341, 1342, 1343, 1344, 1345, 1298, 1346, 1196, 1197, 1198, 608, 609, 610, 611, 612, 613, 614, 615, 112, 478, 113, 1707, 1708, 1709, 1710, 1711, 1712, 1713, 1714, 1715, 1716, 1717, 1718, 1719, 1720, 1721, 1722, 1723, 1724, 1725, 1760, 1761, 1762, 1763, 1764, 1765, 1766, 1767, 1768, 1769, 1770, 1771, 1772, 1773, 1774, 1778, 1779, 1780, 1781, 1782, 1791, 1792, 1793, 1794, 1795, 1796, 1797, 1801, 1802] (by decide +kernel) (by decide +kernel)
set_option maxRecDepth 20000 in
theorem gL_law_X11_slidAt : GoodIn wsL_law (wsV RL 172 RX11 yX11_slidAt wsX11_slidAt) := goodIn_app (goodIn_of _ (by decide +kernel)) ggL_law_X11_slidAt
set_option maxRecDepth 20000 in
theorem ggL_law_X12_slidAt : GoodIn wsL_law wsX12_slidAt := goodIn_r _ [1366, 144, 156, 621, 622, 623, 5, 624, 505, 187, 188, 189, 1351, 1352, 1353, 1354, 636, 637, 638, 639, 154, 149, 640, 641, 642, 643, 1000, 1001, 1002, 1003, 952, 953, 954, 955, 648, 649, 650, 651, 652, 653, 654, 655, 656, 151, 657, 658, 659, 660, 407, 408, 409, 661, 662, 663, 664, 665, 666, 667, 668, 506, 669, 670, 671, 672, 1004, 1005, 1006, 673, 674, 675, 676, 1011, 1012, 1013, 1014, 677, 678, 679, 680, 1726, 1727, 1728, 1729, 1730, 1731, 1732, 1733, 1734, 1735, 1736, 1737, 1738, 1739, 1740, 1741, 1742, 1743, 1744, 1745, 1746, 1747, 1748, 1749, 1750, 1751, 1752, 1753, 1754, 1755] (by decide +kernel) (by decide +kernel)
set_option maxRecDepth 20000 in
theorem gL_law_X12_slidAt : GoodIn wsL_law (wsV RL 175 RX12 yX12_slidAt wsX12_slidAt) := goodIn_app (goodIn_of _ (by decide +kernel)) ggL_law_X12_slidAt
set_option maxRecDepth 20000 in
theorem ggL_law_X11_blame : GoodIn wsL_law wsX11_blame := goodIn_r _ [1370, 31, 565, 52, 60, 566, 567, 568, 2, 569, 22, 453, 577, 578, 579, 51, 580, 115, 581, 116, 476, 582, 583, 584, 218, 219, 220, 585, 586, 587, 20, 588, 76, 214, 213, 589, 469, 470, 471, 590, 591, 592, 30, 593, 89, 594, 595, 596, 597, 481, 114, 1371, 1372, 1373, 59, 1374, 129, 1375, 130, 602, 1227, 1192, 1193, 1194, 607, 526, 527, 528, 1195, 1196, 1197, 1198, 608, 609, 610, 611, 612, 613, 614, 615, 112, 478, 113, 1707, 1708, 1709, 1710, 1711, 1712, 1713, 1714, 1715, 1716, 1717, 1718, 1719, 1720, 1721, 1722, 1723, 1724, 1725, 1778, 1779, 1780, 1781, 1782, 1760, 1761, 1762, 1763, 1764, 1765, 1766, 1767, 1768, 1769, 1770, 1771, 1772, 1773, 1774, 1791, 1792, 1793, 1794, 1795, 1796, 1797, 1801, 1802] (by decide +kernel) (by decide +kernel)
set_option maxRecDepth 20000 in
theorem gL_law_X11_blame : GoodIn wsL_law (wsV RL 176 RX11 yX11_blame wsX11_blame) := goodIn_app (goodIn_of _ (by decide +kernel)) ggL_law_X11_blame
set_option maxRecDepth 20000 in
theorem ggL_law_X12_blame : GoodIn wsL_law wsX12_blame := goodIn_r _ [1379, 505, 621, 622, 623, 5, 624, 187, 188, 189, 640, 641, 642, 643, 149, 1233, 1234, 1235, 1236, 155, 537, 538, 539, 540, 144, 533, 534, 535, 536, 657, 658, 659, 660, 407, 408, 409, 1245, 1246, 1247, 1248, 1241, 1242, 1243, 1244, 1237, 1238, 1239, 1240, 1011, 1012, 1013, 1014, 1249, 1250, 1251, 1252, 1253, 1254, 1255, 1256, 656, 506, 151, 1726, 1727, 1728, 1729, 1730, 1731, 1732, 1733, 1734, 1735, 1736, 1737, 1738, 1739, 1740, 1741, 1742, 1743, 1744, 1745, 1746, 1747, 1748, 1749, 1750, 1751, 1752, 1753, 1754, 1755] (by decide +kernel) (by decide +kernel)
set_option maxRecDepth 20000 in
theorem gL_law_X12_blame : GoodIn wsL_law (wsV RL 179 RX12 yX12_blame wsX12_blame) := goodIn_app (goodIn_of _ (by decide +kernel)) ggL_law_X12_blame
set_option maxRecDepth 20000 in
theorem ggL_law_X11_senders : GoodIn wsL_law wsX11_senders := goodIn_r _ [1383, 22, 453, 31, 564, 521, 522, 523, 2, 524, 570, 571, 572, 573, 574, 575, 576, 1707, 1708, 1709, 1710, 1711, 1712, 1713, 1714, 1715, 1716, 1717, 1718, 1719, 1720, 1721, 1722, 1723, 1724, 1725, 1760, 1761, 1762, 1763, 1764, 1765, 1766, 1767, 1768, 1769, 1770, 1771, 1772, 1773, 1774, 1778, 1779, 1780, 1781, 1782] (by decide +kernel) (by decide +kernel)
set_option maxRecDepth 20000 in
theorem gL_law_X11_senders : GoodIn wsL_law (wsV RL 180 RX11 yX11_senders wsX11_senders) := goodIn_app (goodIn_of _ (by decide +kernel)) ggL_law_X11_senders
set_option maxRecDepth 20000 in
theorem ggL_law_X12_senders : GoodIn wsL_law wsX12_senders := goodIn_r _ [1387, 505, 533, 534, 535, 5, 536, 187, 188, 189, 625, 626, 627, 628, 149, 629, 630, 631, 1726, 1727, 1728, 1729, 1730, 1731, 1732, 1733, 1734, 1735, 1736, 1737, 1738, 1739, 1740, 1741, 1742, 1743, 1744, 1745, 1746, 1747, 1748, 1749, 1750, 1751, 1752, 1753, 1754, 1755] (by decide +kernel) (by decide +kernel)
set_option maxRecDepth 20000 in
theorem gL_law_X12_senders : GoodIn wsL_law (wsV RL 183 RX12 yX12_senders wsX12_senders) := goodIn_app (goodIn_of _ (by decide +kernel)) ggL_law_X12_senders
set_option maxRecDepth 20000 in
theorem ggL_law_X11_less : GoodIn wsL_law wsX11_less := goodIn_r _ [1391, 1392, 1393, 1394, 2, 1395, 775, 52, 31, 60, 521, 522, 523, 524, 22, 453, 577, 578, 579, 51, 580, 115, 581, 116, 476, 582, 583, 584, 218, 219, 220, 585, 586, 587, 20, 588, 76, 214, 213, 589, 469, 470, 471, 590, 591, 592, 30, 593, 89, 594, 595, 596, 597, 481, 114, 1396, 1397, 1398, 59, 1399, 129, 1375, 130, 602, 1400, 1401, 1402, 1403, 1227, 1192, 1193, 1194, 607, 526, 527, 528, 1195, 1196, 1197, 1198, 608, 609, 610, 611, 612, 613, 614, 615, 112, 478, 113, 1228, 778, 488, 779, 780, 781, 782, 1404, 1707, 1708, 1709, 1710, 1711, 1712, 1713, 1714, 1715, 1716, 1717, 1718, 1719, 1720, 1721, 1722, 1723, 1724, 1725, 1760, 1761, 1762, 1763, 1764, 1765, 1766, 1767, 1768, 1769, 1770, 1771, 1772, 1773, 1774, 1791, 1792, 1793, 1794, 1795, 1796, 1797, 1778, 1779, 1780, 1781, 1782, 1801, 1802] (by decide +kernel) (by decide +kernel)
set_option maxRecDepth 20000 in
theorem gL_law_X11_less : GoodIn wsL_law (wsV RL 184 RX11 yX11_less wsX11_less) := goodIn_app (goodIn_of _ (by decide +kernel)) ggL_law_X11_less
set_option maxRecDepth 20000 in
theorem ggL_law_X12_less : GoodIn wsL_law wsX12_less := goodIn_r _ [1408, 787, 533, 534, 535, 5, 536, 505, 187, 188, 189, 1409, 1410, 1411, 1412, 1233, 1234, 1235, 1236, 155, 537, 538, 539, 540, 144, 657, 658, 659, 660, 149, 407, 408, 409, 640, 641, 642, 643, 1245, 1246, 1247, 1248, 1241, 1242, 1243, 1244, 1237, 1238, 1239, 1240, 1011, 1012, 1013, 1014, 1249, 1250, 1251, 1252, 1253, 1254, 1255, 1256, 656, 506, 151, 629, 630, 631, 1726, 1727, 1728, 1729, 1730, 1731, 1732, 1733, 1734, 1735, 1736, 1737, 1738, 1739, 1740, 1741, 1742, 1743, 1744, 1745, 1746, 1747, 1748, 1749, 1750, 1751, 1752, 1753, 1754, 1755] (by decide +kernel) (by decide +kernel)
set_option maxRecDepth 20000 in
theorem gL_law_X12_less : GoodIn wsL_law (wsV RL 187 RX12 yX12_less wsX12_less) := goodIn_app (goodIn_of _ (by decide +kernel)) ggL_law_X12_less
set_option maxRecDepth 20000 in
theorem ggL_law_X11_key : GoodIn wsL_law wsX11_key := goodIn_r _ [1416, 1392, 1393, 1394, 2, 1395, 775, 52, 31, 60, 521, 522, 523, 524, 22, 453, 577, 578, 579, 51, 580, 115, 581, 116, 476, 582, 583, 584, 218, 219, 220, 585, 586, 587, 20, 588, 76, 214, 213, 589, 469, 470, 471, 590, 591, 592, 30, 593, 89, 594, 595, 596, 597, 481, 114, 1396, 1397, 1398, 59, 1399, 129, 1375, 130, 602, 1400, 1401, 1402, 1403, 1227, 1192, 1193, 1194, 607, 526, 527, 528, 1195, 1196, 1197, 1198, 608, 609, 610, 611, 612, 613, 614, 615, 112, 478, 113, 1228, 778, 488, 779, 780, 781, 782, 1404, 1707, 1708, 1709, 1710, 1711, 1712, 1713, 1714, 1715, 1716, 1717, 1718, 1719, 1720, 1721, 1722, 1723, 1724, 1725, 1760, 1761, 1762, 1763, 1764, 1765, 1766, 1767, 1768, 1769, 1770, 1771, 1772, 1773, 1774, 1791, 1792, 1793, 1794, 1795, 1796, 1797, 1778, 1779, 1780, 1781, 1782, 1801, 1802] (by decide +kernel) (by decide +kernel)
set_option maxRecDepth 20000 in
theorem gL_law_X11_key : GoodIn wsL_law (wsV RL 188 RX11 yX11_key wsX11_key) := goodIn_app (goodIn_of _ (by decide +kernel)) ggL_law_X11_key
set_option maxRecDepth 20000 in
theorem ggL_law_X12_key : GoodIn wsL_law wsX12_key := goodIn_r _ [1420, 787, 533, 534, 535, 5, 536, 505, 187, 188, 189, 1409, 1410, 1411, 1412, 1233, 1234, 1235, 1236, 155, 537, 538, 539, 540, 144, 657, 658, 659, 660, 149, 407, 408, 409, 640, 641, 642, 643, 1245, 1246, 1247, 1248, 1241, 1242, 1243, 1244, 1237, 1238, 1239, 1240, 1011, 1012, 1013, 1014, 1249, 1250, 1251, 1252, 1253, 1254, 1255, 1256, 656, 506, 151, 629, 630, 631, 1726, 1727, 1728, 1729, 1730, 1731, 1732, 1733, 1734, 1735, 1736, 1737, 1738, 1739, 1740, 1741, 1742, 1743, 1744, 1745, 1746, 1747, 1748, 1749, 1750, 1751, 1752, 1753, 1754, 1755] (by decide +kernel) (by decide +kernel)
set_option maxRecDepth 20000 in
theorem gL_law_X12_key : GoodIn wsL_law (wsV RL 191 RX12 yX12_key wsX12_key) := goodIn_app (goodIn_of _ (by decide +kernel)) ggL_law_X12_key
set_option maxRecDepth 20000 in
theorem ggL_law_X11_more : GoodIn wsL_law wsX11_more := goodIn_r _ [1424, 775, 52, 31, 60, 566, 567, 568, 2, 569, 22, 453, 577, 578, 579, 51, 580, 115, 581, 116, 476, 582, 583, 584, 218, 219, 220, 585, 586, 587, 20, 588, 76, 214, 213, 589, 469, 470, 471, 590, 591, 592, 30, 593, 89, 594, 595, 596, 597, 481, 114, 1425, 1426, 1427, 59, 1428, 129, 130, 1299, 1429, 1430, 1431, 1432, 1433, 1434, 602, 1375, 1227, 1192, 1193, 1194, 607, 526, 527, 528, 1195, 1196, 1197, 1198, 608, 609, 610, 611, 612, 613, 614, 615, 112, 478, 113, 1228, 778, 488, 779, 780, 781, 782, 1435, 1707, 1708, 1709, 1710, 1711, 1712, 1713, 1714, 1715, 1716, 1717, 1718, 1719, 1720, 1721, 1722, 1723, 1724, 1725, 1760, 1761, 1762, 1763, 1764, 1765, 1766, 1767, 1768, 1769, 1770, 1771, 1772, 1773, 1774, 1791, 1792, 1793, 1794, 1795, 1796, 1797, 1778, 1779, 1780, 1781, 1782, 1801, 1802] (by decide +kernel) (by decide +kernel)
set_option maxRecDepth 20000 in
theorem gL_law_X11_more : GoodIn wsL_law (wsV RL 192 RX11 yX11_more wsX11_more) := goodIn_app (goodIn_of _ (by decide +kernel)) ggL_law_X11_more
set_option maxRecDepth 20000 in
theorem ggL_law_X12_more : GoodIn wsL_law wsX12_more := goodIn_r _ [1439, 787, 155, 505, 621, 622, 623, 5, 624, 187, 188, 189, 960, 961, 962, 963, 144, 145, 964, 965, 966, 967, 657, 658, 659, 660, 149, 407, 408, 409, 1233, 1234, 1235, 1236, 537, 538, 539, 540, 533, 534, 535, 536, 1237, 1238, 1239, 1240, 1241, 1242, 1243, 1244, 1011, 1012, 1013, 1014, 640, 641, 642, 643, 1249, 1250, 1251, 1252, 1253, 1254, 1255, 1256, 656, 506, 151, 629, 630, 631, 1726, 1727, 1728, 1729, 1730, 1731, 1732, 1733, 1734, 1735, 1736, 1737, 1738, 1739, 1740, 1741, 1742, 1743, 1744, 1745, 1746, 1747, 1748, 1749, 1750, 1751, 1752, 1753, 1754, 1755] (by decide +kernel) (by decide +kernel)
set_option maxRecDepth 20000 in
theorem gL_law_X12_more : GoodIn wsL_law (wsV RL 195 RX12 yX12_more wsX12_more) := goodIn_app (goodIn_of _ (by decide +kernel)) ggL_law_X12_more
set_option maxRecDepth 20000 in
theorem ggL_law_X11_jam : GoodIn wsL_law wsX11_jam := goodIn_r _ [1443, 52, 31, 22, 517, 60, 1444, 566, 567, 568, 2, 569, 453, 1286, 1287, 1288, 1289, 518, 521, 522, 523, 524, 577, 578, 579, 51, 580, 115, 581, 116, 476, 582, 583, 584, 218, 219, 220, 585, 586, 587, 20, 588, 76, 214, 213, 589, 469, 470, 471, 590, 591, 592, 30, 593, 89, 594, 595, 596, 597, 481, 114, 1445, 1446, 1447, 59, 1448, 1449, 1450, 1451, 1452, 1453, 130, 602, 129, 1454, 526, 527, 528, 1346, 1196, 1197, 1198, 608, 609, 610, 611, 612, 613, 614, 615, 112, 478, 113, 1455, 1707, 1708, 1709, 1710, 1711, 1712, 1713, 1714, 1715, 1716, 1717, 1718, 1719, 1720, 1721, 1722, 1723, 1724, 1725, 1760, 1761, 1762, 1763, 1764, 1765, 1766, 1767, 1768, 1769, 1770, 1771, 1772, 1773, 1774, 1791, 1792, 1793, 1794, 1795, 1796, 1797, 1778, 1779, 1780, 1781, 1782, 1801, 1802] (by decide +kernel) (by decide +kernel)
set_option maxRecDepth 20000 in
theorem gL_law_X11_jam : GoodIn wsL_law (wsV RL 196 RX11 yX11_jam wsX11_jam) := goodIn_app (goodIn_of _ (by decide +kernel)) ggL_law_X11_jam
set_option maxRecDepth 20000 in
theorem ggL_law_X12_jam : GoodIn wsL_law wsX12_jam := goodIn_r _ [1459, 144, 1460, 621, 622, 623, 5, 624, 505, 187, 188, 189, 1233, 1234, 1235, 1236, 155, 537, 538, 539, 540, 533, 534, 535, 536, 657, 658, 659, 660, 149, 407, 408, 409, 1461, 1462, 1463, 1464, 1465, 656, 1466, 1237, 1238, 1239, 1240, 1241, 1242, 1243, 1244, 1011, 1012, 1013, 1014, 640, 641, 642, 643, 1249, 1250, 1251, 1252, 1253, 1254, 1255, 1256, 506, 151, 1726, 1727, 1728, 1729, 1730, 1731, 1732, 1733, 1734, 1735, 1736, 1737, 1738, 1739, 1740, 1741, 1742, 1743, 1744, 1745, 1746, 1747, 1748, 1749, 1750, 1751, 1752, 1753, 1754, 1755] (by decide +kernel) (by decide +kernel)
set_option maxRecDepth 20000 in
theorem gL_law_X12_jam : GoodIn wsL_law (wsV RL 200 RX12 yX12_jam wsX12_jam) := goodIn_app (goodIn_of _ (by decide +kernel)) ggL_law_X12_jam
set_option maxRecDepth 20000 in
theorem ggL_law_X11_share : GoodIn wsL_law wsX11_share := goodIn_r _ [1470, 1471, 64, 1472, 1473, 1474, 2, 1475, 22, 1476, 1477, 1478, 1479, 63, 1480, 1481, 1482, 1483, 1484, 135, 1485, 1486, 1487, 1488, 1489, 1490, 1491, 1492, 1493, 1494, 1495, 1496, 1497, 1498, 1499, 1500, 1501, 1502, 1503, 1504, 1505, 1707, 1708, 1709, 1710, 1711, 1712, 1713, 1714, 1715, 1716, 1717, 1718, 1719, 1720, 1721, 1722, 1723, 1724, 1725, 1760, 1761, 1762, 1763, 1764, 1765, 1766, 1767, 1768, 1769, 1770, 1771, 1772, 1773, 1774, 1803] (by decide +kernel) (by decide +kernel)
set_option maxRecDepth 20000 in
theorem gL_law_X11_share : GoodIn wsL_law (wsV RL 201 RX11 yX11_share wsX11_share) := goodIn_app (goodIn_of _ (by decide +kernel)) ggL_law_X11_share
set_option maxRecDepth 20000 in
theorem ggL_law_X12_share : GoodIn wsL_law wsX12_share := goodIn_r _ [1509, 1466, 533, 534, 535, 5, 536, 505, 968, 969, 970, 971, 146, 187, 188, 189, 1510, 1511, 1512, 1513, 144, 1514, 1515, 1516, 1517, 1518, 1519, 1176, 1520, 1521, 1522, 1523, 1524, 1525, 1526, 1527, 1528, 1529, 1530, 1531, 1532, 1533, 1534, 1726, 1727, 1728, 1729, 1730, 1731, 1732, 1733, 1734, 1735, 1736, 1737, 1738, 1739, 1740, 1741, 1742, 1743, 1744, 1745, 1746, 1747, 1748, 1749, 1750, 1751, 1752, 1753, 1754, 1755] (by decide +kernel) (by decide +kernel)
set_option maxRecDepth 20000 in
theorem gL_law_X12_share : GoodIn wsL_law (wsV RL 205 RX12 yX12_share wsX12_share) := goodIn_app (goodIn_of _ (by decide +kernel)) ggL_law_X12_share
set_option maxRecDepth 20000 in
theorem ggL_law_X11_limit : GoodIn wsL_law wsX11_limit := goodIn_r _ [1538, 64, 1539, 1472, 1473, 1474, 2, 1475, 22, 1476, 1477, 1478, 1479, 63, 1480, 1481, 1482, 1483, 1484, 135, 1485, 1486, 1487, 1488, 1489, 1490, 1491, 1492, 1493, 1494, 1495, 1496, 1497, 1498, 1707, 1708, 1709, 1710, 1711, 1712, 1713, 1714, 1715, 1716, 1717, 1718, 1719, 1720, 1721, 1722, 1723, 1724, 1725, 1760, 1761, 1762, 1763, 1764, 1765, 1766, 1767, 1768, 1769, 1770, 1771, 1772, 1773, 1774, 1803] (by decide +kernel) (by decide +kernel)
set_option maxRecDepth 20000 in
theorem gL_law_X11_limit : GoodIn wsL_law (wsV RL 206 RX11 yX11_limit wsX11_limit) := goodIn_app (goodIn_of _ (by decide +kernel)) ggL_law_X11_limit
set_option maxRecDepth 20000 in
theorem ggL_law_X12_limit : GoodIn wsL_law wsX12_limit := goodIn_r _ [1543, 1544, 533, 534, 535, 5, 536, 505, 968, 969, 970, 971, 146, 1510, 1511, 1512, 1513, 144, 1514, 1515, 1516, 1517, 1518, 1519, 1176, 1520, 1521, 1522, 1523, 1524, 1525, 1726, 1727, 1728, 1729, 1730, 1731, 1732, 1733, 1734, 1735, 1736, 1737, 1738, 1739, 1740, 1741, 1742, 1743, 1744, 1745, 1746, 1747, 1748, 1749, 1750, 1751, 1752, 1753, 1754, 1755] (by decide +kernel) (by decide +kernel)
set_option maxRecDepth 20000 in
theorem gL_law_X12_limit : GoodIn wsL_law (wsV RL 209 RX12 yX12_limit wsX12_limit) := goodIn_app (goodIn_of _ (by decide +kernel)) ggL_law_X12_limit
set_option maxRecDepth 20000 in
theorem ggL_law_X11_sample : GoodIn wsL_law wsX11_sample := goodIn_r _ [1548, 48, 22, 1472, 1473, 1474, 2, 1475, 1476, 1121, 906, 907, 47, 908, 909, 1549, 911, 912, 913, 914, 915, 916, 917, 918, 919, 920, 921, 1707, 1708, 1709, 1710, 1711, 1712, 1713, 1714, 1715, 1716, 1717, 1718, 1719, 1720, 1721, 1722, 1723, 1724, 1725, 1760, 1761, 1762, 1763, 1764, 1765, 1766, 1767, 1768, 1769, 1770, 1771, 1772, 1773, 1774, 1790] (by decide +kernel) (by decide +kernel)
set_option maxRecDepth 20000 in
theorem gL_law_X11_sample : GoodIn wsL_law (wsV RL 210 RX11 yX11_sample wsX11_sample) := goodIn_app (goodIn_of _ (by decide +kernel)) ggL_law_X11_sample
set_option maxRecDepth 20000 in
theorem ggL_law_X12_sample : GoodIn wsL_law wsX12_sample := goodIn_r _ [1553, 1019, 533, 534, 535, 5, 536, 505, 968, 969, 970, 971, 146, 1021, 1022, 1023, 1024, 1025, 1026, 1027, 1028, 1029, 1030, 1726, 1727, 1728, 1729, 1730, 1731, 1732, 1733, 1734, 1735, 1736, 1737, 1738, 1739, 1740, 1741, 1742, 1743, 1744, 1745, 1746, 1747, 1748, 1749, 1750, 1751, 1752, 1753, 1754, 1755] (by decide +kernel) (by decide +kernel)
set_option maxRecDepth 20000 in
theorem gL_law_X12_sample : GoodIn wsL_law (wsV RL 214 RX12 yX12_sample wsX12_sample) := goodIn_app (goodIn_of _ (by decide +kernel)) ggL_law_X12_sample
set_option maxRecDepth 20000 in
theorem ggL_law_X11_load : GoodIn wsL_law wsX11_load := goodIn_r _ [1557, 22, 453, 521, 522, 523, 2, 524, 525, 526, 527, 20, 528, 213, 214, 1707, 1708, 1709, 1710, 1711, 1712, 1713, 1714, 1715, 1716, 1717, 1718, 1719, 1720, 1721, 1722, 1723, 1724, 1725, 1760, 1761, 1762, 1763, 1764, 1765, 1766, 1767, 1768, 1769, 1770, 1771, 1772, 1773, 1774] (by decide +kernel) (by decide +kernel)
set_option maxRecDepth 20000 in
theorem gL_law_X11_load : GoodIn wsL_law (wsV RL 215 RX11 yX11_load wsX11_load) := goodIn_app (goodIn_of _ (by decide +kernel)) ggL_law_X11_load
set_option maxRecDepth 20000 in
theorem ggL_law_X12_load : GoodIn wsL_law wsX12_load := goodIn_r _ [1561, 505, 533, 534, 535, 5, 536, 187, 188, 189, 537, 538, 539, 540, 144, 1726, 1727, 1728, 1729, 1730, 1731, 1732, 1733, 1734, 1735, 1736, 1737, 1738, 1739, 1740, 1741, 1742, 1743, 1744, 1745, 1746, 1747, 1748, 1749, 1750, 1751, 1752, 1753, 1754, 1755] (by decide +kernel) (by decide +kernel)
set_option maxRecDepth 20000 in
theorem gL_law_X12_load : GoodIn wsL_law (wsV RL 218 RX12 yX12_load wsX12_load) := goodIn_app (goodIn_of _ (by decide +kernel)) ggL_law_X12_load
set_option maxRecDepth 20000 in
theorem ggL_law_X11_step : GoodIn wsL_law wsX11_step := goodIn_r _ [1565, 27, 1566, 775, 1567, 1568, 1569, 1570, 1571, 2, 1572, 495, 1707, 1708, 1709, 1710, 1711, 1712, 1713, 1714, 1715, 1716, 1717, 1718, 1719, 1720, 1721, 1722, 1723, 1724, 1725, 1775, 1776, 1777] (by decide +kernel) (by decide +kernel)
set_option maxRecDepth 20000 in
theorem gL_law_X11_step : GoodIn wsL_law (wsV RL 219 RX11 yX11_step wsX11_step) := goodIn_app (goodIn_of _ (by decide +kernel)) ggL_law_X11_step
set_option maxRecDepth 20000 in
theorem ggL_law_X12_step : GoodIn wsL_law wsX12_step := goodIn_r _ [1576, 148, 147, 787, 1577, 1578, 1579, 5, 1580, 500, 187, 188, 189, 1726, 1727, 1728, 1729, 1730, 1731, 1732, 1733, 1734, 1735, 1736, 1737, 1738, 1739, 1740, 1741, 1742, 1743, 1744, 1745, 1746, 1747, 1748, 1749, 1750, 1751, 1752, 1753, 1754, 1755] (by decide +kernel) (by decide +kernel)
set_option maxRecDepth 20000 in
theorem gL_law_X12_step : GoodIn wsL_law (wsV RL 222 RX12 yX12_step wsX12_step) := goodIn_app (goodIn_of _ (by decide +kernel)) ggL_law_X12_step
set_option maxRecDepth 20000 in
theorem ggL_law_X11_run : GoodIn wsL_law wsX11_run := goodIn_r _ [1584, 775, 32, 31, 27, 1566, 1569, 1570, 1571, 2, 1572, 495, 521, 522, 523, 524, 22, 453, 1585, 853, 854, 30, 855, 88, 856, 243, 244, 245, 89, 90, 91, 459, 1586, 1587, 1588, 1589, 1568, 56, 1590, 1591, 1592, 25, 1593, 1594, 83, 804, 805, 806, 55, 807, 123, 808, 124, 809, 810, 578, 579, 51, 580, 115, 581, 116, 476, 582, 583, 584, 218, 219, 220, 585, 586, 587, 20, 588, 76, 214, 213, 589, 469, 470, 471, 590, 591, 592, 593, 594, 595, 596, 597, 481, 114, 811, 604, 605, 606, 607, 526, 527, 528, 608, 609, 610, 611, 612, 613, 614, 615, 112, 478, 113, 812, 813, 814, 815, 816, 817, 818, 819, 820, 821, 822, 823, 824, 825, 826, 827, 828, 829, 830, 831, 832, 833, 834, 835, 836, 837, 838, 839, 840, 841, 842, 843, 844, 857, 858, 859, 860, 861, 862, 863, 864, 865, 866, 867, 488, 868, 490, 869, 870, 871, 872, 873, 874, 778, 779, 780, 781, 782, 875, 876, 877, 878, 879, 880, 881, 882, 883, 884, 885, 886, 887, 888, 889, 890, 891, 892, 893, 894, 895, 896, 897, 898, 899, 900, 901, 902, 903, 122, 904, 281, 278, 282, 905, 906, 907, 47, 908, 909, 910, 911, 912, 913, 914, 915, 916, 917, 918, 919, 920, 921, 922, 923, 924, 925, 926, 927, 928, 929, 930, 571, 572, 573, 574, 575, 576, 934, 1707, 1708, 1709, 1710, 1711, 1712, 1713, 1714, 1715, 1716, 1717, 1718, 1719, 1720, 1721, 1722, 1723, 1724, 1725, 1775, 1776, 1777, 1760, 1761, 1762, 1763, 1764, 1765, 1766, 1767, 1768, 1769, 1770, 1771, 1772, 1773, 1774, 1778, 1779, 1780, 1781, 1782, 1798, 1799, 1800, 1791, 1792, 1793, 1794, 1795, 1796, 1797, 1790] (by decide +kernel) (by decide +kernel)
set_option maxRecDepth 20000 in
theorem gL_law_X11_run : GoodIn wsL_law (wsV RL 223 RX11 yX11_run wsX11_run) := goodIn_app (goodIn_of _ (by decide +kernel)) ggL_law_X11_run
set_option maxRecDepth 20000 in
theorem ggL_law_X12_run : GoodIn wsL_law wsX12_run := goodIn_r _ [1598, 787, 148, 1577, 1578, 1579, 5, 1580, 500, 187, 188, 189, 533, 534, 535, 536, 505, 636, 637, 638, 639, 154, 149, 1599, 1600, 1601, 1602, 147, 1603, 1604, 1605, 948, 949, 950, 951, 537, 538, 539, 540, 144, 952, 953, 954, 955, 648, 649, 650, 651, 652, 653, 654, 655, 656, 151, 640, 641, 642, 643, 657, 658, 659, 660, 407, 408, 409, 661, 662, 663, 664, 665, 666, 667, 668, 506, 669, 670, 671, 672, 621, 622, 623, 624, 744, 745, 746, 747, 956, 957, 958, 959, 960, 961, 962, 963, 145, 964, 965, 966, 967, 968, 969, 970, 971, 146, 972, 973, 974, 975, 976, 977, 978, 979, 980, 981, 982, 983, 984, 985, 986, 987, 988, 989, 990, 991, 992, 993, 994, 995, 507, 153, 996, 997, 998, 999, 1000, 1001, 1002, 1003, 1004, 1005, 1006, 673, 674, 675, 676, 644, 645, 646, 647, 152, 1007, 1008, 1009, 1010, 1011, 1012, 1013, 1014, 629, 630, 631, 509, 510, 511, 512, 625, 626, 627, 628, 1015, 1016, 1017, 1018, 1019, 1020, 281, 278, 282, 1021, 1022, 1023, 1024, 1025, 1026, 1027, 1028, 1029, 1030, 1031, 1032, 1033, 1034, 1035, 1036, 1037, 1038, 1039, 1040, 1041, 1042, 677, 678, 679, 680, 1726, 1727, 1728, 1729, 1730, 1731, 1732, 1733, 1734, 1735, 1736, 1737, 1738, 1739, 1740, 1741, 1742, 1743, 1744, 1745, 1746, 1747, 1748, 1749, 1750, 1751, 1752, 1753, 1754, 1755] (by decide +kernel) (by decide +kernel)
set_option maxRecDepth 20000 in
theorem gL_law_X12_run : GoodIn wsL_law (wsV RL 226 RX12 yX12_run wsX12_run) := goodIn_app (goodIn_of _ (by decide +kernel)) ggL_law_X12_run
set_option maxRecDepth 20000 in
theorem ggL_law_X11_perform : GoodIn wsL_law wsX11_perform := goodIn_r _ [1609, 27, 1566, 1568, 1569, 1570, 1571, 2, 1572, 495, 521, 522, 523, 524, 22, 453, 1590, 1591, 1592, 25, 1593, 1594, 83, 800, 801, 802, 803, 56, 31, 42, 37, 804, 805, 806, 55, 807, 123, 808, 124, 809, 810, 578, 579, 51, 580, 115, 581, 116, 476, 582, 583, 584, 218, 219, 220, 585, 586, 587, 20, 588, 76, 214, 213, 589, 469, 470, 471, 590, 591, 592, 30, 593, 89, 594, 595, 596, 597, 481, 114, 811, 604, 605, 606, 607, 526, 527, 528, 608, 609, 610, 611, 612, 613, 614, 615, 112, 478, 113, 812, 813, 814, 815, 816, 817, 818, 819, 820, 821, 822, 823, 824, 825, 826, 827, 828, 829, 830, 831, 832, 833, 834, 835, 836, 837, 838, 839, 840, 841, 842, 843, 844, 845, 846, 847, 41, 848, 103, 849, 850, 851, 281, 278, 282, 852, 853, 854, 855, 88, 856, 243, 244, 245, 90, 91, 459, 857, 858, 859, 860, 861, 862, 863, 864, 865, 866, 867, 488, 868, 490, 869, 870, 871, 872, 873, 874, 778, 779, 780, 781, 782, 875, 876, 877, 878, 879, 880, 881, 882, 883, 884, 885, 886, 887, 888, 889, 890, 891, 892, 893, 894, 895, 896, 897, 898, 899, 900, 901, 902, 903, 122, 904, 905, 906, 907, 47, 908, 909, 910, 911, 912, 913, 914, 915, 916, 917, 918, 919, 920, 921, 922, 923, 924, 925, 926, 927, 928, 929, 930, 571, 572, 573, 574, 575, 576, 931, 932, 933, 934, 935, 936, 937, 36, 938, 939, 95, 96, 97, 1707, 1708, 1709, 1710, 1711, 1712, 1713, 1714, 1715, 1716, 1717, 1718, 1719, 1720, 1721, 1722, 1723, 1724, 1725, 1775, 1776, 1777, 1760, 1761, 1762, 1763, 1764, 1765, 1766, 1767, 1768, 1769, 1770, 1771, 1772, 1773, 1774, 1798, 1799, 1800, 1791, 1792, 1793, 1794, 1795, 1796, 1797, 1778, 1779, 1780, 1781, 1782, 1787, 1788, 1789, 1790, 1783, 1784, 1785, 1786] (by decide +kernel) (by decide +kernel)
set_option maxRecDepth 20000 in
theorem gL_law_X11_perform : GoodIn wsL_law (wsV RL 227 RX11 yX11_perform wsX11_perform) := goodIn_app (goodIn_of _ (by decide +kernel)) ggL_law_X11_perform
set_option maxRecDepth 20000 in
theorem ggL_law_X12_perform : GoodIn wsL_law wsX12_perform := goodIn_r _ [1613, 1577, 1578, 1579, 5, 1580, 500, 187, 188, 189, 533, 534, 535, 536, 505, 1599, 1600, 1601, 1602, 148, 147, 1603, 1604, 1605, 948, 949, 950, 951, 149, 537, 538, 539, 540, 144, 952, 953, 954, 955, 648, 649, 650, 651, 652, 653, 654, 655, 656, 151, 640, 641, 642, 643, 657, 658, 659, 660, 407, 408, 409, 661, 662, 663, 664, 665, 666, 667, 668, 506, 669, 670, 671, 672, 621, 622, 623, 624, 744, 745, 746, 747, 956, 957, 958, 959, 960, 961, 962, 963, 145, 964, 965, 966, 967, 968, 969, 970, 971, 146, 972, 973, 974, 975, 976, 977, 978, 979, 980, 981, 982, 983, 984, 985, 986, 987, 988, 989, 990, 991, 992, 993, 994, 995, 507, 153, 996, 997, 998, 999, 1000, 1001, 1002, 1003, 1004, 1005, 1006, 673, 674, 675, 676, 644, 645, 646, 647, 152, 1007, 1008, 1009, 1010, 1011, 1012, 1013, 1014, 629, 630, 631, 509, 510, 511, 512, 625, 626, 627, 628, 1015, 1016, 1017, 1018, 1019, 1020, 281, 278, 282, 1021, 1022, 1023, 1024, 1025, 1026, 1027, 1028, 1029, 1030, 1031, 1032, 1033, 1034, 1035, 1036, 1037, 1038, 1039, 1040, 1041, 1042, 1726, 1727, 1728, 1729, 1730, 1731, 1732, 1733, 1734, 1735, 1736, 1737, 1738, 1739, 1740, 1741, 1742, 1743, 1744, 1745, 1746, 1747, 1748, 1749, 1750, 1751, 1752, 1753, 1754, 1755] (by decide +kernel) (by decide +kernel)
set_option maxRecDepth 20000 in
theorem gL_law_X12_perform : GoodIn wsL_law (wsV RL 230 RX12 yX12_perform wsX12_perform) := goodIn_app (goodIn_of _ (by decide +kernel)) ggL_law_X12_perform
set_option maxRecDepth 20000 in
theorem ggL_law_X11_most : GoodIn wsL_law wsX11_most := goodIn_r _ [1617, 775, 52, 31, 22, 765, 60, 1111, 521, 522, 523, 2, 524, 453, 577, 578, 579, 51, 580, 115, 581, 116, 476, 582, 583, 584, 218, 219, 220, 585, 586, 587, 20, 588, 76, 214, 213, 589, 469, 470, 471, 590, 591, 592, 30, 593, 89, 594, 595, 596, 597, 481, 114, 1190, 483, 484, 485, 205, 1618, 1619, 1620, 59, 1621, 129, 130, 1299, 1454, 526, 527, 528, 1228, 778, 488, 779, 780, 781, 782, 1622, 1623, 1624, 1625, 1375, 1626, 1627, 571, 572, 573, 574, 575, 576, 1628, 1629, 1630, 1631, 1632, 1633, 1634, 1635, 1636, 1637, 1638, 1639, 1640, 1641, 1642, 1643, 1644, 1645, 602, 1646, 1647, 1648, 1649, 1707, 1708, 1709, 1710, 1711, 1712, 1713, 1714, 1715, 1716, 1717, 1718, 1719, 1720, 1721, 1722, 1723, 1724, 1725, 1791, 1792, 1793, 1794, 1795, 1796, 1797, 1778, 1779, 1780, 1781, 1782, 1760, 1761, 1762, 1763, 1764, 1765, 1766, 1767, 1768, 1769, 1770, 1771, 1772, 1773, 1774, 1801, 1802] (by decide +kernel) (by decide +kernel)
set_option maxRecDepth 20000 in
theorem gL_law_X11_most : GoodIn wsL_law (wsV RL 231 RX11 yX11_most wsX11_most) := goodIn_app (goodIn_of _ (by decide +kernel)) ggL_law_X11_most
set_option maxRecDepth 20000 in
theorem ggL_law_X12_most : GoodIn wsL_law wsX12_most := goodIn_r _ [1653, 787, 149, 533, 534, 535, 5, 536, 505, 187, 188, 189, 1011, 1012, 1013, 1014, 640, 641, 642, 643, 1654, 1655, 1656, 1657, 537, 538, 539, 540, 144, 788, 789, 790, 791, 657, 658, 659, 660, 407, 408, 409, 1658, 1659, 1660, 1661, 625, 626, 627, 628, 629, 630, 631, 1662, 1663, 1664, 1665, 151, 1666, 1667, 1668, 1669, 1670, 1671, 1672, 1673, 976, 977, 978, 979, 1674, 1675, 1676, 1677, 1237, 1238, 1239, 1240, 1241, 1242, 1243, 1244, 1278, 1279, 1280, 1281, 1726, 1727, 1728, 1729, 1730, 1731, 1732, 1733, 1734, 1735, 1736, 1737, 1738, 1739, 1740, 1741, 1742, 1743, 1744, 1745, 1746, 1747, 1748, 1749, 1750, 1751, 1752, 1753, 1754, 1755] (by decide +kernel) (by decide +kernel)
set_option maxRecDepth 20000 in
theorem gL_law_X12_most : GoodIn wsL_law (wsV RL 234 RX12 yX12_most wsX12_most) := goodIn_app (goodIn_of _ (by decide +kernel)) ggL_law_X12_most
set_option maxRecDepth 20000 in
theorem ggL_law_X11_image : GoodIn wsL_law wsX11_image := goodIn_r _ [1681, 33, 31, 38, 37, 452, 521, 522, 523, 2, 524, 22, 453, 1585, 853, 854, 30, 855, 88, 856, 243, 244, 245, 89, 90, 91, 459, 1682, 1683, 1684, 36, 1685, 95, 1686, 96, 97, 939, 934, 884, 885, 886, 1707, 1708, 1709, 1710, 1711, 1712, 1713, 1714, 1715, 1716, 1717, 1718, 1719, 1720, 1721, 1722, 1723, 1724, 1725, 1760, 1761, 1762, 1763, 1764, 1765, 1766, 1767, 1768, 1769, 1770, 1771, 1772, 1773, 1774, 1778, 1779, 1780, 1781, 1782, 1783, 1784, 1785, 1786] (by decide +kernel) (by decide +kernel)
set_option maxRecDepth 20000 in
theorem gL_law_X11_image : GoodIn wsL_law (wsV RL 235 RX11 yX11_image wsX11_image) := goodIn_app (goodIn_of _ (by decide +kernel)) ggL_law_X11_image
set_option maxRecDepth 20000 in
theorem ggL_law_X12_image : GoodIn wsL_law wsX12_image := goodIn_r _ [1690, 157, 149, 508, 533, 534, 535, 5, 536, 505, 1007, 1008, 1009, 1010, 1011, 1012, 1013, 1014, 640, 641, 642, 643, 629, 630, 631, 1726, 1727, 1728, 1729, 1730, 1731, 1732, 1733, 1734, 1735, 1736, 1737, 1738, 1739, 1740, 1741, 1742, 1743, 1744, 1745, 1746, 1747, 1748, 1749, 1750, 1751, 1752, 1753, 1754, 1755] (by decide +kernel) (by decide +kernel)
set_option maxRecDepth 20000 in
theorem gL_law_X12_image : GoodIn wsL_law (wsV RL 238 RX12 yX12_image wsX12_image) := goodIn_app (goodIn_of _ (by decide +kernel)) ggL_law_X12_image
set_option maxRecDepth 20000 in
theorem ggL_law_X11_back : GoodIn wsL_law wsX11_back := goodIn_r _ [1694, 452, 31, 33, 37, 38, 42, 451, 1585, 853, 854, 30, 855, 88, 856, 243, 244, 245, 89, 90, 91, 459, 1682, 1683, 1684, 36, 1685, 95, 1686, 96, 97, 939, 934, 884, 885, 886, 1707, 1708, 1709, 1710, 1711, 1712, 1713, 1714, 1715, 1716, 1717, 1718, 1719, 1720, 1721, 1722, 1723, 1724, 1725, 1787, 1788, 1789, 1778, 1779, 1780, 1781, 1782, 1783, 1784, 1785, 1786] (by decide +kernel) (by decide +kernel)
set_option maxRecDepth 20000 in
theorem gL_law_X11_back : GoodIn wsL_law (wsV RL 239 RX11 yX11_back wsX11_back) := goodIn_app (goodIn_of _ (by decide +kernel)) ggL_law_X11_back
set_option maxRecDepth 20000 in
theorem ggL_law_X12_back : GoodIn wsL_law wsX12_back := goodIn_r _ [1698, 508, 149, 157, 507, 1007, 1008, 1009, 5, 1010, 1011, 1012, 1013, 1014, 505, 640, 641, 642, 643, 629, 630, 631, 1726, 1727, 1728, 1729, 1730, 1731, 1732, 1733, 1734, 1735, 1736, 1737, 1738, 1739, 1740, 1741, 1742, 1743, 1744, 1745, 1746, 1747, 1748, 1749, 1750, 1751, 1752, 1753, 1754, 1755] (by decide +kernel) (by decide +kernel)
set_option maxRecDepth 20000 in
theorem gL_law_X12_back : GoodIn wsL_law (wsV RL 242 RX12 yX12_back wsX12_back) := goodIn_app (goodIn_of _ (by decide +kernel)) ggL_law_X12_back
set_option maxRecDepth 20000 in
theorem ggL_law_X11_count : GoodIn wsL_law wsX11_count := goodIn_r _ [1702, 22, 453, 495, 17, 162, 37, 42, 451, 775, 1165, 1166, 1167, 36, 1168, 939, 1169, 281, 278, 282, 1707, 1708, 1709, 1710, 1711, 1712, 1713, 1714, 1715, 1716, 1717, 1718, 1719, 1720, 1721, 1722, 1723, 1724, 1725, 1760, 1761, 1762, 1763, 1764, 1765, 1766, 1767, 1768, 1769, 1770, 1771, 1772, 1773, 1774, 1756, 1757, 1758, 1759, 1787, 1788, 1789, 1783, 1784, 1785, 1786] (by decide +kernel) (by decide +kernel)
set_option maxRecDepth 20000 in
theorem gL_law_X11_count : GoodIn wsL_law (wsV RL 243 RX11 yX11_count wsX11_count) := goodIn_app (goodIn_of _ (by decide +kernel)) ggL_law_X11_count
set_option maxRecDepth 20000 in
theorem ggL_law_X12_count : GoodIn wsL_law wsX12_count := goodIn_r _ [1706, 505, 500, 175, 149, 507, 787, 1726, 1727, 1728, 1729, 1730, 1731, 1732, 1733, 1734, 1735, 1736, 1737, 1738, 1739, 1740, 1741, 1742, 1743, 1744, 1745, 1746, 1747, 1748, 1749, 1750, 1751, 1752, 1753, 1754, 1755] (by decide +kernel) (by decide +kernel)
set_option maxRecDepth 20000 in
theorem gL_law_X12_count : GoodIn wsL_law (wsV RL 246 RX12 yX12_count wsX12_count) := goodIn_app (goodIn_of _ (by decide +kernel)) ggL_law_X12_count
theorem dL_law_0 : decode cL_law 0 = .ok (.new 8, 3) := by decide +kernel
theorem dL_law_3 : decode cL_law 3 = .ok (.dup, 1) := by decide +kernel
theorem dL_law_4 : decode cL_law 4 = .ok (.invokespecial 15, 3) := by decide +kernel
theorem dL_law_7 : decode cL_law 7 = .ok (.astore_n 1, 1) := by decide +kernel
theorem dL_law_8 : decode cL_law 8 = .ok (.new 16, 3) := by decide +kernel
theorem dL_law_11 : decode cL_law 11 = .ok (.dup, 1) := by decide +kernel
theorem dL_law_12 : decode cL_law 12 = .ok (.invokespecial 18, 3) := by decide +kernel
theorem dL_law_15 : decode cL_law 15 = .ok (.astore_n 2, 1) := by decide +kernel
theorem dL_law_16 : decode cL_law 16 = .ok (.iconst 1, 1) := by decide +kernel
theorem dL_law_17 : decode cL_law 17 = .ok (.newarray .long, 2) := by decide +kernel
theorem dL_law_19 : decode cL_law 19 = .ok (.astore_n 3, 1) := by decide +kernel
theorem dL_law_20 : decode cL_law 20 = .ok (.iconst 0, 1) := by decide +kernel
theorem dL_law_21 : decode cL_law 21 = .ok (.istore 4, 2) := by decide +kernel
theorem dL_law_23 : decode cL_law 23 = .ok (.iload 4, 2) := by decide +kernel
theorem dL_law_25 : decode cL_law 25 = .ok (.aload_n 0, 1) := by decide +kernel
theorem dL_law_26 : decode cL_law 26 = .ok (.arraylength, 1) := by decide +kernel
theorem dL_law_27 : decode cL_law 27 = .ok (.bipush 6, 2) := by decide +kernel
theorem dL_law_29 : decode cL_law 29 = .ok (.isub, 1) := by decide +kernel
theorem dL_law_30 : decode cL_law 30 = .ok (.if_icmp .gt 1938, 3) := by decide +kernel
theorem dL_law_33 : decode cL_law 33 = .ok (.aload_n 0, 1) := by decide +kernel
theorem dL_law_34 : decode cL_law 34 = .ok (.iload 4, 2) := by decide +kernel
theorem dL_law_36 : decode cL_law 36 = .ok (.iaload, 1) := by decide +kernel
theorem dL_law_37 : decode cL_law 37 = .ok (.bipush 63, 2) := by decide +kernel
theorem dL_law_39 : decode cL_law 39 = .ok (.iand, 1) := by decide +kernel
theorem dL_law_40 : decode cL_law 40 = .ok (.tableswitch 1922 0 52 #[228, 301, 326, 351, 376, 401, 426, 494, 520, 545, 582, 619, 656, 693, 706, 719, 744, 769, 806, 831, 900, 937, 974, 1011, 1080, 1105, 1118, 1155, 1180, 1205, 1242, 1255, 1292, 1329, 1354, 1379, 1416, 1441, 1466, 1491, 1516, 1553, 1602, 1640, 1653, 1710, 1735, 1784, 1821, 1846, 1871, 1884, 1897], 228) := by decide +kernel
theorem dL_law_268 : decode cL_law 268 = .ok (.aload_n 1, 1) := by decide +kernel
theorem dL_law_269 : decode cL_law 269 = .ok (.aload_n 0, 1) := by decide +kernel
theorem dL_law_270 : decode cL_law 270 = .ok (.iload 4, 2) := by decide +kernel
theorem dL_law_272 : decode cL_law 272 = .ok (.iconst 1, 1) := by decide +kernel
theorem dL_law_273 : decode cL_law 273 = .ok (.iadd, 1) := by decide +kernel
theorem dL_law_274 : decode cL_law 274 = .ok (.iaload, 1) := by decide +kernel
theorem dL_law_275 : decode cL_law 275 = .ok (.aload_n 0, 1) := by decide +kernel
theorem dL_law_276 : decode cL_law 276 = .ok (.iload 4, 2) := by decide +kernel
theorem dL_law_278 : decode cL_law 278 = .ok (.iconst 2, 1) := by decide +kernel
theorem dL_law_279 : decode cL_law 279 = .ok (.iadd, 1) := by decide +kernel
theorem dL_law_280 : decode cL_law 280 = .ok (.iaload, 1) := by decide +kernel
theorem dL_law_281 : decode cL_law 281 = .ok (.aload_n 0, 1) := by decide +kernel
theorem dL_law_282 : decode cL_law 282 = .ok (.iload 4, 2) := by decide +kernel
theorem dL_law_284 : decode cL_law 284 = .ok (.iconst 3, 1) := by decide +kernel
theorem dL_law_285 : decode cL_law 285 = .ok (.iadd, 1) := by decide +kernel
theorem dL_law_286 : decode cL_law 286 = .ok (.iaload, 1) := by decide +kernel
theorem dL_law_287 : decode cL_law 287 = .ok (.aload_n 0, 1) := by decide +kernel
theorem dL_law_288 : decode cL_law 288 = .ok (.iload 4, 2) := by decide +kernel
theorem dL_law_290 : decode cL_law 290 = .ok (.iconst 4, 1) := by decide +kernel
theorem dL_law_291 : decode cL_law 291 = .ok (.iadd, 1) := by decide +kernel
theorem dL_law_292 : decode cL_law 292 = .ok (.iaload, 1) := by decide +kernel
theorem dL_law_293 : decode cL_law 293 = .ok (.aload_n 0, 1) := by decide +kernel
theorem dL_law_294 : decode cL_law 294 = .ok (.iload 4, 2) := by decide +kernel
theorem dL_law_296 : decode cL_law 296 = .ok (.iconst 5, 1) := by decide +kernel
theorem dL_law_297 : decode cL_law 297 = .ok (.iadd, 1) := by decide +kernel
theorem dL_law_298 : decode cL_law 298 = .ok (.iaload, 1) := by decide +kernel
theorem dL_law_299 : decode cL_law 299 = .ok (.invokevirtual 19, 3) := by decide +kernel
theorem dL_law_302 : decode cL_law 302 = .ok (.aload_n 2, 1) := by decide +kernel
theorem dL_law_303 : decode cL_law 303 = .ok (.aload_n 0, 1) := by decide +kernel
theorem dL_law_304 : decode cL_law 304 = .ok (.iload 4, 2) := by decide +kernel
theorem dL_law_306 : decode cL_law 306 = .ok (.iconst 1, 1) := by decide +kernel
theorem dL_law_307 : decode cL_law 307 = .ok (.iadd, 1) := by decide +kernel
theorem dL_law_308 : decode cL_law 308 = .ok (.iaload, 1) := by decide +kernel
theorem dL_law_309 : decode cL_law 309 = .ok (.aload_n 0, 1) := by decide +kernel
theorem dL_law_310 : decode cL_law 310 = .ok (.iload 4, 2) := by decide +kernel
theorem dL_law_312 : decode cL_law 312 = .ok (.iconst 2, 1) := by decide +kernel
theorem dL_law_313 : decode cL_law 313 = .ok (.iadd, 1) := by decide +kernel
theorem dL_law_314 : decode cL_law 314 = .ok (.iaload, 1) := by decide +kernel
theorem dL_law_315 : decode cL_law 315 = .ok (.aload_n 0, 1) := by decide +kernel
theorem dL_law_316 : decode cL_law 316 = .ok (.iload 4, 2) := by decide +kernel
theorem dL_law_318 : decode cL_law 318 = .ok (.iconst 3, 1) := by decide +kernel
theorem dL_law_319 : decode cL_law 319 = .ok (.iadd, 1) := by decide +kernel
theorem dL_law_320 : decode cL_law 320 = .ok (.iaload, 1) := by decide +kernel
theorem dL_law_321 : decode cL_law 321 = .ok (.aload_n 0, 1) := by decide +kernel
theorem dL_law_322 : decode cL_law 322 = .ok (.iload 4, 2) := by decide +kernel
theorem dL_law_324 : decode cL_law 324 = .ok (.iconst 4, 1) := by decide +kernel
theorem dL_law_325 : decode cL_law 325 = .ok (.iadd, 1) := by decide +kernel
theorem dL_law_326 : decode cL_law 326 = .ok (.iaload, 1) := by decide +kernel
theorem dL_law_327 : decode cL_law 327 = .ok (.aload_n 0, 1) := by decide +kernel
theorem dL_law_328 : decode cL_law 328 = .ok (.iload 4, 2) := by decide +kernel
theorem dL_law_330 : decode cL_law 330 = .ok (.iconst 5, 1) := by decide +kernel
theorem dL_law_331 : decode cL_law 331 = .ok (.iadd, 1) := by decide +kernel
theorem dL_law_332 : decode cL_law 332 = .ok (.iaload, 1) := by decide +kernel
theorem dL_law_333 : decode cL_law 333 = .ok (.invokevirtual 23, 3) := by decide +kernel
theorem dL_law_336 : decode cL_law 336 = .ok (.if_icmp .eq 1626, 3) := by decide +kernel
theorem dL_law_339 : decode cL_law 339 = .ok (.iconst 0, 1) := by decide +kernel
theorem dL_law_340 : decode cL_law 340 = .ok (.ireturn, 1) := by decide +kernel
theorem dL_law_341 : decode cL_law 341 = .ok (.aload_n 1, 1) := by decide +kernel
theorem dL_law_342 : decode cL_law 342 = .ok (.aload_n 0, 1) := by decide +kernel
theorem dL_law_343 : decode cL_law 343 = .ok (.iload 4, 2) := by decide +kernel
theorem dL_law_345 : decode cL_law 345 = .ok (.iconst 1, 1) := by decide +kernel
theorem dL_law_346 : decode cL_law 346 = .ok (.iadd, 1) := by decide +kernel
theorem dL_law_347 : decode cL_law 347 = .ok (.iaload, 1) := by decide +kernel
theorem dL_law_348 : decode cL_law 348 = .ok (.invokevirtual 24, 3) := by decide +kernel
theorem dL_law_351 : decode cL_law 351 = .ok (.aload_n 2, 1) := by decide +kernel
theorem dL_law_352 : decode cL_law 352 = .ok (.aload_n 0, 1) := by decide +kernel
theorem dL_law_353 : decode cL_law 353 = .ok (.iload 4, 2) := by decide +kernel
theorem dL_law_355 : decode cL_law 355 = .ok (.iconst 1, 1) := by decide +kernel
theorem dL_law_356 : decode cL_law 356 = .ok (.iadd, 1) := by decide +kernel
theorem dL_law_357 : decode cL_law 357 = .ok (.iaload, 1) := by decide +kernel
theorem dL_law_358 : decode cL_law 358 = .ok (.invokevirtual 28, 3) := by decide +kernel
theorem dL_law_361 : decode cL_law 361 = .ok (.if_icmp .eq 1601, 3) := by decide +kernel
theorem dL_law_364 : decode cL_law 364 = .ok (.iconst 0, 1) := by decide +kernel
theorem dL_law_365 : decode cL_law 365 = .ok (.ireturn, 1) := by decide +kernel
theorem dL_law_366 : decode cL_law 366 = .ok (.aload_n 1, 1) := by decide +kernel
theorem dL_law_367 : decode cL_law 367 = .ok (.aload_n 0, 1) := by decide +kernel
theorem dL_law_368 : decode cL_law 368 = .ok (.iload 4, 2) := by decide +kernel
theorem dL_law_370 : decode cL_law 370 = .ok (.iconst 1, 1) := by decide +kernel
theorem dL_law_371 : decode cL_law 371 = .ok (.iadd, 1) := by decide +kernel
theorem dL_law_372 : decode cL_law 372 = .ok (.iaload, 1) := by decide +kernel
theorem dL_law_373 : decode cL_law 373 = .ok (.invokevirtual 29, 3) := by decide +kernel
theorem dL_law_376 : decode cL_law 376 = .ok (.aload_n 2, 1) := by decide +kernel
theorem dL_law_377 : decode cL_law 377 = .ok (.aload_n 0, 1) := by decide +kernel
theorem dL_law_378 : decode cL_law 378 = .ok (.iload 4, 2) := by decide +kernel
theorem dL_law_380 : decode cL_law 380 = .ok (.iconst 1, 1) := by decide +kernel
theorem dL_law_381 : decode cL_law 381 = .ok (.iadd, 1) := by decide +kernel
theorem dL_law_382 : decode cL_law 382 = .ok (.iaload, 1) := by decide +kernel
theorem dL_law_383 : decode cL_law 383 = .ok (.invokevirtual 33, 3) := by decide +kernel
theorem dL_law_386 : decode cL_law 386 = .ok (.if_icmp .eq 1576, 3) := by decide +kernel
theorem dL_law_389 : decode cL_law 389 = .ok (.iconst 0, 1) := by decide +kernel
theorem dL_law_390 : decode cL_law 390 = .ok (.ireturn, 1) := by decide +kernel
theorem dL_law_391 : decode cL_law 391 = .ok (.aload_n 1, 1) := by decide +kernel
theorem dL_law_392 : decode cL_law 392 = .ok (.aload_n 0, 1) := by decide +kernel
theorem dL_law_393 : decode cL_law 393 = .ok (.iload 4, 2) := by decide +kernel
theorem dL_law_395 : decode cL_law 395 = .ok (.iconst 1, 1) := by decide +kernel
theorem dL_law_396 : decode cL_law 396 = .ok (.iadd, 1) := by decide +kernel
theorem dL_law_397 : decode cL_law 397 = .ok (.iaload, 1) := by decide +kernel
theorem dL_law_398 : decode cL_law 398 = .ok (.invokevirtual 34, 3) := by decide +kernel
theorem dL_law_401 : decode cL_law 401 = .ok (.aload_n 2, 1) := by decide +kernel
theorem dL_law_402 : decode cL_law 402 = .ok (.aload_n 0, 1) := by decide +kernel
theorem dL_law_403 : decode cL_law 403 = .ok (.iload 4, 2) := by decide +kernel
theorem dL_law_405 : decode cL_law 405 = .ok (.iconst 1, 1) := by decide +kernel
theorem dL_law_406 : decode cL_law 406 = .ok (.iadd, 1) := by decide +kernel
theorem dL_law_407 : decode cL_law 407 = .ok (.iaload, 1) := by decide +kernel
theorem dL_law_408 : decode cL_law 408 = .ok (.invokevirtual 37, 3) := by decide +kernel
theorem dL_law_411 : decode cL_law 411 = .ok (.if_icmp .eq 1551, 3) := by decide +kernel
theorem dL_law_414 : decode cL_law 414 = .ok (.iconst 0, 1) := by decide +kernel
theorem dL_law_415 : decode cL_law 415 = .ok (.ireturn, 1) := by decide +kernel
theorem dL_law_416 : decode cL_law 416 = .ok (.aload_n 1, 1) := by decide +kernel
theorem dL_law_417 : decode cL_law 417 = .ok (.aload_n 0, 1) := by decide +kernel
theorem dL_law_418 : decode cL_law 418 = .ok (.iload 4, 2) := by decide +kernel
theorem dL_law_420 : decode cL_law 420 = .ok (.iconst 1, 1) := by decide +kernel
theorem dL_law_421 : decode cL_law 421 = .ok (.iadd, 1) := by decide +kernel
theorem dL_law_422 : decode cL_law 422 = .ok (.iaload, 1) := by decide +kernel
theorem dL_law_423 : decode cL_law 423 = .ok (.invokevirtual 38, 3) := by decide +kernel
theorem dL_law_426 : decode cL_law 426 = .ok (.aload_n 2, 1) := by decide +kernel
theorem dL_law_427 : decode cL_law 427 = .ok (.aload_n 0, 1) := by decide +kernel
