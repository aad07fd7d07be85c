theorem dX12_items_32 : decode cX12_items 32 = .ok (.aload_n 0, 1) := by decide +kernel
theorem dX12_items_33 : decode cX12_items 33 = .ok (.invokevirtual 90, 3) := by decide +kernel
theorem dX12_items_36 : decode cX12_items 36 = .ok (.invokestatic 104, 3) := by decide +kernel
theorem dX12_items_39 : decode cX12_items 39 = .ok (.istore 6, 2) := by decide +kernel
theorem dX12_items_41 : decode cX12_items 41 = .ok (.aload_n 0, 1) := by decide +kernel
theorem dX12_items_42 : decode cX12_items 42 = .ok (.getfield 87, 3) := by decide +kernel
theorem dX12_items_45 : decode cX12_items 45 = .ok (.iconst (-1), 1) := by decide +kernel
theorem dX12_items_46 : decode cX12_items 46 = .ok (.if_icmp .ne 85, 3) := by decide +kernel
theorem dX12_items_49 : decode cX12_items 49 = .ok (.iload 6, 2) := by decide +kernel
theorem dX12_items_51 : decode cX12_items 51 = .ok (.iconst (-1), 1) := by decide +kernel
theorem dX12_items_52 : decode cX12_items 52 = .ok (.if_icmp .eq 79, 3) := by decide +kernel
theorem dX12_items_55 : decode cX12_items 55 = .ok (.iload 5, 2) := by decide +kernel
theorem dX12_items_57 : decode cX12_items 57 = .ok (.iload 6, 2) := by decide +kernel
theorem dX12_items_59 : decode cX12_items 59 = .ok (.invokestatic 107, 3) := by decide +kernel
theorem dX12_items_62 : decode cX12_items 62 = .ok (.ifCond .ne 69, 3) := by decide +kernel
theorem dX12_items_65 : decode cX12_items 65 = .ok (.iload 5, 2) := by decide +kernel
theorem dX12_items_67 : decode cX12_items 67 = .ok (.iconst 1, 1) := by decide +kernel
theorem dX12_items_68 : decode cX12_items 68 = .ok (.iload 6, 2) := by decide +kernel
theorem dX12_items_70 : decode cX12_items 70 = .ok (.ishl, 1) := by decide +kernel
theorem dX12_items_71 : decode cX12_items 71 = .ok (.ior, 1) := by decide +kernel
theorem dX12_items_72 : decode cX12_items 72 = .ok (.istore 5, 2) := by decide +kernel
theorem dX12_items_74 : decode cX12_items 74 = .ok (.aload_n 0, 1) := by decide +kernel
theorem dX12_items_75 : decode cX12_items 75 = .ok (.dup, 1) := by decide +kernel
theorem dX12_items_76 : decode cX12_items 76 = .ok (.getfield 80, 3) := by decide +kernel
theorem dX12_items_79 : decode cX12_items 79 = .ok (.iconst 1, 1) := by decide +kernel
theorem dX12_items_80 : decode cX12_items 80 = .ok (.iadd, 1) := by decide +kernel
theorem dX12_items_81 : decode cX12_items 81 = .ok (.putfield 80, 3) := by decide +kernel
theorem dX12_items_84 : decode cX12_items 84 = .ok (.aload_n 2, 1) := by decide +kernel
theorem dX12_items_85 : decode cX12_items 85 = .ok (.iload_n 3, 1) := by decide +kernel
theorem dX12_items_86 : decode cX12_items 86 = .ok (.iload 6, 2) := by decide +kernel
theorem dX12_items_88 : decode cX12_items 88 = .ok (.iadd, 1) := by decide +kernel
theorem dX12_items_89 : decode cX12_items 89 = .ok (.aload_n 0, 1) := by decide +kernel
theorem dX12_items_90 : decode cX12_items 90 = .ok (.iload_n 1, 1) := by decide +kernel
theorem dX12_items_91 : decode cX12_items 91 = .ok (.iload 6, 2) := by decide +kernel
theorem dX12_items_93 : decode cX12_items 93 = .ok (.invokestatic 111, 3) := by decide +kernel
theorem dX12_items_96 : decode cX12_items 96 = .ok (.iload_n 1, 1) := by decide +kernel
theorem dX12_items_97 : decode cX12_items 97 = .ok (.iload 6, 2) := by decide +kernel
theorem dX12_items_99 : decode cX12_items 99 = .ok (.invokestatic 114, 3) := by decide +kernel
theorem dX12_items_102 : decode cX12_items 102 = .ok (.invokevirtual 117, 3) := by decide +kernel
theorem dX12_items_105 : decode cX12_items 105 = .ok (.iastore, 1) := by decide +kernel
theorem dX12_items_106 : decode cX12_items 106 = .ok (.aload_n 0, 1) := by decide +kernel
theorem dX12_items_107 : decode cX12_items 107 = .ok (.getfield 87, 3) := by decide +kernel
theorem dX12_items_110 : decode cX12_items 110 = .ok (.iconst (-1), 1) := by decide +kernel
theorem dX12_items_111 : decode cX12_items 111 = .ok (.if_icmp .ne 14, 3) := by decide +kernel
theorem dX12_items_114 : decode cX12_items 114 = .ok (.iload_n 1, 1) := by decide +kernel
theorem dX12_items_115 : decode cX12_items 115 = .ok (.aload_n 0, 1) := by decide +kernel
theorem dX12_items_116 : decode cX12_items 116 = .ok (.invokevirtual 90, 3) := by decide +kernel
theorem dX12_items_119 : decode cX12_items 119 = .ok (.invokestatic 104, 3) := by decide +kernel
theorem dX12_items_122 : decode cX12_items 122 = .ok (.goto 4, 3) := by decide +kernel
theorem dX12_items_125 : decode cX12_items 125 = .ok (.iconst (-1), 1) := by decide +kernel
theorem dX12_items_126 : decode cX12_items 126 = .ok (.istore 6, 2) := by decide +kernel
theorem dX12_items_128 : decode cX12_items 128 = .ok (.goto (-87), 3) := by decide +kernel
theorem dX12_items_131 : decode cX12_items 131 = .ok (.return_, 1) := by decide +kernel
theorem dX12_isWhole_0 : decode cX12_isWhole 0 = .ok (.aload_n 0, 1) := by decide +kernel
theorem dX12_isWhole_1 : decode cX12_isWhole 1 = .ok (.getfield 120, 3) := by decide +kernel
theorem dX12_isWhole_4 : decode cX12_isWhole 4 = .ok (.ifCond .le 7, 3) := by decide +kernel
theorem dX12_isWhole_7 : decode cX12_isWhole 7 = .ok (.iconst 1, 1) := by decide +kernel
theorem dX12_isWhole_8 : decode cX12_isWhole 8 = .ok (.goto 4, 3) := by decide +kernel
theorem dX12_isWhole_11 : decode cX12_isWhole 11 = .ok (.iconst 0, 1) := by decide +kernel
theorem dX12_isWhole_12 : decode cX12_isWhole 12 = .ok (.istore_n 1, 1) := by decide +kernel
theorem dX12_isWhole_13 : decode cX12_isWhole 13 = .ok (.iconst 0, 1) := by decide +kernel
theorem dX12_isWhole_14 : decode cX12_isWhole 14 = .ok (.istore_n 2, 1) := by decide +kernel
theorem dX12_isWhole_15 : decode cX12_isWhole 15 = .ok (.iload_n 2, 1) := by decide +kernel
theorem dX12_isWhole_16 : decode cX12_isWhole 16 = .ok (.aload_n 0, 1) := by decide +kernel
theorem dX12_isWhole_17 : decode cX12_isWhole 17 = .ok (.getfield 120, 3) := by decide +kernel
theorem dX12_isWhole_20 : decode cX12_isWhole 20 = .ok (.if_icmp .ge 96, 3) := by decide +kernel
theorem dX12_isWhole_23 : decode cX12_isWhole 23 = .ok (.iload_n 1, 1) := by decide +kernel
theorem dX12_isWhole_24 : decode cX12_isWhole 24 = .ok (.ifCond .eq 92, 3) := by decide +kernel
theorem dX12_isWhole_27 : decode cX12_isWhole 27 = .ok (.aload_n 0, 1) := by decide +kernel
theorem dX12_isWhole_28 : decode cX12_isWhole 28 = .ok (.getfield 16, 3) := by decide +kernel
theorem dX12_isWhole_31 : decode cX12_isWhole 31 = .ok (.iconst 5, 1) := by decide +kernel
theorem dX12_isWhole_32 : decode cX12_isWhole 32 = .ok (.iload_n 2, 1) := by decide +kernel
theorem dX12_isWhole_33 : decode cX12_isWhole 33 = .ok (.imul, 1) := by decide +kernel
theorem dX12_isWhole_34 : decode cX12_isWhole 34 = .ok (.iconst 2, 1) := by decide +kernel
theorem dX12_isWhole_35 : decode cX12_isWhole 35 = .ok (.iadd, 1) := by decide +kernel
theorem dX12_isWhole_36 : decode cX12_isWhole 36 = .ok (.iaload, 1) := by decide +kernel
theorem dX12_isWhole_37 : decode cX12_isWhole 37 = .ok (.istore_n 3, 1) := by decide +kernel
theorem dX12_isWhole_38 : decode cX12_isWhole 38 = .ok (.iconst 1, 1) := by decide +kernel
theorem dX12_isWhole_39 : decode cX12_isWhole 39 = .ok (.aload_n 0, 1) := by decide +kernel
theorem dX12_isWhole_40 : decode cX12_isWhole 40 = .ok (.getfield 13, 3) := by decide +kernel
theorem dX12_isWhole_43 : decode cX12_isWhole 43 = .ok (.iconst 0, 1) := by decide +kernel
theorem dX12_isWhole_44 : decode cX12_isWhole 44 = .ok (.iaload, 1) := by decide +kernel
theorem dX12_isWhole_45 : decode cX12_isWhole 45 = .ok (.ishl, 1) := by decide +kernel
theorem dX12_isWhole_46 : decode cX12_isWhole 46 = .ok (.istore 4, 2) := by decide +kernel
theorem dX12_isWhole_48 : decode cX12_isWhole 48 = .ok (.iload_n 3, 1) := by decide +kernel
theorem dX12_isWhole_49 : decode cX12_isWhole 49 = .ok (.aload_n 0, 1) := by decide +kernel
theorem dX12_isWhole_50 : decode cX12_isWhole 50 = .ok (.getfield 13, 3) := by decide +kernel
theorem dX12_isWhole_53 : decode cX12_isWhole 53 = .ok (.iconst 1, 1) := by decide +kernel
theorem dX12_isWhole_54 : decode cX12_isWhole 54 = .ok (.iaload, 1) := by decide +kernel
theorem dX12_isWhole_55 : decode cX12_isWhole 55 = .ok (.if_icmp .ge 53, 3) := by decide +kernel
theorem dX12_isWhole_58 : decode cX12_isWhole 58 = .ok (.aload_n 0, 1) := by decide +kernel
theorem dX12_isWhole_59 : decode cX12_isWhole 59 = .ok (.getfield 16, 3) := by decide +kernel
theorem dX12_isWhole_62 : decode cX12_isWhole 62 = .ok (.iconst 5, 1) := by decide +kernel
theorem dX12_isWhole_63 : decode cX12_isWhole 63 = .ok (.iload_n 2, 1) := by decide +kernel
theorem dX12_isWhole_64 : decode cX12_isWhole 64 = .ok (.imul, 1) := by decide +kernel
theorem dX12_isWhole_65 : decode cX12_isWhole 65 = .ok (.iconst 3, 1) := by decide +kernel
theorem dX12_isWhole_66 : decode cX12_isWhole 66 = .ok (.iadd, 1) := by decide +kernel
theorem dX12_isWhole_67 : decode cX12_isWhole 67 = .ok (.iaload, 1) := by decide +kernel
theorem dX12_isWhole_68 : decode cX12_isWhole 68 = .ok (.iload 4, 2) := by decide +kernel
theorem dX12_isWhole_70 : decode cX12_isWhole 70 = .ok (.if_icmp .ge 38, 3) := by decide +kernel
theorem dX12_isWhole_73 : decode cX12_isWhole 73 = .ok (.aload_n 0, 1) := by decide +kernel
theorem dX12_isWhole_74 : decode cX12_isWhole 74 = .ok (.getfield 16, 3) := by decide +kernel
theorem dX12_isWhole_77 : decode cX12_isWhole 77 = .ok (.iconst 5, 1) := by decide +kernel
theorem dX12_isWhole_78 : decode cX12_isWhole 78 = .ok (.iload_n 2, 1) := by decide +kernel
theorem dX12_isWhole_79 : decode cX12_isWhole 79 = .ok (.imul, 1) := by decide +kernel
theorem dX12_isWhole_80 : decode cX12_isWhole 80 = .ok (.iconst 4, 1) := by decide +kernel
theorem dX12_isWhole_81 : decode cX12_isWhole 81 = .ok (.iadd, 1) := by decide +kernel
theorem dX12_isWhole_82 : decode cX12_isWhole 82 = .ok (.iaload, 1) := by decide +kernel
theorem dX12_isWhole_83 : decode cX12_isWhole 83 = .ok (.iload_n 3, 1) := by decide +kernel
theorem dX12_isWhole_84 : decode cX12_isWhole 84 = .ok (.iconst 1, 1) := by decide +kernel
theorem dX12_isWhole_85 : decode cX12_isWhole 85 = .ok (.iadd, 1) := by decide +kernel
theorem dX12_isWhole_86 : decode cX12_isWhole 86 = .ok (.aload_n 0, 1) := by decide +kernel
theorem dX12_isWhole_87 : decode cX12_isWhole 87 = .ok (.getfield 13, 3) := by decide +kernel
theorem dX12_isWhole_90 : decode cX12_isWhole 90 = .ok (.iconst 1, 1) := by decide +kernel
theorem dX12_isWhole_91 : decode cX12_isWhole 91 = .ok (.iaload, 1) := by decide +kernel
theorem dX12_isWhole_92 : decode cX12_isWhole 92 = .ok (.if_icmp .ge 8, 3) := by decide +kernel
theorem dX12_isWhole_95 : decode cX12_isWhole 95 = .ok (.iload 4, 2) := by decide +kernel
theorem dX12_isWhole_97 : decode cX12_isWhole 97 = .ok (.goto 4, 3) := by decide +kernel
theorem dX12_isWhole_100 : decode cX12_isWhole 100 = .ok (.iconst 1, 1) := by decide +kernel
theorem dX12_isWhole_101 : decode cX12_isWhole 101 = .ok (.if_icmp .ge 7, 3) := by decide +kernel
theorem dX12_isWhole_104 : decode cX12_isWhole 104 = .ok (.iconst 1, 1) := by decide +kernel
theorem dX12_isWhole_105 : decode cX12_isWhole 105 = .ok (.goto 4, 3) := by decide +kernel
theorem dX12_isWhole_108 : decode cX12_isWhole 108 = .ok (.iconst 0, 1) := by decide +kernel
theorem dX12_isWhole_109 : decode cX12_isWhole 109 = .ok (.istore_n 1, 1) := by decide +kernel
theorem dX12_isWhole_110 : decode cX12_isWhole 110 = .ok (.iinc 2 1, 3) := by decide +kernel
theorem dX12_isWhole_113 : decode cX12_isWhole 113 = .ok (.goto (-98), 3) := by decide +kernel
theorem dX12_isWhole_116 : decode cX12_isWhole 116 = .ok (.iload_n 1, 1) := by decide +kernel
theorem dX12_isWhole_117 : decode cX12_isWhole 117 = .ok (.ireturn, 1) := by decide +kernel
set_option maxRecDepth 20000 in
theorem ggX12_readField_X12_usual : GoodIn wsX12_readField wsX12_usual := goodIn_r _ [11] (by decide +kernel) (by decide +kernel)
set_option maxRecDepth 20000 in
theorem gX12_readField_X12_usual : GoodIn wsX12_readField (va_wsS RX12 100 yX12_usual wsX12_usual) := goodIn_app (goodIn_of _ (by decide +kernel)) ggX12_readField_X12_usual
set_option maxRecDepth 20000 in
theorem ggX12_readField_X12_ahead : GoodIn wsX12_readField wsX12_ahead := goodIn_r _ [15, 1, 16, 17, 18, 10, 19, 20, 21, 56, 57, 58, 59, 60, 61, 62, 63, 64, 65, 66, 67, 68, 69, 70, 71, 72, 73, 74, 75, 76, 77, 78, 79, 80, 81, 82, 83, 84, 85] (by decide +kernel) (by decide +kernel)
set_option maxRecDepth 20000 in
theorem gX12_readField_X12_ahead : GoodIn wsX12_readField (wsV RX12 90 RX12 yX12_ahead wsX12_ahead) := goodIn_app (goodIn_of _ (by decide +kernel)) ggX12_readField_X12_ahead
set_option maxRecDepth 20000 in
theorem ggX12_readField_X12_items : GoodIn wsX12_readField wsX12_items := goodIn_r _ [25, 2, 1, 8, 9, 10, 11, 12, 13, 14, 15, 16, 17, 18, 19, 20, 21, 26, 27, 28, 29, 30, 31, 32, 33, 34, 35, 36, 37, 38, 39, 40, 41, 42, 43, 44, 45, 46, 47, 48, 49, 50, 51, 56, 57, 58, 59, 60, 61, 62, 63, 64, 65, 66, 67, 68, 69, 70, 71, 72, 73, 74, 75, 76, 77, 78, 79, 80, 81, 82, 83, 84, 85] (by decide +kernel) (by decide +kernel)
set_option maxRecDepth 20000 in
theorem gX12_readField_X12_items : GoodIn wsX12_readField (wsV RX12 126 RX12 yX12_items wsX12_items) := goodIn_app (goodIn_of _ (by decide +kernel)) ggX12_readField_X12_items
set_option maxRecDepth 20000 in
theorem ggX12_readField_X12_bad : GoodIn wsX12_readField wsX12_bad := goodIn_r _ [48, 2, 1, 56, 57, 58, 59, 60, 61, 62, 63, 64, 65, 66, 67, 68, 69, 70, 71, 72, 73, 74, 75, 76, 77, 78, 79, 80, 81, 82, 83, 84, 85] (by decide +kernel) (by decide +kernel)
set_option maxRecDepth 20000 in
theorem gX12_readField_X12_bad : GoodIn wsX12_readField (wsV RX12 97 RX12 yX12_bad wsX12_bad) := goodIn_app (goodIn_of _ (by decide +kernel)) ggX12_readField_X12_bad
set_option maxRecDepth 20000 in
theorem ggX12_readField_X12_isWhole : GoodIn wsX12_readField wsX12_isWhole := goodIn_r _ [55, 3, 6, 5, 56, 57, 58, 59, 60, 61, 62, 63, 64, 65, 66, 67, 68, 69, 70, 71, 72, 73, 74, 75, 76, 77, 78, 79, 80, 81, 82, 83, 84, 85] (by decide +kernel) (by decide +kernel)
set_option maxRecDepth 20000 in
theorem gX12_readField_X12_isWhole : GoodIn wsX12_readField (wsV RX12 130 RX12 yX12_isWhole wsX12_isWhole) := goodIn_app (goodIn_of _ (by decide +kernel)) ggX12_readField_X12_isWhole
theorem dX12_readField_0 : decode cX12_readField 0 = .ok (.aload_n 0, 1) := by decide +kernel
theorem dX12_readField_1 : decode cX12_readField 1 = .ok (.iconst 0, 1) := by decide +kernel
theorem dX12_readField_2 : decode cX12_readField 2 = .ok (.putfield 80, 3) := by decide +kernel
theorem dX12_readField_5 : decode cX12_readField 5 = .ok (.aload_n 0, 1) := by decide +kernel
theorem dX12_readField_6 : decode cX12_readField 6 = .ok (.iconst (-1), 1) := by decide +kernel
theorem dX12_readField_7 : decode cX12_readField 7 = .ok (.putfield 87, 3) := by decide +kernel
theorem dX12_readField_10 : decode cX12_readField 10 = .ok (.aload_n 0, 1) := by decide +kernel
theorem dX12_readField_11 : decode cX12_readField 11 = .ok (.iconst 0, 1) := by decide +kernel
theorem dX12_readField_12 : decode cX12_readField 12 = .ok (.putfield 120, 3) := by decide +kernel
theorem dX12_readField_15 : decode cX12_readField 15 = .ok (.aload_n 0, 1) := by decide +kernel
theorem dX12_readField_16 : decode cX12_readField 16 = .ok (.iconst 0, 1) := by decide +kernel
theorem dX12_readField_17 : decode cX12_readField 17 = .ok (.putfield 123, 3) := by decide +kernel
theorem dX12_readField_20 : decode cX12_readField 20 = .ok (.iconst 0, 1) := by decide +kernel
theorem dX12_readField_21 : decode cX12_readField 21 = .ok (.istore_n 1, 1) := by decide +kernel
theorem dX12_readField_22 : decode cX12_readField 22 = .ok (.iconst 0, 1) := by decide +kernel
theorem dX12_readField_23 : decode cX12_readField 23 = .ok (.istore_n 2, 1) := by decide +kernel
theorem dX12_readField_24 : decode cX12_readField 24 = .ok (.iload_n 2, 1) := by decide +kernel
theorem dX12_readField_25 : decode cX12_readField 25 = .ok (.iconst 4, 1) := by decide +kernel
theorem dX12_readField_26 : decode cX12_readField 26 = .ok (.if_icmp .ge 21, 3) := by decide +kernel
theorem dX12_readField_29 : decode cX12_readField 29 = .ok (.aload_n 0, 1) := by decide +kernel
theorem dX12_readField_30 : decode cX12_readField 30 = .ok (.getfield 13, 3) := by decide +kernel
theorem dX12_readField_33 : decode cX12_readField 33 = .ok (.iload_n 2, 1) := by decide +kernel
theorem dX12_readField_34 : decode cX12_readField 34 = .ok (.bipush 115, 2) := by decide +kernel
theorem dX12_readField_36 : decode cX12_readField 36 = .ok (.iload_n 2, 1) := by decide +kernel
theorem dX12_readField_37 : decode cX12_readField 37 = .ok (.invokestatic 100, 3) := by decide +kernel
theorem dX12_readField_40 : decode cX12_readField 40 = .ok (.iastore, 1) := by decide +kernel
theorem dX12_readField_41 : decode cX12_readField 41 = .ok (.iinc 2 1, 3) := by decide +kernel
theorem dX12_readField_44 : decode cX12_readField 44 = .ok (.goto (-20), 3) := by decide +kernel
theorem dX12_readField_47 : decode cX12_readField 47 = .ok (.iconst 1, 1) := by decide +kernel
theorem dX12_readField_48 : decode cX12_readField 48 = .ok (.istore_n 2, 1) := by decide +kernel
theorem dX12_readField_49 : decode cX12_readField 49 = .ok (.iload_n 2, 1) := by decide +kernel
theorem dX12_readField_50 : decode cX12_readField 50 = .ok (.ifCond .eq 208, 3) := by decide +kernel
theorem dX12_readField_53 : decode cX12_readField 53 = .ok (.aload_n 0, 1) := by decide +kernel
theorem dX12_readField_54 : decode cX12_readField 54 = .ok (.getfield 87, 3) := by decide +kernel
theorem dX12_readField_57 : decode cX12_readField 57 = .ok (.iconst (-1), 1) := by decide +kernel
theorem dX12_readField_58 : decode cX12_readField 58 = .ok (.if_icmp .ne 200, 3) := by decide +kernel
theorem dX12_readField_61 : decode cX12_readField 61 = .ok (.aload_n 0, 1) := by decide +kernel
theorem dX12_readField_62 : decode cX12_readField 62 = .ok (.invokevirtual 90, 3) := by decide +kernel
theorem dX12_readField_65 : decode cX12_readField 65 = .ok (.istore_n 3, 1) := by decide +kernel
theorem dX12_readField_66 : decode cX12_readField 66 = .ok (.iload_n 3, 1) := by decide +kernel
theorem dX12_readField_67 : decode cX12_readField 67 = .ok (.bipush 115, 2) := by decide +kernel
theorem dX12_readField_69 : decode cX12_readField 69 = .ok (.if_icmp .ne 33, 3) := by decide +kernel
theorem dX12_readField_72 : decode cX12_readField 72 = .ok (.iload_n 1, 1) := by decide +kernel
theorem dX12_readField_73 : decode cX12_readField 73 = .ok (.ifCond .ne 29, 3) := by decide +kernel
theorem dX12_readField_76 : decode cX12_readField 76 = .ok (.iconst 1, 1) := by decide +kernel
theorem dX12_readField_77 : decode cX12_readField 77 = .ok (.istore_n 1, 1) := by decide +kernel
theorem dX12_readField_78 : decode cX12_readField 78 = .ok (.aload_n 0, 1) := by decide +kernel
theorem dX12_readField_79 : decode cX12_readField 79 = .ok (.dup, 1) := by decide +kernel
theorem dX12_readField_80 : decode cX12_readField 80 = .ok (.getfield 80, 3) := by decide +kernel
theorem dX12_readField_83 : decode cX12_readField 83 = .ok (.iconst 1, 1) := by decide +kernel
theorem dX12_readField_84 : decode cX12_readField 84 = .ok (.iadd, 1) := by decide +kernel
theorem dX12_readField_85 : decode cX12_readField 85 = .ok (.putfield 80, 3) := by decide +kernel
theorem dX12_readField_88 : decode cX12_readField 88 = .ok (.aload_n 0, 1) := by decide +kernel
theorem dX12_readField_89 : decode cX12_readField 89 = .ok (.iload_n 3, 1) := by decide +kernel
theorem dX12_readField_90 : decode cX12_readField 90 = .ok (.aload_n 0, 1) := by decide +kernel
theorem dX12_readField_91 : decode cX12_readField 91 = .ok (.getfield 13, 3) := by decide +kernel
theorem dX12_readField_94 : decode cX12_readField 94 = .ok (.iconst 0, 1) := by decide +kernel
theorem dX12_readField_95 : decode cX12_readField 95 = .ok (.iconst 4, 1) := by decide +kernel
theorem dX12_readField_96 : decode cX12_readField 96 = .ok (.invokevirtual 126, 3) := by decide +kernel
theorem dX12_readField_99 : decode cX12_readField 99 = .ok (.goto 115, 3) := by decide +kernel
theorem dX12_readField_102 : decode cX12_readField 102 = .ok (.iload_n 3, 1) := by decide +kernel
theorem dX12_readField_103 : decode cX12_readField 103 = .ok (.bipush 117, 2) := by decide +kernel
theorem dX12_readField_105 : decode cX12_readField 105 = .ok (.if_icmp .ne 51, 3) := by decide +kernel
theorem dX12_readField_108 : decode cX12_readField 108 = .ok (.aload_n 0, 1) := by decide +kernel
theorem dX12_readField_109 : decode cX12_readField 109 = .ok (.getfield 120, 3) := by decide +kernel
theorem dX12_readField_112 : decode cX12_readField 112 = .ok (.bipush 10, 2) := by decide +kernel
theorem dX12_readField_114 : decode cX12_readField 114 = .ok (.if_icmp .ge 42, 3) := by decide +kernel
theorem dX12_readField_117 : decode cX12_readField 117 = .ok (.aload_n 0, 1) := by decide +kernel
theorem dX12_readField_118 : decode cX12_readField 118 = .ok (.dup, 1) := by decide +kernel
theorem dX12_readField_119 : decode cX12_readField 119 = .ok (.getfield 80, 3) := by decide +kernel
theorem dX12_readField_122 : decode cX12_readField 122 = .ok (.iconst 1, 1) := by decide +kernel
theorem dX12_readField_123 : decode cX12_readField 123 = .ok (.iadd, 1) := by decide +kernel
theorem dX12_readField_124 : decode cX12_readField 124 = .ok (.putfield 80, 3) := by decide +kernel
theorem dX12_readField_127 : decode cX12_readField 127 = .ok (.aload_n 0, 1) := by decide +kernel
theorem dX12_readField_128 : decode cX12_readField 128 = .ok (.iload_n 3, 1) := by decide +kernel
theorem dX12_readField_129 : decode cX12_readField 129 = .ok (.aload_n 0, 1) := by decide +kernel
theorem dX12_readField_130 : decode cX12_readField 130 = .ok (.getfield 16, 3) := by decide +kernel
theorem dX12_readField_133 : decode cX12_readField 133 = .ok (.iconst 5, 1) := by decide +kernel
theorem dX12_readField_134 : decode cX12_readField 134 = .ok (.aload_n 0, 1) := by decide +kernel
theorem dX12_readField_135 : decode cX12_readField 135 = .ok (.getfield 120, 3) := by decide +kernel
theorem dX12_readField_138 : decode cX12_readField 138 = .ok (.imul, 1) := by decide +kernel
theorem dX12_readField_139 : decode cX12_readField 139 = .ok (.iconst 5, 1) := by decide +kernel
theorem dX12_readField_140 : decode cX12_readField 140 = .ok (.invokevirtual 126, 3) := by decide +kernel
theorem dX12_readField_143 : decode cX12_readField 143 = .ok (.aload_n 0, 1) := by decide +kernel
theorem dX12_readField_144 : decode cX12_readField 144 = .ok (.dup, 1) := by decide +kernel
theorem dX12_readField_145 : decode cX12_readField 145 = .ok (.getfield 120, 3) := by decide +kernel
theorem dX12_readField_148 : decode cX12_readField 148 = .ok (.iconst 1, 1) := by decide +kernel
theorem dX12_readField_149 : decode cX12_readField 149 = .ok (.iadd, 1) := by decide +kernel
theorem dX12_readField_150 : decode cX12_readField 150 = .ok (.putfield 120, 3) := by decide +kernel
theorem dX12_readField_153 : decode cX12_readField 153 = .ok (.goto 61, 3) := by decide +kernel
theorem dX12_readField_156 : decode cX12_readField 156 = .ok (.iload_n 3, 1) := by decide +kernel
theorem dX12_readField_157 : decode cX12_readField 157 = .ok (.bipush 100, 2) := by decide +kernel
theorem dX12_readField_159 : decode cX12_readField 159 = .ok (.if_icmp .ne 51, 3) := by decide +kernel
theorem dX12_readField_162 : decode cX12_readField 162 = .ok (.aload_n 0, 1) := by decide +kernel
theorem dX12_readField_163 : decode cX12_readField 163 = .ok (.getfield 123, 3) := by decide +kernel
theorem dX12_readField_166 : decode cX12_readField 166 = .ok (.bipush 6, 2) := by decide +kernel
theorem dX12_readField_168 : decode cX12_readField 168 = .ok (.if_icmp .ge 42, 3) := by decide +kernel
theorem dX12_readField_171 : decode cX12_readField 171 = .ok (.aload_n 0, 1) := by decide +kernel
theorem dX12_readField_172 : decode cX12_readField 172 = .ok (.dup, 1) := by decide +kernel
theorem dX12_readField_173 : decode cX12_readField 173 = .ok (.getfield 80, 3) := by decide +kernel
theorem dX12_readField_176 : decode cX12_readField 176 = .ok (.iconst 1, 1) := by decide +kernel
theorem dX12_readField_177 : decode cX12_readField 177 = .ok (.iadd, 1) := by decide +kernel
theorem dX12_readField_178 : decode cX12_readField 178 = .ok (.putfield 80, 3) := by decide +kernel
theorem dX12_readField_181 : decode cX12_readField 181 = .ok (.aload_n 0, 1) := by decide +kernel
theorem dX12_readField_182 : decode cX12_readField 182 = .ok (.iload_n 3, 1) := by decide +kernel
theorem dX12_readField_183 : decode cX12_readField 183 = .ok (.aload_n 0, 1) := by decide +kernel
theorem dX12_readField_184 : decode cX12_readField 184 = .ok (.getfield 19, 3) := by decide +kernel
theorem dX12_readField_187 : decode cX12_readField 187 = .ok (.iconst 2, 1) := by decide +kernel
theorem dX12_readField_188 : decode cX12_readField 188 = .ok (.aload_n 0, 1) := by decide +kernel
theorem dX12_readField_189 : decode cX12_readField 189 = .ok (.getfield 123, 3) := by decide +kernel
theorem dX12_readField_192 : decode cX12_readField 192 = .ok (.imul, 1) := by decide +kernel
theorem dX12_readField_193 : decode cX12_readField 193 = .ok (.iconst 2, 1) := by decide +kernel
theorem dX12_readField_194 : decode cX12_readField 194 = .ok (.invokevirtual 126, 3) := by decide +kernel
theorem dX12_readField_197 : decode cX12_readField 197 = .ok (.aload_n 0, 1) := by decide +kernel
theorem dX12_readField_198 : decode cX12_readField 198 = .ok (.dup, 1) := by decide +kernel
theorem dX12_readField_199 : decode cX12_readField 199 = .ok (.getfield 123, 3) := by decide +kernel
theorem dX12_readField_202 : decode cX12_readField 202 = .ok (.iconst 1, 1) := by decide +kernel
theorem dX12_readField_203 : decode cX12_readField 203 = .ok (.iadd, 1) := by decide +kernel
theorem dX12_readField_204 : decode cX12_readField 204 = .ok (.putfield 123, 3) := by decide +kernel
theorem dX12_readField_207 : decode cX12_readField 207 = .ok (.goto 7, 3) := by decide +kernel
theorem dX12_readField_210 : decode cX12_readField 210 = .ok (.aload_n 0, 1) := by decide +kernel
theorem dX12_readField_211 : decode cX12_readField 211 = .ok (.invokevirtual 97, 3) := by decide +kernel
theorem dX12_readField_214 : decode cX12_readField 214 = .ok (.aload_n 0, 1) := by decide +kernel
theorem dX12_readField_215 : decode cX12_readField 215 = .ok (.getfield 87, 3) := by decide +kernel
theorem dX12_readField_218 : decode cX12_readField 218 = .ok (.iconst (-1), 1) := by decide +kernel
theorem dX12_readField_219 : decode cX12_readField 219 = .ok (.if_icmp .ne 16, 3) := by decide +kernel
theorem dX12_readField_222 : decode cX12_readField 222 = .ok (.aload_n 0, 1) := by decide +kernel
theorem dX12_readField_223 : decode cX12_readField 223 = .ok (.invokevirtual 90, 3) := by decide +kernel
theorem dX12_readField_226 : decode cX12_readField 226 = .ok (.bipush 59, 2) := by decide +kernel
theorem dX12_readField_228 : decode cX12_readField 228 = .ok (.if_icmp .ne 7, 3) := by decide +kernel
theorem dX12_readField_231 : decode cX12_readField 231 = .ok (.iconst 1, 1) := by decide +kernel
theorem dX12_readField_232 : decode cX12_readField 232 = .ok (.goto 4, 3) := by decide +kernel
theorem dX12_readField_235 : decode cX12_readField 235 = .ok (.iconst 0, 1) := by decide +kernel
theorem dX12_readField_236 : decode cX12_readField 236 = .ok (.istore_n 2, 1) := by decide +kernel
theorem dX12_readField_237 : decode cX12_readField 237 = .ok (.aload_n 0, 1) := by decide +kernel
theorem dX12_readField_238 : decode cX12_readField 238 = .ok (.dup, 1) := by decide +kernel
theorem dX12_readField_239 : decode cX12_readField 239 = .ok (.getfield 80, 3) := by decide +kernel
theorem dX12_readField_242 : decode cX12_readField 242 = .ok (.iload_n 2, 1) := by decide +kernel
theorem dX12_readField_243 : decode cX12_readField 243 = .ok (.ifCond .eq 7, 3) := by decide +kernel
theorem dX12_readField_246 : decode cX12_readField 246 = .ok (.iconst 1, 1) := by decide +kernel
theorem dX12_readField_247 : decode cX12_readField 247 = .ok (.goto 4, 3) := by decide +kernel
theorem dX12_readField_250 : decode cX12_readField 250 = .ok (.iconst 0, 1) := by decide +kernel
theorem dX12_readField_251 : decode cX12_readField 251 = .ok (.iadd, 1) := by decide +kernel
theorem dX12_readField_252 : decode cX12_readField 252 = .ok (.putfield 80, 3) := by decide +kernel
theorem dX12_readField_255 : decode cX12_readField 255 = .ok (.goto (-206), 3) := by decide +kernel
theorem dX12_readField_258 : decode cX12_readField 258 = .ok (.aload_n 0, 1) := by decide +kernel
theorem dX12_readField_259 : decode cX12_readField 259 = .ok (.getfield 87, 3) := by decide +kernel
theorem dX12_readField_262 : decode cX12_readField 262 = .ok (.iconst (-1), 1) := by decide +kernel
theorem dX12_readField_263 : decode cX12_readField 263 = .ok (.if_icmp .ne 22, 3) := by decide +kernel
theorem dX12_readField_266 : decode cX12_readField 266 = .ok (.aload_n 0, 1) := by decide +kernel
theorem dX12_readField_267 : decode cX12_readField 267 = .ok (.invokevirtual 90, 3) := by decide +kernel
theorem dX12_readField_270 : decode cX12_readField 270 = .ok (.iconst (-1), 1) := by decide +kernel
theorem dX12_readField_271 : decode cX12_readField 271 = .ok (.if_icmp .ne 10, 3) := by decide +kernel
theorem dX12_readField_274 : decode cX12_readField 274 = .ok (.aload_n 0, 1) := by decide +kernel
theorem dX12_readField_275 : decode cX12_readField 275 = .ok (.invokevirtual 130, 3) := by decide +kernel
theorem dX12_readField_278 : decode cX12_readField 278 = .ok (.ifCond .ne 7, 3) := by decide +kernel
theorem dX12_readField_281 : decode cX12_readField 281 = .ok (.aload_n 0, 1) := by decide +kernel
theorem dX12_readField_282 : decode cX12_readField 282 = .ok (.invokevirtual 97, 3) := by decide +kernel
theorem dX12_readField_285 : decode cX12_readField 285 = .ok (.aload_n 0, 1) := by decide +kernel
theorem dX12_readField_286 : decode cX12_readField 286 = .ok (.getfield 87, 3) := by decide +kernel
theorem dX12_readField_289 : decode cX12_readField 289 = .ok (.ireturn, 1) := by decide +kernel
theorem dX12_sortOf_0 : decode cX12_sortOf 0 = .ok (.iload_n 0, 1) := by decide +kernel
theorem dX12_sortOf_1 : decode cX12_sortOf 1 = .ok (.lookupswitch 71 #[(99, 69), (102, 65), (112, 59), (114, 61), (116, 63), (120, 67)], 59) := by decide +kernel
theorem dX12_sortOf_60 : decode cX12_sortOf 60 = .ok (.iconst 0, 1) := by decide +kernel
theorem dX12_sortOf_61 : decode cX12_sortOf 61 = .ok (.ireturn, 1) := by decide +kernel
theorem dX12_sortOf_62 : decode cX12_sortOf 62 = .ok (.iconst 1, 1) := by decide +kernel
theorem dX12_sortOf_63 : decode cX12_sortOf 63 = .ok (.ireturn, 1) := by decide +kernel
theorem dX12_sortOf_64 : decode cX12_sortOf 64 = .ok (.iconst 2, 1) := by decide +kernel
theorem dX12_sortOf_65 : decode cX12_sortOf 65 = .ok (.ireturn, 1) := by decide +kernel
theorem dX12_sortOf_66 : decode cX12_sortOf 66 = .ok (.iconst 3, 1) := by decide +kernel
theorem dX12_sortOf_67 : decode cX12_sortOf 67 = .ok (.ireturn, 1) := by decide +kernel
theorem dX12_sortOf_68 : decode cX12_sortOf 68 = .ok (.iconst 4, 1) := by decide +kernel
theorem dX12_sortOf_69 : decode cX12_sortOf 69 = .ok (.ireturn, 1) := by decide +kernel
theorem dX12_sortOf_70 : decode cX12_sortOf 70 = .ok (.iconst 5, 1) := by decide +kernel
theorem dX12_sortOf_71 : decode cX12_sortOf 71 = .ok (.ireturn, 1) := by decide +kernel
theorem dX12_sortOf_72 : decode cX12_sortOf 72 = .ok (.iconst (-1), 1) := by decide +kernel
theorem dX12_sortOf_73 : decode cX12_sortOf 73 = .ok (.ireturn, 1) := by decide +kernel
set_option maxRecDepth 20000 in
theorem ggX12_readStep_X12_ahead : GoodIn wsX12_readStep wsX12_ahead := goodIn_r _ [7, 1, 8, 9, 10, 6, 11, 12, 13, 32, 33, 34, 35, 36, 37, 38, 39, 40, 41, 42, 43, 44, 45, 46, 47, 48, 49, 50, 51, 52, 53, 54, 55, 56, 57, 58, 59, 60, 61] (by decide +kernel) (by decide +kernel)
set_option maxRecDepth 20000 in
theorem gX12_readStep_X12_ahead : GoodIn wsX12_readStep (wsV RX12 90 RX12 yX12_ahead wsX12_ahead) := goodIn_app (goodIn_of _ (by decide +kernel)) ggX12_readStep_X12_ahead
set_option maxRecDepth 20000 in
theorem ggX12_readStep_X12_sortOf : GoodIn wsX12_readStep wsX12_sortOf := goodIn_r _ [16] (by decide +kernel) (by decide +kernel)
set_option maxRecDepth 20000 in
theorem gX12_readStep_X12_sortOf : GoodIn wsX12_readStep (va_wsS RX12 134 yX12_sortOf wsX12_sortOf) := goodIn_app (goodIn_of _ (by decide +kernel)) ggX12_readStep_X12_sortOf
set_option maxRecDepth 20000 in
theorem ggX12_readStep_X12_bad : GoodIn wsX12_readStep wsX12_bad := goodIn_r _ [20, 21, 1, 32, 33, 34, 35, 36, 37, 38, 39, 40, 41, 42, 43, 44, 45, 46, 47, 48, 49, 50, 51, 52, 53, 54, 55, 56, 57, 58, 59, 60, 61] (by decide +kernel) (by decide +kernel)
set_option maxRecDepth 20000 in
theorem gX12_readStep_X12_bad : GoodIn wsX12_readStep (wsV RX12 97 RX12 yX12_bad wsX12_bad) := goodIn_app (goodIn_of _ (by decide +kernel)) ggX12_readStep_X12_bad
set_option maxRecDepth 20000 in
theorem ggX12_readStep_X12_number : GoodIn wsX12_readStep wsX12_number := goodIn_r _ [25, 1, 3, 4, 5, 6, 7, 8, 9, 10, 11, 12, 13, 26, 27, 28, 17, 18, 19, 20, 21, 29, 30, 31, 32, 33, 34, 35, 36, 37, 38, 39, 40, 41, 42, 43, 44, 45, 46, 47, 48, 49, 50, 51, 52, 53, 54, 55, 56, 57, 58, 59, 60, 61] (by decide +kernel) (by decide +kernel)
set_option maxRecDepth 20000 in
theorem gX12_readStep_X12_number : GoodIn wsX12_readStep (wsV RX12 117 RX12 yX12_number wsX12_number) := goodIn_app (goodIn_of _ (by decide +kernel)) ggX12_readStep_X12_number
set_option maxRecDepth 20000 in
theorem ggX12_readStep_X12_isDigit : GoodIn wsX12_readStep wsX12_isDigit := goodIn_r _ [28] (by decide +kernel) (by decide +kernel)
set_option maxRecDepth 20000 in
theorem gX12_readStep_X12_isDigit : GoodIn wsX12_readStep (va_wsS RX12 93 yX12_isDigit wsX12_isDigit) := goodIn_app (goodIn_of _ (by decide +kernel)) ggX12_readStep_X12_isDigit
set_option maxRecDepth 20000 in
theorem ggX12_readStep_X12_here : GoodIn wsX12_readStep wsX12_here := goodIn_r _ [11, 1, 12, 13, 32, 33, 34, 35, 36, 37, 38, 39, 40, 41, 42, 43, 44, 45, 46, 47, 48, 49, 50, 51, 52, 53, 54, 55, 56, 57, 58, 59, 60, 61] (by decide +kernel) (by decide +kernel)
set_option maxRecDepth 20000 in
theorem gX12_readStep_X12_here : GoodIn wsX12_readStep (wsV RX12 83 RX12 yX12_here wsX12_here) := goodIn_app (goodIn_of _ (by decide +kernel)) ggX12_readStep_X12_here
theorem dX12_readStep_0 : decode cX12_readStep 0 = .ok (.aload_n 0, 1) := by decide +kernel
theorem dX12_readStep_1 : decode cX12_readStep 1 = .ok (.invokevirtual 90, 3) := by decide +kernel
theorem dX12_readStep_4 : decode cX12_readStep 4 = .ok (.invokestatic 134, 3) := by decide +kernel
theorem dX12_readStep_7 : decode cX12_readStep 7 = .ok (.istore_n 2, 1) := by decide +kernel
theorem dX12_readStep_8 : decode cX12_readStep 8 = .ok (.iload_n 2, 1) := by decide +kernel
theorem dX12_readStep_9 : decode cX12_readStep 9 = .ok (.iconst (-1), 1) := by decide +kernel
theorem dX12_readStep_10 : decode cX12_readStep 10 = .ok (.if_icmp .ne 8, 3) := by decide +kernel
theorem dX12_readStep_13 : decode cX12_readStep 13 = .ok (.aload_n 0, 1) := by decide +kernel
theorem dX12_readStep_14 : decode cX12_readStep 14 = .ok (.invokevirtual 97, 3) := by decide +kernel
theorem dX12_readStep_17 : decode cX12_readStep 17 = .ok (.return_, 1) := by decide +kernel
theorem dX12_readStep_18 : decode cX12_readStep 18 = .ok (.aload_n 0, 1) := by decide +kernel
theorem dX12_readStep_19 : decode cX12_readStep 19 = .ok (.dup, 1) := by decide +kernel
theorem dX12_readStep_20 : decode cX12_readStep 20 = .ok (.getfield 80, 3) := by decide +kernel
theorem dX12_readStep_23 : decode cX12_readStep 23 = .ok (.iconst 1, 1) := by decide +kernel
theorem dX12_readStep_24 : decode cX12_readStep 24 = .ok (.iadd, 1) := by decide +kernel
theorem dX12_readStep_25 : decode cX12_readStep 25 = .ok (.putfield 80, 3) := by decide +kernel
theorem dX12_readStep_28 : decode cX12_readStep 28 = .ok (.aload_n 0, 1) := by decide +kernel
theorem dX12_readStep_29 : decode cX12_readStep 29 = .ok (.getfield 31, 3) := by decide +kernel
theorem dX12_readStep_32 : decode cX12_readStep 32 = .ok (.iload_n 1, 1) := by decide +kernel
theorem dX12_readStep_33 : decode cX12_readStep 33 = .ok (.iload_n 2, 1) := by decide +kernel
theorem dX12_readStep_34 : decode cX12_readStep 34 = .ok (.iastore, 1) := by decide +kernel
theorem dX12_readStep_35 : decode cX12_readStep 35 = .ok (.aload_n 0, 1) := by decide +kernel
theorem dX12_readStep_36 : decode cX12_readStep 36 = .ok (.getfield 31, 3) := by decide +kernel
theorem dX12_readStep_39 : decode cX12_readStep 39 = .ok (.iload_n 1, 1) := by decide +kernel
theorem dX12_readStep_40 : decode cX12_readStep 40 = .ok (.iconst 1, 1) := by decide +kernel
theorem dX12_readStep_41 : decode cX12_readStep 41 = .ok (.iadd, 1) := by decide +kernel
theorem dX12_readStep_42 : decode cX12_readStep 42 = .ok (.iconst (-1), 1) := by decide +kernel
theorem dX12_readStep_43 : decode cX12_readStep 43 = .ok (.iastore, 1) := by decide +kernel
theorem dX12_readStep_44 : decode cX12_readStep 44 = .ok (.iload_n 2, 1) := by decide +kernel
theorem dX12_readStep_45 : decode cX12_readStep 45 = .ok (.iconst 5, 1) := by decide +kernel
theorem dX12_readStep_46 : decode cX12_readStep 46 = .ok (.if_icmp .ne 22, 3) := by decide +kernel
theorem dX12_readStep_49 : decode cX12_readStep 49 = .ok (.aload_n 0, 1) := by decide +kernel
theorem dX12_readStep_50 : decode cX12_readStep 50 = .ok (.getfield 31, 3) := by decide +kernel
theorem dX12_readStep_53 : decode cX12_readStep 53 = .ok (.iload_n 1, 1) := by decide +kernel
theorem dX12_readStep_54 : decode cX12_readStep 54 = .ok (.iconst 1, 1) := by decide +kernel
theorem dX12_readStep_55 : decode cX12_readStep 55 = .ok (.iadd, 1) := by decide +kernel
theorem dX12_readStep_56 : decode cX12_readStep 56 = .ok (.aload_n 0, 1) := by decide +kernel
theorem dX12_readStep_57 : decode cX12_readStep 57 = .ok (.iconst 0, 1) := by decide +kernel
theorem dX12_readStep_58 : decode cX12_readStep 58 = .ok (.sipush 9999, 3) := by decide +kernel
theorem dX12_readStep_61 : decode cX12_readStep 61 = .ok (.invokevirtual 117, 3) := by decide +kernel
theorem dX12_readStep_64 : decode cX12_readStep 64 = .ok (.iastore, 1) := by decide +kernel
theorem dX12_readStep_65 : decode cX12_readStep 65 = .ok (.goto 48, 3) := by decide +kernel
theorem dX12_readStep_68 : decode cX12_readStep 68 = .ok (.iload_n 2, 1) := by decide +kernel
theorem dX12_readStep_69 : decode cX12_readStep 69 = .ok (.iconst 1, 1) := by decide +kernel
theorem dX12_readStep_70 : decode cX12_readStep 70 = .ok (.if_icmp .le 43, 3) := by decide +kernel
theorem dX12_readStep_73 : decode cX12_readStep 73 = .ok (.aload_n 0, 1) := by decide +kernel
theorem dX12_readStep_74 : decode cX12_readStep 74 = .ok (.invokevirtual 90, 3) := by decide +kernel
theorem dX12_readStep_77 : decode cX12_readStep 77 = .ok (.invokestatic 93, 3) := by decide +kernel
theorem dX12_readStep_80 : decode cX12_readStep 80 = .ok (.ifCond .ne 8, 3) := by decide +kernel
theorem dX12_readStep_83 : decode cX12_readStep 83 = .ok (.aload_n 0, 1) := by decide +kernel
theorem dX12_readStep_84 : decode cX12_readStep 84 = .ok (.invokevirtual 97, 3) := by decide +kernel
theorem dX12_readStep_87 : decode cX12_readStep 87 = .ok (.return_, 1) := by decide +kernel
theorem dX12_readStep_88 : decode cX12_readStep 88 = .ok (.aload_n 0, 1) := by decide +kernel
theorem dX12_readStep_89 : decode cX12_readStep 89 = .ok (.getfield 31, 3) := by decide +kernel
theorem dX12_readStep_92 : decode cX12_readStep 92 = .ok (.iload_n 1, 1) := by decide +kernel
theorem dX12_readStep_93 : decode cX12_readStep 93 = .ok (.iconst 1, 1) := by decide +kernel
theorem dX12_readStep_94 : decode cX12_readStep 94 = .ok (.iadd, 1) := by decide +kernel
theorem dX12_readStep_95 : decode cX12_readStep 95 = .ok (.aload_n 0, 1) := by decide +kernel
theorem dX12_readStep_96 : decode cX12_readStep 96 = .ok (.invokevirtual 83, 3) := by decide +kernel
theorem dX12_readStep_99 : decode cX12_readStep 99 = .ok (.bipush 48, 2) := by decide +kernel
theorem dX12_readStep_101 : decode cX12_readStep 101 = .ok (.isub, 1) := by decide +kernel
theorem dX12_readStep_102 : decode cX12_readStep 102 = .ok (.iastore, 1) := by decide +kernel
theorem dX12_readStep_103 : decode cX12_readStep 103 = .ok (.aload_n 0, 1) := by decide +kernel
theorem dX12_readStep_104 : decode cX12_readStep 104 = .ok (.dup, 1) := by decide +kernel
theorem dX12_readStep_105 : decode cX12_readStep 105 = .ok (.getfield 80, 3) := by decide +kernel
theorem dX12_readStep_108 : decode cX12_readStep 108 = .ok (.iconst 1, 1) := by decide +kernel
theorem dX12_readStep_109 : decode cX12_readStep 109 = .ok (.iadd, 1) := by decide +kernel
theorem dX12_readStep_110 : decode cX12_readStep 110 = .ok (.putfield 80, 3) := by decide +kernel
theorem dX12_readStep_113 : decode cX12_readStep 113 = .ok (.return_, 1) := by decide +kernel
set_option maxRecDepth 20000 in
theorem ggX12_readScript_X12_readStep : GoodIn wsX12_readScript wsX12_readStep := goodIn_r _ [8, 1, 9, 10, 11, 12, 7, 13, 14, 15, 16, 17, 18, 19, 20, 21, 22, 23, 24, 25, 26, 2, 27, 28, 29, 30, 31, 32, 33, 34, 35, 36, 37, 38, 39, 40, 41, 42, 43, 44, 45, 46, 47, 48, 49, 50, 51, 52, 53, 54, 55, 56, 57, 58, 59, 60, 61, 62, 63, 64, 65, 66] (by decide +kernel) (by decide +kernel)
set_option maxRecDepth 20000 in
theorem gX12_readScript_X12_readStep : GoodIn wsX12_readScript (wsV RX12 138 RX12 yX12_readStep wsX12_readStep) := goodIn_app (goodIn_of _ (by decide +kernel)) ggX12_readScript_X12_readStep
set_option maxRecDepth 20000 in
theorem ggX12_readScript_X12_ahead : GoodIn wsX12_readScript wsX12_ahead := goodIn_r _ [13, 1, 14, 15, 16, 7, 17, 18, 19, 37, 38, 39, 40, 41, 42, 43, 44, 45, 46, 47, 48, 49, 50, 51, 52, 53, 54, 55, 56, 57, 58, 59, 60, 61, 62, 63, 64, 65, 66] (by decide +kernel) (by decide +kernel)
set_option maxRecDepth 20000 in
theorem gX12_readScript_X12_ahead : GoodIn wsX12_readScript (wsV RX12 90 RX12 yX12_ahead wsX12_ahead) := goodIn_app (goodIn_of _ (by decide +kernel)) ggX12_readScript_X12_ahead
set_option maxRecDepth 20000 in
theorem ggX12_readScript_X12_bad : GoodIn wsX12_readScript wsX12_bad := goodIn_r _ [26, 2, 1, 37, 38, 39, 40, 41, 42, 43, 44, 45, 46, 47, 48, 49, 50, 51, 52, 53, 54, 55, 56, 57, 58, 59, 60, 61, 62, 63, 64, 65, 66] (by decide +kernel) (by decide +kernel)
set_option maxRecDepth 20000 in
theorem gX12_readScript_X12_bad : GoodIn wsX12_readScript (wsV RX12 97 RX12 yX12_bad wsX12_bad) := goodIn_app (goodIn_of _ (by decide +kernel)) ggX12_readScript_X12_bad
theorem dX12_readScript_0 : decode cX12_readScript 0 = .ok (.aload_n 0, 1) := by decide +kernel
theorem dX12_readScript_1 : decode cX12_readScript 1 = .ok (.iconst 0, 1) := by decide +kernel
theorem dX12_readScript_2 : decode cX12_readScript 2 = .ok (.putfield 80, 3) := by decide +kernel
theorem dX12_readScript_5 : decode cX12_readScript 5 = .ok (.aload_n 0, 1) := by decide +kernel
theorem dX12_readScript_6 : decode cX12_readScript 6 = .ok (.iconst (-1), 1) := by decide +kernel
theorem dX12_readScript_7 : decode cX12_readScript 7 = .ok (.putfield 87, 3) := by decide +kernel
theorem dX12_readScript_10 : decode cX12_readScript 10 = .ok (.aload_n 0, 1) := by decide +kernel
theorem dX12_readScript_11 : decode cX12_readScript 11 = .ok (.getfield 34, 3) := by decide +kernel
theorem dX12_readScript_14 : decode cX12_readScript 14 = .ok (.iload_n 1, 1) := by decide +kernel
theorem dX12_readScript_15 : decode cX12_readScript 15 = .ok (.iconst 0, 1) := by decide +kernel
theorem dX12_readScript_16 : decode cX12_readScript 16 = .ok (.iastore, 1) := by decide +kernel
theorem dX12_readScript_17 : decode cX12_readScript 17 = .ok (.iconst 1, 1) := by decide +kernel
theorem dX12_readScript_18 : decode cX12_readScript 18 = .ok (.istore_n 2, 1) := by decide +kernel
theorem dX12_readScript_19 : decode cX12_readScript 19 = .ok (.iload_n 2, 1) := by decide +kernel
theorem dX12_readScript_20 : decode cX12_readScript 20 = .ok (.ifCond .eq 85, 3) := by decide +kernel
theorem dX12_readScript_23 : decode cX12_readScript 23 = .ok (.aload_n 0, 1) := by decide +kernel
theorem dX12_readScript_24 : decode cX12_readScript 24 = .ok (.iconst 2, 1) := by decide +kernel
theorem dX12_readScript_25 : decode cX12_readScript 25 = .ok (.bipush 16, 2) := by decide +kernel
theorem dX12_readScript_27 : decode cX12_readScript 27 = .ok (.iload_n 1, 1) := by decide +kernel
theorem dX12_readScript_28 : decode cX12_readScript 28 = .ok (.imul, 1) := by decide +kernel
theorem dX12_readScript_29 : decode cX12_readScript 29 = .ok (.aload_n 0, 1) := by decide +kernel
theorem dX12_readScript_30 : decode cX12_readScript 30 = .ok (.getfield 34, 3) := by decide +kernel
theorem dX12_readScript_33 : decode cX12_readScript 33 = .ok (.iload_n 1, 1) := by decide +kernel
theorem dX12_readScript_34 : decode cX12_readScript 34 = .ok (.iaload, 1) := by decide +kernel
theorem dX12_readScript_35 : decode cX12_readScript 35 = .ok (.iadd, 1) := by decide +kernel
theorem dX12_readScript_36 : decode cX12_readScript 36 = .ok (.imul, 1) := by decide +kernel
theorem dX12_readScript_37 : decode cX12_readScript 37 = .ok (.invokevirtual 138, 3) := by decide +kernel
theorem dX12_readScript_40 : decode cX12_readScript 40 = .ok (.aload_n 0, 1) := by decide +kernel
theorem dX12_readScript_41 : decode cX12_readScript 41 = .ok (.getfield 34, 3) := by decide +kernel
theorem dX12_readScript_44 : decode cX12_readScript 44 = .ok (.iload_n 1, 1) := by decide +kernel
theorem dX12_readScript_45 : decode cX12_readScript 45 = .ok (.dup2, 1) := by decide +kernel
theorem dX12_readScript_46 : decode cX12_readScript 46 = .ok (.iaload, 1) := by decide +kernel
theorem dX12_readScript_47 : decode cX12_readScript 47 = .ok (.iconst 1, 1) := by decide +kernel
theorem dX12_readScript_48 : decode cX12_readScript 48 = .ok (.iadd, 1) := by decide +kernel
theorem dX12_readScript_49 : decode cX12_readScript 49 = .ok (.iastore, 1) := by decide +kernel
theorem dX12_readScript_50 : decode cX12_readScript 50 = .ok (.aload_n 0, 1) := by decide +kernel
theorem dX12_readScript_51 : decode cX12_readScript 51 = .ok (.getfield 87, 3) := by decide +kernel
theorem dX12_readScript_54 : decode cX12_readScript 54 = .ok (.iconst (-1), 1) := by decide +kernel
theorem dX12_readScript_55 : decode cX12_readScript 55 = .ok (.if_icmp .ne 27, 3) := by decide +kernel
theorem dX12_readScript_58 : decode cX12_readScript 58 = .ok (.aload_n 0, 1) := by decide +kernel
theorem dX12_readScript_59 : decode cX12_readScript 59 = .ok (.invokevirtual 90, 3) := by decide +kernel
theorem dX12_readScript_62 : decode cX12_readScript 62 = .ok (.bipush 59, 2) := by decide +kernel
theorem dX12_readScript_64 : decode cX12_readScript 64 = .ok (.if_icmp .ne 18, 3) := by decide +kernel
theorem dX12_readScript_67 : decode cX12_readScript 67 = .ok (.aload_n 0, 1) := by decide +kernel
theorem dX12_readScript_68 : decode cX12_readScript 68 = .ok (.getfield 34, 3) := by decide +kernel
theorem dX12_readScript_71 : decode cX12_readScript 71 = .ok (.iload_n 1, 1) := by decide +kernel
theorem dX12_readScript_72 : decode cX12_readScript 72 = .ok (.iaload, 1) := by decide +kernel
theorem dX12_readScript_73 : decode cX12_readScript 73 = .ok (.bipush 16, 2) := by decide +kernel
theorem dX12_readScript_75 : decode cX12_readScript 75 = .ok (.if_icmp .ge 7, 3) := by decide +kernel
theorem dX12_readScript_78 : decode cX12_readScript 78 = .ok (.iconst 1, 1) := by decide +kernel
theorem dX12_readScript_79 : decode cX12_readScript 79 = .ok (.goto 4, 3) := by decide +kernel
theorem dX12_readScript_82 : decode cX12_readScript 82 = .ok (.iconst 0, 1) := by decide +kernel
theorem dX12_readScript_83 : decode cX12_readScript 83 = .ok (.istore_n 2, 1) := by decide +kernel
theorem dX12_readScript_84 : decode cX12_readScript 84 = .ok (.aload_n 0, 1) := by decide +kernel
theorem dX12_readScript_85 : decode cX12_readScript 85 = .ok (.dup, 1) := by decide +kernel
theorem dX12_readScript_86 : decode cX12_readScript 86 = .ok (.getfield 80, 3) := by decide +kernel
theorem dX12_readScript_89 : decode cX12_readScript 89 = .ok (.iload_n 2, 1) := by decide +kernel
theorem dX12_readScript_90 : decode cX12_readScript 90 = .ok (.ifCond .eq 7, 3) := by decide +kernel
theorem dX12_readScript_93 : decode cX12_readScript 93 = .ok (.iconst 1, 1) := by decide +kernel
theorem dX12_readScript_94 : decode cX12_readScript 94 = .ok (.goto 4, 3) := by decide +kernel
theorem dX12_readScript_97 : decode cX12_readScript 97 = .ok (.iconst 0, 1) := by decide +kernel
theorem dX12_readScript_98 : decode cX12_readScript 98 = .ok (.iadd, 1) := by decide +kernel
theorem dX12_readScript_99 : decode cX12_readScript 99 = .ok (.putfield 80, 3) := by decide +kernel
theorem dX12_readScript_102 : decode cX12_readScript 102 = .ok (.goto (-83), 3) := by decide +kernel
theorem dX12_readScript_105 : decode cX12_readScript 105 = .ok (.aload_n 0, 1) := by decide +kernel
theorem dX12_readScript_106 : decode cX12_readScript 106 = .ok (.getfield 87, 3) := by decide +kernel
theorem dX12_readScript_109 : decode cX12_readScript 109 = .ok (.iconst (-1), 1) := by decide +kernel
theorem dX12_readScript_110 : decode cX12_readScript 110 = .ok (.if_icmp .ne 15, 3) := by decide +kernel
theorem dX12_readScript_113 : decode cX12_readScript 113 = .ok (.aload_n 0, 1) := by decide +kernel
theorem dX12_readScript_114 : decode cX12_readScript 114 = .ok (.invokevirtual 90, 3) := by decide +kernel
theorem dX12_readScript_117 : decode cX12_readScript 117 = .ok (.iconst (-1), 1) := by decide +kernel
theorem dX12_readScript_118 : decode cX12_readScript 118 = .ok (.if_icmp .eq 7, 3) := by decide +kernel
theorem dX12_readScript_121 : decode cX12_readScript 121 = .ok (.aload_n 0, 1) := by decide +kernel
theorem dX12_readScript_122 : decode cX12_readScript 122 = .ok (.invokevirtual 97, 3) := by decide +kernel
theorem dX12_readScript_125 : decode cX12_readScript 125 = .ok (.aload_n 0, 1) := by decide +kernel
theorem dX12_readScript_126 : decode cX12_readScript 126 = .ok (.getfield 87, 3) := by decide +kernel
theorem dX12_readScript_129 : decode cX12_readScript 129 = .ok (.ireturn, 1) := by decide +kernel
set_option maxRecDepth 20000 in
theorem ggX12_fault_X12_readField : GoodIn wsX12_fault wsX12_readField := goodIn_r _ [5, 6, 7, 8, 9, 10, 11, 12, 13, 14, 4, 15, 16, 17, 18, 19, 20, 21, 22, 23, 24, 25, 26, 27, 28, 29, 30, 31, 32, 33, 34, 35, 36, 37, 38, 39, 40, 41, 42, 43, 44, 45, 46, 47, 48, 49, 50, 51, 52, 53, 54, 55, 56, 57, 58, 59, 73, 74, 75, 76, 77, 78, 79, 80, 81, 82, 83, 84, 85, 86, 87, 88, 89, 90, 91, 92, 93, 94, 95, 96, 97, 98, 99, 100, 101, 102] (by decide +kernel) (by decide +kernel)
set_option maxRecDepth 20000 in
theorem gX12_fault_X12_readField : GoodIn wsX12_fault (wsV RX12 142 RX12 yX12_readField wsX12_readField) := goodIn_app (goodIn_of _ (by decide +kernel)) ggX12_fault_X12_readField
set_option maxRecDepth 20000 in
theorem ggX12_fault_X12_readScript : GoodIn wsX12_fault wsX12_readScript := goodIn_r _ [63, 6, 7, 64, 65, 66, 67, 4, 68, 69, 16, 17, 18, 19, 20, 21, 22, 23, 24, 25, 70, 71, 72, 49, 50, 51, 52, 42, 43, 44, 45, 46, 47, 48, 53, 54, 55, 73, 74, 75, 76, 77, 78, 79, 80, 81, 82, 83, 84, 85, 86, 87, 88, 89, 90, 91, 92, 93, 94, 95, 96, 97, 98, 99, 100, 101, 102] (by decide +kernel) (by decide +kernel)
set_option maxRecDepth 20000 in
theorem gX12_fault_X12_readScript : GoodIn wsX12_fault (wsV RX12 145 RX12 yX12_readScript wsX12_readScript) := goodIn_app (goodIn_of _ (by decide +kernel)) ggX12_fault_X12_readScript
theorem dX12_fault_0 : decode cX12_fault 0 = .ok (.iload_n 1, 1) := by decide +kernel
theorem dX12_fault_1 : decode cX12_fault 1 = .ok (.ifCond .ne 10, 3) := by decide +kernel
theorem dX12_fault_4 : decode cX12_fault 4 = .ok (.aload_n 0, 1) := by decide +kernel
theorem dX12_fault_5 : decode cX12_fault 5 = .ok (.invokevirtual 142, 3) := by decide +kernel
theorem dX12_fault_8 : decode cX12_fault 8 = .ok (.goto 18, 3) := by decide +kernel
theorem dX12_fault_11 : decode cX12_fault 11 = .ok (.iload_n 1, 1) := by decide +kernel
theorem dX12_fault_12 : decode cX12_fault 12 = .ok (.iconst 1, 1) := by decide +kernel
theorem dX12_fault_13 : decode cX12_fault 13 = .ok (.if_icmp .ne 11, 3) := by decide +kernel
theorem dX12_fault_16 : decode cX12_fault 16 = .ok (.aload_n 0, 1) := by decide +kernel
theorem dX12_fault_17 : decode cX12_fault 17 = .ok (.iconst 4, 1) := by decide +kernel
theorem dX12_fault_18 : decode cX12_fault 18 = .ok (.invokevirtual 145, 3) := by decide +kernel
theorem dX12_fault_21 : decode cX12_fault 21 = .ok (.goto 5, 3) := by decide +kernel
theorem dX12_fault_24 : decode cX12_fault 24 = .ok (.bipush (-2), 2) := by decide +kernel
theorem dX12_fault_26 : decode cX12_fault 26 = .ok (.ireturn, 1) := by decide +kernel
theorem dX12_isField_0 : decode cX12_isField 0 = .ok (.aload_n 0, 1) := by decide +kernel
theorem dX12_isField_1 : decode cX12_isField 1 = .ok (.getfield 148, 3) := by decide +kernel
theorem dX12_isField_4 : decode cX12_isField 4 = .ok (.ifCond .le 7, 3) := by decide +kernel
theorem dX12_isField_7 : decode cX12_isField 7 = .ok (.iconst 1, 1) := by decide +kernel
theorem dX12_isField_8 : decode cX12_isField 8 = .ok (.goto 4, 3) := by decide +kernel
theorem dX12_isField_11 : decode cX12_isField 11 = .ok (.iconst 0, 1) := by decide +kernel
theorem dX12_isField_12 : decode cX12_isField 12 = .ok (.ireturn, 1) := by decide +kernel
set_option maxRecDepth 20000 in
theorem ggX12_isUser_X12_in : GoodIn wsX12_isUser wsX12_in := goodIn_r _ [5] (by decide +kernel) (by decide +kernel)
set_option maxRecDepth 20000 in
theorem gX12_isUser_X12_in : GoodIn wsX12_isUser (va_wsS RX12 76 yX12_in wsX12_in) := goodIn_app (goodIn_of _ (by decide +kernel)) ggX12_isUser_X12_in
theorem dX12_isUser_0 : decode cX12_isUser 0 = .ok (.iload_n 1, 1) := by decide +kernel
theorem dX12_isUser_1 : decode cX12_isUser 1 = .ok (.iconst 0, 1) := by decide +kernel
theorem dX12_isUser_2 : decode cX12_isUser 2 = .ok (.aload_n 0, 1) := by decide +kernel
theorem dX12_isUser_3 : decode cX12_isUser 3 = .ok (.getfield 148, 3) := by decide +kernel
theorem dX12_isUser_6 : decode cX12_isUser 6 = .ok (.iconst 1, 1) := by decide +kernel
theorem dX12_isUser_7 : decode cX12_isUser 7 = .ok (.isub, 1) := by decide +kernel
theorem dX12_isUser_8 : decode cX12_isUser 8 = .ok (.invokestatic 76, 3) := by decide +kernel
theorem dX12_isUser_11 : decode cX12_isUser 11 = .ok (.ireturn, 1) := by decide +kernel
set_option maxRecDepth 20000 in
theorem ggX12_slotMany_X12_isField : GoodIn wsX12_slotMany wsX12_isField := goodIn_r _ [6, 7, 8, 9, 10, 11, 12, 13, 14, 15, 16, 17, 18, 19, 20, 21, 22, 23, 24, 25, 26, 27, 28, 29, 30, 31, 32, 33, 34, 35, 36, 37] (by decide +kernel) (by decide +kernel)
set_option maxRecDepth 20000 in
theorem gX12_slotMany_X12_isField : GoodIn wsX12_slotMany (wsV RX12 151 RX12 yX12_isField wsX12_isField) := goodIn_app (goodIn_of _ (by decide +kernel)) ggX12_slotMany_X12_isField
theorem dX12_slotMany_0 : decode cX12_slotMany 0 = .ok (.aload_n 0, 1) := by decide +kernel
theorem dX12_slotMany_1 : decode cX12_slotMany 1 = .ok (.invokevirtual 151, 3) := by decide +kernel
theorem dX12_slotMany_4 : decode cX12_slotMany 4 = .ok (.ifCond .eq 19, 3) := by decide +kernel
theorem dX12_slotMany_7 : decode cX12_slotMany 7 = .ok (.aload_n 0, 1) := by decide +kernel
theorem dX12_slotMany_8 : decode cX12_slotMany 8 = .ok (.getfield 22, 3) := by decide +kernel
theorem dX12_slotMany_11 : decode cX12_slotMany 11 = .ok (.iconst 0, 1) := by decide +kernel
theorem dX12_slotMany_12 : decode cX12_slotMany 12 = .ok (.iaload, 1) := by decide +kernel
theorem dX12_slotMany_13 : decode cX12_slotMany 13 = .ok (.aload_n 0, 1) := by decide +kernel
theorem dX12_slotMany_14 : decode cX12_slotMany 14 = .ok (.getfield 22, 3) := by decide +kernel
theorem dX12_slotMany_17 : decode cX12_slotMany 17 = .ok (.iconst 1, 1) := by decide +kernel
theorem dX12_slotMany_18 : decode cX12_slotMany 18 = .ok (.iaload, 1) := by decide +kernel
theorem dX12_slotMany_19 : decode cX12_slotMany 19 = .ok (.imul, 1) := by decide +kernel
theorem dX12_slotMany_20 : decode cX12_slotMany 20 = .ok (.goto 4, 3) := by decide +kernel
theorem dX12_slotMany_23 : decode cX12_slotMany 23 = .ok (.iconst 0, 1) := by decide +kernel
theorem dX12_slotMany_24 : decode cX12_slotMany 24 = .ok (.ireturn, 1) := by decide +kernel
set_option maxRecDepth 20000 in
theorem ggX12_isSlot_X12_slotMany : GoodIn wsX12_isSlot wsX12_slotMany := goodIn_r _ [5, 6, 7, 8, 9, 4, 10, 11, 15, 16, 17, 18, 19, 20, 21, 22, 23, 24, 25, 26, 27, 28, 29, 30, 31, 32, 33, 34, 35, 36, 37, 38, 39, 40, 41, 42, 43, 44] (by decide +kernel) (by decide +kernel)
set_option maxRecDepth 20000 in
theorem gX12_isSlot_X12_slotMany : GoodIn wsX12_isSlot (wsV RX12 154 RX12 yX12_slotMany wsX12_slotMany) := goodIn_app (goodIn_of _ (by decide +kernel)) ggX12_isSlot_X12_slotMany
set_option maxRecDepth 20000 in
theorem ggX12_isSlot_X12_in : GoodIn wsX12_isSlot wsX12_in := goodIn_r _ [14] (by decide +kernel) (by decide +kernel)
set_option maxRecDepth 20000 in
theorem gX12_isSlot_X12_in : GoodIn wsX12_isSlot (va_wsS RX12 76 yX12_in wsX12_in) := goodIn_app (goodIn_of _ (by decide +kernel)) ggX12_isSlot_X12_in
theorem dX12_isSlot_0 : decode cX12_isSlot 0 = .ok (.iload_n 1, 1) := by decide +kernel
theorem dX12_isSlot_1 : decode cX12_isSlot 1 = .ok (.iconst 0, 1) := by decide +kernel
theorem dX12_isSlot_2 : decode cX12_isSlot 2 = .ok (.aload_n 0, 1) := by decide +kernel
theorem dX12_isSlot_3 : decode cX12_isSlot 3 = .ok (.invokevirtual 154, 3) := by decide +kernel
theorem dX12_isSlot_6 : decode cX12_isSlot 6 = .ok (.iconst 1, 1) := by decide +kernel
theorem dX12_isSlot_7 : decode cX12_isSlot 7 = .ok (.isub, 1) := by decide +kernel
theorem dX12_isSlot_8 : decode cX12_isSlot 8 = .ok (.invokestatic 76, 3) := by decide +kernel
theorem dX12_isSlot_11 : decode cX12_isSlot 11 = .ok (.ireturn, 1) := by decide +kernel
theorem dX12_isUnknown_0 : decode cX12_isUnknown 0 = .ok (.aload_n 0, 1) := by decide +kernel
theorem dX12_isUnknown_1 : decode cX12_isUnknown 1 = .ok (.getfield 37, 3) := by decide +kernel
theorem dX12_isUnknown_4 : decode cX12_isUnknown 4 = .ok (.iconst 0, 1) := by decide +kernel
theorem dX12_isUnknown_5 : decode cX12_isUnknown 5 = .ok (.iload_n 1, 1) := by decide +kernel
theorem dX12_isUnknown_6 : decode cX12_isUnknown 6 = .ok (.iadd, 1) := by decide +kernel
theorem dX12_isUnknown_7 : decode cX12_isUnknown 7 = .ok (.iaload, 1) := by decide +kernel
theorem dX12_isUnknown_8 : decode cX12_isUnknown 8 = .ok (.ifCond .ne 7, 3) := by decide +kernel
theorem dX12_isUnknown_11 : decode cX12_isUnknown 11 = .ok (.iconst 1, 1) := by decide +kernel
theorem dX12_isUnknown_12 : decode cX12_isUnknown 12 = .ok (.goto 4, 3) := by decide +kernel
theorem dX12_isUnknown_15 : decode cX12_isUnknown 15 = .ok (.iconst 0, 1) := by decide +kernel
theorem dX12_isUnknown_16 : decode cX12_isUnknown 16 = .ok (.ireturn, 1) := by decide +kernel
set_option maxRecDepth 20000 in
theorem ggX12_hasCopy_X12_has : GoodIn wsX12_hasCopy wsX12_has := goodIn_r _ [5] (by decide +kernel) (by decide +kernel)
set_option maxRecDepth 20000 in
theorem gX12_hasCopy_X12_has : GoodIn wsX12_hasCopy (va_wsS RX12 107 yX12_has wsX12_has) := goodIn_app (goodIn_of _ (by decide +kernel)) ggX12_hasCopy_X12_has
theorem dX12_hasCopy_0 : decode cX12_hasCopy 0 = .ok (.aload_n 0, 1) := by decide +kernel
theorem dX12_hasCopy_1 : decode cX12_hasCopy 1 = .ok (.getfield 37, 3) := by decide +kernel
theorem dX12_hasCopy_4 : decode cX12_hasCopy 4 = .ok (.iload_n 2, 1) := by decide +kernel
theorem dX12_hasCopy_5 : decode cX12_hasCopy 5 = .ok (.bipush 24, 2) := by decide +kernel
theorem dX12_hasCopy_7 : decode cX12_hasCopy 7 = .ok (.if_icmp .ge 8, 3) := by decide +kernel
theorem dX12_hasCopy_10 : decode cX12_hasCopy 10 = .ok (.bipush 10, 2) := by decide +kernel
theorem dX12_hasCopy_12 : decode cX12_hasCopy 12 = .ok (.goto 5, 3) := by decide +kernel
theorem dX12_hasCopy_15 : decode cX12_hasCopy 15 = .ok (.bipush 20, 2) := by decide +kernel
theorem dX12_hasCopy_17 : decode cX12_hasCopy 17 = .ok (.iload_n 1, 1) := by decide +kernel
theorem dX12_hasCopy_18 : decode cX12_hasCopy 18 = .ok (.iadd, 1) := by decide +kernel
theorem dX12_hasCopy_19 : decode cX12_hasCopy 19 = .ok (.iaload, 1) := by decide +kernel
theorem dX12_hasCopy_20 : decode cX12_hasCopy 20 = .ok (.iload_n 2, 1) := by decide +kernel
theorem dX12_hasCopy_21 : decode cX12_hasCopy 21 = .ok (.bipush 24, 2) := by decide +kernel
theorem dX12_hasCopy_23 : decode cX12_hasCopy 23 = .ok (.irem, 1) := by decide +kernel
theorem dX12_hasCopy_24 : decode cX12_hasCopy 24 = .ok (.invokestatic 107, 3) := by decide +kernel
theorem dX12_hasCopy_27 : decode cX12_hasCopy 27 = .ok (.ireturn, 1) := by decide +kernel
theorem dX12_turnCopy_0 : decode cX12_turnCopy 0 = .ok (.aload_n 0, 1) := by decide +kernel
theorem dX12_turnCopy_1 : decode cX12_turnCopy 1 = .ok (.getfield 37, 3) := by decide +kernel
theorem dX12_turnCopy_4 : decode cX12_turnCopy 4 = .ok (.iload_n 2, 1) := by decide +kernel
theorem dX12_turnCopy_5 : decode cX12_turnCopy 5 = .ok (.bipush 24, 2) := by decide +kernel
theorem dX12_turnCopy_7 : decode cX12_turnCopy 7 = .ok (.if_icmp .ge 8, 3) := by decide +kernel
theorem dX12_turnCopy_10 : decode cX12_turnCopy 10 = .ok (.bipush 10, 2) := by decide +kernel
theorem dX12_turnCopy_12 : decode cX12_turnCopy 12 = .ok (.goto 5, 3) := by decide +kernel
theorem dX12_turnCopy_15 : decode cX12_turnCopy 15 = .ok (.bipush 20, 2) := by decide +kernel
theorem dX12_turnCopy_17 : decode cX12_turnCopy 17 = .ok (.iload_n 1, 1) := by decide +kernel
theorem dX12_turnCopy_18 : decode cX12_turnCopy 18 = .ok (.iadd, 1) := by decide +kernel
theorem dX12_turnCopy_19 : decode cX12_turnCopy 19 = .ok (.dup2, 1) := by decide +kernel
theorem dX12_turnCopy_20 : decode cX12_turnCopy 20 = .ok (.iaload, 1) := by decide +kernel
theorem dX12_turnCopy_21 : decode cX12_turnCopy 21 = .ok (.iconst 1, 1) := by decide +kernel
theorem dX12_turnCopy_22 : decode cX12_turnCopy 22 = .ok (.iload_n 2, 1) := by decide +kernel
theorem dX12_turnCopy_23 : decode cX12_turnCopy 23 = .ok (.bipush 24, 2) := by decide +kernel
theorem dX12_turnCopy_25 : decode cX12_turnCopy 25 = .ok (.irem, 1) := by decide +kernel
theorem dX12_turnCopy_26 : decode cX12_turnCopy 26 = .ok (.ishl, 1) := by decide +kernel
theorem dX12_turnCopy_27 : decode cX12_turnCopy 27 = .ok (.ixor, 1) := by decide +kernel
theorem dX12_turnCopy_28 : decode cX12_turnCopy 28 = .ok (.iastore, 1) := by decide +kernel
theorem dX12_turnCopy_29 : decode cX12_turnCopy 29 = .ok (.return_, 1) := by decide +kernel
set_option maxRecDepth 20000 in
theorem ggX12_copyMany_X12_bits : GoodIn wsX12_copyMany wsX12_bits := goodIn_r _ [5] (by decide +kernel) (by decide +kernel)
set_option maxRecDepth 20000 in
theorem gX12_copyMany_X12_bits : GoodIn wsX12_copyMany (va_wsS RX12 157 yX12_bits wsX12_bits) := goodIn_app (goodIn_of _ (by decide +kernel)) ggX12_copyMany_X12_bits
theorem dX12_copyMany_0 : decode cX12_copyMany 0 = .ok (.aload_n 0, 1) := by decide +kernel
theorem dX12_copyMany_1 : decode cX12_copyMany 1 = .ok (.getfield 37, 3) := by decide +kernel
theorem dX12_copyMany_4 : decode cX12_copyMany 4 = .ok (.bipush 10, 2) := by decide +kernel
theorem dX12_copyMany_6 : decode cX12_copyMany 6 = .ok (.iload_n 1, 1) := by decide +kernel
theorem dX12_copyMany_7 : decode cX12_copyMany 7 = .ok (.iadd, 1) := by decide +kernel
theorem dX12_copyMany_8 : decode cX12_copyMany 8 = .ok (.iaload, 1) := by decide +kernel
theorem dX12_copyMany_9 : decode cX12_copyMany 9 = .ok (.invokestatic 157, 3) := by decide +kernel
theorem dX12_copyMany_12 : decode cX12_copyMany 12 = .ok (.aload_n 0, 1) := by decide +kernel
theorem dX12_copyMany_13 : decode cX12_copyMany 13 = .ok (.getfield 37, 3) := by decide +kernel
theorem dX12_copyMany_16 : decode cX12_copyMany 16 = .ok (.bipush 20, 2) := by decide +kernel
theorem dX12_copyMany_18 : decode cX12_copyMany 18 = .ok (.iload_n 1, 1) := by decide +kernel
theorem dX12_copyMany_19 : decode cX12_copyMany 19 = .ok (.iadd, 1) := by decide +kernel
theorem dX12_copyMany_20 : decode cX12_copyMany 20 = .ok (.iaload, 1) := by decide +kernel
theorem dX12_copyMany_21 : decode cX12_copyMany 21 = .ok (.invokestatic 157, 3) := by decide +kernel
theorem dX12_copyMany_24 : decode cX12_copyMany 24 = .ok (.iadd, 1) := by decide +kernel
theorem dX12_copyMany_25 : decode cX12_copyMany 25 = .ok (.ireturn, 1) := by decide +kernel
set_option maxRecDepth 20000 in
theorem ggX12_takeField_X12_has : GoodIn wsX12_takeField wsX12_has := goodIn_r _ [18] (by decide +kernel) (by decide +kernel)
set_option maxRecDepth 20000 in
theorem gX12_takeField_X12_has : GoodIn wsX12_takeField (va_wsS RX12 107 yX12_has wsX12_has) := goodIn_app (goodIn_of _ (by decide +kernel)) ggX12_takeField_X12_has
set_option maxRecDepth 20000 in
theorem ggX12_takeField_X12_turnCopy : GoodIn wsX12_takeField wsX12_turnCopy := goodIn_r _ [22, 10, 23, 24, 25, 26, 27, 28, 29, 30, 31, 32, 33, 34, 35, 36, 37, 38, 39, 40, 41, 42, 43, 44, 45, 46, 47, 48, 49, 50, 51, 52] (by decide +kernel) (by decide +kernel)
set_option maxRecDepth 20000 in
theorem gX12_takeField_X12_turnCopy : GoodIn wsX12_takeField (wsV RX12 161 RX12 yX12_turnCopy wsX12_turnCopy) := goodIn_app (goodIn_of _ (by decide +kernel)) ggX12_takeField_X12_turnCopy
theorem dX12_takeField_0 : decode cX12_takeField 0 = .ok (.aload_n 0, 1) := by decide +kernel
theorem dX12_takeField_1 : decode cX12_takeField 1 = .ok (.aload_n 0, 1) := by decide +kernel
theorem dX12_takeField_2 : decode cX12_takeField 2 = .ok (.getfield 120, 3) := by decide +kernel
theorem dX12_takeField_5 : decode cX12_takeField 5 = .ok (.putfield 148, 3) := by decide +kernel
theorem dX12_takeField_8 : decode cX12_takeField 8 = .ok (.iconst 0, 1) := by decide +kernel
theorem dX12_takeField_9 : decode cX12_takeField 9 = .ok (.istore_n 1, 1) := by decide +kernel
theorem dX12_takeField_10 : decode cX12_takeField 10 = .ok (.iload_n 1, 1) := by decide +kernel
theorem dX12_takeField_11 : decode cX12_takeField 11 = .ok (.iconst 4, 1) := by decide +kernel
theorem dX12_takeField_12 : decode cX12_takeField 12 = .ok (.if_icmp .ge 21, 3) := by decide +kernel
theorem dX12_takeField_15 : decode cX12_takeField 15 = .ok (.aload_n 0, 1) := by decide +kernel
theorem dX12_takeField_16 : decode cX12_takeField 16 = .ok (.getfield 22, 3) := by decide +kernel
theorem dX12_takeField_19 : decode cX12_takeField 19 = .ok (.iload_n 1, 1) := by decide +kernel
theorem dX12_takeField_20 : decode cX12_takeField 20 = .ok (.aload_n 0, 1) := by decide +kernel
theorem dX12_takeField_21 : decode cX12_takeField 21 = .ok (.getfield 13, 3) := by decide +kernel
theorem dX12_takeField_24 : decode cX12_takeField 24 = .ok (.iload_n 1, 1) := by decide +kernel
theorem dX12_takeField_25 : decode cX12_takeField 25 = .ok (.iaload, 1) := by decide +kernel
theorem dX12_takeField_26 : decode cX12_takeField 26 = .ok (.iastore, 1) := by decide +kernel
theorem dX12_takeField_27 : decode cX12_takeField 27 = .ok (.iinc 1 1, 3) := by decide +kernel
theorem dX12_takeField_30 : decode cX12_takeField 30 = .ok (.goto (-20), 3) := by decide +kernel
theorem dX12_takeField_33 : decode cX12_takeField 33 = .ok (.iconst 0, 1) := by decide +kernel
theorem dX12_takeField_34 : decode cX12_takeField 34 = .ok (.istore_n 1, 1) := by decide +kernel
theorem dX12_takeField_35 : decode cX12_takeField 35 = .ok (.iload_n 1, 1) := by decide +kernel
theorem dX12_takeField_36 : decode cX12_takeField 36 = .ok (.bipush 50, 2) := by decide +kernel
theorem dX12_takeField_38 : decode cX12_takeField 38 = .ok (.if_icmp .ge 21, 3) := by decide +kernel
theorem dX12_takeField_41 : decode cX12_takeField 41 = .ok (.aload_n 0, 1) := by decide +kernel
theorem dX12_takeField_42 : decode cX12_takeField 42 = .ok (.getfield 25, 3) := by decide +kernel
theorem dX12_takeField_45 : decode cX12_takeField 45 = .ok (.iload_n 1, 1) := by decide +kernel
theorem dX12_takeField_46 : decode cX12_takeField 46 = .ok (.aload_n 0, 1) := by decide +kernel
theorem dX12_takeField_47 : decode cX12_takeField 47 = .ok (.getfield 16, 3) := by decide +kernel
theorem dX12_takeField_50 : decode cX12_takeField 50 = .ok (.iload_n 1, 1) := by decide +kernel
theorem dX12_takeField_51 : decode cX12_takeField 51 = .ok (.iaload, 1) := by decide +kernel
theorem dX12_takeField_52 : decode cX12_takeField 52 = .ok (.iastore, 1) := by decide +kernel
theorem dX12_takeField_53 : decode cX12_takeField 53 = .ok (.iinc 1 1, 3) := by decide +kernel
theorem dX12_takeField_56 : decode cX12_takeField 56 = .ok (.goto (-21), 3) := by decide +kernel
theorem dX12_takeField_59 : decode cX12_takeField 59 = .ok (.iconst 0, 1) := by decide +kernel
theorem dX12_takeField_60 : decode cX12_takeField 60 = .ok (.istore_n 1, 1) := by decide +kernel
theorem dX12_takeField_61 : decode cX12_takeField 61 = .ok (.iload_n 1, 1) := by decide +kernel
theorem dX12_takeField_62 : decode cX12_takeField 62 = .ok (.bipush 6, 2) := by decide +kernel
theorem dX12_takeField_64 : decode cX12_takeField 64 = .ok (.if_icmp .gt 16, 3) := by decide +kernel
theorem dX12_takeField_67 : decode cX12_takeField 67 = .ok (.aload_n 0, 1) := by decide +kernel
theorem dX12_takeField_68 : decode cX12_takeField 68 = .ok (.getfield 28, 3) := by decide +kernel
theorem dX12_takeField_71 : decode cX12_takeField 71 = .ok (.iload_n 1, 1) := by decide +kernel
theorem dX12_takeField_72 : decode cX12_takeField 72 = .ok (.iconst 0, 1) := by decide +kernel
theorem dX12_takeField_73 : decode cX12_takeField 73 = .ok (.iastore, 1) := by decide +kernel
theorem dX12_takeField_74 : decode cX12_takeField 74 = .ok (.iinc 1 1, 3) := by decide +kernel
theorem dX12_takeField_77 : decode cX12_takeField 77 = .ok (.goto (-16), 3) := by decide +kernel
theorem dX12_takeField_80 : decode cX12_takeField 80 = .ok (.iconst 0, 1) := by decide +kernel
theorem dX12_takeField_81 : decode cX12_takeField 81 = .ok (.istore_n 1, 1) := by decide +kernel
theorem dX12_takeField_82 : decode cX12_takeField 82 = .ok (.iload_n 1, 1) := by decide +kernel
theorem dX12_takeField_83 : decode cX12_takeField 83 = .ok (.aload_n 0, 1) := by decide +kernel
theorem dX12_takeField_84 : decode cX12_takeField 84 = .ok (.getfield 123, 3) := by decide +kernel
theorem dX12_takeField_87 : decode cX12_takeField 87 = .ok (.if_icmp .ge 35, 3) := by decide +kernel
theorem dX12_takeField_90 : decode cX12_takeField 90 = .ok (.aload_n 0, 1) := by decide +kernel
theorem dX12_takeField_91 : decode cX12_takeField 91 = .ok (.getfield 28, 3) := by decide +kernel
theorem dX12_takeField_94 : decode cX12_takeField 94 = .ok (.aload_n 0, 1) := by decide +kernel
theorem dX12_takeField_95 : decode cX12_takeField 95 = .ok (.getfield 19, 3) := by decide +kernel
theorem dX12_takeField_98 : decode cX12_takeField 98 = .ok (.iconst 2, 1) := by decide +kernel
theorem dX12_takeField_99 : decode cX12_takeField 99 = .ok (.iload_n 1, 1) := by decide +kernel
theorem dX12_takeField_100 : decode cX12_takeField 100 = .ok (.imul, 1) := by decide +kernel
theorem dX12_takeField_101 : decode cX12_takeField 101 = .ok (.iaload, 1) := by decide +kernel
theorem dX12_takeField_102 : decode cX12_takeField 102 = .ok (.dup2, 1) := by decide +kernel
theorem dX12_takeField_103 : decode cX12_takeField 103 = .ok (.iaload, 1) := by decide +kernel
theorem dX12_takeField_104 : decode cX12_takeField 104 = .ok (.aload_n 0, 1) := by decide +kernel
theorem dX12_takeField_105 : decode cX12_takeField 105 = .ok (.getfield 19, 3) := by decide +kernel
theorem dX12_takeField_108 : decode cX12_takeField 108 = .ok (.iconst 2, 1) := by decide +kernel
theorem dX12_takeField_109 : decode cX12_takeField 109 = .ok (.iload_n 1, 1) := by decide +kernel
theorem dX12_takeField_110 : decode cX12_takeField 110 = .ok (.imul, 1) := by decide +kernel
theorem dX12_takeField_111 : decode cX12_takeField 111 = .ok (.iconst 1, 1) := by decide +kernel
theorem dX12_takeField_112 : decode cX12_takeField 112 = .ok (.iadd, 1) := by decide +kernel
theorem dX12_takeField_113 : decode cX12_takeField 113 = .ok (.iaload, 1) := by decide +kernel
theorem dX12_takeField_114 : decode cX12_takeField 114 = .ok (.iadd, 1) := by decide +kernel
theorem dX12_takeField_115 : decode cX12_takeField 115 = .ok (.iastore, 1) := by decide +kernel
theorem dX12_takeField_116 : decode cX12_takeField 116 = .ok (.iinc 1 1, 3) := by decide +kernel
theorem dX12_takeField_119 : decode cX12_takeField 119 = .ok (.goto (-37), 3) := by decide +kernel
theorem dX12_takeField_122 : decode cX12_takeField 122 = .ok (.iconst 0, 1) := by decide +kernel
theorem dX12_takeField_123 : decode cX12_takeField 123 = .ok (.istore_n 1, 1) := by decide +kernel
theorem dX12_takeField_124 : decode cX12_takeField 124 = .ok (.iload_n 1, 1) := by decide +kernel
theorem dX12_takeField_125 : decode cX12_takeField 125 = .ok (.sipush 245, 3) := by decide +kernel
theorem dX12_takeField_128 : decode cX12_takeField 128 = .ok (.if_icmp .ge 16, 3) := by decide +kernel
theorem dX12_takeField_131 : decode cX12_takeField 131 = .ok (.aload_n 0, 1) := by decide +kernel
theorem dX12_takeField_132 : decode cX12_takeField 132 = .ok (.getfield 37, 3) := by decide +kernel
theorem dX12_takeField_135 : decode cX12_takeField 135 = .ok (.iload_n 1, 1) := by decide +kernel
theorem dX12_takeField_136 : decode cX12_takeField 136 = .ok (.iconst 0, 1) := by decide +kernel
theorem dX12_takeField_137 : decode cX12_takeField 137 = .ok (.iastore, 1) := by decide +kernel
theorem dX12_takeField_138 : decode cX12_takeField 138 = .ok (.iinc 1 1, 3) := by decide +kernel
theorem dX12_takeField_141 : decode cX12_takeField 141 = .ok (.goto (-17), 3) := by decide +kernel
theorem dX12_takeField_144 : decode cX12_takeField 144 = .ok (.aload_n 0, 1) := by decide +kernel
theorem dX12_takeField_145 : decode cX12_takeField 145 = .ok (.getfield 37, 3) := by decide +kernel
theorem dX12_takeField_148 : decode cX12_takeField 148 = .ok (.bipush 30, 2) := by decide +kernel
theorem dX12_takeField_150 : decode cX12_takeField 150 = .ok (.aload_n 0, 1) := by decide +kernel
theorem dX12_takeField_151 : decode cX12_takeField 151 = .ok (.getfield 22, 3) := by decide +kernel
theorem dX12_takeField_154 : decode cX12_takeField 154 = .ok (.iconst 2, 1) := by decide +kernel
theorem dX12_takeField_155 : decode cX12_takeField 155 = .ok (.iaload, 1) := by decide +kernel
theorem dX12_takeField_156 : decode cX12_takeField 156 = .ok (.iastore, 1) := by decide +kernel
theorem dX12_takeField_157 : decode cX12_takeField 157 = .ok (.iconst 0, 1) := by decide +kernel
theorem dX12_takeField_158 : decode cX12_takeField 158 = .ok (.istore_n 1, 1) := by decide +kernel
theorem dX12_takeField_159 : decode cX12_takeField 159 = .ok (.iload_n 1, 1) := by decide +kernel
theorem dX12_takeField_160 : decode cX12_takeField 160 = .ok (.aload_n 0, 1) := by decide +kernel
theorem dX12_takeField_161 : decode cX12_takeField 161 = .ok (.getfield 148, 3) := by decide +kernel
theorem dX12_takeField_164 : decode cX12_takeField 164 = .ok (.if_icmp .ge 166, 3) := by decide +kernel
theorem dX12_takeField_167 : decode cX12_takeField 167 = .ok (.aload_n 0, 1) := by decide +kernel
theorem dX12_takeField_168 : decode cX12_takeField 168 = .ok (.getfield 25, 3) := by decide +kernel
theorem dX12_takeField_171 : decode cX12_takeField 171 = .ok (.iconst 5, 1) := by decide +kernel
theorem dX12_takeField_172 : decode cX12_takeField 172 = .ok (.iload_n 1, 1) := by decide +kernel
theorem dX12_takeField_173 : decode cX12_takeField 173 = .ok (.imul, 1) := by decide +kernel
theorem dX12_takeField_174 : decode cX12_takeField 174 = .ok (.iconst 0, 1) := by decide +kernel
theorem dX12_takeField_175 : decode cX12_takeField 175 = .ok (.iadd, 1) := by decide +kernel
theorem dX12_takeField_176 : decode cX12_takeField 176 = .ok (.iaload, 1) := by decide +kernel
theorem dX12_takeField_177 : decode cX12_takeField 177 = .ok (.i2f, 1) := by decide +kernel
theorem dX12_takeField_178 : decode cX12_takeField 178 = .ok (.ldc 160, 2) := by decide +kernel
theorem dX12_takeField_180 : decode cX12_takeField 180 = .ok (.fdiv, 1) := by decide +kernel
theorem dX12_takeField_181 : decode cX12_takeField 181 = .ok (.fstore_n 2, 1) := by decide +kernel
theorem dX12_takeField_182 : decode cX12_takeField 182 = .ok (.aload_n 0, 1) := by decide +kernel
theorem dX12_takeField_183 : decode cX12_takeField 183 = .ok (.getfield 43, 3) := by decide +kernel
theorem dX12_takeField_186 : decode cX12_takeField 186 = .ok (.iload_n 1, 1) := by decide +kernel
theorem dX12_takeField_187 : decode cX12_takeField 187 = .ok (.fload_n 2, 1) := by decide +kernel
theorem dX12_takeField_188 : decode cX12_takeField 188 = .ok (.aload_n 0, 1) := by decide +kernel
theorem dX12_takeField_189 : decode cX12_takeField 189 = .ok (.getfield 25, 3) := by decide +kernel
theorem dX12_takeField_192 : decode cX12_takeField 192 = .ok (.iconst 5, 1) := by decide +kernel
theorem dX12_takeField_193 : decode cX12_takeField 193 = .ok (.iload_n 1, 1) := by decide +kernel
theorem dX12_takeField_194 : decode cX12_takeField 194 = .ok (.imul, 1) := by decide +kernel
theorem dX12_takeField_195 : decode cX12_takeField 195 = .ok (.iconst 1, 1) := by decide +kernel
theorem dX12_takeField_196 : decode cX12_takeField 196 = .ok (.iadd, 1) := by decide +kernel
theorem dX12_takeField_197 : decode cX12_takeField 197 = .ok (.iaload, 1) := by decide +kernel
theorem dX12_takeField_198 : decode cX12_takeField 198 = .ok (.i2f, 1) := by decide +kernel
theorem dX12_takeField_199 : decode cX12_takeField 199 = .ok (.fdiv, 1) := by decide +kernel
theorem dX12_takeField_200 : decode cX12_takeField 200 = .ok (.fastore, 1) := by decide +kernel
theorem dX12_takeField_201 : decode cX12_takeField 201 = .ok (.aload_n 0, 1) := by decide +kernel
theorem dX12_takeField_202 : decode cX12_takeField 202 = .ok (.getfield 43, 3) := by decide +kernel
theorem dX12_takeField_205 : decode cX12_takeField 205 = .ok (.iload_n 1, 1) := by decide +kernel
theorem dX12_takeField_206 : decode cX12_takeField 206 = .ok (.aload_n 0, 1) := by decide +kernel
theorem dX12_takeField_207 : decode cX12_takeField 207 = .ok (.getfield 43, 3) := by decide +kernel
theorem dX12_takeField_210 : decode cX12_takeField 210 = .ok (.iload_n 1, 1) := by decide +kernel
theorem dX12_takeField_211 : decode cX12_takeField 211 = .ok (.faload, 1) := by decide +kernel
theorem dX12_takeField_212 : decode cX12_takeField 212 = .ok (.aload_n 0, 1) := by decide +kernel
theorem dX12_takeField_213 : decode cX12_takeField 213 = .ok (.getfield 25, 3) := by decide +kernel
theorem dX12_takeField_216 : decode cX12_takeField 216 = .ok (.iconst 5, 1) := by decide +kernel
theorem dX12_takeField_217 : decode cX12_takeField 217 = .ok (.iload_n 1, 1) := by decide +kernel
theorem dX12_takeField_218 : decode cX12_takeField 218 = .ok (.imul, 1) := by decide +kernel
theorem dX12_takeField_219 : decode cX12_takeField 219 = .ok (.iconst 1, 1) := by decide +kernel
theorem dX12_takeField_220 : decode cX12_takeField 220 = .ok (.iadd, 1) := by decide +kernel
theorem dX12_takeField_221 : decode cX12_takeField 221 = .ok (.iaload, 1) := by decide +kernel
theorem dX12_takeField_222 : decode cX12_takeField 222 = .ok (.i2f, 1) := by decide +kernel
theorem dX12_takeField_223 : decode cX12_takeField 223 = .ok (.fdiv, 1) := by decide +kernel
theorem dX12_takeField_224 : decode cX12_takeField 224 = .ok (.fastore, 1) := by decide +kernel
theorem dX12_takeField_225 : decode cX12_takeField 225 = .ok (.iconst 0, 1) := by decide +kernel
theorem dX12_takeField_226 : decode cX12_takeField 226 = .ok (.istore_n 3, 1) := by decide +kernel
theorem dX12_takeField_227 : decode cX12_takeField 227 = .ok (.iload_n 3, 1) := by decide +kernel
theorem dX12_takeField_228 : decode cX12_takeField 228 = .ok (.iconst 2, 1) := by decide +kernel
theorem dX12_takeField_229 : decode cX12_takeField 229 = .ok (.aload_n 0, 1) := by decide +kernel
theorem dX12_takeField_230 : decode cX12_takeField 230 = .ok (.getfield 22, 3) := by decide +kernel
theorem dX12_takeField_233 : decode cX12_takeField 233 = .ok (.iconst 0, 1) := by decide +kernel
theorem dX12_takeField_234 : decode cX12_takeField 234 = .ok (.iaload, 1) := by decide +kernel
theorem dX12_takeField_235 : decode cX12_takeField 235 = .ok (.imul, 1) := by decide +kernel
theorem dX12_takeField_236 : decode cX12_takeField 236 = .ok (.if_icmp .ge 88, 3) := by decide +kernel
theorem dX12_takeField_239 : decode cX12_takeField 239 = .ok (.iload_n 3, 1) := by decide +kernel
theorem dX12_takeField_240 : decode cX12_takeField 240 = .ok (.aload_n 0, 1) := by decide +kernel
theorem dX12_takeField_241 : decode cX12_takeField 241 = .ok (.getfield 22, 3) := by decide +kernel
theorem dX12_takeField_244 : decode cX12_takeField 244 = .ok (.iconst 0, 1) := by decide +kernel
theorem dX12_takeField_245 : decode cX12_takeField 245 = .ok (.iaload, 1) := by decide +kernel
theorem dX12_takeField_246 : decode cX12_takeField 246 = .ok (.if_icmp .ge 20, 3) := by decide +kernel
theorem dX12_takeField_249 : decode cX12_takeField 249 = .ok (.aload_n 0, 1) := by decide +kernel
theorem dX12_takeField_250 : decode cX12_takeField 250 = .ok (.getfield 25, 3) := by decide +kernel
theorem dX12_takeField_253 : decode cX12_takeField 253 = .ok (.iconst 5, 1) := by decide +kernel
theorem dX12_takeField_254 : decode cX12_takeField 254 = .ok (.iload_n 1, 1) := by decide +kernel
theorem dX12_takeField_255 : decode cX12_takeField 255 = .ok (.imul, 1) := by decide +kernel
theorem dX12_takeField_256 : decode cX12_takeField 256 = .ok (.iconst 3, 1) := by decide +kernel
theorem dX12_takeField_257 : decode cX12_takeField 257 = .ok (.iadd, 1) := by decide +kernel
theorem dX12_takeField_258 : decode cX12_takeField 258 = .ok (.iaload, 1) := by decide +kernel
theorem dX12_takeField_259 : decode cX12_takeField 259 = .ok (.iload_n 3, 1) := by decide +kernel
theorem dX12_takeField_260 : decode cX12_takeField 260 = .ok (.invokestatic 107, 3) := by decide +kernel
theorem dX12_takeField_263 : decode cX12_takeField 263 = .ok (.goto 24, 3) := by decide +kernel
theorem dX12_takeField_266 : decode cX12_takeField 266 = .ok (.aload_n 0, 1) := by decide +kernel
theorem dX12_takeField_267 : decode cX12_takeField 267 = .ok (.getfield 25, 3) := by decide +kernel
theorem dX12_takeField_270 : decode cX12_takeField 270 = .ok (.iconst 5, 1) := by decide +kernel
theorem dX12_takeField_271 : decode cX12_takeField 271 = .ok (.iload_n 1, 1) := by decide +kernel
theorem dX12_takeField_272 : decode cX12_takeField 272 = .ok (.imul, 1) := by decide +kernel
theorem dX12_takeField_273 : decode cX12_takeField 273 = .ok (.iconst 4, 1) := by decide +kernel
theorem dX12_takeField_274 : decode cX12_takeField 274 = .ok (.iadd, 1) := by decide +kernel
theorem dX12_takeField_275 : decode cX12_takeField 275 = .ok (.iaload, 1) := by decide +kernel
theorem dX12_takeField_276 : decode cX12_takeField 276 = .ok (.iload_n 3, 1) := by decide +kernel
theorem dX12_takeField_277 : decode cX12_takeField 277 = .ok (.aload_n 0, 1) := by decide +kernel
theorem dX12_takeField_278 : decode cX12_takeField 278 = .ok (.getfield 22, 3) := by decide +kernel
theorem dX12_takeField_281 : decode cX12_takeField 281 = .ok (.iconst 0, 1) := by decide +kernel
theorem dX12_takeField_282 : decode cX12_takeField 282 = .ok (.iaload, 1) := by decide +kernel
theorem dX12_takeField_283 : decode cX12_takeField 283 = .ok (.isub, 1) := by decide +kernel
theorem dX12_takeField_284 : decode cX12_takeField 284 = .ok (.invokestatic 107, 3) := by decide +kernel
theorem dX12_takeField_287 : decode cX12_takeField 287 = .ok (.istore 4, 2) := by decide +kernel
theorem dX12_takeField_289 : decode cX12_takeField 289 = .ok (.iload 4, 2) := by decide +kernel
theorem dX12_takeField_291 : decode cX12_takeField 291 = .ok (.ifCond .eq 27, 3) := by decide +kernel
theorem dX12_takeField_294 : decode cX12_takeField 294 = .ok (.aload_n 0, 1) := by decide +kernel
theorem dX12_takeField_295 : decode cX12_takeField 295 = .ok (.iload_n 1, 1) := by decide +kernel
theorem dX12_takeField_296 : decode cX12_takeField 296 = .ok (.aload_n 0, 1) := by decide +kernel
theorem dX12_takeField_297 : decode cX12_takeField 297 = .ok (.getfield 22, 3) := by decide +kernel
theorem dX12_takeField_300 : decode cX12_takeField 300 = .ok (.iconst 0, 1) := by decide +kernel
theorem dX12_takeField_301 : decode cX12_takeField 301 = .ok (.iaload, 1) := by decide +kernel
theorem dX12_takeField_302 : decode cX12_takeField 302 = .ok (.aload_n 0, 1) := by decide +kernel
theorem dX12_takeField_303 : decode cX12_takeField 303 = .ok (.getfield 25, 3) := by decide +kernel
theorem dX12_takeField_306 : decode cX12_takeField 306 = .ok (.iconst 5, 1) := by decide +kernel
theorem dX12_takeField_307 : decode cX12_takeField 307 = .ok (.iload_n 1, 1) := by decide +kernel
theorem dX12_takeField_308 : decode cX12_takeField 308 = .ok (.imul, 1) := by decide +kernel
theorem dX12_takeField_309 : decode cX12_takeField 309 = .ok (.iconst 2, 1) := by decide +kernel
theorem dX12_takeField_310 : decode cX12_takeField 310 = .ok (.iadd, 1) := by decide +kernel
theorem dX12_takeField_311 : decode cX12_takeField 311 = .ok (.iaload, 1) := by decide +kernel
theorem dX12_takeField_312 : decode cX12_takeField 312 = .ok (.imul, 1) := by decide +kernel
theorem dX12_takeField_313 : decode cX12_takeField 313 = .ok (.iload_n 3, 1) := by decide +kernel
theorem dX12_takeField_314 : decode cX12_takeField 314 = .ok (.iadd, 1) := by decide +kernel
theorem dX12_takeField_315 : decode cX12_takeField 315 = .ok (.invokevirtual 161, 3) := by decide +kernel
theorem dX12_takeField_318 : decode cX12_takeField 318 = .ok (.iinc 3 1, 3) := by decide +kernel
theorem dX12_takeField_321 : decode cX12_takeField 321 = .ok (.goto (-94), 3) := by decide +kernel
theorem dX12_takeField_324 : decode cX12_takeField 324 = .ok (.iinc 1 1, 3) := by decide +kernel
theorem dX12_takeField_327 : decode cX12_takeField 327 = .ok (.goto (-168), 3) := by decide +kernel
theorem dX12_takeField_330 : decode cX12_takeField 330 = .ok (.aload_n 0, 1) := by decide +kernel
theorem dX12_takeField_331 : decode cX12_takeField 331 = .ok (.iconst 0, 1) := by decide +kernel
theorem dX12_takeField_332 : decode cX12_takeField 332 = .ok (.putfield 165, 3) := by decide +kernel
theorem dX12_takeField_335 : decode cX12_takeField 335 = .ok (.aload_n 0, 1) := by decide +kernel
theorem dX12_takeField_336 : decode cX12_takeField 336 = .ok (.iconst 0, 1) := by decide +kernel
theorem dX12_takeField_337 : decode cX12_takeField 337 = .ok (.putfield 168, 3) := by decide +kernel
theorem dX12_takeField_340 : decode cX12_takeField 340 = .ok (.aload_n 0, 1) := by decide +kernel
theorem dX12_takeField_341 : decode cX12_takeField 341 = .ok (.getfield 148, 3) := by decide +kernel
theorem dX12_takeField_344 : decode cX12_takeField 344 = .ok (.ireturn, 1) := by decide +kernel
set_option maxRecDepth 20000 in
theorem ggX12_text_X12_readField : GoodIn wsX12_text wsX12_readField := goodIn_r _ [7, 8, 9, 10, 11, 12, 13, 14, 15, 16, 6, 17, 18, 19, 20, 21, 22, 23, 24, 25, 1, 26, 27, 28, 29, 30, 31, 32, 33, 34, 35, 36, 37, 38, 39, 40, 41, 42, 43, 44, 45, 46, 47, 48, 49, 50, 51, 52, 53, 54, 55, 56, 57, 58, 59, 60, 91, 92, 93, 94, 95, 96, 97, 98, 99, 100, 101, 102, 103, 104, 105, 106, 107, 108, 109, 110, 111, 112, 113, 114, 115, 116, 117, 118, 119, 120] (by decide +kernel) (by decide +kernel)
set_option maxRecDepth 20000 in
theorem gX12_text_X12_readField : GoodIn wsX12_text (wsV RX12 142 RX12 yX12_readField wsX12_readField) := goodIn_app (goodIn_of _ (by decide +kernel)) ggX12_text_X12_readField
set_option maxRecDepth 20000 in
theorem ggX12_text_X12_takeField : GoodIn wsX12_text wsX12_takeField := goodIn_r _ [64, 10, 65, 66, 12, 67, 13, 68, 11, 14, 69, 70, 71, 72, 73, 34, 35, 6, 36, 74, 75, 76, 77, 91, 92, 93, 94, 95, 96, 97, 98, 99, 100, 101, 102, 103, 104, 105, 106, 107, 108, 109, 110, 111, 112, 113, 114, 115, 116, 117, 118, 119, 120] (by decide +kernel) (by decide +kernel)
set_option maxRecDepth 20000 in
theorem gX12_text_X12_takeField : GoodIn wsX12_text (wsV RX12 172 RX12 yX12_takeField wsX12_takeField) := goodIn_app (goodIn_of _ (by decide +kernel)) ggX12_text_X12_takeField
set_option maxRecDepth 20000 in
theorem ggX12_text_X12_readScript : GoodIn wsX12_text wsX12_readScript := goodIn_r _ [81, 8, 9, 82, 83, 84, 85, 6, 86, 87, 18, 19, 20, 21, 22, 23, 24, 25, 1, 26, 88, 89, 90, 50, 51, 52, 53, 43, 44, 45, 46, 47, 48, 49, 54, 55, 56, 91, 92, 93, 94, 95, 96, 97, 98, 99, 100, 101, 102, 103, 104, 105, 106, 107, 108, 109, 110, 111, 112, 113, 114, 115, 116, 117, 118, 119, 120] (by decide +kernel) (by decide +kernel)
set_option maxRecDepth 20000 in
theorem gX12_text_X12_readScript : GoodIn wsX12_text (wsV RX12 145 RX12 yX12_readScript wsX12_readScript) := goodIn_app (goodIn_of _ (by decide +kernel)) ggX12_text_X12_readScript
theorem dX12_text_0 : decode cX12_text 0 = .ok (.iload_n 1, 1) := by decide +kernel
theorem dX12_text_1 : decode cX12_text 1 = .ok (.ifCond .ne 21, 3) := by decide +kernel
theorem dX12_text_4 : decode cX12_text 4 = .ok (.aload_n 0, 1) := by decide +kernel
theorem dX12_text_5 : decode cX12_text 5 = .ok (.invokevirtual 142, 3) := by decide +kernel
theorem dX12_text_8 : decode cX12_text 8 = .ok (.iconst (-1), 1) := by decide +kernel
theorem dX12_text_9 : decode cX12_text 9 = .ok (.if_icmp .ne 13, 3) := by decide +kernel
theorem dX12_text_12 : decode cX12_text 12 = .ok (.aload_n 0, 1) := by decide +kernel
theorem dX12_text_13 : decode cX12_text 13 = .ok (.iconst 0, 1) := by decide +kernel
theorem dX12_text_14 : decode cX12_text 14 = .ok (.putfield 73, 3) := by decide +kernel
theorem dX12_text_17 : decode cX12_text 17 = .ok (.aload_n 0, 1) := by decide +kernel
theorem dX12_text_18 : decode cX12_text 18 = .ok (.invokevirtual 172, 3) := by decide +kernel
theorem dX12_text_21 : decode cX12_text 21 = .ok (.ireturn, 1) := by decide +kernel
theorem dX12_text_22 : decode cX12_text 22 = .ok (.iload_n 1, 1) := by decide +kernel
theorem dX12_text_23 : decode cX12_text 23 = .ok (.iconst 1, 1) := by decide +kernel
theorem dX12_text_24 : decode cX12_text 24 = .ok (.if_icmp .ne 45, 3) := by decide +kernel
theorem dX12_text_27 : decode cX12_text 27 = .ok (.aload_n 0, 1) := by decide +kernel
theorem dX12_text_28 : decode cX12_text 28 = .ok (.getfield 175, 3) := by decide +kernel
theorem dX12_text_31 : decode cX12_text 31 = .ok (.iconst 4, 1) := by decide +kernel
theorem dX12_text_32 : decode cX12_text 32 = .ok (.if_icmp .ge 37, 3) := by decide +kernel
theorem dX12_text_35 : decode cX12_text 35 = .ok (.aload_n 0, 1) := by decide +kernel
theorem dX12_text_36 : decode cX12_text 36 = .ok (.aload_n 0, 1) := by decide +kernel
theorem dX12_text_37 : decode cX12_text 37 = .ok (.getfield 175, 3) := by decide +kernel
theorem dX12_text_40 : decode cX12_text 40 = .ok (.invokevirtual 145, 3) := by decide +kernel
theorem dX12_text_43 : decode cX12_text 43 = .ok (.iconst (-1), 1) := by decide +kernel
theorem dX12_text_44 : decode cX12_text 44 = .ok (.if_icmp .ne 25, 3) := by decide +kernel
theorem dX12_text_47 : decode cX12_text 47 = .ok (.aload_n 0, 1) := by decide +kernel
theorem dX12_text_48 : decode cX12_text 48 = .ok (.iconst 0, 1) := by decide +kernel
theorem dX12_text_49 : decode cX12_text 49 = .ok (.putfield 73, 3) := by decide +kernel
theorem dX12_text_52 : decode cX12_text 52 = .ok (.aload_n 0, 1) := by decide +kernel
theorem dX12_text_53 : decode cX12_text 53 = .ok (.dup, 1) := by decide +kernel
theorem dX12_text_54 : decode cX12_text 54 = .ok (.getfield 175, 3) := by decide +kernel
theorem dX12_text_57 : decode cX12_text 57 = .ok (.iconst 1, 1) := by decide +kernel
theorem dX12_text_58 : decode cX12_text 58 = .ok (.iadd, 1) := by decide +kernel
theorem dX12_text_59 : decode cX12_text 59 = .ok (.putfield 175, 3) := by decide +kernel
theorem dX12_text_62 : decode cX12_text 62 = .ok (.aload_n 0, 1) := by decide +kernel
theorem dX12_text_63 : decode cX12_text 63 = .ok (.getfield 175, 3) := by decide +kernel
theorem dX12_text_66 : decode cX12_text 66 = .ok (.iconst 1, 1) := by decide +kernel
theorem dX12_text_67 : decode cX12_text 67 = .ok (.isub, 1) := by decide +kernel
theorem dX12_text_68 : decode cX12_text 68 = .ok (.ireturn, 1) := by decide +kernel
theorem dX12_text_69 : decode cX12_text 69 = .ok (.iconst (-1), 1) := by decide +kernel
theorem dX12_text_70 : decode cX12_text 70 = .ok (.ireturn, 1) := by decide +kernel
set_option maxRecDepth 20000 in
theorem ggX12_dinAt_X12_isUnknown : GoodIn wsX12_dinAt wsX12_isUnknown := goodIn_r _ [9, 10, 18, 19, 20, 21, 22, 23, 24, 25, 26, 27, 28, 29, 30, 31, 32, 33, 34, 35, 36, 37, 38, 39, 40, 41, 42, 43, 44, 45, 46, 47] (by decide +kernel) (by decide +kernel)
set_option maxRecDepth 20000 in
theorem gX12_dinAt_X12_isUnknown : GoodIn wsX12_dinAt (wsV RX12 178 RX12 yX12_isUnknown wsX12_isUnknown) := goodIn_app (goodIn_of _ (by decide +kernel)) ggX12_dinAt_X12_isUnknown
set_option maxRecDepth 20000 in
theorem ggX12_dinAt_X12_hasCopy : GoodIn wsX12_dinAt wsX12_hasCopy := goodIn_r _ [14, 10, 15, 16, 8, 17, 18, 19, 20, 21, 22, 23, 24, 25, 26, 27, 28, 29, 30, 31, 32, 33, 34, 35, 36, 37, 38, 39, 40, 41, 42, 43, 44, 45, 46, 47] (by decide +kernel) (by decide +kernel)
set_option maxRecDepth 20000 in
theorem gX12_dinAt_X12_hasCopy : GoodIn wsX12_dinAt (wsV RX12 181 RX12 yX12_hasCopy wsX12_hasCopy) := goodIn_app (goodIn_of _ (by decide +kernel)) ggX12_dinAt_X12_hasCopy
theorem dX12_dinAt_0 : decode cX12_dinAt 0 = .ok (.aload_n 0, 1) := by decide +kernel
theorem dX12_dinAt_1 : decode cX12_dinAt 1 = .ok (.getfield 22, 3) := by decide +kernel
theorem dX12_dinAt_4 : decode cX12_dinAt 4 = .ok (.iconst 3, 1) := by decide +kernel
theorem dX12_dinAt_5 : decode cX12_dinAt 5 = .ok (.iaload, 1) := by decide +kernel
theorem dX12_dinAt_6 : decode cX12_dinAt 6 = .ok (.i2f, 1) := by decide +kernel
theorem dX12_dinAt_7 : decode cX12_dinAt 7 = .ok (.ldc 160, 2) := by decide +kernel
theorem dX12_dinAt_9 : decode cX12_dinAt 9 = .ok (.fdiv, 1) := by decide +kernel
theorem dX12_dinAt_10 : decode cX12_dinAt 10 = .ok (.fstore_n 3, 1) := by decide +kernel
theorem dX12_dinAt_11 : decode cX12_dinAt 11 = .ok (.iconst 0, 1) := by decide +kernel
theorem dX12_dinAt_12 : decode cX12_dinAt 12 = .ok (.istore 4, 2) := by decide +kernel
theorem dX12_dinAt_14 : decode cX12_dinAt 14 = .ok (.iload 4, 2) := by decide +kernel
theorem dX12_dinAt_16 : decode cX12_dinAt 16 = .ok (.aload_n 0, 1) := by decide +kernel
theorem dX12_dinAt_17 : decode cX12_dinAt 17 = .ok (.getfield 148, 3) := by decide +kernel
theorem dX12_dinAt_20 : decode cX12_dinAt 20 = .ok (.if_icmp .ge 44, 3) := by decide +kernel
theorem dX12_dinAt_23 : decode cX12_dinAt 23 = .ok (.iload 4, 2) := by decide +kernel
theorem dX12_dinAt_25 : decode cX12_dinAt 25 = .ok (.iload_n 1, 1) := by decide +kernel
theorem dX12_dinAt_26 : decode cX12_dinAt 26 = .ok (.if_icmp .eq 32, 3) := by decide +kernel
theorem dX12_dinAt_29 : decode cX12_dinAt 29 = .ok (.aload_n 0, 1) := by decide +kernel
theorem dX12_dinAt_30 : decode cX12_dinAt 30 = .ok (.iload 4, 2) := by decide +kernel
theorem dX12_dinAt_32 : decode cX12_dinAt 32 = .ok (.invokevirtual 178, 3) := by decide +kernel
theorem dX12_dinAt_35 : decode cX12_dinAt 35 = .ok (.ifCond .eq 23, 3) := by decide +kernel
theorem dX12_dinAt_38 : decode cX12_dinAt 38 = .ok (.aload_n 0, 1) := by decide +kernel
theorem dX12_dinAt_39 : decode cX12_dinAt 39 = .ok (.iload 4, 2) := by decide +kernel
theorem dX12_dinAt_41 : decode cX12_dinAt 41 = .ok (.iload_n 2, 1) := by decide +kernel
theorem dX12_dinAt_42 : decode cX12_dinAt 42 = .ok (.invokevirtual 181, 3) := by decide +kernel
theorem dX12_dinAt_45 : decode cX12_dinAt 45 = .ok (.ifCond .eq 13, 3) := by decide +kernel
theorem dX12_dinAt_48 : decode cX12_dinAt 48 = .ok (.fload_n 3, 1) := by decide +kernel
theorem dX12_dinAt_49 : decode cX12_dinAt 49 = .ok (.aload_n 0, 1) := by decide +kernel
theorem dX12_dinAt_50 : decode cX12_dinAt 50 = .ok (.getfield 43, 3) := by decide +kernel
theorem dX12_dinAt_53 : decode cX12_dinAt 53 = .ok (.iload 4, 2) := by decide +kernel
theorem dX12_dinAt_55 : decode cX12_dinAt 55 = .ok (.faload, 1) := by decide +kernel
theorem dX12_dinAt_56 : decode cX12_dinAt 56 = .ok (.fadd, 1) := by decide +kernel
theorem dX12_dinAt_57 : decode cX12_dinAt 57 = .ok (.fstore_n 3, 1) := by decide +kernel
theorem dX12_dinAt_58 : decode cX12_dinAt 58 = .ok (.iinc 4 1, 3) := by decide +kernel
theorem dX12_dinAt_61 : decode cX12_dinAt 61 = .ok (.goto (-47), 3) := by decide +kernel
theorem dX12_dinAt_64 : decode cX12_dinAt 64 = .ok (.fload_n 3, 1) := by decide +kernel
theorem dX12_dinAt_65 : decode cX12_dinAt 65 = .ok (.freturn, 1) := by decide +kernel
set_option maxRecDepth 20000 in
theorem ggX12_bar_X12_dinAt : GoodIn wsX12_bar wsX12_dinAt := goodIn_r _ [7, 8, 2, 9, 10, 11, 12, 13, 6, 14, 1, 15, 16, 17, 18, 19, 20, 21, 22, 23, 24, 25, 26, 27, 28, 29, 30, 31, 32, 33, 34, 35, 36, 37, 38, 39, 40, 41, 42, 43, 44, 45, 46, 47, 48, 49, 50, 51] (by decide +kernel) (by decide +kernel)
set_option maxRecDepth 20000 in
theorem gX12_bar_X12_dinAt : GoodIn wsX12_bar (wsV RX12 184 RX12 yX12_dinAt wsX12_dinAt) := goodIn_app (goodIn_of _ (by decide +kernel)) ggX12_bar_X12_dinAt
theorem dX12_bar_0 : decode cX12_bar 0 = .ok (.aload_n 0, 1) := by decide +kernel
theorem dX12_bar_1 : decode cX12_bar 1 = .ok (.getfield 37, 3) := by decide +kernel
theorem dX12_bar_4 : decode cX12_bar 4 = .ok (.bipush 30, 2) := by decide +kernel
theorem dX12_bar_6 : decode cX12_bar 6 = .ok (.iaload, 1) := by decide +kernel
theorem dX12_bar_7 : decode cX12_bar 7 = .ok (.i2f, 1) := by decide +kernel
theorem dX12_bar_8 : decode cX12_bar 8 = .ok (.ldc 160, 2) := by decide +kernel
theorem dX12_bar_10 : decode cX12_bar 10 = .ok (.fdiv, 1) := by decide +kernel
theorem dX12_bar_11 : decode cX12_bar 11 = .ok (.fstore_n 3, 1) := by decide +kernel
theorem dX12_bar_12 : decode cX12_bar 12 = .ok (.fload_n 3, 1) := by decide +kernel
theorem dX12_bar_13 : decode cX12_bar 13 = .ok (.aload_n 0, 1) := by decide +kernel
theorem dX12_bar_14 : decode cX12_bar 14 = .ok (.iload_n 1, 1) := by decide +kernel
theorem dX12_bar_15 : decode cX12_bar 15 = .ok (.iload_n 2, 1) := by decide +kernel
theorem dX12_bar_16 : decode cX12_bar 16 = .ok (.invokevirtual 184, 3) := by decide +kernel
theorem dX12_bar_19 : decode cX12_bar 19 = .ok (.fmul, 1) := by decide +kernel
theorem dX12_bar_20 : decode cX12_bar 20 = .ok (.freturn, 1) := by decide +kernel
set_option maxRecDepth 20000 in
theorem ggX12_unknownIn_X12_isUnknown : GoodIn wsX12_unknownIn wsX12_isUnknown := goodIn_r _ [6, 7, 15, 16, 17, 18, 19, 20, 21, 22, 23, 24, 25, 26, 27, 28, 29, 30, 31, 32, 33, 34, 35, 36, 37, 38, 39, 40, 41, 42, 43, 44] (by decide +kernel) (by decide +kernel)
set_option maxRecDepth 20000 in
theorem gX12_unknownIn_X12_isUnknown : GoodIn wsX12_unknownIn (wsV RX12 178 RX12 yX12_isUnknown wsX12_isUnknown) := goodIn_app (goodIn_of _ (by decide +kernel)) ggX12_unknownIn_X12_isUnknown
set_option maxRecDepth 20000 in
theorem ggX12_unknownIn_X12_hasCopy : GoodIn wsX12_unknownIn wsX12_hasCopy := goodIn_r _ [11, 7, 12, 13, 5, 14, 15, 16, 17, 18, 19, 20, 21, 22, 23, 24, 25, 26, 27, 28, 29, 30, 31, 32, 33, 34, 35, 36, 37, 38, 39, 40, 41, 42, 43, 44] (by decide +kernel) (by decide +kernel)
set_option maxRecDepth 20000 in
theorem gX12_unknownIn_X12_hasCopy : GoodIn wsX12_unknownIn (wsV RX12 181 RX12 yX12_hasCopy wsX12_hasCopy) := goodIn_app (goodIn_of _ (by decide +kernel)) ggX12_unknownIn_X12_hasCopy
theorem dX12_unknownIn_0 : decode cX12_unknownIn 0 = .ok (.iconst 0, 1) := by decide +kernel
theorem dX12_unknownIn_1 : decode cX12_unknownIn 1 = .ok (.istore_n 2, 1) := by decide +kernel
theorem dX12_unknownIn_2 : decode cX12_unknownIn 2 = .ok (.iconst 0, 1) := by decide +kernel
theorem dX12_unknownIn_3 : decode cX12_unknownIn 3 = .ok (.istore_n 3, 1) := by decide +kernel
theorem dX12_unknownIn_4 : decode cX12_unknownIn 4 = .ok (.iload_n 3, 1) := by decide +kernel
theorem dX12_unknownIn_5 : decode cX12_unknownIn 5 = .ok (.aload_n 0, 1) := by decide +kernel
theorem dX12_unknownIn_6 : decode cX12_unknownIn 6 = .ok (.getfield 148, 3) := by decide +kernel
theorem dX12_unknownIn_9 : decode cX12_unknownIn 9 = .ok (.if_icmp .ge 36, 3) := by decide +kernel
theorem dX12_unknownIn_12 : decode cX12_unknownIn 12 = .ok (.iload_n 2, 1) := by decide +kernel
theorem dX12_unknownIn_13 : decode cX12_unknownIn 13 = .ok (.aload_n 0, 1) := by decide +kernel
theorem dX12_unknownIn_14 : decode cX12_unknownIn 14 = .ok (.iload_n 3, 1) := by decide +kernel
theorem dX12_unknownIn_15 : decode cX12_unknownIn 15 = .ok (.invokevirtual 178, 3) := by decide +kernel
theorem dX12_unknownIn_18 : decode cX12_unknownIn 18 = .ok (.ifCond .eq 18, 3) := by decide +kernel
theorem dX12_unknownIn_21 : decode cX12_unknownIn 21 = .ok (.aload_n 0, 1) := by decide +kernel
theorem dX12_unknownIn_22 : decode cX12_unknownIn 22 = .ok (.iload_n 3, 1) := by decide +kernel
theorem dX12_unknownIn_23 : decode cX12_unknownIn 23 = .ok (.iload_n 1, 1) := by decide +kernel
theorem dX12_unknownIn_24 : decode cX12_unknownIn 24 = .ok (.invokevirtual 181, 3) := by decide +kernel
theorem dX12_unknownIn_27 : decode cX12_unknownIn 27 = .ok (.ifCond .eq 9, 3) := by decide +kernel
theorem dX12_unknownIn_30 : decode cX12_unknownIn 30 = .ok (.iconst 1, 1) := by decide +kernel
theorem dX12_unknownIn_31 : decode cX12_unknownIn 31 = .ok (.iload_n 3, 1) := by decide +kernel
theorem dX12_unknownIn_32 : decode cX12_unknownIn 32 = .ok (.ishl, 1) := by decide +kernel
theorem dX12_unknownIn_33 : decode cX12_unknownIn 33 = .ok (.goto 4, 3) := by decide +kernel
theorem dX12_unknownIn_36 : decode cX12_unknownIn 36 = .ok (.iconst 0, 1) := by decide +kernel
theorem dX12_unknownIn_37 : decode cX12_unknownIn 37 = .ok (.ior, 1) := by decide +kernel
theorem dX12_unknownIn_38 : decode cX12_unknownIn 38 = .ok (.istore_n 2, 1) := by decide +kernel
theorem dX12_unknownIn_39 : decode cX12_unknownIn 39 = .ok (.iinc 3 1, 3) := by decide +kernel
theorem dX12_unknownIn_42 : decode cX12_unknownIn 42 = .ok (.goto (-38), 3) := by decide +kernel
theorem dX12_unknownIn_45 : decode cX12_unknownIn 45 = .ok (.iload_n 2, 1) := by decide +kernel
theorem dX12_unknownIn_46 : decode cX12_unknownIn 46 = .ok (.ireturn, 1) := by decide +kernel
set_option maxRecDepth 20000 in
theorem ggX12_isClear_X12_isUnknown : GoodIn wsX12_isClear wsX12_isUnknown := goodIn_r _ [8, 2, 31, 32, 33, 34, 35, 36, 37, 38, 39, 40, 41, 42, 43, 44, 45, 46, 47, 48, 49, 50, 51, 52, 53, 54, 55, 56, 57, 58, 59, 60] (by decide +kernel) (by decide +kernel)
set_option maxRecDepth 20000 in
theorem gX12_isClear_X12_isUnknown : GoodIn wsX12_isClear (wsV RX12 178 RX12 yX12_isUnknown wsX12_isUnknown) := goodIn_app (goodIn_of _ (by decide +kernel)) ggX12_isClear_X12_isUnknown
set_option maxRecDepth 20000 in
theorem ggX12_isClear_X12_hasCopy : GoodIn wsX12_isClear wsX12_hasCopy := goodIn_r _ [12, 2, 13, 14, 7, 15, 31, 32, 33, 34, 35, 36, 37, 38, 39, 40, 41, 42, 43, 44, 45, 46, 47, 48, 49, 50, 51, 52, 53, 54, 55, 56, 57, 58, 59, 60] (by decide +kernel) (by decide +kernel)
set_option maxRecDepth 20000 in
theorem gX12_isClear_X12_hasCopy : GoodIn wsX12_isClear (wsV RX12 181 RX12 yX12_hasCopy wsX12_hasCopy) := goodIn_app (goodIn_of _ (by decide +kernel)) ggX12_isClear_X12_hasCopy
set_option maxRecDepth 20000 in
theorem ggX12_isClear_X12_unknownIn : GoodIn wsX12_isClear wsX12_unknownIn := goodIn_r _ [19, 20, 4, 5, 6, 7, 8, 2, 9, 10, 11, 12, 13, 14, 15, 31, 32, 33, 34, 35, 36, 37, 38, 39, 40, 41, 42, 43, 44, 45, 46, 47, 48, 49, 50, 51, 52, 53, 54, 55, 56, 57, 58, 59, 60] (by decide +kernel) (by decide +kernel)
set_option maxRecDepth 20000 in
theorem gX12_isClear_X12_unknownIn : GoodIn wsX12_isClear (wsV RX12 192 RX12 yX12_unknownIn wsX12_unknownIn) := goodIn_app (goodIn_of _ (by decide +kernel)) ggX12_isClear_X12_unknownIn
set_option maxRecDepth 20000 in
theorem ggX12_isClear_X12_bar : GoodIn wsX12_isClear wsX12_bar := goodIn_r _ [24, 2, 25, 26, 27, 28, 7, 29, 30, 20, 3, 4, 5, 6, 8, 9, 10, 11, 12, 13, 14, 15, 31, 32, 33, 34, 35, 36, 37, 38, 39, 40, 41, 42, 43, 44, 45, 46, 47, 48, 49, 50, 51, 52, 53, 54, 55, 56, 57, 58, 59, 60] (by decide +kernel) (by decide +kernel)
set_option maxRecDepth 20000 in
theorem gX12_isClear_X12_bar : GoodIn wsX12_isClear (wsV RX12 195 RX12 yX12_bar wsX12_bar) := goodIn_app (goodIn_of _ (by decide +kernel)) ggX12_isClear_X12_bar
theorem dX12_isClear_0 : decode cX12_isClear 0 = .ok (.aload_n 0, 1) := by decide +kernel
theorem dX12_isClear_1 : decode cX12_isClear 1 = .ok (.iload_n 1, 1) := by decide +kernel
theorem dX12_isClear_2 : decode cX12_isClear 2 = .ok (.invokevirtual 178, 3) := by decide +kernel
theorem dX12_isClear_5 : decode cX12_isClear 5 = .ok (.ifCond .eq 25, 3) := by decide +kernel
theorem dX12_isClear_8 : decode cX12_isClear 8 = .ok (.aload_n 0, 1) := by decide +kernel
theorem dX12_isClear_9 : decode cX12_isClear 9 = .ok (.iload_n 1, 1) := by decide +kernel
theorem dX12_isClear_10 : decode cX12_isClear 10 = .ok (.iload_n 2, 1) := by decide +kernel
theorem dX12_isClear_11 : decode cX12_isClear 11 = .ok (.invokevirtual 181, 3) := by decide +kernel
theorem dX12_isClear_14 : decode cX12_isClear 14 = .ok (.ifCond .eq 16, 3) := by decide +kernel
theorem dX12_isClear_17 : decode cX12_isClear 17 = .ok (.aload_n 0, 1) := by decide +kernel
theorem dX12_isClear_18 : decode cX12_isClear 18 = .ok (.getfield 188, 3) := by decide +kernel
theorem dX12_isClear_21 : decode cX12_isClear 21 = .ok (.iload_n 2, 1) := by decide +kernel
theorem dX12_isClear_22 : decode cX12_isClear 22 = .ok (.lshr, 1) := by decide +kernel
theorem dX12_isClear_23 : decode cX12_isClear 23 = .ok (.lconst 1, 1) := by decide +kernel
theorem dX12_isClear_24 : decode cX12_isClear 24 = .ok (.land, 1) := by decide +kernel
theorem dX12_isClear_25 : decode cX12_isClear 25 = .ok (.lconst 1, 1) := by decide +kernel
theorem dX12_isClear_26 : decode cX12_isClear 26 = .ok (.lcmp, 1) := by decide +kernel
theorem dX12_isClear_27 : decode cX12_isClear 27 = .ok (.ifCond .ne 5, 3) := by decide +kernel
theorem dX12_isClear_30 : decode cX12_isClear 30 = .ok (.iconst 0, 1) := by decide +kernel
theorem dX12_isClear_31 : decode cX12_isClear 31 = .ok (.ireturn, 1) := by decide +kernel
theorem dX12_isClear_32 : decode cX12_isClear 32 = .ok (.aload_n 0, 1) := by decide +kernel
theorem dX12_isClear_33 : decode cX12_isClear 33 = .ok (.getfield 37, 3) := by decide +kernel
theorem dX12_isClear_36 : decode cX12_isClear 36 = .ok (.bipush 30, 2) := by decide +kernel
theorem dX12_isClear_38 : decode cX12_isClear 38 = .ok (.iaload, 1) := by decide +kernel
theorem dX12_isClear_39 : decode cX12_isClear 39 = .ok (.ifCond .ne 22, 3) := by decide +kernel
theorem dX12_isClear_42 : decode cX12_isClear 42 = .ok (.aload_n 0, 1) := by decide +kernel
theorem dX12_isClear_43 : decode cX12_isClear 43 = .ok (.iload_n 2, 1) := by decide +kernel
theorem dX12_isClear_44 : decode cX12_isClear 44 = .ok (.invokevirtual 192, 3) := by decide +kernel
theorem dX12_isClear_47 : decode cX12_isClear 47 = .ok (.iconst 1, 1) := by decide +kernel
theorem dX12_isClear_48 : decode cX12_isClear 48 = .ok (.iload_n 1, 1) := by decide +kernel
theorem dX12_isClear_49 : decode cX12_isClear 49 = .ok (.ishl, 1) := by decide +kernel
theorem dX12_isClear_50 : decode cX12_isClear 50 = .ok (.if_icmp .ne 7, 3) := by decide +kernel
theorem dX12_isClear_53 : decode cX12_isClear 53 = .ok (.iconst 1, 1) := by decide +kernel
theorem dX12_isClear_54 : decode cX12_isClear 54 = .ok (.goto 28, 3) := by decide +kernel
theorem dX12_isClear_57 : decode cX12_isClear 57 = .ok (.iconst 0, 1) := by decide +kernel
theorem dX12_isClear_58 : decode cX12_isClear 58 = .ok (.goto 24, 3) := by decide +kernel
theorem dX12_isClear_61 : decode cX12_isClear 61 = .ok (.aload_n 0, 1) := by decide +kernel
theorem dX12_isClear_62 : decode cX12_isClear 62 = .ok (.getfield 43, 3) := by decide +kernel
theorem dX12_isClear_65 : decode cX12_isClear 65 = .ok (.iload_n 1, 1) := by decide +kernel
theorem dX12_isClear_66 : decode cX12_isClear 66 = .ok (.faload, 1) := by decide +kernel
theorem dX12_isClear_67 : decode cX12_isClear 67 = .ok (.aload_n 0, 1) := by decide +kernel
theorem dX12_isClear_68 : decode cX12_isClear 68 = .ok (.iload_n 1, 1) := by decide +kernel
theorem dX12_isClear_69 : decode cX12_isClear 69 = .ok (.iload_n 2, 1) := by decide +kernel
theorem dX12_isClear_70 : decode cX12_isClear 70 = .ok (.invokevirtual 195, 3) := by decide +kernel
theorem dX12_isClear_73 : decode cX12_isClear 73 = .ok (.fcmp .l, 1) := by decide +kernel
theorem dX12_isClear_74 : decode cX12_isClear 74 = .ok (.ifCond .lt 7, 3) := by decide +kernel
theorem dX12_isClear_77 : decode cX12_isClear 77 = .ok (.iconst 1, 1) := by decide +kernel
theorem dX12_isClear_78 : decode cX12_isClear 78 = .ok (.goto 4, 3) := by decide +kernel
theorem dX12_isClear_81 : decode cX12_isClear 81 = .ok (.iconst 0, 1) := by decide +kernel
theorem dX12_isClear_82 : decode cX12_isClear 82 = .ok (.ireturn, 1) := by decide +kernel
set_option maxRecDepth 20000 in
theorem ggX12_clearIn_X12_isClear : GoodIn wsX12_clearIn wsX12_isClear := goodIn_r _ [6, 7, 8, 9, 10, 11, 12, 5, 13, 14, 15, 16, 17, 18, 19, 20, 21, 22, 23, 24, 1, 25, 26, 27, 28, 29, 30, 31, 32, 33, 34, 35, 36, 37, 38, 39, 40, 41, 42, 43, 44, 45, 46, 47, 48, 49, 50, 51, 52, 53, 54, 55, 56, 57, 58, 59, 60, 61, 62, 63, 64] (by decide +kernel) (by decide +kernel)
set_option maxRecDepth 20000 in
theorem gX12_clearIn_X12_isClear : GoodIn wsX12_clearIn (wsV RX12 198 RX12 yX12_isClear wsX12_isClear) := goodIn_app (goodIn_of _ (by decide +kernel)) ggX12_clearIn_X12_isClear
theorem dX12_clearIn_0 : decode cX12_clearIn 0 = .ok (.iconst 0, 1) := by decide +kernel
theorem dX12_clearIn_1 : decode cX12_clearIn 1 = .ok (.istore_n 2, 1) := by decide +kernel
theorem dX12_clearIn_2 : decode cX12_clearIn 2 = .ok (.iconst 0, 1) := by decide +kernel
theorem dX12_clearIn_3 : decode cX12_clearIn 3 = .ok (.istore_n 3, 1) := by decide +kernel
theorem dX12_clearIn_4 : decode cX12_clearIn 4 = .ok (.iload_n 3, 1) := by decide +kernel
theorem dX12_clearIn_5 : decode cX12_clearIn 5 = .ok (.aload_n 0, 1) := by decide +kernel
theorem dX12_clearIn_6 : decode cX12_clearIn 6 = .ok (.getfield 148, 3) := by decide +kernel
theorem dX12_clearIn_9 : decode cX12_clearIn 9 = .ok (.if_icmp .ge 28, 3) := by decide +kernel
theorem dX12_clearIn_12 : decode cX12_clearIn 12 = .ok (.iload_n 2, 1) := by decide +kernel
theorem dX12_clearIn_13 : decode cX12_clearIn 13 = .ok (.aload_n 0, 1) := by decide +kernel
theorem dX12_clearIn_14 : decode cX12_clearIn 14 = .ok (.iload_n 3, 1) := by decide +kernel
theorem dX12_clearIn_15 : decode cX12_clearIn 15 = .ok (.iload_n 1, 1) := by decide +kernel
theorem dX12_clearIn_16 : decode cX12_clearIn 16 = .ok (.invokevirtual 198, 3) := by decide +kernel
theorem dX12_clearIn_19 : decode cX12_clearIn 19 = .ok (.ifCond .eq 9, 3) := by decide +kernel
theorem dX12_clearIn_22 : decode cX12_clearIn 22 = .ok (.iconst 1, 1) := by decide +kernel
theorem dX12_clearIn_23 : decode cX12_clearIn 23 = .ok (.iload_n 3, 1) := by decide +kernel
theorem dX12_clearIn_24 : decode cX12_clearIn 24 = .ok (.ishl, 1) := by decide +kernel
theorem dX12_clearIn_25 : decode cX12_clearIn 25 = .ok (.goto 4, 3) := by decide +kernel
theorem dX12_clearIn_28 : decode cX12_clearIn 28 = .ok (.iconst 0, 1) := by decide +kernel
theorem dX12_clearIn_29 : decode cX12_clearIn 29 = .ok (.ior, 1) := by decide +kernel
theorem dX12_clearIn_30 : decode cX12_clearIn 30 = .ok (.istore_n 2, 1) := by decide +kernel
theorem dX12_clearIn_31 : decode cX12_clearIn 31 = .ok (.iinc 3 1, 3) := by decide +kernel
theorem dX12_clearIn_34 : decode cX12_clearIn 34 = .ok (.goto (-30), 3) := by decide +kernel
theorem dX12_clearIn_37 : decode cX12_clearIn 37 = .ok (.iload_n 2, 1) := by decide +kernel
theorem dX12_clearIn_38 : decode cX12_clearIn 38 = .ok (.ireturn, 1) := by decide +kernel
set_option maxRecDepth 20000 in
theorem ggX12_lowestOf_X12_has : GoodIn wsX12_lowestOf wsX12_has := goodIn_r _ [4] (by decide +kernel) (by decide +kernel)
set_option maxRecDepth 20000 in
theorem gX12_lowestOf_X12_has : GoodIn wsX12_lowestOf (va_wsS RX12 107 yX12_has wsX12_has) := goodIn_app (goodIn_of _ (by decide +kernel)) ggX12_lowestOf_X12_has
theorem dX12_lowestOf_0 : decode cX12_lowestOf 0 = .ok (.iconst 0, 1) := by decide +kernel
theorem dX12_lowestOf_1 : decode cX12_lowestOf 1 = .ok (.istore_n 1, 1) := by decide +kernel
theorem dX12_lowestOf_2 : decode cX12_lowestOf 2 = .ok (.iload_n 0, 1) := by decide +kernel
theorem dX12_lowestOf_3 : decode cX12_lowestOf 3 = .ok (.iload_n 1, 1) := by decide +kernel
theorem dX12_lowestOf_4 : decode cX12_lowestOf 4 = .ok (.invokestatic 107, 3) := by decide +kernel
theorem dX12_lowestOf_7 : decode cX12_lowestOf 7 = .ok (.ifCond .ne 9, 3) := by decide +kernel
theorem dX12_lowestOf_10 : decode cX12_lowestOf 10 = .ok (.iinc 1 1, 3) := by decide +kernel
theorem dX12_lowestOf_13 : decode cX12_lowestOf 13 = .ok (.goto (-11), 3) := by decide +kernel
theorem dX12_lowestOf_16 : decode cX12_lowestOf 16 = .ok (.iload_n 1, 1) := by decide +kernel
theorem dX12_lowestOf_17 : decode cX12_lowestOf 17 = .ok (.ireturn, 1) := by decide +kernel
set_option maxRecDepth 20000 in
theorem ggX12_wayIn_X12_unknownIn : GoodIn wsX12_wayIn wsX12_unknownIn := goodIn_r _ [5, 6, 7, 8, 9, 4, 10, 11, 12, 13, 14, 15, 16, 17, 18, 19, 20, 21, 22, 23, 24, 25, 26, 27, 28, 29, 30, 31, 32, 33, 34, 35, 36, 37, 38, 39, 40, 41, 42, 43, 44, 45, 46, 47, 48] (by decide +kernel) (by decide +kernel)
set_option maxRecDepth 20000 in
theorem gX12_wayIn_X12_unknownIn : GoodIn wsX12_wayIn (wsV RX12 192 RX12 yX12_unknownIn wsX12_unknownIn) := goodIn_app (goodIn_of _ (by decide +kernel)) ggX12_wayIn_X12_unknownIn
theorem dX12_wayIn_0 : decode cX12_wayIn 0 = .ok (.aload_n 0, 1) := by decide +kernel
theorem dX12_wayIn_1 : decode cX12_wayIn 1 = .ok (.iload_n 2, 1) := by decide +kernel
theorem dX12_wayIn_2 : decode cX12_wayIn 2 = .ok (.invokevirtual 192, 3) := by decide +kernel
theorem dX12_wayIn_5 : decode cX12_wayIn 5 = .ok (.iconst 1, 1) := by decide +kernel
theorem dX12_wayIn_6 : decode cX12_wayIn 6 = .ok (.iload_n 1, 1) := by decide +kernel
theorem dX12_wayIn_7 : decode cX12_wayIn 7 = .ok (.ishl, 1) := by decide +kernel
theorem dX12_wayIn_8 : decode cX12_wayIn 8 = .ok (.if_icmp .ne 7, 3) := by decide +kernel
theorem dX12_wayIn_11 : decode cX12_wayIn 11 = .ok (.iconst 1, 1) := by decide +kernel
theorem dX12_wayIn_12 : decode cX12_wayIn 12 = .ok (.goto 4, 3) := by decide +kernel
theorem dX12_wayIn_15 : decode cX12_wayIn 15 = .ok (.iconst 2, 1) := by decide +kernel
theorem dX12_wayIn_16 : decode cX12_wayIn 16 = .ok (.ireturn, 1) := by decide +kernel
set_option maxRecDepth 20000 in
theorem ggX12_firstClear_X12_clearIn : GoodIn wsX12_firstClear wsX12_clearIn := goodIn_r _ [5, 6, 7, 8, 9, 4, 10, 11, 12, 13, 14, 15, 16, 17, 18, 19, 20, 21, 22, 23, 24, 25, 26, 27, 28, 29, 30, 31, 32, 33, 34, 35, 36, 37, 38, 39, 40, 41, 42, 43, 44, 45, 46, 47, 48, 49, 50, 51, 52, 53, 54, 55, 56, 57, 58, 59, 60, 61, 62, 63, 64, 65, 66, 67, 68] (by decide +kernel) (by decide +kernel)
set_option maxRecDepth 20000 in
theorem gX12_firstClear_X12_clearIn : GoodIn wsX12_firstClear (wsV RX12 201 RX12 yX12_clearIn wsX12_clearIn) := goodIn_app (goodIn_of _ (by decide +kernel)) ggX12_firstClear_X12_clearIn
theorem dX12_firstClear_0 : decode cX12_firstClear 0 = .ok (.iload_n 1, 1) := by decide +kernel
theorem dX12_firstClear_1 : decode cX12_firstClear 1 = .ok (.istore_n 3, 1) := by decide +kernel
theorem dX12_firstClear_2 : decode cX12_firstClear 2 = .ok (.iload_n 3, 1) := by decide +kernel
theorem dX12_firstClear_3 : decode cX12_firstClear 3 = .ok (.iload_n 2, 1) := by decide +kernel
theorem dX12_firstClear_4 : decode cX12_firstClear 4 = .ok (.if_icmp .ge 19, 3) := by decide +kernel
theorem dX12_firstClear_7 : decode cX12_firstClear 7 = .ok (.aload_n 0, 1) := by decide +kernel
theorem dX12_firstClear_8 : decode cX12_firstClear 8 = .ok (.iload_n 3, 1) := by decide +kernel
theorem dX12_firstClear_9 : decode cX12_firstClear 9 = .ok (.invokevirtual 201, 3) := by decide +kernel
theorem dX12_firstClear_12 : decode cX12_firstClear 12 = .ok (.ifCond .eq 5, 3) := by decide +kernel
theorem dX12_firstClear_15 : decode cX12_firstClear 15 = .ok (.iload_n 3, 1) := by decide +kernel
theorem dX12_firstClear_16 : decode cX12_firstClear 16 = .ok (.ireturn, 1) := by decide +kernel
theorem dX12_firstClear_17 : decode cX12_firstClear 17 = .ok (.iinc 3 1, 3) := by decide +kernel
theorem dX12_firstClear_20 : decode cX12_firstClear 20 = .ok (.goto (-18), 3) := by decide +kernel
theorem dX12_firstClear_23 : decode cX12_firstClear 23 = .ok (.iconst (-1), 1) := by decide +kernel
theorem dX12_firstClear_24 : decode cX12_firstClear 24 = .ok (.ireturn, 1) := by decide +kernel
set_option maxRecDepth 20000 in
theorem ggX12_peelNow_X12_firstClear : GoodIn wsX12_peelNow wsX12_firstClear := goodIn_r _ [6, 7, 8, 9, 5, 10, 11, 12, 13, 14, 15, 16, 1, 17, 18, 19, 20, 21, 22, 23, 24, 25, 26, 27, 28, 29, 30, 31, 32, 33, 34, 35, 36, 37, 38, 39, 40, 41, 42, 50, 51, 52, 53, 54, 55, 56, 57, 58, 59, 60, 61, 62, 63, 64, 65, 66, 67, 68, 69, 70, 71, 72, 73, 74, 75, 76, 77, 78, 79] (by decide +kernel) (by decide +kernel)
set_option maxRecDepth 20000 in
theorem gX12_peelNow_X12_firstClear : GoodIn wsX12_peelNow (wsV RX12 204 RX12 yX12_firstClear wsX12_firstClear) := goodIn_app (goodIn_of _ (by decide +kernel)) ggX12_peelNow_X12_firstClear
set_option maxRecDepth 20000 in
theorem ggX12_peelNow_X12_clearIn : GoodIn wsX12_peelNow wsX12_clearIn := goodIn_r _ [10, 11, 12, 13, 14, 5, 15, 16, 1, 17, 18, 19, 20, 21, 22, 23, 24, 25, 26, 27, 28, 29, 30, 31, 32, 33, 34, 35, 36, 37, 38, 39, 40, 41, 42, 50, 51, 52, 53, 54, 55, 56, 57, 58, 59, 60, 61, 62, 63, 64, 65, 66, 67, 68, 69, 70, 71, 72, 73, 74, 75, 76, 77, 78, 79] (by decide +kernel) (by decide +kernel)
set_option maxRecDepth 20000 in
theorem gX12_peelNow_X12_clearIn : GoodIn wsX12_peelNow (wsV RX12 201 RX12 yX12_clearIn wsX12_clearIn) := goodIn_app (goodIn_of _ (by decide +kernel)) ggX12_peelNow_X12_clearIn
set_option maxRecDepth 20000 in
theorem ggX12_peelNow_X12_lowestOf : GoodIn wsX12_peelNow wsX12_lowestOf := goodIn_r _ [45, 26, 27, 5, 28] (by decide +kernel) (by decide +kernel)
set_option maxRecDepth 20000 in
theorem gX12_peelNow_X12_lowestOf : GoodIn wsX12_peelNow (va_wsS RX12 207 yX12_lowestOf wsX12_lowestOf) := goodIn_app (goodIn_of _ (by decide +kernel)) ggX12_peelNow_X12_lowestOf
set_option maxRecDepth 20000 in
theorem ggX12_peelNow_X12_wayIn : GoodIn wsX12_peelNow wsX12_wayIn := goodIn_r _ [49, 29, 30, 31, 5, 32, 11, 18, 19, 20, 21, 1, 22, 23, 24, 25, 26, 27, 28, 50, 51, 52, 53, 54, 55, 56, 57, 58, 59, 60, 61, 62, 63, 64, 65, 66, 67, 68, 69, 70, 71, 72, 73, 74, 75, 76, 77, 78, 79] (by decide +kernel) (by decide +kernel)
set_option maxRecDepth 20000 in
theorem gX12_peelNow_X12_wayIn : GoodIn wsX12_peelNow (wsV RX12 210 RX12 yX12_wayIn wsX12_wayIn) := goodIn_app (goodIn_of _ (by decide +kernel)) ggX12_peelNow_X12_wayIn
theorem dX12_peelNow_0 : decode cX12_peelNow 0 = .ok (.aload_n 0, 1) := by decide +kernel
theorem dX12_peelNow_1 : decode cX12_peelNow 1 = .ok (.iload_n 1, 1) := by decide +kernel
theorem dX12_peelNow_2 : decode cX12_peelNow 2 = .ok (.iload_n 2, 1) := by decide +kernel
theorem dX12_peelNow_3 : decode cX12_peelNow 3 = .ok (.invokevirtual 204, 3) := by decide +kernel
theorem dX12_peelNow_6 : decode cX12_peelNow 6 = .ok (.istore_n 3, 1) := by decide +kernel
theorem dX12_peelNow_7 : decode cX12_peelNow 7 = .ok (.iload_n 3, 1) := by decide +kernel
theorem dX12_peelNow_8 : decode cX12_peelNow 8 = .ok (.iconst (-1), 1) := by decide +kernel
theorem dX12_peelNow_9 : decode cX12_peelNow 9 = .ok (.if_icmp .ne 5, 3) := by decide +kernel
theorem dX12_peelNow_12 : decode cX12_peelNow 12 = .ok (.iconst (-1), 1) := by decide +kernel
theorem dX12_peelNow_13 : decode cX12_peelNow 13 = .ok (.ireturn, 1) := by decide +kernel
theorem dX12_peelNow_14 : decode cX12_peelNow 14 = .ok (.aload_n 0, 1) := by decide +kernel
theorem dX12_peelNow_15 : decode cX12_peelNow 15 = .ok (.iload_n 3, 1) := by decide +kernel
theorem dX12_peelNow_16 : decode cX12_peelNow 16 = .ok (.invokevirtual 201, 3) := by decide +kernel
theorem dX12_peelNow_19 : decode cX12_peelNow 19 = .ok (.invokestatic 207, 3) := by decide +kernel
theorem dX12_peelNow_22 : decode cX12_peelNow 22 = .ok (.istore 4, 2) := by decide +kernel
theorem dX12_peelNow_24 : decode cX12_peelNow 24 = .ok (.aload_n 0, 1) := by decide +kernel
theorem dX12_peelNow_25 : decode cX12_peelNow 25 = .ok (.getfield 37, 3) := by decide +kernel
theorem dX12_peelNow_28 : decode cX12_peelNow 28 = .ok (.iconst 0, 1) := by decide +kernel
theorem dX12_peelNow_29 : decode cX12_peelNow 29 = .ok (.iload 4, 2) := by decide +kernel
theorem dX12_peelNow_31 : decode cX12_peelNow 31 = .ok (.iadd, 1) := by decide +kernel
theorem dX12_peelNow_32 : decode cX12_peelNow 32 = .ok (.aload_n 0, 1) := by decide +kernel
theorem dX12_peelNow_33 : decode cX12_peelNow 33 = .ok (.iload 4, 2) := by decide +kernel
theorem dX12_peelNow_35 : decode cX12_peelNow 35 = .ok (.iload_n 3, 1) := by decide +kernel
theorem dX12_peelNow_36 : decode cX12_peelNow 36 = .ok (.invokevirtual 210, 3) := by decide +kernel
theorem dX12_peelNow_39 : decode cX12_peelNow 39 = .ok (.iastore, 1) := by decide +kernel
theorem dX12_peelNow_40 : decode cX12_peelNow 40 = .ok (.iload 4, 2) := by decide +kernel
theorem dX12_peelNow_42 : decode cX12_peelNow 42 = .ok (.ireturn, 1) := by decide +kernel
set_option maxRecDepth 20000 in
theorem ggX12_roundNow_X12_slotMany : GoodIn wsX12_roundNow wsX12_slotMany := goodIn_r _ [8, 9, 10, 11, 12, 7, 13, 1, 52, 53, 54, 55, 56, 57, 58, 59, 60, 61, 62, 63, 64, 65, 66, 67, 68, 69, 70, 71, 72, 73, 74, 75, 76, 77, 78, 79, 80, 81] (by decide +kernel) (by decide +kernel)
set_option maxRecDepth 20000 in
theorem gX12_roundNow_X12_slotMany : GoodIn wsX12_roundNow (wsV RX12 154 RX12 yX12_slotMany wsX12_slotMany) := goodIn_app (goodIn_of _ (by decide +kernel)) ggX12_roundNow_X12_slotMany
set_option maxRecDepth 20000 in
theorem ggX12_roundNow_X12_clearIn : GoodIn wsX12_roundNow wsX12_clearIn := goodIn_r _ [17, 1, 18, 19, 20, 7, 21, 22, 3, 23, 24, 25, 26, 27, 28, 29, 30, 31, 32, 33, 34, 35, 36, 37, 38, 39, 40, 41, 42, 43, 44, 45, 46, 47, 9, 52, 53, 54, 55, 56, 57, 58, 59, 60, 61, 62, 63, 64, 65, 66, 67, 68, 69, 70, 71, 72, 73, 74, 75, 76, 77, 78, 79, 80, 81] (by decide +kernel) (by decide +kernel)
set_option maxRecDepth 20000 in
theorem gX12_roundNow_X12_clearIn : GoodIn wsX12_roundNow (wsV RX12 201 RX12 yX12_clearIn wsX12_clearIn) := goodIn_app (goodIn_of _ (by decide +kernel)) ggX12_roundNow_X12_clearIn
set_option maxRecDepth 20000 in
theorem ggX12_roundNow_X12_has : GoodIn wsX12_roundNow wsX12_has := goodIn_r _ [34] (by decide +kernel) (by decide +kernel)
set_option maxRecDepth 20000 in
theorem gX12_roundNow_X12_has : GoodIn wsX12_roundNow (va_wsS RX12 107 yX12_has wsX12_has) := goodIn_app (goodIn_of _ (by decide +kernel)) ggX12_roundNow_X12_has
set_option maxRecDepth 20000 in
theorem ggX12_roundNow_X12_wayIn : GoodIn wsX12_roundNow wsX12_wayIn := goodIn_r _ [51, 35, 36, 37, 7, 38, 1, 24, 25, 26, 27, 3, 28, 29, 30, 31, 32, 33, 34, 52, 53, 54, 55, 56, 57, 58, 59, 60, 61, 62, 63, 64, 65, 66, 67, 68, 69, 70, 71, 72, 73, 74, 75, 76, 77, 78, 79, 80, 81] (by decide +kernel) (by decide +kernel)
set_option maxRecDepth 20000 in
theorem gX12_roundNow_X12_wayIn : GoodIn wsX12_roundNow (wsV RX12 210 RX12 yX12_wayIn wsX12_wayIn) := goodIn_app (goodIn_of _ (by decide +kernel)) ggX12_roundNow_X12_wayIn
theorem dX12_roundNow_0 : decode cX12_roundNow 0 = .ok (.iconst 0, 1) := by decide +kernel
theorem dX12_roundNow_1 : decode cX12_roundNow 1 = .ok (.istore_n 1, 1) := by decide +kernel
theorem dX12_roundNow_2 : decode cX12_roundNow 2 = .ok (.iload_n 1, 1) := by decide +kernel
theorem dX12_roundNow_3 : decode cX12_roundNow 3 = .ok (.aload_n 0, 1) := by decide +kernel
theorem dX12_roundNow_4 : decode cX12_roundNow 4 = .ok (.getfield 148, 3) := by decide +kernel
theorem dX12_roundNow_7 : decode cX12_roundNow 7 = .ok (.if_icmp .ge 16, 3) := by decide +kernel
theorem dX12_roundNow_10 : decode cX12_roundNow 10 = .ok (.aload_n 0, 1) := by decide +kernel
theorem dX12_roundNow_11 : decode cX12_roundNow 11 = .ok (.getfield 47, 3) := by decide +kernel
theorem dX12_roundNow_14 : decode cX12_roundNow 14 = .ok (.iload_n 1, 1) := by decide +kernel
theorem dX12_roundNow_15 : decode cX12_roundNow 15 = .ok (.iconst 0, 1) := by decide +kernel
theorem dX12_roundNow_16 : decode cX12_roundNow 16 = .ok (.iastore, 1) := by decide +kernel
theorem dX12_roundNow_17 : decode cX12_roundNow 17 = .ok (.iinc 1 1, 3) := by decide +kernel
theorem dX12_roundNow_20 : decode cX12_roundNow 20 = .ok (.goto (-18), 3) := by decide +kernel
theorem dX12_roundNow_23 : decode cX12_roundNow 23 = .ok (.aload_n 0, 1) := by decide +kernel
theorem dX12_roundNow_24 : decode cX12_roundNow 24 = .ok (.invokevirtual 154, 3) := by decide +kernel
theorem dX12_roundNow_27 : decode cX12_roundNow 27 = .ok (.iconst 1, 1) := by decide +kernel
theorem dX12_roundNow_28 : decode cX12_roundNow 28 = .ok (.isub, 1) := by decide +kernel
theorem dX12_roundNow_29 : decode cX12_roundNow 29 = .ok (.istore_n 1, 1) := by decide +kernel
theorem dX12_roundNow_30 : decode cX12_roundNow 30 = .ok (.iload_n 1, 1) := by decide +kernel
theorem dX12_roundNow_31 : decode cX12_roundNow 31 = .ok (.ifCond .lt 60, 3) := by decide +kernel
theorem dX12_roundNow_34 : decode cX12_roundNow 34 = .ok (.aload_n 0, 1) := by decide +kernel
theorem dX12_roundNow_35 : decode cX12_roundNow 35 = .ok (.iload_n 1, 1) := by decide +kernel
theorem dX12_roundNow_36 : decode cX12_roundNow 36 = .ok (.invokevirtual 201, 3) := by decide +kernel
theorem dX12_roundNow_39 : decode cX12_roundNow 39 = .ok (.istore_n 2, 1) := by decide +kernel
theorem dX12_roundNow_40 : decode cX12_roundNow 40 = .ok (.iconst 0, 1) := by decide +kernel
theorem dX12_roundNow_41 : decode cX12_roundNow 41 = .ok (.istore_n 3, 1) := by decide +kernel
theorem dX12_roundNow_42 : decode cX12_roundNow 42 = .ok (.iload_n 3, 1) := by decide +kernel
theorem dX12_roundNow_43 : decode cX12_roundNow 43 = .ok (.aload_n 0, 1) := by decide +kernel
theorem dX12_roundNow_44 : decode cX12_roundNow 44 = .ok (.getfield 148, 3) := by decide +kernel
theorem dX12_roundNow_47 : decode cX12_roundNow 47 = .ok (.if_icmp .ge 38, 3) := by decide +kernel
theorem dX12_roundNow_50 : decode cX12_roundNow 50 = .ok (.aload_n 0, 1) := by decide +kernel
theorem dX12_roundNow_51 : decode cX12_roundNow 51 = .ok (.getfield 47, 3) := by decide +kernel
theorem dX12_roundNow_54 : decode cX12_roundNow 54 = .ok (.iload_n 3, 1) := by decide +kernel
theorem dX12_roundNow_55 : decode cX12_roundNow 55 = .ok (.iload_n 2, 1) := by decide +kernel
theorem dX12_roundNow_56 : decode cX12_roundNow 56 = .ok (.iload_n 3, 1) := by decide +kernel
theorem dX12_roundNow_57 : decode cX12_roundNow 57 = .ok (.invokestatic 107, 3) := by decide +kernel
theorem dX12_roundNow_60 : decode cX12_roundNow 60 = .ok (.ifCond .eq 12, 3) := by decide +kernel
theorem dX12_roundNow_63 : decode cX12_roundNow 63 = .ok (.aload_n 0, 1) := by decide +kernel
theorem dX12_roundNow_64 : decode cX12_roundNow 64 = .ok (.iload_n 3, 1) := by decide +kernel
theorem dX12_roundNow_65 : decode cX12_roundNow 65 = .ok (.iload_n 1, 1) := by decide +kernel
theorem dX12_roundNow_66 : decode cX12_roundNow 66 = .ok (.invokevirtual 210, 3) := by decide +kernel
theorem dX12_roundNow_69 : decode cX12_roundNow 69 = .ok (.goto 9, 3) := by decide +kernel
theorem dX12_roundNow_72 : decode cX12_roundNow 72 = .ok (.aload_n 0, 1) := by decide +kernel
theorem dX12_roundNow_73 : decode cX12_roundNow 73 = .ok (.getfield 47, 3) := by decide +kernel
theorem dX12_roundNow_76 : decode cX12_roundNow 76 = .ok (.iload_n 3, 1) := by decide +kernel
theorem dX12_roundNow_77 : decode cX12_roundNow 77 = .ok (.iaload, 1) := by decide +kernel
theorem dX12_roundNow_78 : decode cX12_roundNow 78 = .ok (.iastore, 1) := by decide +kernel
theorem dX12_roundNow_79 : decode cX12_roundNow 79 = .ok (.iinc 3 1, 3) := by decide +kernel
theorem dX12_roundNow_82 : decode cX12_roundNow 82 = .ok (.goto (-40), 3) := by decide +kernel
theorem dX12_roundNow_85 : decode cX12_roundNow 85 = .ok (.iinc 1 (-1), 3) := by decide +kernel
theorem dX12_roundNow_88 : decode cX12_roundNow 88 = .ok (.goto (-58), 3) := by decide +kernel
theorem dX12_roundNow_91 : decode cX12_roundNow 91 = .ok (.iconst 0, 1) := by decide +kernel
theorem dX12_roundNow_92 : decode cX12_roundNow 92 = .ok (.istore_n 1, 1) := by decide +kernel
theorem dX12_roundNow_93 : decode cX12_roundNow 93 = .ok (.iconst 0, 1) := by decide +kernel
theorem dX12_roundNow_94 : decode cX12_roundNow 94 = .ok (.istore_n 2, 1) := by decide +kernel
theorem dX12_roundNow_95 : decode cX12_roundNow 95 = .ok (.iload_n 2, 1) := by decide +kernel
theorem dX12_roundNow_96 : decode cX12_roundNow 96 = .ok (.aload_n 0, 1) := by decide +kernel
theorem dX12_roundNow_97 : decode cX12_roundNow 97 = .ok (.getfield 148, 3) := by decide +kernel
theorem dX12_roundNow_100 : decode cX12_roundNow 100 = .ok (.if_icmp .ge 35, 3) := by decide +kernel
theorem dX12_roundNow_103 : decode cX12_roundNow 103 = .ok (.aload_n 0, 1) := by decide +kernel
theorem dX12_roundNow_104 : decode cX12_roundNow 104 = .ok (.getfield 47, 3) := by decide +kernel
theorem dX12_roundNow_107 : decode cX12_roundNow 107 = .ok (.iload_n 2, 1) := by decide +kernel
theorem dX12_roundNow_108 : decode cX12_roundNow 108 = .ok (.iaload, 1) := by decide +kernel
theorem dX12_roundNow_109 : decode cX12_roundNow 109 = .ok (.ifCond .le 20, 3) := by decide +kernel
theorem dX12_roundNow_112 : decode cX12_roundNow 112 = .ok (.aload_n 0, 1) := by decide +kernel
theorem dX12_roundNow_113 : decode cX12_roundNow 113 = .ok (.getfield 37, 3) := by decide +kernel
theorem dX12_roundNow_116 : decode cX12_roundNow 116 = .ok (.iconst 0, 1) := by decide +kernel
theorem dX12_roundNow_117 : decode cX12_roundNow 117 = .ok (.iload_n 2, 1) := by decide +kernel
theorem dX12_roundNow_118 : decode cX12_roundNow 118 = .ok (.iadd, 1) := by decide +kernel
theorem dX12_roundNow_119 : decode cX12_roundNow 119 = .ok (.aload_n 0, 1) := by decide +kernel
theorem dX12_roundNow_120 : decode cX12_roundNow 120 = .ok (.getfield 47, 3) := by decide +kernel
theorem dX12_roundNow_123 : decode cX12_roundNow 123 = .ok (.iload_n 2, 1) := by decide +kernel
theorem dX12_roundNow_124 : decode cX12_roundNow 124 = .ok (.iaload, 1) := by decide +kernel
theorem dX12_roundNow_125 : decode cX12_roundNow 125 = .ok (.iastore, 1) := by decide +kernel
theorem dX12_roundNow_126 : decode cX12_roundNow 126 = .ok (.iinc 1 1, 3) := by decide +kernel
theorem dX12_roundNow_129 : decode cX12_roundNow 129 = .ok (.iinc 2 1, 3) := by decide +kernel
theorem dX12_roundNow_132 : decode cX12_roundNow 132 = .ok (.goto (-37), 3) := by decide +kernel
theorem dX12_roundNow_135 : decode cX12_roundNow 135 = .ok (.iload_n 1, 1) := by decide +kernel
theorem dX12_roundNow_136 : decode cX12_roundNow 136 = .ok (.ireturn, 1) := by decide +kernel
set_option maxRecDepth 20000 in
theorem ggX12_knownSet_X12_isUnknown : GoodIn wsX12_knownSet wsX12_isUnknown := goodIn_r _ [6, 7, 8, 9, 10, 11, 12, 13, 14, 15, 16, 17, 18, 19, 20, 21, 22, 23, 24, 25, 26, 27, 28, 29, 30, 31, 32, 33, 34, 35, 36, 37] (by decide +kernel) (by decide +kernel)
set_option maxRecDepth 20000 in
theorem gX12_knownSet_X12_isUnknown : GoodIn wsX12_knownSet (wsV RX12 178 RX12 yX12_isUnknown wsX12_isUnknown) := goodIn_app (goodIn_of _ (by decide +kernel)) ggX12_knownSet_X12_isUnknown
theorem dX12_knownSet_0 : decode cX12_knownSet 0 = .ok (.iconst 0, 1) := by decide +kernel
theorem dX12_knownSet_1 : decode cX12_knownSet 1 = .ok (.istore_n 1, 1) := by decide +kernel
theorem dX12_knownSet_2 : decode cX12_knownSet 2 = .ok (.iconst 0, 1) := by decide +kernel
theorem dX12_knownSet_3 : decode cX12_knownSet 3 = .ok (.istore_n 2, 1) := by decide +kernel
theorem dX12_knownSet_4 : decode cX12_knownSet 4 = .ok (.iload_n 2, 1) := by decide +kernel
theorem dX12_knownSet_5 : decode cX12_knownSet 5 = .ok (.aload_n 0, 1) := by decide +kernel
theorem dX12_knownSet_6 : decode cX12_knownSet 6 = .ok (.getfield 148, 3) := by decide +kernel
theorem dX12_knownSet_9 : decode cX12_knownSet 9 = .ok (.if_icmp .ge 27, 3) := by decide +kernel
theorem dX12_knownSet_12 : decode cX12_knownSet 12 = .ok (.iload_n 1, 1) := by decide +kernel
theorem dX12_knownSet_13 : decode cX12_knownSet 13 = .ok (.aload_n 0, 1) := by decide +kernel
theorem dX12_knownSet_14 : decode cX12_knownSet 14 = .ok (.iload_n 2, 1) := by decide +kernel
theorem dX12_knownSet_15 : decode cX12_knownSet 15 = .ok (.invokevirtual 178, 3) := by decide +kernel
theorem dX12_knownSet_18 : decode cX12_knownSet 18 = .ok (.ifCond .eq 7, 3) := by decide +kernel
theorem dX12_knownSet_21 : decode cX12_knownSet 21 = .ok (.iconst 0, 1) := by decide +kernel
theorem dX12_knownSet_22 : decode cX12_knownSet 22 = .ok (.goto 6, 3) := by decide +kernel
theorem dX12_knownSet_25 : decode cX12_knownSet 25 = .ok (.iconst 1, 1) := by decide +kernel
theorem dX12_knownSet_26 : decode cX12_knownSet 26 = .ok (.iload_n 2, 1) := by decide +kernel
theorem dX12_knownSet_27 : decode cX12_knownSet 27 = .ok (.ishl, 1) := by decide +kernel
theorem dX12_knownSet_28 : decode cX12_knownSet 28 = .ok (.ior, 1) := by decide +kernel
theorem dX12_knownSet_29 : decode cX12_knownSet 29 = .ok (.istore_n 1, 1) := by decide +kernel
theorem dX12_knownSet_30 : decode cX12_knownSet 30 = .ok (.iinc 2 1, 3) := by decide +kernel
theorem dX12_knownSet_33 : decode cX12_knownSet 33 = .ok (.goto (-29), 3) := by decide +kernel
theorem dX12_knownSet_36 : decode cX12_knownSet 36 = .ok (.iload_n 1, 1) := by decide +kernel
theorem dX12_knownSet_37 : decode cX12_knownSet 37 = .ok (.ireturn, 1) := by decide +kernel
theorem dX12_everybody_0 : decode cX12_everybody 0 = .ok (.iconst 1, 1) := by decide +kernel
theorem dX12_everybody_1 : decode cX12_everybody 1 = .ok (.aload_n 0, 1) := by decide +kernel
theorem dX12_everybody_2 : decode cX12_everybody 2 = .ok (.getfield 148, 3) := by decide +kernel
theorem dX12_everybody_5 : decode cX12_everybody 5 = .ok (.ishl, 1) := by decide +kernel
theorem dX12_everybody_6 : decode cX12_everybody 6 = .ok (.iconst 1, 1) := by decide +kernel
theorem dX12_everybody_7 : decode cX12_everybody 7 = .ok (.isub, 1) := by decide +kernel
theorem dX12_everybody_8 : decode cX12_everybody 8 = .ok (.ireturn, 1) := by decide +kernel
set_option maxRecDepth 20000 in
theorem ggX12_knownMany_X12_knownSet : GoodIn wsX12_knownMany wsX12_knownSet := goodIn_r _ [5, 6, 7, 8, 9, 4, 10, 11, 15, 16, 17, 18, 19, 20, 21, 22, 23, 24, 25, 26, 27, 28, 29, 30, 31, 32, 33, 34, 35, 36, 37, 38, 39, 40, 41, 42, 43, 44] (by decide +kernel) (by decide +kernel)
set_option maxRecDepth 20000 in
theorem gX12_knownMany_X12_knownSet : GoodIn wsX12_knownMany (wsV RX12 213 RX12 yX12_knownSet wsX12_knownSet) := goodIn_app (goodIn_of _ (by decide +kernel)) ggX12_knownMany_X12_knownSet
set_option maxRecDepth 20000 in
theorem ggX12_knownMany_X12_bits : GoodIn wsX12_knownMany wsX12_bits := goodIn_r _ [14] (by decide +kernel) (by decide +kernel)
set_option maxRecDepth 20000 in
theorem gX12_knownMany_X12_bits : GoodIn wsX12_knownMany (va_wsS RX12 157 yX12_bits wsX12_bits) := goodIn_app (goodIn_of _ (by decide +kernel)) ggX12_knownMany_X12_bits
theorem dX12_knownMany_0 : decode cX12_knownMany 0 = .ok (.aload_n 0, 1) := by decide +kernel
theorem dX12_knownMany_1 : decode cX12_knownMany 1 = .ok (.invokevirtual 213, 3) := by decide +kernel
theorem dX12_knownMany_4 : decode cX12_knownMany 4 = .ok (.invokestatic 157, 3) := by decide +kernel
theorem dX12_knownMany_7 : decode cX12_knownMany 7 = .ok (.ireturn, 1) := by decide +kernel
set_option maxRecDepth 20000 in
theorem ggX12_solveNow_X12_roundNow : GoodIn wsX12_solveNow wsX12_roundNow := goodIn_r _ [5, 6, 7, 8, 9, 10, 11, 4, 12, 13, 14, 15, 16, 17, 18, 19, 20, 21, 22, 23, 24, 25, 26, 27, 28, 29, 30, 31, 32, 33, 34, 35, 36, 37, 38, 39, 40, 41, 42, 43, 44, 45, 46, 47, 48, 49, 50, 51, 52, 53, 54, 55, 56, 57, 58, 59, 60, 61, 62, 63, 64, 65, 66, 67, 68, 69, 70, 71, 72, 73, 74, 75, 76, 77, 78, 79, 80, 81, 82, 83, 84, 85] (by decide +kernel) (by decide +kernel)
set_option maxRecDepth 20000 in
theorem gX12_solveNow_X12_roundNow : GoodIn wsX12_solveNow (wsV RX12 216 RX12 yX12_roundNow wsX12_roundNow) := goodIn_app (goodIn_of _ (by decide +kernel)) ggX12_solveNow_X12_roundNow
theorem dX12_solveNow_0 : decode cX12_solveNow 0 = .ok (.iconst 0, 1) := by decide +kernel
theorem dX12_solveNow_1 : decode cX12_solveNow 1 = .ok (.istore_n 1, 1) := by decide +kernel
theorem dX12_solveNow_2 : decode cX12_solveNow 2 = .ok (.aload_n 0, 1) := by decide +kernel
theorem dX12_solveNow_3 : decode cX12_solveNow 3 = .ok (.invokevirtual 216, 3) := by decide +kernel
theorem dX12_solveNow_6 : decode cX12_solveNow 6 = .ok (.ifCond .le 9, 3) := by decide +kernel
theorem dX12_solveNow_9 : decode cX12_solveNow 9 = .ok (.iinc 1 1, 3) := by decide +kernel
theorem dX12_solveNow_12 : decode cX12_solveNow 12 = .ok (.goto (-10), 3) := by decide +kernel
theorem dX12_solveNow_15 : decode cX12_solveNow 15 = .ok (.iload_n 1, 1) := by decide +kernel
theorem dX12_solveNow_16 : decode cX12_solveNow 16 = .ok (.ireturn, 1) := by decide +kernel
theorem dX12_keep_0 : decode cX12_keep 0 = .ok (.aload_n 0, 1) := by decide +kernel
theorem dX12_keep_1 : decode cX12_keep 1 = .ok (.getfield 165, 3) := by decide +kernel
theorem dX12_keep_4 : decode cX12_keep 4 = .ok (.bipush 40, 2) := by decide +kernel
theorem dX12_keep_6 : decode cX12_keep 6 = .ok (.if_icmp .ne 46, 3) := by decide +kernel
theorem dX12_keep_9 : decode cX12_keep 9 = .ok (.sipush 245, 3) := by decide +kernel
theorem dX12_keep_12 : decode cX12_keep 12 = .ok (.istore_n 1, 1) := by decide +kernel
theorem dX12_keep_13 : decode cX12_keep 13 = .ok (.iload_n 1, 1) := by decide +kernel
theorem dX12_keep_14 : decode cX12_keep 14 = .ok (.sipush 9800, 3) := by decide +kernel
theorem dX12_keep_17 : decode cX12_keep 17 = .ok (.if_icmp .ge 25, 3) := by decide +kernel
theorem dX12_keep_20 : decode cX12_keep 20 = .ok (.aload_n 0, 1) := by decide +kernel
theorem dX12_keep_21 : decode cX12_keep 21 = .ok (.getfield 50, 3) := by decide +kernel
theorem dX12_keep_24 : decode cX12_keep 24 = .ok (.iload_n 1, 1) := by decide +kernel
theorem dX12_keep_25 : decode cX12_keep 25 = .ok (.sipush 245, 3) := by decide +kernel
theorem dX12_keep_28 : decode cX12_keep 28 = .ok (.isub, 1) := by decide +kernel
theorem dX12_keep_29 : decode cX12_keep 29 = .ok (.aload_n 0, 1) := by decide +kernel
theorem dX12_keep_30 : decode cX12_keep 30 = .ok (.getfield 50, 3) := by decide +kernel
theorem dX12_keep_33 : decode cX12_keep 33 = .ok (.iload_n 1, 1) := by decide +kernel
theorem dX12_keep_34 : decode cX12_keep 34 = .ok (.iaload, 1) := by decide +kernel
theorem dX12_keep_35 : decode cX12_keep 35 = .ok (.iastore, 1) := by decide +kernel
theorem dX12_keep_36 : decode cX12_keep 36 = .ok (.iinc 1 1, 3) := by decide +kernel
theorem dX12_keep_39 : decode cX12_keep 39 = .ok (.goto (-26), 3) := by decide +kernel
theorem dX12_keep_42 : decode cX12_keep 42 = .ok (.aload_n 0, 1) := by decide +kernel
theorem dX12_keep_43 : decode cX12_keep 43 = .ok (.dup, 1) := by decide +kernel
theorem dX12_keep_44 : decode cX12_keep 44 = .ok (.getfield 165, 3) := by decide +kernel
theorem dX12_keep_47 : decode cX12_keep 47 = .ok (.iconst 1, 1) := by decide +kernel
theorem dX12_keep_48 : decode cX12_keep 48 = .ok (.isub, 1) := by decide +kernel
theorem dX12_keep_49 : decode cX12_keep 49 = .ok (.putfield 165, 3) := by decide +kernel
theorem dX12_keep_52 : decode cX12_keep 52 = .ok (.iconst 0, 1) := by decide +kernel
theorem dX12_keep_53 : decode cX12_keep 53 = .ok (.istore_n 1, 1) := by decide +kernel
theorem dX12_keep_54 : decode cX12_keep 54 = .ok (.iload_n 1, 1) := by decide +kernel
theorem dX12_keep_55 : decode cX12_keep 55 = .ok (.sipush 245, 3) := by decide +kernel
theorem dX12_keep_58 : decode cX12_keep 58 = .ok (.if_icmp .ge 30, 3) := by decide +kernel
theorem dX12_keep_61 : decode cX12_keep 61 = .ok (.aload_n 0, 1) := by decide +kernel
theorem dX12_keep_62 : decode cX12_keep 62 = .ok (.getfield 50, 3) := by decide +kernel
theorem dX12_keep_65 : decode cX12_keep 65 = .ok (.sipush 245, 3) := by decide +kernel
theorem dX12_keep_68 : decode cX12_keep 68 = .ok (.aload_n 0, 1) := by decide +kernel
theorem dX12_keep_69 : decode cX12_keep 69 = .ok (.getfield 165, 3) := by decide +kernel
theorem dX12_keep_72 : decode cX12_keep 72 = .ok (.imul, 1) := by decide +kernel
theorem dX12_keep_73 : decode cX12_keep 73 = .ok (.iload_n 1, 1) := by decide +kernel
theorem dX12_keep_74 : decode cX12_keep 74 = .ok (.iadd, 1) := by decide +kernel
theorem dX12_keep_75 : decode cX12_keep 75 = .ok (.aload_n 0, 1) := by decide +kernel
theorem dX12_keep_76 : decode cX12_keep 76 = .ok (.getfield 37, 3) := by decide +kernel
theorem dX12_keep_79 : decode cX12_keep 79 = .ok (.iload_n 1, 1) := by decide +kernel
theorem dX12_keep_80 : decode cX12_keep 80 = .ok (.iaload, 1) := by decide +kernel
theorem dX12_keep_81 : decode cX12_keep 81 = .ok (.iastore, 1) := by decide +kernel
theorem dX12_keep_82 : decode cX12_keep 82 = .ok (.iinc 1 1, 3) := by decide +kernel
theorem dX12_keep_85 : decode cX12_keep 85 = .ok (.goto (-31), 3) := by decide +kernel
theorem dX12_keep_88 : decode cX12_keep 88 = .ok (.aload_n 0, 1) := by decide +kernel
theorem dX12_keep_89 : decode cX12_keep 89 = .ok (.dup, 1) := by decide +kernel
theorem dX12_keep_90 : decode cX12_keep 90 = .ok (.getfield 165, 3) := by decide +kernel
theorem dX12_keep_93 : decode cX12_keep 93 = .ok (.iconst 1, 1) := by decide +kernel
theorem dX12_keep_94 : decode cX12_keep 94 = .ok (.iadd, 1) := by decide +kernel
theorem dX12_keep_95 : decode cX12_keep 95 = .ok (.putfield 165, 3) := by decide +kernel
theorem dX12_keep_98 : decode cX12_keep 98 = .ok (.return_, 1) := by decide +kernel
set_option maxRecDepth 20000 in
theorem ggX12_note_X12_knownMany : GoodIn wsX12_note wsX12_knownMany := goodIn_r _ [6, 7, 8, 9, 5, 10, 11, 12, 13, 14, 15, 1, 16, 17, 18, 19, 20, 21, 22, 23, 24, 25, 26, 27, 28, 29, 30, 31, 32, 33, 34, 35, 36, 37, 38, 39, 40, 41, 42, 43, 44, 45, 46, 47, 48] (by decide +kernel) (by decide +kernel)
set_option maxRecDepth 20000 in
theorem gX12_note_X12_knownMany : GoodIn wsX12_note (wsV RX12 219 RX12 yX12_knownMany wsX12_knownMany) := goodIn_app (goodIn_of _ (by decide +kernel)) ggX12_note_X12_knownMany
theorem dX12_note_0 : decode cX12_note 0 = .ok (.aload_n 0, 1) := by decide +kernel
theorem dX12_note_1 : decode cX12_note 1 = .ok (.getfield 37, 3) := by decide +kernel
theorem dX12_note_4 : decode cX12_note 4 = .ok (.bipush 64, 2) := by decide +kernel
theorem dX12_note_6 : decode cX12_note 6 = .ok (.iaload, 1) := by decide +kernel
theorem dX12_note_7 : decode cX12_note 7 = .ok (.bipush 60, 2) := by decide +kernel
theorem dX12_note_9 : decode cX12_note 9 = .ok (.if_icmp .ne 49, 3) := by decide +kernel
theorem dX12_note_12 : decode cX12_note 12 = .ok (.iconst 3, 1) := by decide +kernel
theorem dX12_note_13 : decode cX12_note 13 = .ok (.istore_n 3, 1) := by decide +kernel
theorem dX12_note_14 : decode cX12_note 14 = .ok (.iload_n 3, 1) := by decide +kernel
theorem dX12_note_15 : decode cX12_note 15 = .ok (.sipush 180, 3) := by decide +kernel
theorem dX12_note_18 : decode cX12_note 18 = .ok (.if_icmp .ge 29, 3) := by decide +kernel
theorem dX12_note_21 : decode cX12_note 21 = .ok (.aload_n 0, 1) := by decide +kernel
theorem dX12_note_22 : decode cX12_note 22 = .ok (.getfield 37, 3) := by decide +kernel
theorem dX12_note_25 : decode cX12_note 25 = .ok (.bipush 65, 2) := by decide +kernel
theorem dX12_note_27 : decode cX12_note 27 = .ok (.iload_n 3, 1) := by decide +kernel
theorem dX12_note_28 : decode cX12_note 28 = .ok (.iadd, 1) := by decide +kernel
theorem dX12_note_29 : decode cX12_note 29 = .ok (.iconst 3, 1) := by decide +kernel
theorem dX12_note_30 : decode cX12_note 30 = .ok (.isub, 1) := by decide +kernel
theorem dX12_note_31 : decode cX12_note 31 = .ok (.aload_n 0, 1) := by decide +kernel
theorem dX12_note_32 : decode cX12_note 32 = .ok (.getfield 37, 3) := by decide +kernel
theorem dX12_note_35 : decode cX12_note 35 = .ok (.bipush 65, 2) := by decide +kernel
theorem dX12_note_37 : decode cX12_note 37 = .ok (.iload_n 3, 1) := by decide +kernel
theorem dX12_note_38 : decode cX12_note 38 = .ok (.iadd, 1) := by decide +kernel
theorem dX12_note_39 : decode cX12_note 39 = .ok (.iaload, 1) := by decide +kernel
theorem dX12_note_40 : decode cX12_note 40 = .ok (.iastore, 1) := by decide +kernel
theorem dX12_note_41 : decode cX12_note 41 = .ok (.iinc 3 1, 3) := by decide +kernel
theorem dX12_note_44 : decode cX12_note 44 = .ok (.goto (-30), 3) := by decide +kernel
theorem dX12_note_47 : decode cX12_note 47 = .ok (.aload_n 0, 1) := by decide +kernel
theorem dX12_note_48 : decode cX12_note 48 = .ok (.getfield 37, 3) := by decide +kernel
theorem dX12_note_51 : decode cX12_note 51 = .ok (.bipush 64, 2) := by decide +kernel
theorem dX12_note_53 : decode cX12_note 53 = .ok (.dup2, 1) := by decide +kernel
theorem dX12_note_54 : decode cX12_note 54 = .ok (.iaload, 1) := by decide +kernel
theorem dX12_note_55 : decode cX12_note 55 = .ok (.iconst 1, 1) := by decide +kernel
theorem dX12_note_56 : decode cX12_note 56 = .ok (.isub, 1) := by decide +kernel
theorem dX12_note_57 : decode cX12_note 57 = .ok (.iastore, 1) := by decide +kernel
theorem dX12_note_58 : decode cX12_note 58 = .ok (.bipush 65, 2) := by decide +kernel
theorem dX12_note_60 : decode cX12_note 60 = .ok (.iconst 3, 1) := by decide +kernel
theorem dX12_note_61 : decode cX12_note 61 = .ok (.aload_n 0, 1) := by decide +kernel
theorem dX12_note_62 : decode cX12_note 62 = .ok (.getfield 37, 3) := by decide +kernel
theorem dX12_note_65 : decode cX12_note 65 = .ok (.bipush 64, 2) := by decide +kernel
theorem dX12_note_67 : decode cX12_note 67 = .ok (.iaload, 1) := by decide +kernel
theorem dX12_note_68 : decode cX12_note 68 = .ok (.imul, 1) := by decide +kernel
theorem dX12_note_69 : decode cX12_note 69 = .ok (.iadd, 1) := by decide +kernel
theorem dX12_note_70 : decode cX12_note 70 = .ok (.istore_n 3, 1) := by decide +kernel
theorem dX12_note_71 : decode cX12_note 71 = .ok (.aload_n 0, 1) := by decide +kernel
theorem dX12_note_72 : decode cX12_note 72 = .ok (.getfield 37, 3) := by decide +kernel
theorem dX12_note_75 : decode cX12_note 75 = .ok (.iload_n 3, 1) := by decide +kernel
theorem dX12_note_76 : decode cX12_note 76 = .ok (.iload_n 1, 1) := by decide +kernel
theorem dX12_note_77 : decode cX12_note 77 = .ok (.iastore, 1) := by decide +kernel
theorem dX12_note_78 : decode cX12_note 78 = .ok (.aload_n 0, 1) := by decide +kernel
theorem dX12_note_79 : decode cX12_note 79 = .ok (.getfield 37, 3) := by decide +kernel
theorem dX12_note_82 : decode cX12_note 82 = .ok (.iload_n 3, 1) := by decide +kernel
theorem dX12_note_83 : decode cX12_note 83 = .ok (.iconst 1, 1) := by decide +kernel
theorem dX12_note_84 : decode cX12_note 84 = .ok (.iadd, 1) := by decide +kernel
theorem dX12_note_85 : decode cX12_note 85 = .ok (.iload_n 2, 1) := by decide +kernel
theorem dX12_note_86 : decode cX12_note 86 = .ok (.iastore, 1) := by decide +kernel
theorem dX12_note_87 : decode cX12_note 87 = .ok (.aload_n 0, 1) := by decide +kernel
theorem dX12_note_88 : decode cX12_note 88 = .ok (.getfield 37, 3) := by decide +kernel
theorem dX12_note_91 : decode cX12_note 91 = .ok (.iload_n 3, 1) := by decide +kernel
theorem dX12_note_92 : decode cX12_note 92 = .ok (.iconst 2, 1) := by decide +kernel
theorem dX12_note_93 : decode cX12_note 93 = .ok (.iadd, 1) := by decide +kernel
theorem dX12_note_94 : decode cX12_note 94 = .ok (.aload_n 0, 1) := by decide +kernel
theorem dX12_note_95 : decode cX12_note 95 = .ok (.invokevirtual 219, 3) := by decide +kernel
theorem dX12_note_98 : decode cX12_note 98 = .ok (.iastore, 1) := by decide +kernel
theorem dX12_note_99 : decode cX12_note 99 = .ok (.aload_n 0, 1) := by decide +kernel
theorem dX12_note_100 : decode cX12_note 100 = .ok (.getfield 37, 3) := by decide +kernel
theorem dX12_note_103 : decode cX12_note 103 = .ok (.bipush 64, 2) := by decide +kernel
theorem dX12_note_105 : decode cX12_note 105 = .ok (.dup2, 1) := by decide +kernel
theorem dX12_note_106 : decode cX12_note 106 = .ok (.iaload, 1) := by decide +kernel
theorem dX12_note_107 : decode cX12_note 107 = .ok (.iconst 1, 1) := by decide +kernel
theorem dX12_note_108 : decode cX12_note 108 = .ok (.iadd, 1) := by decide +kernel
theorem dX12_note_109 : decode cX12_note 109 = .ok (.iastore, 1) := by decide +kernel
theorem dX12_note_110 : decode cX12_note 110 = .ok (.return_, 1) := by decide +kernel
theorem dX12_degreesOfAll_0 : decode cX12_degreesOfAll 0 = .ok (.iconst 0, 1) := by decide +kernel
theorem dX12_degreesOfAll_1 : decode cX12_degreesOfAll 1 = .ok (.istore_n 1, 1) := by decide +kernel
theorem dX12_degreesOfAll_2 : decode cX12_degreesOfAll 2 = .ok (.iconst 1, 1) := by decide +kernel
theorem dX12_degreesOfAll_3 : decode cX12_degreesOfAll 3 = .ok (.istore_n 2, 1) := by decide +kernel
theorem dX12_degreesOfAll_4 : decode cX12_degreesOfAll 4 = .ok (.iload_n 2, 1) := by decide +kernel
theorem dX12_degreesOfAll_5 : decode cX12_degreesOfAll 5 = .ok (.bipush 6, 2) := by decide +kernel
theorem dX12_degreesOfAll_7 : decode cX12_degreesOfAll 7 = .ok (.if_icmp .gt 18, 3) := by decide +kernel
theorem dX12_degreesOfAll_10 : decode cX12_degreesOfAll 10 = .ok (.iload_n 1, 1) := by decide +kernel
theorem dX12_degreesOfAll_11 : decode cX12_degreesOfAll 11 = .ok (.aload_n 0, 1) := by decide +kernel
theorem dX12_degreesOfAll_12 : decode cX12_degreesOfAll 12 = .ok (.getfield 28, 3) := by decide +kernel
theorem dX12_degreesOfAll_15 : decode cX12_degreesOfAll 15 = .ok (.iload_n 2, 1) := by decide +kernel
theorem dX12_degreesOfAll_16 : decode cX12_degreesOfAll 16 = .ok (.iaload, 1) := by decide +kernel
theorem dX12_degreesOfAll_17 : decode cX12_degreesOfAll 17 = .ok (.iadd, 1) := by decide +kernel
theorem dX12_degreesOfAll_18 : decode cX12_degreesOfAll 18 = .ok (.istore_n 1, 1) := by decide +kernel
theorem dX12_degreesOfAll_19 : decode cX12_degreesOfAll 19 = .ok (.iinc 2 1, 3) := by decide +kernel
theorem dX12_degreesOfAll_22 : decode cX12_degreesOfAll 22 = .ok (.goto (-18), 3) := by decide +kernel
theorem dX12_degreesOfAll_25 : decode cX12_degreesOfAll 25 = .ok (.iload_n 1, 1) := by decide +kernel
theorem dX12_degreesOfAll_26 : decode cX12_degreesOfAll 26 = .ok (.ireturn, 1) := by decide +kernel
theorem dX12_beginOf_0 : decode cX12_beginOf 0 = .ok (.aload_n 0, 1) := by decide +kernel
theorem dX12_beginOf_1 : decode cX12_beginOf 1 = .ok (.getfield 22, 3) := by decide +kernel
theorem dX12_beginOf_4 : decode cX12_beginOf 4 = .ok (.iconst 0, 1) := by decide +kernel
theorem dX12_beginOf_5 : decode cX12_beginOf 5 = .ok (.iaload, 1) := by decide +kernel
theorem dX12_beginOf_6 : decode cX12_beginOf 6 = .ok (.aload_n 0, 1) := by decide +kernel
theorem dX12_beginOf_7 : decode cX12_beginOf 7 = .ok (.getfield 25, 3) := by decide +kernel
theorem dX12_beginOf_10 : decode cX12_beginOf 10 = .ok (.iconst 5, 1) := by decide +kernel
theorem dX12_beginOf_11 : decode cX12_beginOf 11 = .ok (.iload_n 1, 1) := by decide +kernel
theorem dX12_beginOf_12 : decode cX12_beginOf 12 = .ok (.imul, 1) := by decide +kernel
theorem dX12_beginOf_13 : decode cX12_beginOf 13 = .ok (.iconst 2, 1) := by decide +kernel
theorem dX12_beginOf_14 : decode cX12_beginOf 14 = .ok (.iadd, 1) := by decide +kernel
theorem dX12_beginOf_15 : decode cX12_beginOf 15 = .ok (.iaload, 1) := by decide +kernel
theorem dX12_beginOf_16 : decode cX12_beginOf 16 = .ok (.imul, 1) := by decide +kernel
theorem dX12_beginOf_17 : decode cX12_beginOf 17 = .ok (.ireturn, 1) := by decide +kernel
theorem dX12_widthOf_0 : decode cX12_widthOf 0 = .ok (.aload_n 0, 1) := by decide +kernel
theorem dX12_widthOf_1 : decode cX12_widthOf 1 = .ok (.getfield 22, 3) := by decide +kernel
theorem dX12_widthOf_4 : decode cX12_widthOf 4 = .ok (.iconst 0, 1) := by decide +kernel
theorem dX12_widthOf_5 : decode cX12_widthOf 5 = .ok (.iaload, 1) := by decide +kernel
theorem dX12_widthOf_6 : decode cX12_widthOf 6 = .ok (.aload_n 0, 1) := by decide +kernel
theorem dX12_widthOf_7 : decode cX12_widthOf 7 = .ok (.getfield 25, 3) := by decide +kernel
theorem dX12_widthOf_10 : decode cX12_widthOf 10 = .ok (.iconst 5, 1) := by decide +kernel
theorem dX12_widthOf_11 : decode cX12_widthOf 11 = .ok (.iload_n 1, 1) := by decide +kernel
theorem dX12_widthOf_12 : decode cX12_widthOf 12 = .ok (.imul, 1) := by decide +kernel
theorem dX12_widthOf_13 : decode cX12_widthOf 13 = .ok (.iconst 2, 1) := by decide +kernel
theorem dX12_widthOf_14 : decode cX12_widthOf 14 = .ok (.iadd, 1) := by decide +kernel
theorem dX12_widthOf_15 : decode cX12_widthOf 15 = .ok (.iaload, 1) := by decide +kernel
theorem dX12_widthOf_16 : decode cX12_widthOf 16 = .ok (.iconst 1, 1) := by decide +kernel
theorem dX12_widthOf_17 : decode cX12_widthOf 17 = .ok (.iadd, 1) := by decide +kernel
theorem dX12_widthOf_18 : decode cX12_widthOf 18 = .ok (.aload_n 0, 1) := by decide +kernel
theorem dX12_widthOf_19 : decode cX12_widthOf 19 = .ok (.getfield 22, 3) := by decide +kernel
theorem dX12_widthOf_22 : decode cX12_widthOf 22 = .ok (.iconst 1, 1) := by decide +kernel
theorem dX12_widthOf_23 : decode cX12_widthOf 23 = .ok (.iaload, 1) := by decide +kernel
theorem dX12_widthOf_24 : decode cX12_widthOf 24 = .ok (.if_icmp .ge 7, 3) := by decide +kernel
theorem dX12_widthOf_27 : decode cX12_widthOf 27 = .ok (.iconst 2, 1) := by decide +kernel
theorem dX12_widthOf_28 : decode cX12_widthOf 28 = .ok (.goto 4, 3) := by decide +kernel
theorem dX12_widthOf_31 : decode cX12_widthOf 31 = .ok (.iconst 1, 1) := by decide +kernel
theorem dX12_widthOf_32 : decode cX12_widthOf 32 = .ok (.imul, 1) := by decide +kernel
theorem dX12_widthOf_33 : decode cX12_widthOf 33 = .ok (.ireturn, 1) := by decide +kernel
set_option maxRecDepth 20000 in
theorem ggX12_isOf_X12_beginOf : GoodIn wsX12_isOf wsX12_beginOf := goodIn_r _ [5, 6, 7, 15, 16, 17, 18, 19, 20, 21, 22, 23, 24, 25, 26, 27, 28, 29, 30, 31, 32, 33, 34, 35, 36, 37, 38, 39, 40, 41, 42, 43, 44] (by decide +kernel) (by decide +kernel)
set_option maxRecDepth 20000 in
theorem gX12_isOf_X12_beginOf : GoodIn wsX12_isOf (wsV RX12 222 RX12 yX12_beginOf wsX12_beginOf) := goodIn_app (goodIn_of _ (by decide +kernel)) ggX12_isOf_X12_beginOf
set_option maxRecDepth 20000 in
theorem ggX12_isOf_X12_widthOf : GoodIn wsX12_isOf wsX12_widthOf := goodIn_r _ [11, 6, 7, 15, 16, 17, 18, 19, 20, 21, 22, 23, 24, 25, 26, 27, 28, 29, 30, 31, 32, 33, 34, 35, 36, 37, 38, 39, 40, 41, 42, 43, 44] (by decide +kernel) (by decide +kernel)
set_option maxRecDepth 20000 in
theorem gX12_isOf_X12_widthOf : GoodIn wsX12_isOf (wsV RX12 225 RX12 yX12_widthOf wsX12_widthOf) := goodIn_app (goodIn_of _ (by decide +kernel)) ggX12_isOf_X12_widthOf
set_option maxRecDepth 20000 in
theorem ggX12_isOf_X12_in : GoodIn wsX12_isOf wsX12_in := goodIn_r _ [14] (by decide +kernel) (by decide +kernel)
set_option maxRecDepth 20000 in
theorem gX12_isOf_X12_in : GoodIn wsX12_isOf (va_wsS RX12 76 yX12_in wsX12_in) := goodIn_app (goodIn_of _ (by decide +kernel)) ggX12_isOf_X12_in
theorem dX12_isOf_0 : decode cX12_isOf 0 = .ok (.iload_n 2, 1) := by decide +kernel
theorem dX12_isOf_1 : decode cX12_isOf 1 = .ok (.aload_n 0, 1) := by decide +kernel
theorem dX12_isOf_2 : decode cX12_isOf 2 = .ok (.iload_n 1, 1) := by decide +kernel
theorem dX12_isOf_3 : decode cX12_isOf 3 = .ok (.invokevirtual 222, 3) := by decide +kernel
theorem dX12_isOf_6 : decode cX12_isOf 6 = .ok (.aload_n 0, 1) := by decide +kernel
theorem dX12_isOf_7 : decode cX12_isOf 7 = .ok (.iload_n 1, 1) := by decide +kernel
theorem dX12_isOf_8 : decode cX12_isOf 8 = .ok (.invokevirtual 222, 3) := by decide +kernel
theorem dX12_isOf_11 : decode cX12_isOf 11 = .ok (.aload_n 0, 1) := by decide +kernel
theorem dX12_isOf_12 : decode cX12_isOf 12 = .ok (.iload_n 1, 1) := by decide +kernel
theorem dX12_isOf_13 : decode cX12_isOf 13 = .ok (.invokevirtual 225, 3) := by decide +kernel
theorem dX12_isOf_16 : decode cX12_isOf 16 = .ok (.iadd, 1) := by decide +kernel
theorem dX12_isOf_17 : decode cX12_isOf 17 = .ok (.iconst 1, 1) := by decide +kernel
theorem dX12_isOf_18 : decode cX12_isOf 18 = .ok (.isub, 1) := by decide +kernel
theorem dX12_isOf_19 : decode cX12_isOf 19 = .ok (.invokestatic 76, 3) := by decide +kernel
theorem dX12_isOf_22 : decode cX12_isOf 22 = .ok (.ireturn, 1) := by decide +kernel
theorem dX12_haveLikeCopies_0 : decode cX12_haveLikeCopies 0 = .ok (.aload_n 0, 1) := by decide +kernel
theorem dX12_haveLikeCopies_1 : decode cX12_haveLikeCopies 1 = .ok (.getfield 37, 3) := by decide +kernel
theorem dX12_haveLikeCopies_4 : decode cX12_haveLikeCopies 4 = .ok (.bipush 10, 2) := by decide +kernel
theorem dX12_haveLikeCopies_6 : decode cX12_haveLikeCopies 6 = .ok (.iload_n 1, 1) := by decide +kernel
theorem dX12_haveLikeCopies_7 : decode cX12_haveLikeCopies 7 = .ok (.iadd, 1) := by decide +kernel
theorem dX12_haveLikeCopies_8 : decode cX12_haveLikeCopies 8 = .ok (.iaload, 1) := by decide +kernel
theorem dX12_haveLikeCopies_9 : decode cX12_haveLikeCopies 9 = .ok (.aload_n 0, 1) := by decide +kernel
theorem dX12_haveLikeCopies_10 : decode cX12_haveLikeCopies 10 = .ok (.getfield 37, 3) := by decide +kernel
theorem dX12_haveLikeCopies_13 : decode cX12_haveLikeCopies 13 = .ok (.bipush 10, 2) := by decide +kernel
theorem dX12_haveLikeCopies_15 : decode cX12_haveLikeCopies 15 = .ok (.iload_n 2, 1) := by decide +kernel
theorem dX12_haveLikeCopies_16 : decode cX12_haveLikeCopies 16 = .ok (.iadd, 1) := by decide +kernel
theorem dX12_haveLikeCopies_17 : decode cX12_haveLikeCopies 17 = .ok (.iaload, 1) := by decide +kernel
theorem dX12_haveLikeCopies_18 : decode cX12_haveLikeCopies 18 = .ok (.if_icmp .ne 28, 3) := by decide +kernel
theorem dX12_haveLikeCopies_21 : decode cX12_haveLikeCopies 21 = .ok (.aload_n 0, 1) := by decide +kernel
theorem dX12_haveLikeCopies_22 : decode cX12_haveLikeCopies 22 = .ok (.getfield 37, 3) := by decide +kernel
theorem dX12_haveLikeCopies_25 : decode cX12_haveLikeCopies 25 = .ok (.bipush 20, 2) := by decide +kernel
theorem dX12_haveLikeCopies_27 : decode cX12_haveLikeCopies 27 = .ok (.iload_n 1, 1) := by decide +kernel
theorem dX12_haveLikeCopies_28 : decode cX12_haveLikeCopies 28 = .ok (.iadd, 1) := by decide +kernel
theorem dX12_haveLikeCopies_29 : decode cX12_haveLikeCopies 29 = .ok (.iaload, 1) := by decide +kernel
theorem dX12_haveLikeCopies_30 : decode cX12_haveLikeCopies 30 = .ok (.aload_n 0, 1) := by decide +kernel
theorem dX12_haveLikeCopies_31 : decode cX12_haveLikeCopies 31 = .ok (.getfield 37, 3) := by decide +kernel
theorem dX12_haveLikeCopies_34 : decode cX12_haveLikeCopies 34 = .ok (.bipush 20, 2) := by decide +kernel
theorem dX12_haveLikeCopies_36 : decode cX12_haveLikeCopies 36 = .ok (.iload_n 2, 1) := by decide +kernel
theorem dX12_haveLikeCopies_37 : decode cX12_haveLikeCopies 37 = .ok (.iadd, 1) := by decide +kernel
theorem dX12_haveLikeCopies_38 : decode cX12_haveLikeCopies 38 = .ok (.iaload, 1) := by decide +kernel
theorem dX12_haveLikeCopies_39 : decode cX12_haveLikeCopies 39 = .ok (.if_icmp .ne 7, 3) := by decide +kernel
theorem dX12_haveLikeCopies_42 : decode cX12_haveLikeCopies 42 = .ok (.iconst 1, 1) := by decide +kernel
theorem dX12_haveLikeCopies_43 : decode cX12_haveLikeCopies 43 = .ok (.goto 4, 3) := by decide +kernel
theorem dX12_haveLikeCopies_46 : decode cX12_haveLikeCopies 46 = .ok (.iconst 0, 1) := by decide +kernel
theorem dX12_haveLikeCopies_47 : decode cX12_haveLikeCopies 47 = .ok (.ireturn, 1) := by decide +kernel
set_option maxRecDepth 20000 in
theorem ggX12_whyNot_X12_isField : GoodIn wsX12_whyNot wsX12_isField := goodIn_r _ [6, 7, 96, 97, 98, 99, 100, 101, 102, 103, 104, 105, 106, 107, 108, 109, 110, 111, 112, 113, 114, 115, 116, 117, 118, 119, 120, 121, 122, 123, 124, 125] (by decide +kernel) (by decide +kernel)
set_option maxRecDepth 20000 in
theorem gX12_whyNot_X12_isField : GoodIn wsX12_whyNot (wsV RX12 151 RX12 yX12_isField wsX12_isField) := goodIn_app (goodIn_of _ (by decide +kernel)) ggX12_whyNot_X12_isField
set_option maxRecDepth 20000 in
theorem ggX12_whyNot_X12_slotMany : GoodIn wsX12_whyNot wsX12_slotMany := goodIn_r _ [11, 12, 2, 3, 4, 5, 6, 7, 96, 97, 98, 99, 100, 101, 102, 103, 104, 105, 106, 107, 108, 109, 110, 111, 112, 113, 114, 115, 116, 117, 118, 119, 120, 121, 122, 123, 124, 125] (by decide +kernel) (by decide +kernel)
set_option maxRecDepth 20000 in
theorem gX12_whyNot_X12_slotMany : GoodIn wsX12_whyNot (wsV RX12 154 RX12 yX12_slotMany wsX12_slotMany) := goodIn_app (goodIn_of _ (by decide +kernel)) ggX12_whyNot_X12_slotMany
set_option maxRecDepth 20000 in
theorem ggX12_whyNot_X12_firstClear : GoodIn wsX12_whyNot wsX12_firstClear := goodIn_r _ [16, 17, 18, 19, 5, 20, 7, 21, 22, 23, 24, 25, 1, 26, 27, 28, 29, 30, 31, 32, 33, 34, 35, 36, 37, 38, 39, 40, 41, 42, 43, 44, 45, 46, 47, 48, 49, 50, 12, 96, 97, 98, 99, 100, 101, 102, 103, 104, 105, 106, 107, 108, 109, 110, 111, 112, 113, 114, 115, 116, 117, 118, 119, 120, 121, 122, 123, 124, 125] (by decide +kernel) (by decide +kernel)
set_option maxRecDepth 20000 in
theorem gX12_whyNot_X12_firstClear : GoodIn wsX12_whyNot (wsV RX12 204 RX12 yX12_firstClear wsX12_firstClear) := goodIn_app (goodIn_of _ (by decide +kernel)) ggX12_whyNot_X12_firstClear
set_option maxRecDepth 20000 in
theorem ggX12_whyNot_X12_isUser : GoodIn wsX12_whyNot wsX12_isUser := goodIn_r _ [54, 7, 55, 56, 5, 57, 96, 97, 98, 99, 100, 101, 102, 103, 104, 105, 106, 107, 108, 109, 110, 111, 112, 113, 114, 115, 116, 117, 118, 119, 120, 121, 122, 123, 124, 125] (by decide +kernel) (by decide +kernel)
set_option maxRecDepth 20000 in
theorem gX12_whyNot_X12_isUser : GoodIn wsX12_whyNot (wsV RX12 228 RX12 yX12_isUser wsX12_isUser) := goodIn_app (goodIn_of _ (by decide +kernel)) ggX12_whyNot_X12_isUser
set_option maxRecDepth 20000 in
theorem ggX12_whyNot_X12_isUnknown : GoodIn wsX12_whyNot wsX12_isUnknown := goodIn_r _ [30, 1, 96, 97, 98, 99, 100, 101, 102, 103, 104, 105, 106, 107, 108, 109, 110, 111, 112, 113, 114, 115, 116, 117, 118, 119, 120, 121, 122, 123, 124, 125] (by decide +kernel) (by decide +kernel)
set_option maxRecDepth 20000 in
theorem gX12_whyNot_X12_isUnknown : GoodIn wsX12_whyNot (wsV RX12 178 RX12 yX12_isUnknown wsX12_isUnknown) := goodIn_app (goodIn_of _ (by decide +kernel)) ggX12_whyNot_X12_isUnknown
set_option maxRecDepth 20000 in
theorem ggX12_whyNot_X12_isSlot : GoodIn wsX12_whyNot wsX12_isSlot := goodIn_r _ [61, 8, 9, 10, 5, 11, 12, 2, 3, 4, 6, 7, 55, 56, 57, 96, 97, 98, 99, 100, 101, 102, 103, 104, 105, 106, 107, 108, 109, 110, 111, 112, 113, 114, 115, 116, 117, 118, 119, 120, 121, 122, 123, 124, 125] (by decide +kernel) (by decide +kernel)
set_option maxRecDepth 20000 in
theorem gX12_whyNot_X12_isSlot : GoodIn wsX12_whyNot (wsV RX12 231 RX12 yX12_isSlot wsX12_isSlot) := goodIn_app (goodIn_of _ (by decide +kernel)) ggX12_whyNot_X12_isSlot
set_option maxRecDepth 20000 in
theorem ggX12_whyNot_X12_isOf : GoodIn wsX12_whyNot wsX12_isOf := goodIn_r _ [65, 66, 67, 68, 5, 69, 12, 70, 71, 72, 73, 74, 55, 56, 57, 96, 97, 98, 99, 100, 101, 102, 103, 104, 105, 106, 107, 108, 109, 110, 111, 112, 113, 114, 115, 116, 117, 118, 119, 120, 121, 122, 123, 124, 125] (by decide +kernel) (by decide +kernel)
set_option maxRecDepth 20000 in
theorem gX12_whyNot_X12_isOf : GoodIn wsX12_whyNot (wsV RX12 234 RX12 yX12_isOf wsX12_isOf) := goodIn_app (goodIn_of _ (by decide +kernel)) ggX12_whyNot_X12_isOf
set_option maxRecDepth 20000 in
theorem ggX12_whyNot_X12_in : GoodIn wsX12_whyNot wsX12_in := goodIn_r _ [57] (by decide +kernel) (by decide +kernel)
set_option maxRecDepth 20000 in
theorem gX12_whyNot_X12_in : GoodIn wsX12_whyNot (va_wsS RX12 76 yX12_in wsX12_in) := goodIn_app (goodIn_of _ (by decide +kernel)) ggX12_whyNot_X12_in
set_option maxRecDepth 20000 in
theorem ggX12_whyNot_X12_degreesOfAll : GoodIn wsX12_whyNot wsX12_degreesOfAll := goodIn_r _ [78, 79, 96, 97, 98, 99, 100, 101, 102, 103, 104, 105, 106, 107, 108, 109, 110, 111, 112, 113, 114, 115, 116, 117, 118, 119, 120, 121, 122, 123, 124, 125] (by decide +kernel) (by decide +kernel)
set_option maxRecDepth 20000 in
theorem gX12_whyNot_X12_degreesOfAll : GoodIn wsX12_whyNot (wsV RX12 237 RX12 yX12_degreesOfAll wsX12_degreesOfAll) := goodIn_app (goodIn_of _ (by decide +kernel)) ggX12_whyNot_X12_degreesOfAll
set_option maxRecDepth 20000 in
theorem ggX12_whyNot_X12_whyNotFiled : GoodIn wsX12_whyNot wsX12_whyNotFiled := goodIn_r _ [83, 1, 2, 3, 4, 5, 6, 7, 55, 56, 57, 51, 52, 53, 54, 27, 28, 29, 30, 84, 85, 86, 87, 96, 97, 98, 99, 100, 101, 102, 103, 104, 105, 106, 107, 108, 109, 110, 111, 112, 113, 114, 115, 116, 117, 118, 119, 120, 121, 122, 123, 124, 125] (by decide +kernel) (by decide +kernel)
set_option maxRecDepth 20000 in
theorem gX12_whyNot_X12_whyNotFiled : GoodIn wsX12_whyNot (wsV RX12 240 RX12 yX12_whyNotFiled wsX12_whyNotFiled) := goodIn_app (goodIn_of _ (by decide +kernel)) ggX12_whyNot_X12_whyNotFiled
set_option maxRecDepth 20000 in
theorem ggX12_whyNot_X12_whyNotSwapped : GoodIn wsX12_whyNot wsX12_whyNotSwapped := goodIn_r _ [91, 70, 51, 52, 53, 5, 54, 7, 55, 56, 57, 92, 93, 94, 95, 1, 96, 97, 98, 99, 100, 101, 102, 103, 104, 105, 106, 107, 108, 109, 110, 111, 112, 113, 114, 115, 116, 117, 118, 119, 120, 121, 122, 123, 124, 125] (by decide +kernel) (by decide +kernel)
set_option maxRecDepth 20000 in
theorem gX12_whyNot_X12_whyNotSwapped : GoodIn wsX12_whyNot (wsV RX12 243 RX12 yX12_whyNotSwapped wsX12_whyNotSwapped) := goodIn_app (goodIn_of _ (by decide +kernel)) ggX12_whyNot_X12_whyNotSwapped
theorem dX12_whyNot_0 : decode cX12_whyNot 0 = .ok (.iload_n 1, 1) := by decide +kernel
theorem dX12_whyNot_1 : decode cX12_whyNot 1 = .ok (.tableswitch 238 0 7 #[47, 47, 77, 103, 129, 164, 206, 231], 47) := by decide +kernel
theorem dX12_whyNot_48 : decode cX12_whyNot 48 = .ok (.aload_n 0, 1) := by decide +kernel
theorem dX12_whyNot_49 : decode cX12_whyNot 49 = .ok (.invokevirtual 151, 3) := by decide +kernel
theorem dX12_whyNot_52 : decode cX12_whyNot 52 = .ok (.ifCond .ne 7, 3) := by decide +kernel
theorem dX12_whyNot_55 : decode cX12_whyNot 55 = .ok (.iconst 0, 1) := by decide +kernel
theorem dX12_whyNot_56 : decode cX12_whyNot 56 = .ok (.goto 21, 3) := by decide +kernel
theorem dX12_whyNot_59 : decode cX12_whyNot 59 = .ok (.aload_n 0, 1) := by decide +kernel
theorem dX12_whyNot_60 : decode cX12_whyNot 60 = .ok (.iconst 0, 1) := by decide +kernel
theorem dX12_whyNot_61 : decode cX12_whyNot 61 = .ok (.aload_n 0, 1) := by decide +kernel
theorem dX12_whyNot_62 : decode cX12_whyNot 62 = .ok (.invokevirtual 154, 3) := by decide +kernel
theorem dX12_whyNot_65 : decode cX12_whyNot 65 = .ok (.invokevirtual 204, 3) := by decide +kernel
theorem dX12_whyNot_68 : decode cX12_whyNot 68 = .ok (.iconst (-1), 1) := by decide +kernel
theorem dX12_whyNot_69 : decode cX12_whyNot 69 = .ok (.if_icmp .ne 7, 3) := by decide +kernel
theorem dX12_whyNot_72 : decode cX12_whyNot 72 = .ok (.iconst 2, 1) := by decide +kernel
theorem dX12_whyNot_73 : decode cX12_whyNot 73 = .ok (.goto 4, 3) := by decide +kernel
theorem dX12_whyNot_76 : decode cX12_whyNot 76 = .ok (.iconst (-1), 1) := by decide +kernel
theorem dX12_whyNot_77 : decode cX12_whyNot 77 = .ok (.ireturn, 1) := by decide +kernel
theorem dX12_whyNot_78 : decode cX12_whyNot 78 = .ok (.aload_n 0, 1) := by decide +kernel
theorem dX12_whyNot_79 : decode cX12_whyNot 79 = .ok (.iload_n 2, 1) := by decide +kernel
theorem dX12_whyNot_80 : decode cX12_whyNot 80 = .ok (.invokevirtual 228, 3) := by decide +kernel
theorem dX12_whyNot_83 : decode cX12_whyNot 83 = .ok (.ifCond .ne 7, 3) := by decide +kernel
theorem dX12_whyNot_86 : decode cX12_whyNot 86 = .ok (.iconst 0, 1) := by decide +kernel
theorem dX12_whyNot_87 : decode cX12_whyNot 87 = .ok (.goto 16, 3) := by decide +kernel
theorem dX12_whyNot_90 : decode cX12_whyNot 90 = .ok (.aload_n 0, 1) := by decide +kernel
theorem dX12_whyNot_91 : decode cX12_whyNot 91 = .ok (.iload_n 2, 1) := by decide +kernel
theorem dX12_whyNot_92 : decode cX12_whyNot 92 = .ok (.invokevirtual 178, 3) := by decide +kernel
theorem dX12_whyNot_95 : decode cX12_whyNot 95 = .ok (.ifCond .ne 7, 3) := by decide +kernel
theorem dX12_whyNot_98 : decode cX12_whyNot 98 = .ok (.iconst 2, 1) := by decide +kernel
theorem dX12_whyNot_99 : decode cX12_whyNot 99 = .ok (.goto 4, 3) := by decide +kernel
theorem dX12_whyNot_102 : decode cX12_whyNot 102 = .ok (.iconst (-1), 1) := by decide +kernel
theorem dX12_whyNot_103 : decode cX12_whyNot 103 = .ok (.ireturn, 1) := by decide +kernel
theorem dX12_whyNot_104 : decode cX12_whyNot 104 = .ok (.aload_n 0, 1) := by decide +kernel
theorem dX12_whyNot_105 : decode cX12_whyNot 105 = .ok (.iload_n 2, 1) := by decide +kernel
theorem dX12_whyNot_106 : decode cX12_whyNot 106 = .ok (.invokevirtual 228, 3) := by decide +kernel
theorem dX12_whyNot_109 : decode cX12_whyNot 109 = .ok (.ifCond .ne 7, 3) := by decide +kernel
theorem dX12_whyNot_112 : decode cX12_whyNot 112 = .ok (.iconst 0, 1) := by decide +kernel
theorem dX12_whyNot_113 : decode cX12_whyNot 113 = .ok (.goto 16, 3) := by decide +kernel
theorem dX12_whyNot_116 : decode cX12_whyNot 116 = .ok (.aload_n 0, 1) := by decide +kernel
theorem dX12_whyNot_117 : decode cX12_whyNot 117 = .ok (.iload_n 2, 1) := by decide +kernel
theorem dX12_whyNot_118 : decode cX12_whyNot 118 = .ok (.invokevirtual 178, 3) := by decide +kernel
theorem dX12_whyNot_121 : decode cX12_whyNot 121 = .ok (.ifCond .eq 7, 3) := by decide +kernel
theorem dX12_whyNot_124 : decode cX12_whyNot 124 = .ok (.iconst 2, 1) := by decide +kernel
theorem dX12_whyNot_125 : decode cX12_whyNot 125 = .ok (.goto 4, 3) := by decide +kernel
theorem dX12_whyNot_128 : decode cX12_whyNot 128 = .ok (.iconst (-1), 1) := by decide +kernel
theorem dX12_whyNot_129 : decode cX12_whyNot 129 = .ok (.ireturn, 1) := by decide +kernel
theorem dX12_whyNot_130 : decode cX12_whyNot 130 = .ok (.aload_n 0, 1) := by decide +kernel
theorem dX12_whyNot_131 : decode cX12_whyNot 131 = .ok (.iload_n 2, 1) := by decide +kernel
theorem dX12_whyNot_132 : decode cX12_whyNot 132 = .ok (.invokevirtual 228, 3) := by decide +kernel
theorem dX12_whyNot_135 : decode cX12_whyNot 135 = .ok (.ifCond .eq 11, 3) := by decide +kernel
theorem dX12_whyNot_138 : decode cX12_whyNot 138 = .ok (.aload_n 0, 1) := by decide +kernel
theorem dX12_whyNot_139 : decode cX12_whyNot 139 = .ok (.iload_n 3, 1) := by decide +kernel
theorem dX12_whyNot_140 : decode cX12_whyNot 140 = .ok (.invokevirtual 231, 3) := by decide +kernel
theorem dX12_whyNot_143 : decode cX12_whyNot 143 = .ok (.ifCond .ne 7, 3) := by decide +kernel
theorem dX12_whyNot_146 : decode cX12_whyNot 146 = .ok (.iconst 0, 1) := by decide +kernel
theorem dX12_whyNot_147 : decode cX12_whyNot 147 = .ok (.goto 17, 3) := by decide +kernel
theorem dX12_whyNot_150 : decode cX12_whyNot 150 = .ok (.aload_n 0, 1) := by decide +kernel
theorem dX12_whyNot_151 : decode cX12_whyNot 151 = .ok (.iload_n 2, 1) := by decide +kernel
theorem dX12_whyNot_152 : decode cX12_whyNot 152 = .ok (.iload_n 3, 1) := by decide +kernel
theorem dX12_whyNot_153 : decode cX12_whyNot 153 = .ok (.invokevirtual 234, 3) := by decide +kernel
theorem dX12_whyNot_156 : decode cX12_whyNot 156 = .ok (.ifCond .ne 7, 3) := by decide +kernel
theorem dX12_whyNot_159 : decode cX12_whyNot 159 = .ok (.iconst 1, 1) := by decide +kernel
theorem dX12_whyNot_160 : decode cX12_whyNot 160 = .ok (.goto 4, 3) := by decide +kernel
theorem dX12_whyNot_163 : decode cX12_whyNot 163 = .ok (.iconst (-1), 1) := by decide +kernel
theorem dX12_whyNot_164 : decode cX12_whyNot 164 = .ok (.ireturn, 1) := by decide +kernel
theorem dX12_whyNot_165 : decode cX12_whyNot 165 = .ok (.aload_n 0, 1) := by decide +kernel
theorem dX12_whyNot_166 : decode cX12_whyNot 166 = .ok (.invokevirtual 151, 3) := by decide +kernel
theorem dX12_whyNot_169 : decode cX12_whyNot 169 = .ok (.ifCond .ne 7, 3) := by decide +kernel
theorem dX12_whyNot_172 : decode cX12_whyNot 172 = .ok (.iconst 0, 1) := by decide +kernel
theorem dX12_whyNot_173 : decode cX12_whyNot 173 = .ok (.goto 33, 3) := by decide +kernel
theorem dX12_whyNot_176 : decode cX12_whyNot 176 = .ok (.iload_n 2, 1) := by decide +kernel
theorem dX12_whyNot_177 : decode cX12_whyNot 177 = .ok (.iconst 0, 1) := by decide +kernel
theorem dX12_whyNot_178 : decode cX12_whyNot 178 = .ok (.bipush 99, 2) := by decide +kernel
theorem dX12_whyNot_180 : decode cX12_whyNot 180 = .ok (.invokestatic 76, 3) := by decide +kernel
theorem dX12_whyNot_183 : decode cX12_whyNot 183 = .ok (.ifCond .ne 7, 3) := by decide +kernel
theorem dX12_whyNot_186 : decode cX12_whyNot 186 = .ok (.iconst 1, 1) := by decide +kernel
theorem dX12_whyNot_187 : decode cX12_whyNot 187 = .ok (.goto 19, 3) := by decide +kernel
theorem dX12_whyNot_190 : decode cX12_whyNot 190 = .ok (.iload_n 2, 1) := by decide +kernel
theorem dX12_whyNot_191 : decode cX12_whyNot 191 = .ok (.aload_n 0, 1) := by decide +kernel
theorem dX12_whyNot_192 : decode cX12_whyNot 192 = .ok (.getfield 37, 3) := by decide +kernel
theorem dX12_whyNot_195 : decode cX12_whyNot 195 = .ok (.bipush 30, 2) := by decide +kernel
theorem dX12_whyNot_197 : decode cX12_whyNot 197 = .ok (.iaload, 1) := by decide +kernel
theorem dX12_whyNot_198 : decode cX12_whyNot 198 = .ok (.if_icmp .ne 7, 3) := by decide +kernel
theorem dX12_whyNot_201 : decode cX12_whyNot 201 = .ok (.iconst 2, 1) := by decide +kernel
theorem dX12_whyNot_202 : decode cX12_whyNot 202 = .ok (.goto 4, 3) := by decide +kernel
theorem dX12_whyNot_205 : decode cX12_whyNot 205 = .ok (.iconst (-1), 1) := by decide +kernel
theorem dX12_whyNot_206 : decode cX12_whyNot 206 = .ok (.ireturn, 1) := by decide +kernel
theorem dX12_whyNot_207 : decode cX12_whyNot 207 = .ok (.aload_n 0, 1) := by decide +kernel
theorem dX12_whyNot_208 : decode cX12_whyNot 208 = .ok (.iload_n 2, 1) := by decide +kernel
theorem dX12_whyNot_209 : decode cX12_whyNot 209 = .ok (.invokevirtual 228, 3) := by decide +kernel
theorem dX12_whyNot_212 : decode cX12_whyNot 212 = .ok (.ifCond .ne 7, 3) := by decide +kernel
theorem dX12_whyNot_215 : decode cX12_whyNot 215 = .ok (.iconst 0, 1) := by decide +kernel
theorem dX12_whyNot_216 : decode cX12_whyNot 216 = .ok (.goto 15, 3) := by decide +kernel
theorem dX12_whyNot_219 : decode cX12_whyNot 219 = .ok (.aload_n 0, 1) := by decide +kernel
theorem dX12_whyNot_220 : decode cX12_whyNot 220 = .ok (.invokevirtual 237, 3) := by decide +kernel
theorem dX12_whyNot_223 : decode cX12_whyNot 223 = .ok (.ifCond .ne 7, 3) := by decide +kernel
theorem dX12_whyNot_226 : decode cX12_whyNot 226 = .ok (.iconst 2, 1) := by decide +kernel
theorem dX12_whyNot_227 : decode cX12_whyNot 227 = .ok (.goto 4, 3) := by decide +kernel
theorem dX12_whyNot_230 : decode cX12_whyNot 230 = .ok (.iconst (-1), 1) := by decide +kernel
theorem dX12_whyNot_231 : decode cX12_whyNot 231 = .ok (.ireturn, 1) := by decide +kernel
theorem dX12_whyNot_232 : decode cX12_whyNot 232 = .ok (.aload_n 0, 1) := by decide +kernel
theorem dX12_whyNot_233 : decode cX12_whyNot 233 = .ok (.iload_n 2, 1) := by decide +kernel
theorem dX12_whyNot_234 : decode cX12_whyNot 234 = .ok (.iload_n 3, 1) := by decide +kernel
theorem dX12_whyNot_235 : decode cX12_whyNot 235 = .ok (.invokevirtual 240, 3) := by decide +kernel
theorem dX12_whyNot_238 : decode cX12_whyNot 238 = .ok (.ireturn, 1) := by decide +kernel
theorem dX12_whyNot_239 : decode cX12_whyNot 239 = .ok (.aload_n 0, 1) := by decide +kernel
theorem dX12_whyNot_240 : decode cX12_whyNot 240 = .ok (.iload_n 2, 1) := by decide +kernel
theorem dX12_whyNot_241 : decode cX12_whyNot 241 = .ok (.iload_n 3, 1) := by decide +kernel
theorem dX12_whyNot_242 : decode cX12_whyNot 242 = .ok (.invokevirtual 243, 3) := by decide +kernel
theorem dX12_whyNot_245 : decode cX12_whyNot 245 = .ok (.ireturn, 1) := by decide +kernel
theorem dX12_shelfAt_0 : decode cX12_shelfAt 0 = .ok (.bipush 31, 2) := by decide +kernel
theorem dX12_shelfAt_2 : decode cX12_shelfAt 2 = .ok (.bipush 11, 2) := by decide +kernel
theorem dX12_shelfAt_4 : decode cX12_shelfAt 4 = .ok (.iload_n 1, 1) := by decide +kernel
theorem dX12_shelfAt_5 : decode cX12_shelfAt 5 = .ok (.imul, 1) := by decide +kernel
theorem dX12_shelfAt_6 : decode cX12_shelfAt 6 = .ok (.iadd, 1) := by decide +kernel
theorem dX12_shelfAt_7 : decode cX12_shelfAt 7 = .ok (.ireturn, 1) := by decide +kernel
set_option maxRecDepth 20000 in
theorem ggX12_whyNotFiled_X12_isField : GoodIn wsX12_whyNotFiled wsX12_isField := goodIn_r _ [6, 7, 23, 24, 25, 26, 27, 28, 29, 30, 31, 32, 33, 34, 35, 36, 37, 38, 39, 40, 41, 42, 43, 44, 45, 46, 47, 48, 49, 50, 51, 52] (by decide +kernel) (by decide +kernel)
set_option maxRecDepth 20000 in
theorem gX12_whyNotFiled_X12_isField : GoodIn wsX12_whyNotFiled (wsV RX12 151 RX12 yX12_isField wsX12_isField) := goodIn_app (goodIn_of _ (by decide +kernel)) ggX12_whyNotFiled_X12_isField
set_option maxRecDepth 20000 in
theorem ggX12_whyNotFiled_X12_in : GoodIn wsX12_whyNotFiled wsX12_in := goodIn_r _ [10] (by decide +kernel) (by decide +kernel)
set_option maxRecDepth 20000 in
theorem gX12_whyNotFiled_X12_in : GoodIn wsX12_whyNotFiled (va_wsS RX12 76 yX12_in wsX12_in) := goodIn_app (goodIn_of _ (by decide +kernel)) ggX12_whyNotFiled_X12_in
set_option maxRecDepth 20000 in
theorem ggX12_whyNotFiled_X12_isUser : GoodIn wsX12_whyNotFiled wsX12_isUser := goodIn_r _ [14, 7, 8, 9, 5, 10, 23, 24, 25, 26, 27, 28, 29, 30, 31, 32, 33, 34, 35, 36, 37, 38, 39, 40, 41, 42, 43, 44, 45, 46, 47, 48, 49, 50, 51, 52] (by decide +kernel) (by decide +kernel)
set_option maxRecDepth 20000 in
theorem gX12_whyNotFiled_X12_isUser : GoodIn wsX12_whyNotFiled (wsV RX12 228 RX12 yX12_isUser wsX12_isUser) := goodIn_app (goodIn_of _ (by decide +kernel)) ggX12_whyNotFiled_X12_isUser
set_option maxRecDepth 20000 in
theorem ggX12_whyNotFiled_X12_isUnknown : GoodIn wsX12_whyNotFiled wsX12_isUnknown := goodIn_r _ [18, 1, 23, 24, 25, 26, 27, 28, 29, 30, 31, 32, 33, 34, 35, 36, 37, 38, 39, 40, 41, 42, 43, 44, 45, 46, 47, 48, 49, 50, 51, 52] (by decide +kernel) (by decide +kernel)
set_option maxRecDepth 20000 in
theorem gX12_whyNotFiled_X12_isUnknown : GoodIn wsX12_whyNotFiled (wsV RX12 178 RX12 yX12_isUnknown wsX12_isUnknown) := goodIn_app (goodIn_of _ (by decide +kernel)) ggX12_whyNotFiled_X12_isUnknown
set_option maxRecDepth 20000 in
theorem ggX12_whyNotFiled_X12_shelfAt : GoodIn wsX12_whyNotFiled wsX12_shelfAt := goodIn_r _ [22] (by decide +kernel) (by decide +kernel)
set_option maxRecDepth 20000 in
theorem gX12_whyNotFiled_X12_shelfAt : GoodIn wsX12_whyNotFiled (wsV RX12 246 RX12 yX12_shelfAt wsX12_shelfAt) := goodIn_app (goodIn_of _ (by decide +kernel)) ggX12_whyNotFiled_X12_shelfAt
theorem dX12_whyNotFiled_0 : decode cX12_whyNotFiled 0 = .ok (.aload_n 0, 1) := by decide +kernel
theorem dX12_whyNotFiled_1 : decode cX12_whyNotFiled 1 = .ok (.invokevirtual 151, 3) := by decide +kernel
theorem dX12_whyNotFiled_4 : decode cX12_whyNotFiled 4 = .ok (.ifCond .eq 20, 3) := by decide +kernel
theorem dX12_whyNotFiled_7 : decode cX12_whyNotFiled 7 = .ok (.iload_n 1, 1) := by decide +kernel
theorem dX12_whyNotFiled_8 : decode cX12_whyNotFiled 8 = .ok (.iconst 0, 1) := by decide +kernel
theorem dX12_whyNotFiled_9 : decode cX12_whyNotFiled 9 = .ok (.iconst 2, 1) := by decide +kernel
theorem dX12_whyNotFiled_10 : decode cX12_whyNotFiled 10 = .ok (.invokestatic 76, 3) := by decide +kernel
theorem dX12_whyNotFiled_13 : decode cX12_whyNotFiled 13 = .ok (.ifCond .eq 11, 3) := by decide +kernel
theorem dX12_whyNotFiled_16 : decode cX12_whyNotFiled 16 = .ok (.aload_n 0, 1) := by decide +kernel
theorem dX12_whyNotFiled_17 : decode cX12_whyNotFiled 17 = .ok (.iload_n 2, 1) := by decide +kernel
theorem dX12_whyNotFiled_18 : decode cX12_whyNotFiled 18 = .ok (.invokevirtual 228, 3) := by decide +kernel
theorem dX12_whyNotFiled_21 : decode cX12_whyNotFiled 21 = .ok (.ifCond .ne 5, 3) := by decide +kernel
theorem dX12_whyNotFiled_24 : decode cX12_whyNotFiled 24 = .ok (.iconst 0, 1) := by decide +kernel
theorem dX12_whyNotFiled_25 : decode cX12_whyNotFiled 25 = .ok (.ireturn, 1) := by decide +kernel
theorem dX12_whyNotFiled_26 : decode cX12_whyNotFiled 26 = .ok (.aload_n 0, 1) := by decide +kernel
theorem dX12_whyNotFiled_27 : decode cX12_whyNotFiled 27 = .ok (.iload_n 2, 1) := by decide +kernel
theorem dX12_whyNotFiled_28 : decode cX12_whyNotFiled 28 = .ok (.invokevirtual 178, 3) := by decide +kernel
theorem dX12_whyNotFiled_31 : decode cX12_whyNotFiled 31 = .ok (.ifCond .eq 7, 3) := by decide +kernel
theorem dX12_whyNotFiled_34 : decode cX12_whyNotFiled 34 = .ok (.iconst 2, 1) := by decide +kernel
theorem dX12_whyNotFiled_35 : decode cX12_whyNotFiled 35 = .ok (.goto 37, 3) := by decide +kernel
theorem dX12_whyNotFiled_38 : decode cX12_whyNotFiled 38 = .ok (.aload_n 0, 1) := by decide +kernel
theorem dX12_whyNotFiled_39 : decode cX12_whyNotFiled 39 = .ok (.getfield 37, 3) := by decide +kernel
theorem dX12_whyNotFiled_42 : decode cX12_whyNotFiled 42 = .ok (.iconst 0, 1) := by decide +kernel
theorem dX12_whyNotFiled_43 : decode cX12_whyNotFiled 43 = .ok (.iload_n 2, 1) := by decide +kernel
theorem dX12_whyNotFiled_44 : decode cX12_whyNotFiled 44 = .ok (.iadd, 1) := by decide +kernel
theorem dX12_whyNotFiled_45 : decode cX12_whyNotFiled 45 = .ok (.iaload, 1) := by decide +kernel
theorem dX12_whyNotFiled_46 : decode cX12_whyNotFiled 46 = .ok (.iload_n 1, 1) := by decide +kernel
theorem dX12_whyNotFiled_47 : decode cX12_whyNotFiled 47 = .ok (.iconst 1, 1) := by decide +kernel
theorem dX12_whyNotFiled_48 : decode cX12_whyNotFiled 48 = .ok (.iadd, 1) := by decide +kernel
theorem dX12_whyNotFiled_49 : decode cX12_whyNotFiled 49 = .ok (.if_icmp .ne 18, 3) := by decide +kernel
theorem dX12_whyNotFiled_52 : decode cX12_whyNotFiled 52 = .ok (.aload_n 0, 1) := by decide +kernel
theorem dX12_whyNotFiled_53 : decode cX12_whyNotFiled 53 = .ok (.getfield 37, 3) := by decide +kernel
theorem dX12_whyNotFiled_56 : decode cX12_whyNotFiled 56 = .ok (.aload_n 0, 1) := by decide +kernel
theorem dX12_whyNotFiled_57 : decode cX12_whyNotFiled 57 = .ok (.iload_n 1, 1) := by decide +kernel
theorem dX12_whyNotFiled_58 : decode cX12_whyNotFiled 58 = .ok (.invokevirtual 246, 3) := by decide +kernel
theorem dX12_whyNotFiled_61 : decode cX12_whyNotFiled 61 = .ok (.iaload, 1) := by decide +kernel
theorem dX12_whyNotFiled_62 : decode cX12_whyNotFiled 62 = .ok (.bipush 10, 2) := by decide +kernel
theorem dX12_whyNotFiled_64 : decode cX12_whyNotFiled 64 = .ok (.if_icmp .ne 7, 3) := by decide +kernel
theorem dX12_whyNotFiled_67 : decode cX12_whyNotFiled 67 = .ok (.iconst 3, 1) := by decide +kernel
theorem dX12_whyNotFiled_68 : decode cX12_whyNotFiled 68 = .ok (.goto 4, 3) := by decide +kernel
theorem dX12_whyNotFiled_71 : decode cX12_whyNotFiled 71 = .ok (.iconst (-1), 1) := by decide +kernel
theorem dX12_whyNotFiled_72 : decode cX12_whyNotFiled 72 = .ok (.ireturn, 1) := by decide +kernel
set_option maxRecDepth 20000 in
theorem ggX12_whyNotSwapped_X12_isUser : GoodIn wsX12_whyNotSwapped wsX12_isUser := goodIn_r _ [6, 7, 8, 9, 5, 10, 16, 17, 18, 19, 20, 21, 22, 23, 24, 25, 26, 27, 28, 29, 30, 31, 32, 33, 34, 35, 36, 37, 38, 39, 40, 41, 42, 43, 44, 45] (by decide +kernel) (by decide +kernel)
set_option maxRecDepth 20000 in
theorem gX12_whyNotSwapped_X12_isUser : GoodIn wsX12_whyNotSwapped (wsV RX12 228 RX12 yX12_isUser wsX12_isUser) := goodIn_app (goodIn_of _ (by decide +kernel)) ggX12_whyNotSwapped_X12_isUser
set_option maxRecDepth 20000 in
theorem ggX12_whyNotSwapped_X12_haveLikeCopies : GoodIn wsX12_whyNotSwapped wsX12_haveLikeCopies := goodIn_r _ [14, 15, 16, 17, 18, 19, 20, 21, 22, 23, 24, 25, 26, 27, 28, 29, 30, 31, 32, 33, 34, 35, 36, 37, 38, 39, 40, 41, 42, 43, 44, 45] (by decide +kernel) (by decide +kernel)
set_option maxRecDepth 20000 in
theorem gX12_whyNotSwapped_X12_haveLikeCopies : GoodIn wsX12_whyNotSwapped (wsV RX12 249 RX12 yX12_haveLikeCopies wsX12_haveLikeCopies) := goodIn_app (goodIn_of _ (by decide +kernel)) ggX12_whyNotSwapped_X12_haveLikeCopies
theorem dX12_whyNotSwapped_0 : decode cX12_whyNotSwapped 0 = .ok (.aload_n 0, 1) := by decide +kernel
theorem dX12_whyNotSwapped_1 : decode cX12_whyNotSwapped 1 = .ok (.iload_n 1, 1) := by decide +kernel
theorem dX12_whyNotSwapped_2 : decode cX12_whyNotSwapped 2 = .ok (.invokevirtual 228, 3) := by decide +kernel
theorem dX12_whyNotSwapped_5 : decode cX12_whyNotSwapped 5 = .ok (.ifCond .eq 11, 3) := by decide +kernel
theorem dX12_whyNotSwapped_8 : decode cX12_whyNotSwapped 8 = .ok (.aload_n 0, 1) := by decide +kernel
theorem dX12_whyNotSwapped_9 : decode cX12_whyNotSwapped 9 = .ok (.iload_n 2, 1) := by decide +kernel
theorem dX12_whyNotSwapped_10 : decode cX12_whyNotSwapped 10 = .ok (.invokevirtual 228, 3) := by decide +kernel
theorem dX12_whyNotSwapped_13 : decode cX12_whyNotSwapped 13 = .ok (.ifCond .ne 5, 3) := by decide +kernel
theorem dX12_whyNotSwapped_16 : decode cX12_whyNotSwapped 16 = .ok (.iconst 0, 1) := by decide +kernel
theorem dX12_whyNotSwapped_17 : decode cX12_whyNotSwapped 17 = .ok (.ireturn, 1) := by decide +kernel
theorem dX12_whyNotSwapped_18 : decode cX12_whyNotSwapped 18 = .ok (.aload_n 0, 1) := by decide +kernel
theorem dX12_whyNotSwapped_19 : decode cX12_whyNotSwapped 19 = .ok (.getfield 25, 3) := by decide +kernel
theorem dX12_whyNotSwapped_22 : decode cX12_whyNotSwapped 22 = .ok (.iconst 5, 1) := by decide +kernel
theorem dX12_whyNotSwapped_23 : decode cX12_whyNotSwapped 23 = .ok (.iload_n 1, 1) := by decide +kernel
theorem dX12_whyNotSwapped_24 : decode cX12_whyNotSwapped 24 = .ok (.imul, 1) := by decide +kernel
theorem dX12_whyNotSwapped_25 : decode cX12_whyNotSwapped 25 = .ok (.iconst 2, 1) := by decide +kernel
theorem dX12_whyNotSwapped_26 : decode cX12_whyNotSwapped 26 = .ok (.iadd, 1) := by decide +kernel
theorem dX12_whyNotSwapped_27 : decode cX12_whyNotSwapped 27 = .ok (.iaload, 1) := by decide +kernel
theorem dX12_whyNotSwapped_28 : decode cX12_whyNotSwapped 28 = .ok (.aload_n 0, 1) := by decide +kernel
theorem dX12_whyNotSwapped_29 : decode cX12_whyNotSwapped 29 = .ok (.getfield 25, 3) := by decide +kernel
theorem dX12_whyNotSwapped_32 : decode cX12_whyNotSwapped 32 = .ok (.iconst 5, 1) := by decide +kernel
theorem dX12_whyNotSwapped_33 : decode cX12_whyNotSwapped 33 = .ok (.iload_n 2, 1) := by decide +kernel
theorem dX12_whyNotSwapped_34 : decode cX12_whyNotSwapped 34 = .ok (.imul, 1) := by decide +kernel
theorem dX12_whyNotSwapped_35 : decode cX12_whyNotSwapped 35 = .ok (.iconst 2, 1) := by decide +kernel
theorem dX12_whyNotSwapped_36 : decode cX12_whyNotSwapped 36 = .ok (.iadd, 1) := by decide +kernel
theorem dX12_whyNotSwapped_37 : decode cX12_whyNotSwapped 37 = .ok (.iaload, 1) := by decide +kernel
theorem dX12_whyNotSwapped_38 : decode cX12_whyNotSwapped 38 = .ok (.if_icmp .eq 7, 3) := by decide +kernel
theorem dX12_whyNotSwapped_41 : decode cX12_whyNotSwapped 41 = .ok (.iconst 1, 1) := by decide +kernel
theorem dX12_whyNotSwapped_42 : decode cX12_whyNotSwapped 42 = .ok (.goto 17, 3) := by decide +kernel
theorem dX12_whyNotSwapped_45 : decode cX12_whyNotSwapped 45 = .ok (.aload_n 0, 1) := by decide +kernel
theorem dX12_whyNotSwapped_46 : decode cX12_whyNotSwapped 46 = .ok (.iload_n 1, 1) := by decide +kernel
theorem dX12_whyNotSwapped_47 : decode cX12_whyNotSwapped 47 = .ok (.iload_n 2, 1) := by decide +kernel
theorem dX12_whyNotSwapped_48 : decode cX12_whyNotSwapped 48 = .ok (.invokevirtual 249, 3) := by decide +kernel
theorem dX12_whyNotSwapped_51 : decode cX12_whyNotSwapped 51 = .ok (.ifCond .eq 7, 3) := by decide +kernel
theorem dX12_whyNotSwapped_54 : decode cX12_whyNotSwapped 54 = .ok (.iconst 2, 1) := by decide +kernel
theorem dX12_whyNotSwapped_55 : decode cX12_whyNotSwapped 55 = .ok (.goto 4, 3) := by decide +kernel
theorem dX12_whyNotSwapped_58 : decode cX12_whyNotSwapped 58 = .ok (.iconst (-1), 1) := by decide +kernel
theorem dX12_whyNotSwapped_59 : decode cX12_whyNotSwapped 59 = .ok (.ireturn, 1) := by decide +kernel
theorem dX12_draw_0 : decode cX12_draw 0 = .ok (.aload_n 0, 1) := by decide +kernel
theorem dX12_draw_1 : decode cX12_draw 1 = .ok (.aload_n 0, 1) := by decide +kernel
theorem dX12_draw_2 : decode cX12_draw 2 = .ok (.getfield 252, 3) := by decide +kernel
theorem dX12_draw_5 : decode cX12_draw 5 = .ok (.ldc2_w 255, 3) := by decide +kernel
theorem dX12_draw_8 : decode cX12_draw 8 = .ok (.lmul, 1) := by decide +kernel
theorem dX12_draw_9 : decode cX12_draw 9 = .ok (.ldc2_w 257, 3) := by decide +kernel
theorem dX12_draw_12 : decode cX12_draw 12 = .ok (.ladd, 1) := by decide +kernel
theorem dX12_draw_13 : decode cX12_draw 13 = .ok (.putfield 252, 3) := by decide +kernel
theorem dX12_draw_16 : decode cX12_draw 16 = .ok (.aload_n 0, 1) := by decide +kernel
theorem dX12_draw_17 : decode cX12_draw 17 = .ok (.getfield 252, 3) := by decide +kernel
theorem dX12_draw_20 : decode cX12_draw 20 = .ok (.bipush 33, 2) := by decide +kernel
theorem dX12_draw_22 : decode cX12_draw 22 = .ok (.lushr, 1) := by decide +kernel
theorem dX12_draw_23 : decode cX12_draw 23 = .ok (.iload_n 1, 1) := by decide +kernel
theorem dX12_draw_24 : decode cX12_draw 24 = .ok (.i2l, 1) := by decide +kernel
theorem dX12_draw_25 : decode cX12_draw 25 = .ok (.lrem, 1) := by decide +kernel
theorem dX12_draw_26 : decode cX12_draw 26 = .ok (.l2i, 1) := by decide +kernel
theorem dX12_draw_27 : decode cX12_draw 27 = .ok (.ireturn, 1) := by decide +kernel
set_option maxRecDepth 20000 in
theorem ggX12_drawDegree_X12_degreesOfAll : GoodIn wsX12_drawDegree wsX12_degreesOfAll := goodIn_r _ [6, 1, 14, 15, 16, 17, 18, 19, 20, 21, 22, 23, 24, 25, 26, 27, 28, 29, 30, 31, 32, 33, 34, 35, 36, 37, 38, 39, 40, 41, 42, 43] (by decide +kernel) (by decide +kernel)
set_option maxRecDepth 20000 in
theorem gX12_drawDegree_X12_degreesOfAll : GoodIn wsX12_drawDegree (wsV RX12 237 RX12 yX12_degreesOfAll wsX12_degreesOfAll) := goodIn_app (goodIn_of _ (by decide +kernel)) ggX12_drawDegree_X12_degreesOfAll
set_option maxRecDepth 20000 in
theorem ggX12_drawDegree_X12_draw : GoodIn wsX12_drawDegree wsX12_draw := goodIn_r _ [10, 11, 12, 13, 14, 15, 16, 17, 18, 19, 20, 21, 22, 23, 24, 25, 26, 27, 28, 29, 30, 31, 32, 33, 34, 35, 36, 37, 38, 39, 40, 41, 42, 43] (by decide +kernel) (by decide +kernel)
set_option maxRecDepth 20000 in
theorem gX12_drawDegree_X12_draw : GoodIn wsX12_drawDegree (wsV RX12 259 RX12 yX12_draw wsX12_draw) := goodIn_app (goodIn_of _ (by decide +kernel)) ggX12_drawDegree_X12_draw
theorem dX12_drawDegree_0 : decode cX12_drawDegree 0 = .ok (.aload_n 0, 1) := by decide +kernel
theorem dX12_drawDegree_1 : decode cX12_drawDegree 1 = .ok (.aload_n 0, 1) := by decide +kernel
theorem dX12_drawDegree_2 : decode cX12_drawDegree 2 = .ok (.invokevirtual 237, 3) := by decide +kernel
theorem dX12_drawDegree_5 : decode cX12_drawDegree 5 = .ok (.invokevirtual 259, 3) := by decide +kernel
theorem dX12_drawDegree_8 : decode cX12_drawDegree 8 = .ok (.istore_n 1, 1) := by decide +kernel
theorem dX12_drawDegree_9 : decode cX12_drawDegree 9 = .ok (.iconst 1, 1) := by decide +kernel
theorem dX12_drawDegree_10 : decode cX12_drawDegree 10 = .ok (.istore_n 2, 1) := by decide +kernel
theorem dX12_drawDegree_11 : decode cX12_drawDegree 11 = .ok (.iload_n 1, 1) := by decide +kernel
theorem dX12_drawDegree_12 : decode cX12_drawDegree 12 = .ok (.aload_n 0, 1) := by decide +kernel
theorem dX12_drawDegree_13 : decode cX12_drawDegree 13 = .ok (.getfield 28, 3) := by decide +kernel
theorem dX12_drawDegree_16 : decode cX12_drawDegree 16 = .ok (.iload_n 2, 1) := by decide +kernel
theorem dX12_drawDegree_17 : decode cX12_drawDegree 17 = .ok (.iaload, 1) := by decide +kernel
theorem dX12_drawDegree_18 : decode cX12_drawDegree 18 = .ok (.if_icmp .lt 18, 3) := by decide +kernel
theorem dX12_drawDegree_21 : decode cX12_drawDegree 21 = .ok (.iload_n 1, 1) := by decide +kernel
theorem dX12_drawDegree_22 : decode cX12_drawDegree 22 = .ok (.aload_n 0, 1) := by decide +kernel
theorem dX12_drawDegree_23 : decode cX12_drawDegree 23 = .ok (.getfield 28, 3) := by decide +kernel
theorem dX12_drawDegree_26 : decode cX12_drawDegree 26 = .ok (.iload_n 2, 1) := by decide +kernel
theorem dX12_drawDegree_27 : decode cX12_drawDegree 27 = .ok (.iaload, 1) := by decide +kernel
theorem dX12_drawDegree_28 : decode cX12_drawDegree 28 = .ok (.isub, 1) := by decide +kernel
theorem dX12_drawDegree_29 : decode cX12_drawDegree 29 = .ok (.istore_n 1, 1) := by decide +kernel
theorem dX12_drawDegree_30 : decode cX12_drawDegree 30 = .ok (.iinc 2 1, 3) := by decide +kernel
theorem dX12_drawDegree_33 : decode cX12_drawDegree 33 = .ok (.goto (-22), 3) := by decide +kernel
theorem dX12_drawDegree_36 : decode cX12_drawDegree 36 = .ok (.iload_n 2, 1) := by decide +kernel
theorem dX12_drawDegree_37 : decode cX12_drawDegree 37 = .ok (.ireturn, 1) := by decide +kernel
set_option maxRecDepth 20000 in
theorem ggX12_drawNow_X12_drawDegree : GoodIn wsX12_drawNow wsX12_drawDegree := goodIn_r _ [11, 12, 13, 14, 15, 10, 16, 17, 18, 19, 20, 1, 21, 22, 51, 52, 53, 54, 55, 56, 57, 58, 59, 60, 61, 62, 63, 64, 65, 66, 67, 68, 69, 70, 71, 72, 73, 74, 75, 76, 77, 78, 79, 80] (by decide +kernel) (by decide +kernel)
set_option maxRecDepth 20000 in
theorem gX12_drawNow_X12_drawDegree : GoodIn wsX12_drawNow (wsV RX12 262 RX12 yX12_drawDegree wsX12_drawDegree) := goodIn_app (goodIn_of _ (by decide +kernel)) ggX12_drawNow_X12_drawDegree
set_option maxRecDepth 20000 in
theorem ggX12_drawNow_X12_widthOf : GoodIn wsX12_drawNow wsX12_widthOf := goodIn_r _ [26, 27, 28, 51, 52, 53, 54, 55, 56, 57, 58, 59, 60, 61, 62, 63, 64, 65, 66, 67, 68, 69, 70, 71, 72, 73, 74, 75, 76, 77, 78, 79, 80] (by decide +kernel) (by decide +kernel)
set_option maxRecDepth 20000 in
theorem gX12_drawNow_X12_widthOf : GoodIn wsX12_drawNow (wsV RX12 225 RX12 yX12_widthOf wsX12_widthOf) := goodIn_app (goodIn_of _ (by decide +kernel)) ggX12_drawNow_X12_widthOf
set_option maxRecDepth 20000 in
theorem ggX12_drawNow_X12_draw : GoodIn wsX12_drawNow wsX12_draw := goodIn_r _ [20, 1, 21, 22, 51, 52, 53, 54, 55, 56, 57, 58, 59, 60, 61, 62, 63, 64, 65, 66, 67, 68, 69, 70, 71, 72, 73, 74, 75, 76, 77, 78, 79, 80] (by decide +kernel) (by decide +kernel)
set_option maxRecDepth 20000 in
theorem gX12_drawNow_X12_draw : GoodIn wsX12_drawNow (wsV RX12 259 RX12 yX12_draw wsX12_draw) := goodIn_app (goodIn_of _ (by decide +kernel)) ggX12_drawNow_X12_draw
set_option maxRecDepth 20000 in
theorem ggX12_drawNow_X12_beginOf : GoodIn wsX12_drawNow wsX12_beginOf := goodIn_r _ [32, 27, 28, 51, 52, 53, 54, 55, 56, 57, 58, 59, 60, 61, 62, 63, 64, 65, 66, 67, 68, 69, 70, 71, 72, 73, 74, 75, 76, 77, 78, 79, 80] (by decide +kernel) (by decide +kernel)
set_option maxRecDepth 20000 in
theorem gX12_drawNow_X12_beginOf : GoodIn wsX12_drawNow (wsV RX12 222 RX12 yX12_beginOf wsX12_beginOf) := goodIn_app (goodIn_of _ (by decide +kernel)) ggX12_drawNow_X12_beginOf
set_option maxRecDepth 20000 in
theorem ggX12_drawNow_X12_hasCopy : GoodIn wsX12_drawNow wsX12_hasCopy := goodIn_r _ [36, 6, 37, 38, 10, 39, 51, 52, 53, 54, 55, 56, 57, 58, 59, 60, 61, 62, 63, 64, 65, 66, 67, 68, 69, 70, 71, 72, 73, 74, 75, 76, 77, 78, 79, 80] (by decide +kernel) (by decide +kernel)
set_option maxRecDepth 20000 in
theorem gX12_drawNow_X12_hasCopy : GoodIn wsX12_drawNow (wsV RX12 181 RX12 yX12_hasCopy wsX12_hasCopy) := goodIn_app (goodIn_of _ (by decide +kernel)) ggX12_drawNow_X12_hasCopy
set_option maxRecDepth 20000 in
theorem ggX12_drawNow_X12_turnCopy : GoodIn wsX12_drawNow wsX12_turnCopy := goodIn_r _ [43, 6, 51, 52, 53, 54, 55, 56, 57, 58, 59, 60, 61, 62, 63, 64, 65, 66, 67, 68, 69, 70, 71, 72, 73, 74, 75, 76, 77, 78, 79, 80] (by decide +kernel) (by decide +kernel)
set_option maxRecDepth 20000 in
theorem gX12_drawNow_X12_turnCopy : GoodIn wsX12_drawNow (wsV RX12 161 RX12 yX12_turnCopy wsX12_turnCopy) := goodIn_app (goodIn_of _ (by decide +kernel)) ggX12_drawNow_X12_turnCopy
set_option maxRecDepth 20000 in
theorem ggX12_drawNow_X12_copyMany : GoodIn wsX12_drawNow wsX12_copyMany := goodIn_r _ [47, 6, 48, 49, 10, 50, 51, 52, 53, 54, 55, 56, 57, 58, 59, 60, 61, 62, 63, 64, 65, 66, 67, 68, 69, 70, 71, 72, 73, 74, 75, 76, 77, 78, 79, 80] (by decide +kernel) (by decide +kernel)
set_option maxRecDepth 20000 in
theorem gX12_drawNow_X12_copyMany : GoodIn wsX12_drawNow (wsV RX12 270 RX12 yX12_copyMany wsX12_copyMany) := goodIn_app (goodIn_of _ (by decide +kernel)) ggX12_drawNow_X12_copyMany
theorem dX12_drawNow_0 : decode cX12_drawNow 0 = .ok (.aload_n 0, 1) := by decide +kernel
theorem dX12_drawNow_1 : decode cX12_drawNow 1 = .ok (.lload_n 2, 1) := by decide +kernel
theorem dX12_drawNow_2 : decode cX12_drawNow 2 = .ok (.putfield 252, 3) := by decide +kernel
theorem dX12_drawNow_5 : decode cX12_drawNow 5 = .ok (.aload_n 0, 1) := by decide +kernel
theorem dX12_drawNow_6 : decode cX12_drawNow 6 = .ok (.invokevirtual 262, 3) := by decide +kernel
theorem dX12_drawNow_9 : decode cX12_drawNow 9 = .ok (.aload_n 0, 1) := by decide +kernel
theorem dX12_drawNow_10 : decode cX12_drawNow 10 = .ok (.iload_n 1, 1) := by decide +kernel
theorem dX12_drawNow_11 : decode cX12_drawNow 11 = .ok (.invokevirtual 225, 3) := by decide +kernel
theorem dX12_drawNow_14 : decode cX12_drawNow 14 = .ok (.invokestatic 265, 3) := by decide +kernel
theorem dX12_drawNow_17 : decode cX12_drawNow 17 = .ok (.istore 4, 2) := by decide +kernel
theorem dX12_drawNow_19 : decode cX12_drawNow 19 = .ok (.aload_n 0, 1) := by decide +kernel
theorem dX12_drawNow_20 : decode cX12_drawNow 20 = .ok (.getfield 37, 3) := by decide +kernel
theorem dX12_drawNow_23 : decode cX12_drawNow 23 = .ok (.bipush 10, 2) := by decide +kernel
theorem dX12_drawNow_25 : decode cX12_drawNow 25 = .ok (.iload_n 1, 1) := by decide +kernel
theorem dX12_drawNow_26 : decode cX12_drawNow 26 = .ok (.iadd, 1) := by decide +kernel
theorem dX12_drawNow_27 : decode cX12_drawNow 27 = .ok (.iconst 0, 1) := by decide +kernel
theorem dX12_drawNow_28 : decode cX12_drawNow 28 = .ok (.iastore, 1) := by decide +kernel
theorem dX12_drawNow_29 : decode cX12_drawNow 29 = .ok (.aload_n 0, 1) := by decide +kernel
theorem dX12_drawNow_30 : decode cX12_drawNow 30 = .ok (.getfield 37, 3) := by decide +kernel
theorem dX12_drawNow_33 : decode cX12_drawNow 33 = .ok (.bipush 20, 2) := by decide +kernel
theorem dX12_drawNow_35 : decode cX12_drawNow 35 = .ok (.iload_n 1, 1) := by decide +kernel
theorem dX12_drawNow_36 : decode cX12_drawNow 36 = .ok (.iadd, 1) := by decide +kernel
theorem dX12_drawNow_37 : decode cX12_drawNow 37 = .ok (.iconst 0, 1) := by decide +kernel
theorem dX12_drawNow_38 : decode cX12_drawNow 38 = .ok (.iastore, 1) := by decide +kernel
theorem dX12_drawNow_39 : decode cX12_drawNow 39 = .ok (.iconst 0, 1) := by decide +kernel
theorem dX12_drawNow_40 : decode cX12_drawNow 40 = .ok (.istore 5, 2) := by decide +kernel
theorem dX12_drawNow_42 : decode cX12_drawNow 42 = .ok (.iload 5, 2) := by decide +kernel
theorem dX12_drawNow_44 : decode cX12_drawNow 44 = .ok (.iload 4, 2) := by decide +kernel
theorem dX12_drawNow_46 : decode cX12_drawNow 46 = .ok (.if_icmp .ge 78, 3) := by decide +kernel
theorem dX12_drawNow_49 : decode cX12_drawNow 49 = .ok (.aload_n 0, 1) := by decide +kernel
theorem dX12_drawNow_50 : decode cX12_drawNow 50 = .ok (.aload_n 0, 1) := by decide +kernel
theorem dX12_drawNow_51 : decode cX12_drawNow 51 = .ok (.iload_n 1, 1) := by decide +kernel
theorem dX12_drawNow_52 : decode cX12_drawNow 52 = .ok (.invokevirtual 225, 3) := by decide +kernel
theorem dX12_drawNow_55 : decode cX12_drawNow 55 = .ok (.iload 5, 2) := by decide +kernel
theorem dX12_drawNow_57 : decode cX12_drawNow 57 = .ok (.isub, 1) := by decide +kernel
theorem dX12_drawNow_58 : decode cX12_drawNow 58 = .ok (.invokevirtual 259, 3) := by decide +kernel
theorem dX12_drawNow_61 : decode cX12_drawNow 61 = .ok (.istore 6, 2) := by decide +kernel
theorem dX12_drawNow_63 : decode cX12_drawNow 63 = .ok (.aload_n 0, 1) := by decide +kernel
theorem dX12_drawNow_64 : decode cX12_drawNow 64 = .ok (.iload_n 1, 1) := by decide +kernel
theorem dX12_drawNow_65 : decode cX12_drawNow 65 = .ok (.invokevirtual 222, 3) := by decide +kernel
theorem dX12_drawNow_68 : decode cX12_drawNow 68 = .ok (.istore 7, 2) := by decide +kernel
theorem dX12_drawNow_70 : decode cX12_drawNow 70 = .ok (.iload 6, 2) := by decide +kernel
theorem dX12_drawNow_72 : decode cX12_drawNow 72 = .ok (.ifCond .gt 13, 3) := by decide +kernel
theorem dX12_drawNow_75 : decode cX12_drawNow 75 = .ok (.aload_n 0, 1) := by decide +kernel
theorem dX12_drawNow_76 : decode cX12_drawNow 76 = .ok (.iload_n 1, 1) := by decide +kernel
theorem dX12_drawNow_77 : decode cX12_drawNow 77 = .ok (.iload 7, 2) := by decide +kernel
theorem dX12_drawNow_79 : decode cX12_drawNow 79 = .ok (.invokevirtual 181, 3) := by decide +kernel
theorem dX12_drawNow_82 : decode cX12_drawNow 82 = .ok (.ifCond .eq 29, 3) := by decide +kernel
theorem dX12_drawNow_85 : decode cX12_drawNow 85 = .ok (.iload 6, 2) := by decide +kernel
theorem dX12_drawNow_87 : decode cX12_drawNow 87 = .ok (.aload_n 0, 1) := by decide +kernel
theorem dX12_drawNow_88 : decode cX12_drawNow 88 = .ok (.iload_n 1, 1) := by decide +kernel
theorem dX12_drawNow_89 : decode cX12_drawNow 89 = .ok (.iload 7, 2) := by decide +kernel
theorem dX12_drawNow_91 : decode cX12_drawNow 91 = .ok (.invokevirtual 181, 3) := by decide +kernel
theorem dX12_drawNow_94 : decode cX12_drawNow 94 = .ok (.ifCond .eq 7, 3) := by decide +kernel
theorem dX12_drawNow_97 : decode cX12_drawNow 97 = .ok (.iconst 0, 1) := by decide +kernel
theorem dX12_drawNow_98 : decode cX12_drawNow 98 = .ok (.goto 4, 3) := by decide +kernel
theorem dX12_drawNow_101 : decode cX12_drawNow 101 = .ok (.iconst 1, 1) := by decide +kernel
theorem dX12_drawNow_102 : decode cX12_drawNow 102 = .ok (.isub, 1) := by decide +kernel
theorem dX12_drawNow_103 : decode cX12_drawNow 103 = .ok (.istore 6, 2) := by decide +kernel
theorem dX12_drawNow_105 : decode cX12_drawNow 105 = .ok (.iinc 7 1, 3) := by decide +kernel
theorem dX12_drawNow_108 : decode cX12_drawNow 108 = .ok (.goto (-38), 3) := by decide +kernel
theorem dX12_drawNow_111 : decode cX12_drawNow 111 = .ok (.aload_n 0, 1) := by decide +kernel
theorem dX12_drawNow_112 : decode cX12_drawNow 112 = .ok (.iload_n 1, 1) := by decide +kernel
theorem dX12_drawNow_113 : decode cX12_drawNow 113 = .ok (.iload 7, 2) := by decide +kernel
theorem dX12_drawNow_115 : decode cX12_drawNow 115 = .ok (.invokevirtual 161, 3) := by decide +kernel
theorem dX12_drawNow_118 : decode cX12_drawNow 118 = .ok (.iinc 5 1, 3) := by decide +kernel
theorem dX12_drawNow_121 : decode cX12_drawNow 121 = .ok (.goto (-79), 3) := by decide +kernel
theorem dX12_drawNow_124 : decode cX12_drawNow 124 = .ok (.aload_n 0, 1) := by decide +kernel
theorem dX12_drawNow_125 : decode cX12_drawNow 125 = .ok (.iload_n 1, 1) := by decide +kernel
theorem dX12_drawNow_126 : decode cX12_drawNow 126 = .ok (.invokevirtual 270, 3) := by decide +kernel
theorem dX12_drawNow_129 : decode cX12_drawNow 129 = .ok (.ireturn, 1) := by decide +kernel
set_option maxRecDepth 20000 in
theorem ggX12_fileNow_X12_shelfAt : GoodIn wsX12_fileNow wsX12_shelfAt := goodIn_r _ [6] (by decide +kernel) (by decide +kernel)
set_option maxRecDepth 20000 in
theorem gX12_fileNow_X12_shelfAt : GoodIn wsX12_fileNow (wsV RX12 246 RX12 yX12_shelfAt wsX12_shelfAt) := goodIn_app (goodIn_of _ (by decide +kernel)) ggX12_fileNow_X12_shelfAt
theorem dX12_fileNow_0 : decode cX12_fileNow 0 = .ok (.aload_n 0, 1) := by decide +kernel
theorem dX12_fileNow_1 : decode cX12_fileNow 1 = .ok (.iload_n 1, 1) := by decide +kernel
theorem dX12_fileNow_2 : decode cX12_fileNow 2 = .ok (.invokevirtual 246, 3) := by decide +kernel
theorem dX12_fileNow_5 : decode cX12_fileNow 5 = .ok (.istore_n 3, 1) := by decide +kernel
theorem dX12_fileNow_6 : decode cX12_fileNow 6 = .ok (.aload_n 0, 1) := by decide +kernel
theorem dX12_fileNow_7 : decode cX12_fileNow 7 = .ok (.getfield 37, 3) := by decide +kernel
theorem dX12_fileNow_10 : decode cX12_fileNow 10 = .ok (.iload_n 3, 1) := by decide +kernel
theorem dX12_fileNow_11 : decode cX12_fileNow 11 = .ok (.dup2, 1) := by decide +kernel
theorem dX12_fileNow_12 : decode cX12_fileNow 12 = .ok (.iaload, 1) := by decide +kernel
theorem dX12_fileNow_13 : decode cX12_fileNow 13 = .ok (.iconst 1, 1) := by decide +kernel
theorem dX12_fileNow_14 : decode cX12_fileNow 14 = .ok (.iadd, 1) := by decide +kernel
theorem dX12_fileNow_15 : decode cX12_fileNow 15 = .ok (.iastore, 1) := by decide +kernel
theorem dX12_fileNow_16 : decode cX12_fileNow 16 = .ok (.aload_n 0, 1) := by decide +kernel
theorem dX12_fileNow_17 : decode cX12_fileNow 17 = .ok (.getfield 37, 3) := by decide +kernel
theorem dX12_fileNow_20 : decode cX12_fileNow 20 = .ok (.iload_n 3, 1) := by decide +kernel
theorem dX12_fileNow_21 : decode cX12_fileNow 21 = .ok (.aload_n 0, 1) := by decide +kernel
theorem dX12_fileNow_22 : decode cX12_fileNow 22 = .ok (.getfield 37, 3) := by decide +kernel
theorem dX12_fileNow_25 : decode cX12_fileNow 25 = .ok (.iload_n 3, 1) := by decide +kernel
theorem dX12_fileNow_26 : decode cX12_fileNow 26 = .ok (.iaload, 1) := by decide +kernel
theorem dX12_fileNow_27 : decode cX12_fileNow 27 = .ok (.iadd, 1) := by decide +kernel
theorem dX12_fileNow_28 : decode cX12_fileNow 28 = .ok (.iload_n 2, 1) := by decide +kernel
theorem dX12_fileNow_29 : decode cX12_fileNow 29 = .ok (.iastore, 1) := by decide +kernel
theorem dX12_fileNow_30 : decode cX12_fileNow 30 = .ok (.aload_n 0, 1) := by decide +kernel
theorem dX12_fileNow_31 : decode cX12_fileNow 31 = .ok (.getfield 37, 3) := by decide +kernel
theorem dX12_fileNow_34 : decode cX12_fileNow 34 = .ok (.iload_n 3, 1) := by decide +kernel
theorem dX12_fileNow_35 : decode cX12_fileNow 35 = .ok (.iaload, 1) := by decide +kernel
theorem dX12_fileNow_36 : decode cX12_fileNow 36 = .ok (.iconst 1, 1) := by decide +kernel
theorem dX12_fileNow_37 : decode cX12_fileNow 37 = .ok (.isub, 1) := by decide +kernel
theorem dX12_fileNow_38 : decode cX12_fileNow 38 = .ok (.ireturn, 1) := by decide +kernel
set_option maxRecDepth 20000 in
theorem ggX12_swapNow_X12_copyMany : GoodIn wsX12_swapNow wsX12_copyMany := goodIn_r _ [6, 1, 7, 8, 5, 9, 10, 11, 12, 13, 14, 15, 16, 17, 18, 19, 20, 21, 22, 23, 24, 25, 26, 27, 28, 29, 30, 31, 32, 33, 34, 35, 36, 37, 38, 39] (by decide +kernel) (by decide +kernel)
set_option maxRecDepth 20000 in
theorem gX12_swapNow_X12_copyMany : GoodIn wsX12_swapNow (wsV RX12 270 RX12 yX12_copyMany wsX12_copyMany) := goodIn_app (goodIn_of _ (by decide +kernel)) ggX12_swapNow_X12_copyMany
theorem dX12_swapNow_0 : decode cX12_swapNow 0 = .ok (.aload_n 0, 1) := by decide +kernel
theorem dX12_swapNow_1 : decode cX12_swapNow 1 = .ok (.getfield 37, 3) := by decide +kernel
theorem dX12_swapNow_4 : decode cX12_swapNow 4 = .ok (.bipush 10, 2) := by decide +kernel
theorem dX12_swapNow_6 : decode cX12_swapNow 6 = .ok (.iload_n 1, 1) := by decide +kernel
theorem dX12_swapNow_7 : decode cX12_swapNow 7 = .ok (.iadd, 1) := by decide +kernel
theorem dX12_swapNow_8 : decode cX12_swapNow 8 = .ok (.iaload, 1) := by decide +kernel
theorem dX12_swapNow_9 : decode cX12_swapNow 9 = .ok (.istore_n 3, 1) := by decide +kernel
theorem dX12_swapNow_10 : decode cX12_swapNow 10 = .ok (.aload_n 0, 1) := by decide +kernel
theorem dX12_swapNow_11 : decode cX12_swapNow 11 = .ok (.getfield 37, 3) := by decide +kernel
theorem dX12_swapNow_14 : decode cX12_swapNow 14 = .ok (.bipush 20, 2) := by decide +kernel
theorem dX12_swapNow_16 : decode cX12_swapNow 16 = .ok (.iload_n 1, 1) := by decide +kernel
theorem dX12_swapNow_17 : decode cX12_swapNow 17 = .ok (.iadd, 1) := by decide +kernel
theorem dX12_swapNow_18 : decode cX12_swapNow 18 = .ok (.iaload, 1) := by decide +kernel
theorem dX12_swapNow_19 : decode cX12_swapNow 19 = .ok (.istore 4, 2) := by decide +kernel
theorem dX12_swapNow_21 : decode cX12_swapNow 21 = .ok (.aload_n 0, 1) := by decide +kernel
theorem dX12_swapNow_22 : decode cX12_swapNow 22 = .ok (.getfield 37, 3) := by decide +kernel
theorem dX12_swapNow_25 : decode cX12_swapNow 25 = .ok (.bipush 10, 2) := by decide +kernel
theorem dX12_swapNow_27 : decode cX12_swapNow 27 = .ok (.iload_n 1, 1) := by decide +kernel
theorem dX12_swapNow_28 : decode cX12_swapNow 28 = .ok (.iadd, 1) := by decide +kernel
theorem dX12_swapNow_29 : decode cX12_swapNow 29 = .ok (.aload_n 0, 1) := by decide +kernel
theorem dX12_swapNow_30 : decode cX12_swapNow 30 = .ok (.getfield 37, 3) := by decide +kernel
theorem dX12_swapNow_33 : decode cX12_swapNow 33 = .ok (.bipush 10, 2) := by decide +kernel
theorem dX12_swapNow_35 : decode cX12_swapNow 35 = .ok (.iload_n 2, 1) := by decide +kernel
theorem dX12_swapNow_36 : decode cX12_swapNow 36 = .ok (.iadd, 1) := by decide +kernel
theorem dX12_swapNow_37 : decode cX12_swapNow 37 = .ok (.iaload, 1) := by decide +kernel
theorem dX12_swapNow_38 : decode cX12_swapNow 38 = .ok (.iastore, 1) := by decide +kernel
theorem dX12_swapNow_39 : decode cX12_swapNow 39 = .ok (.aload_n 0, 1) := by decide +kernel
theorem dX12_swapNow_40 : decode cX12_swapNow 40 = .ok (.getfield 37, 3) := by decide +kernel
theorem dX12_swapNow_43 : decode cX12_swapNow 43 = .ok (.bipush 20, 2) := by decide +kernel
theorem dX12_swapNow_45 : decode cX12_swapNow 45 = .ok (.iload_n 1, 1) := by decide +kernel
theorem dX12_swapNow_46 : decode cX12_swapNow 46 = .ok (.iadd, 1) := by decide +kernel
theorem dX12_swapNow_47 : decode cX12_swapNow 47 = .ok (.aload_n 0, 1) := by decide +kernel
theorem dX12_swapNow_48 : decode cX12_swapNow 48 = .ok (.getfield 37, 3) := by decide +kernel
theorem dX12_swapNow_51 : decode cX12_swapNow 51 = .ok (.bipush 20, 2) := by decide +kernel
theorem dX12_swapNow_53 : decode cX12_swapNow 53 = .ok (.iload_n 2, 1) := by decide +kernel
theorem dX12_swapNow_54 : decode cX12_swapNow 54 = .ok (.iadd, 1) := by decide +kernel
theorem dX12_swapNow_55 : decode cX12_swapNow 55 = .ok (.iaload, 1) := by decide +kernel
theorem dX12_swapNow_56 : decode cX12_swapNow 56 = .ok (.iastore, 1) := by decide +kernel
theorem dX12_swapNow_57 : decode cX12_swapNow 57 = .ok (.aload_n 0, 1) := by decide +kernel
theorem dX12_swapNow_58 : decode cX12_swapNow 58 = .ok (.getfield 37, 3) := by decide +kernel
theorem dX12_swapNow_61 : decode cX12_swapNow 61 = .ok (.bipush 10, 2) := by decide +kernel
theorem dX12_swapNow_63 : decode cX12_swapNow 63 = .ok (.iload_n 2, 1) := by decide +kernel
theorem dX12_swapNow_64 : decode cX12_swapNow 64 = .ok (.iadd, 1) := by decide +kernel
theorem dX12_swapNow_65 : decode cX12_swapNow 65 = .ok (.iload_n 3, 1) := by decide +kernel
theorem dX12_swapNow_66 : decode cX12_swapNow 66 = .ok (.iastore, 1) := by decide +kernel
theorem dX12_swapNow_67 : decode cX12_swapNow 67 = .ok (.aload_n 0, 1) := by decide +kernel
theorem dX12_swapNow_68 : decode cX12_swapNow 68 = .ok (.getfield 37, 3) := by decide +kernel
theorem dX12_swapNow_71 : decode cX12_swapNow 71 = .ok (.bipush 20, 2) := by decide +kernel
theorem dX12_swapNow_73 : decode cX12_swapNow 73 = .ok (.iload_n 2, 1) := by decide +kernel
theorem dX12_swapNow_74 : decode cX12_swapNow 74 = .ok (.iadd, 1) := by decide +kernel
theorem dX12_swapNow_75 : decode cX12_swapNow 75 = .ok (.iload 4, 2) := by decide +kernel
theorem dX12_swapNow_77 : decode cX12_swapNow 77 = .ok (.iastore, 1) := by decide +kernel
theorem dX12_swapNow_78 : decode cX12_swapNow 78 = .ok (.aload_n 0, 1) := by decide +kernel
theorem dX12_swapNow_79 : decode cX12_swapNow 79 = .ok (.iload_n 1, 1) := by decide +kernel
theorem dX12_swapNow_80 : decode cX12_swapNow 80 = .ok (.invokevirtual 270, 3) := by decide +kernel
theorem dX12_swapNow_83 : decode cX12_swapNow 83 = .ok (.ireturn, 1) := by decide +kernel
set_option maxRecDepth 20000 in
theorem ggX12_doNow_X12_slotMany : GoodIn wsX12_doNow wsX12_slotMany := goodIn_r _ [6, 7, 8, 9, 10, 5, 11, 12, 131, 132, 133, 134, 135, 136, 137, 138, 139, 140, 141, 142, 143, 144, 145, 146, 147, 148, 149, 150, 151, 152, 153, 154, 155, 156, 157, 158, 159, 160] (by decide +kernel) (by decide +kernel)
set_option maxRecDepth 20000 in
theorem gX12_doNow_X12_slotMany : GoodIn wsX12_doNow (wsV RX12 154 RX12 yX12_slotMany wsX12_slotMany) := goodIn_app (goodIn_of _ (by decide +kernel)) ggX12_doNow_X12_slotMany
set_option maxRecDepth 20000 in
theorem ggX12_doNow_X12_peelNow : GoodIn wsX12_doNow wsX12_peelNow := goodIn_r _ [16, 1, 17, 18, 19, 5, 20, 21, 22, 23, 24, 12, 25, 26, 27, 28, 29, 30, 31, 32, 33, 34, 35, 36, 37, 38, 39, 40, 41, 42, 43, 44, 45, 46, 47, 48, 49, 50, 51, 52, 53, 54, 7, 55, 56, 57, 58, 59, 60, 61, 131, 132, 133, 134, 135, 136, 137, 138, 139, 140, 141, 142, 143, 144, 145, 146, 147, 148, 149, 150, 151, 152, 153, 154, 155, 156, 157, 158, 159, 160] (by decide +kernel) (by decide +kernel)
set_option maxRecDepth 20000 in
theorem gX12_doNow_X12_peelNow : GoodIn wsX12_doNow (wsV RX12 273 RX12 yX12_peelNow wsX12_peelNow) := goodIn_app (goodIn_of _ (by decide +kernel)) ggX12_doNow_X12_peelNow
set_option maxRecDepth 20000 in
theorem ggX12_doNow_X12_roundNow : GoodIn wsX12_doNow wsX12_roundNow := goodIn_r _ [65, 12, 66, 1, 2, 3, 4, 5, 6, 7, 8, 9, 10, 11, 21, 22, 23, 24, 25, 26, 27, 28, 29, 30, 31, 32, 33, 34, 35, 36, 37, 38, 39, 40, 41, 42, 43, 44, 45, 46, 47, 48, 49, 50, 51, 52, 53, 54, 58, 59, 60, 61, 131, 132, 133, 134, 135, 136, 137, 138, 139, 140, 141, 142, 143, 144, 145, 146, 147, 148, 149, 150, 151, 152, 153, 154, 155, 156, 157, 158, 159, 160] (by decide +kernel) (by decide +kernel)
set_option maxRecDepth 20000 in
theorem gX12_doNow_X12_roundNow : GoodIn wsX12_doNow (wsV RX12 216 RX12 yX12_roundNow wsX12_roundNow) := goodIn_app (goodIn_of _ (by decide +kernel)) ggX12_doNow_X12_roundNow
set_option maxRecDepth 20000 in
theorem ggX12_doNow_X12_knownMany : GoodIn wsX12_doNow wsX12_knownMany := goodIn_r _ [70, 71, 72, 73, 5, 74, 12, 31, 32, 33, 34, 1, 75, 76, 77, 131, 132, 133, 134, 135, 136, 137, 138, 139, 140, 141, 142, 143, 144, 145, 146, 147, 148, 149, 150, 151, 152, 153, 154, 155, 156, 157, 158, 159, 160] (by decide +kernel) (by decide +kernel)
set_option maxRecDepth 20000 in
theorem gX12_doNow_X12_knownMany : GoodIn wsX12_doNow (wsV RX12 219 RX12 yX12_knownMany wsX12_knownMany) := goodIn_app (goodIn_of _ (by decide +kernel)) ggX12_doNow_X12_knownMany
set_option maxRecDepth 20000 in
theorem ggX12_doNow_X12_turnCopy : GoodIn wsX12_doNow wsX12_turnCopy := goodIn_r _ [81, 1, 131, 132, 133, 134, 135, 136, 137, 138, 139, 140, 141, 142, 143, 144, 145, 146, 147, 148, 149, 150, 151, 152, 153, 154, 155, 156, 157, 158, 159, 160] (by decide +kernel) (by decide +kernel)
set_option maxRecDepth 20000 in
theorem gX12_doNow_X12_turnCopy : GoodIn wsX12_doNow (wsV RX12 161 RX12 yX12_turnCopy wsX12_turnCopy) := goodIn_app (goodIn_of _ (by decide +kernel)) ggX12_doNow_X12_turnCopy
set_option maxRecDepth 20000 in
theorem ggX12_doNow_X12_copyMany : GoodIn wsX12_doNow wsX12_copyMany := goodIn_r _ [85, 1, 75, 76, 5, 77, 131, 132, 133, 134, 135, 136, 137, 138, 139, 140, 141, 142, 143, 144, 145, 146, 147, 148, 149, 150, 151, 152, 153, 154, 155, 156, 157, 158, 159, 160] (by decide +kernel) (by decide +kernel)
set_option maxRecDepth 20000 in
theorem gX12_doNow_X12_copyMany : GoodIn wsX12_doNow (wsV RX12 270 RX12 yX12_copyMany wsX12_copyMany) := goodIn_app (goodIn_of _ (by decide +kernel)) ggX12_doNow_X12_copyMany
set_option maxRecDepth 20000 in
theorem ggX12_doNow_X12_drawNow : GoodIn wsX12_doNow wsX12_drawNow := goodIn_r _ [89, 90, 91, 92, 93, 94, 1, 95, 96, 97, 5, 98, 99, 100, 101, 102, 103, 104, 105, 106, 107, 108, 109, 110, 111, 112, 113, 7, 114, 115, 116, 117, 118, 35, 36, 37, 38, 39, 40, 41, 78, 79, 80, 81, 82, 83, 84, 85, 75, 76, 77, 131, 132, 133, 134, 135, 136, 137, 138, 139, 140, 141, 142, 143, 144, 145, 146, 147, 148, 149, 150, 151, 152, 153, 154, 155, 156, 157, 158, 159, 160] (by decide +kernel) (by decide +kernel)
set_option maxRecDepth 20000 in
theorem gX12_doNow_X12_drawNow : GoodIn wsX12_doNow (wsV RX12 276 RX12 yX12_drawNow wsX12_drawNow) := goodIn_app (goodIn_of _ (by decide +kernel)) ggX12_doNow_X12_drawNow
set_option maxRecDepth 20000 in
theorem ggX12_doNow_X12_fileNow : GoodIn wsX12_doNow wsX12_fileNow := goodIn_r _ [122, 1, 123, 124, 125, 5, 126, 131, 132, 133, 134, 135, 136, 137, 138, 139, 140, 141, 142, 143, 144, 145, 146, 147, 148, 149, 150, 151, 152, 153, 154, 155, 156, 157, 158, 159, 160] (by decide +kernel) (by decide +kernel)
set_option maxRecDepth 20000 in
theorem gX12_doNow_X12_fileNow : GoodIn wsX12_doNow (wsV RX12 280 RX12 yX12_fileNow wsX12_fileNow) := goodIn_app (goodIn_of _ (by decide +kernel)) ggX12_doNow_X12_fileNow
set_option maxRecDepth 20000 in
theorem ggX12_doNow_X12_swapNow : GoodIn wsX12_doNow wsX12_swapNow := goodIn_r _ [130, 1, 82, 83, 84, 5, 85, 75, 76, 77, 131, 132, 133, 134, 135, 136, 137, 138, 139, 140, 141, 142, 143, 144, 145, 146, 147, 148, 149, 150, 151, 152, 153, 154, 155, 156, 157, 158, 159, 160] (by decide +kernel) (by decide +kernel)
set_option maxRecDepth 20000 in
theorem gX12_doNow_X12_swapNow : GoodIn wsX12_doNow (wsV RX12 283 RX12 yX12_swapNow wsX12_swapNow) := goodIn_app (goodIn_of _ (by decide +kernel)) ggX12_doNow_X12_swapNow
theorem dX12_doNow_0 : decode cX12_doNow 0 = .ok (.iconst 0, 1) := by decide +kernel
theorem dX12_doNow_1 : decode cX12_doNow 1 = .ok (.istore 6, 2) := by decide +kernel
theorem dX12_doNow_3 : decode cX12_doNow 3 = .ok (.iload_n 1, 1) := by decide +kernel
theorem dX12_doNow_4 : decode cX12_doNow 4 = .ok (.tableswitch 146 0 7 #[48, 58, 63, 77, 99, 111, 131, 139], 48) := by decide +kernel
theorem dX12_doNow_52 : decode cX12_doNow 52 = .ok (.aload_n 0, 1) := by decide +kernel
theorem dX12_doNow_53 : decode cX12_doNow 53 = .ok (.iconst 0, 1) := by decide +kernel
theorem dX12_doNow_54 : decode cX12_doNow 54 = .ok (.aload_n 0, 1) := by decide +kernel
theorem dX12_doNow_55 : decode cX12_doNow 55 = .ok (.invokevirtual 154, 3) := by decide +kernel
theorem dX12_doNow_58 : decode cX12_doNow 58 = .ok (.invokevirtual 273, 3) := by decide +kernel
theorem dX12_doNow_61 : decode cX12_doNow 61 = .ok (.ireturn, 1) := by decide +kernel
theorem dX12_doNow_62 : decode cX12_doNow 62 = .ok (.aload_n 0, 1) := by decide +kernel
theorem dX12_doNow_63 : decode cX12_doNow 63 = .ok (.invokevirtual 216, 3) := by decide +kernel
theorem dX12_doNow_66 : decode cX12_doNow 66 = .ok (.ireturn, 1) := by decide +kernel
theorem dX12_doNow_67 : decode cX12_doNow 67 = .ok (.aload_n 0, 1) := by decide +kernel
theorem dX12_doNow_68 : decode cX12_doNow 68 = .ok (.getfield 37, 3) := by decide +kernel
theorem dX12_doNow_71 : decode cX12_doNow 71 = .ok (.iconst 0, 1) := by decide +kernel
theorem dX12_doNow_72 : decode cX12_doNow 72 = .ok (.iload_n 2, 1) := by decide +kernel
theorem dX12_doNow_73 : decode cX12_doNow 73 = .ok (.iadd, 1) := by decide +kernel
theorem dX12_doNow_74 : decode cX12_doNow 74 = .ok (.iconst 3, 1) := by decide +kernel
theorem dX12_doNow_75 : decode cX12_doNow 75 = .ok (.iastore, 1) := by decide +kernel
theorem dX12_doNow_76 : decode cX12_doNow 76 = .ok (.aload_n 0, 1) := by decide +kernel
theorem dX12_doNow_77 : decode cX12_doNow 77 = .ok (.invokevirtual 219, 3) := by decide +kernel
theorem dX12_doNow_80 : decode cX12_doNow 80 = .ok (.ireturn, 1) := by decide +kernel
theorem dX12_doNow_81 : decode cX12_doNow 81 = .ok (.aload_n 0, 1) := by decide +kernel
theorem dX12_doNow_82 : decode cX12_doNow 82 = .ok (.getfield 37, 3) := by decide +kernel
theorem dX12_doNow_85 : decode cX12_doNow 85 = .ok (.iconst 0, 1) := by decide +kernel
theorem dX12_doNow_86 : decode cX12_doNow 86 = .ok (.iload_n 2, 1) := by decide +kernel
theorem dX12_doNow_87 : decode cX12_doNow 87 = .ok (.iadd, 1) := by decide +kernel
theorem dX12_doNow_88 : decode cX12_doNow 88 = .ok (.iaload, 1) := by decide +kernel
theorem dX12_doNow_89 : decode cX12_doNow 89 = .ok (.istore 6, 2) := by decide +kernel
theorem dX12_doNow_91 : decode cX12_doNow 91 = .ok (.aload_n 0, 1) := by decide +kernel
theorem dX12_doNow_92 : decode cX12_doNow 92 = .ok (.getfield 37, 3) := by decide +kernel
theorem dX12_doNow_95 : decode cX12_doNow 95 = .ok (.iconst 0, 1) := by decide +kernel
theorem dX12_doNow_96 : decode cX12_doNow 96 = .ok (.iload_n 2, 1) := by decide +kernel
theorem dX12_doNow_97 : decode cX12_doNow 97 = .ok (.iadd, 1) := by decide +kernel
theorem dX12_doNow_98 : decode cX12_doNow 98 = .ok (.iconst 0, 1) := by decide +kernel
theorem dX12_doNow_99 : decode cX12_doNow 99 = .ok (.iastore, 1) := by decide +kernel
theorem dX12_doNow_100 : decode cX12_doNow 100 = .ok (.iload 6, 2) := by decide +kernel
theorem dX12_doNow_102 : decode cX12_doNow 102 = .ok (.ireturn, 1) := by decide +kernel
theorem dX12_doNow_103 : decode cX12_doNow 103 = .ok (.aload_n 0, 1) := by decide +kernel
theorem dX12_doNow_104 : decode cX12_doNow 104 = .ok (.iload_n 2, 1) := by decide +kernel
theorem dX12_doNow_105 : decode cX12_doNow 105 = .ok (.iload_n 3, 1) := by decide +kernel
theorem dX12_doNow_106 : decode cX12_doNow 106 = .ok (.invokevirtual 161, 3) := by decide +kernel
theorem dX12_doNow_109 : decode cX12_doNow 109 = .ok (.aload_n 0, 1) := by decide +kernel
theorem dX12_doNow_110 : decode cX12_doNow 110 = .ok (.iload_n 2, 1) := by decide +kernel
theorem dX12_doNow_111 : decode cX12_doNow 111 = .ok (.invokevirtual 270, 3) := by decide +kernel
theorem dX12_doNow_114 : decode cX12_doNow 114 = .ok (.ireturn, 1) := by decide +kernel
theorem dX12_doNow_115 : decode cX12_doNow 115 = .ok (.aload_n 0, 1) := by decide +kernel
theorem dX12_doNow_116 : decode cX12_doNow 116 = .ok (.getfield 37, 3) := by decide +kernel
theorem dX12_doNow_119 : decode cX12_doNow 119 = .ok (.bipush 30, 2) := by decide +kernel
theorem dX12_doNow_121 : decode cX12_doNow 121 = .ok (.iaload, 1) := by decide +kernel
theorem dX12_doNow_122 : decode cX12_doNow 122 = .ok (.istore 6, 2) := by decide +kernel
theorem dX12_doNow_124 : decode cX12_doNow 124 = .ok (.aload_n 0, 1) := by decide +kernel
theorem dX12_doNow_125 : decode cX12_doNow 125 = .ok (.getfield 37, 3) := by decide +kernel
theorem dX12_doNow_128 : decode cX12_doNow 128 = .ok (.bipush 30, 2) := by decide +kernel
theorem dX12_doNow_130 : decode cX12_doNow 130 = .ok (.iload_n 2, 1) := by decide +kernel
theorem dX12_doNow_131 : decode cX12_doNow 131 = .ok (.iastore, 1) := by decide +kernel
theorem dX12_doNow_132 : decode cX12_doNow 132 = .ok (.iload 6, 2) := by decide +kernel
theorem dX12_doNow_134 : decode cX12_doNow 134 = .ok (.ireturn, 1) := by decide +kernel
theorem dX12_doNow_135 : decode cX12_doNow 135 = .ok (.aload_n 0, 1) := by decide +kernel
theorem dX12_doNow_136 : decode cX12_doNow 136 = .ok (.iload_n 2, 1) := by decide +kernel
theorem dX12_doNow_137 : decode cX12_doNow 137 = .ok (.lload 4, 2) := by decide +kernel
theorem dX12_doNow_139 : decode cX12_doNow 139 = .ok (.invokevirtual 276, 3) := by decide +kernel
theorem dX12_doNow_142 : decode cX12_doNow 142 = .ok (.ireturn, 1) := by decide +kernel
theorem dX12_doNow_143 : decode cX12_doNow 143 = .ok (.aload_n 0, 1) := by decide +kernel
theorem dX12_doNow_144 : decode cX12_doNow 144 = .ok (.iload_n 2, 1) := by decide +kernel
theorem dX12_doNow_145 : decode cX12_doNow 145 = .ok (.iload_n 3, 1) := by decide +kernel
theorem dX12_doNow_146 : decode cX12_doNow 146 = .ok (.invokevirtual 280, 3) := by decide +kernel
theorem dX12_doNow_149 : decode cX12_doNow 149 = .ok (.ireturn, 1) := by decide +kernel
theorem dX12_doNow_150 : decode cX12_doNow 150 = .ok (.aload_n 0, 1) := by decide +kernel
theorem dX12_doNow_151 : decode cX12_doNow 151 = .ok (.iload_n 2, 1) := by decide +kernel
theorem dX12_doNow_152 : decode cX12_doNow 152 = .ok (.iload_n 3, 1) := by decide +kernel
theorem dX12_doNow_153 : decode cX12_doNow 153 = .ok (.invokevirtual 283, 3) := by decide +kernel
theorem dX12_doNow_156 : decode cX12_doNow 156 = .ok (.ireturn, 1) := by decide +kernel
set_option maxRecDepth 20000 in
theorem ggX12_act_X12_keep : GoodIn wsX12_act wsX12_keep := goodIn_r _ [5, 6, 7, 8, 145, 146, 147, 148, 149, 150, 151, 152, 153, 154, 155, 156, 157, 158, 159, 160, 161, 162, 163, 164, 165, 166, 167, 168, 169, 170, 171, 172, 173, 174] (by decide +kernel) (by decide +kernel)
set_option maxRecDepth 20000 in
theorem gX12_act_X12_keep : GoodIn wsX12_act (wsV RX12 286 RX12 yX12_keep wsX12_keep) := goodIn_app (goodIn_of _ (by decide +kernel)) ggX12_act_X12_keep
set_option maxRecDepth 20000 in
theorem ggX12_act_X12_doNow : GoodIn wsX12_act wsX12_doNow := goodIn_r _ [12, 8, 13, 14, 15, 4, 16, 17, 18, 19, 20, 21, 22, 23, 24, 25, 26, 27, 28, 29, 30, 31, 32, 33, 34, 35, 36, 37, 38, 39, 40, 41, 42, 43, 44, 45, 46, 47, 48, 49, 50, 51, 52, 53, 54, 55, 56, 57, 58, 59, 60, 61, 62, 63, 64, 65, 66, 67, 68, 69, 70, 71, 72, 73, 74, 75, 76, 77, 78, 79, 80, 81, 82, 83, 84, 85, 86, 87, 88, 89, 90, 91, 92, 93, 94, 95, 96, 97, 98, 99, 100, 101, 102, 103, 104, 105, 106, 107, 108, 109, 110, 111, 112, 113, 114, 115, 116, 117, 118, 119, 120, 121, 122, 123, 124, 125, 126, 127, 128, 129, 130, 131, 132, 133, 134, 135, 136, 137, 138, 139, 140, 145, 146, 147, 148, 149, 150, 151, 152, 153, 154, 155, 156, 157, 158, 159, 160, 161, 162, 163, 164, 165, 166, 167, 168, 169, 170, 171, 172, 173, 174] (by decide +kernel) (by decide +kernel)
set_option maxRecDepth 20000 in
theorem gX12_act_X12_doNow : GoodIn wsX12_act (wsV RX12 289 RX12 yX12_doNow wsX12_doNow) := goodIn_app (goodIn_of _ (by decide +kernel)) ggX12_act_X12_doNow
set_option maxRecDepth 20000 in
theorem ggX12_act_X12_note : GoodIn wsX12_act wsX12_note := goodIn_r _ [144, 8, 77, 78, 79, 4, 80, 81, 82, 83, 84, 22, 41, 42, 43, 44, 85, 86, 87, 145, 146, 147, 148, 149, 150, 151, 152, 153, 154, 155, 156, 157, 158, 159, 160, 161, 162, 163, 164, 165, 166, 167, 168, 169, 170, 171, 172, 173, 174] (by decide +kernel) (by decide +kernel)
set_option maxRecDepth 20000 in
theorem gX12_act_X12_note : GoodIn wsX12_act (wsV RX12 293 RX12 yX12_note wsX12_note) := goodIn_app (goodIn_of _ (by decide +kernel)) ggX12_act_X12_note
theorem dX12_act_0 : decode cX12_act 0 = .ok (.aload_n 0, 1) := by decide +kernel
theorem dX12_act_1 : decode cX12_act 1 = .ok (.invokevirtual 286, 3) := by decide +kernel
theorem dX12_act_4 : decode cX12_act 4 = .ok (.aload_n 0, 1) := by decide +kernel
theorem dX12_act_5 : decode cX12_act 5 = .ok (.iload_n 1, 1) := by decide +kernel
theorem dX12_act_6 : decode cX12_act 6 = .ok (.iload_n 2, 1) := by decide +kernel
theorem dX12_act_7 : decode cX12_act 7 = .ok (.iload_n 3, 1) := by decide +kernel
theorem dX12_act_8 : decode cX12_act 8 = .ok (.lload 4, 2) := by decide +kernel
theorem dX12_act_10 : decode cX12_act 10 = .ok (.invokevirtual 289, 3) := by decide +kernel
theorem dX12_act_13 : decode cX12_act 13 = .ok (.istore 6, 2) := by decide +kernel
theorem dX12_act_15 : decode cX12_act 15 = .ok (.aload_n 0, 1) := by decide +kernel
theorem dX12_act_16 : decode cX12_act 16 = .ok (.iload_n 1, 1) := by decide +kernel
theorem dX12_act_17 : decode cX12_act 17 = .ok (.iload_n 1, 1) := by decide +kernel
theorem dX12_act_18 : decode cX12_act 18 = .ok (.ifCond .ne 8, 3) := by decide +kernel
theorem dX12_act_21 : decode cX12_act 21 = .ok (.iload 6, 2) := by decide +kernel
theorem dX12_act_23 : decode cX12_act 23 = .ok (.goto 28, 3) := by decide +kernel
theorem dX12_act_26 : decode cX12_act 26 = .ok (.iload_n 1, 1) := by decide +kernel
theorem dX12_act_27 : decode cX12_act 27 = .ok (.iconst 1, 1) := by decide +kernel
theorem dX12_act_28 : decode cX12_act 28 = .ok (.if_icmp .eq 8, 3) := by decide +kernel
theorem dX12_act_31 : decode cX12_act 31 = .ok (.iload_n 1, 1) := by decide +kernel
theorem dX12_act_32 : decode cX12_act 32 = .ok (.iconst 5, 1) := by decide +kernel
theorem dX12_act_33 : decode cX12_act 33 = .ok (.if_icmp .ne 7, 3) := by decide +kernel
theorem dX12_act_36 : decode cX12_act 36 = .ok (.iconst (-1), 1) := by decide +kernel
theorem dX12_act_37 : decode cX12_act 37 = .ok (.goto 14, 3) := by decide +kernel
theorem dX12_act_40 : decode cX12_act 40 = .ok (.iload_n 1, 1) := by decide +kernel
theorem dX12_act_41 : decode cX12_act 41 = .ok (.bipush 7, 2) := by decide +kernel
theorem dX12_act_43 : decode cX12_act 43 = .ok (.if_icmp .ne 7, 3) := by decide +kernel
theorem dX12_act_46 : decode cX12_act 46 = .ok (.iload_n 3, 1) := by decide +kernel
theorem dX12_act_47 : decode cX12_act 47 = .ok (.goto 4, 3) := by decide +kernel
theorem dX12_act_50 : decode cX12_act 50 = .ok (.iload_n 2, 1) := by decide +kernel
theorem dX12_act_51 : decode cX12_act 51 = .ok (.invokevirtual 293, 3) := by decide +kernel
theorem dX12_act_54 : decode cX12_act 54 = .ok (.iload 6, 2) := by decide +kernel
theorem dX12_act_56 : decode cX12_act 56 = .ok (.ireturn, 1) := by decide +kernel
set_option maxRecDepth 20000 in
theorem ggX12_hand_X12_whyNot : GoodIn wsX12_hand wsX12_whyNot := goodIn_r _ [6, 7, 8, 9, 10, 5, 11, 12, 13, 14, 15, 16, 17, 18, 19, 20, 21, 22, 23, 24, 25, 26, 27, 28, 29, 30, 31, 32, 33, 34, 35, 36, 37, 38, 39, 40, 41, 42, 43, 44, 45, 46, 47, 48, 49, 50, 51, 52, 53, 54, 55, 56, 57, 58, 59, 60, 61, 62, 63, 64, 65, 66, 67, 68, 69, 70, 71, 72, 73, 74, 75, 76, 77, 78, 79, 80, 81, 82, 83, 84, 85, 86, 87, 88, 89, 90, 91, 92, 93, 94, 95, 96, 97, 98, 99, 100, 181, 182, 183, 184, 185, 186, 187, 188, 189, 190, 191, 192, 193, 194, 195, 196, 197, 198, 199, 200, 201, 202, 203, 204, 205, 206, 207, 208, 209, 210] (by decide +kernel) (by decide +kernel)
set_option maxRecDepth 20000 in
theorem gX12_hand_X12_whyNot : GoodIn wsX12_hand (wsV RX12 296 RX12 yX12_whyNot wsX12_whyNot) := goodIn_app (goodIn_of _ (by decide +kernel)) ggX12_hand_X12_whyNot
set_option maxRecDepth 20000 in
theorem ggX12_hand_X12_act : GoodIn wsX12_hand wsX12_act := goodIn_r _ [104, 105, 106, 107, 5, 108, 109, 110, 7, 111, 112, 113, 114, 13, 14, 15, 16, 17, 8, 9, 10, 11, 12, 115, 116, 117, 118, 18, 19, 20, 21, 22, 23, 24, 25, 26, 27, 28, 29, 30, 31, 32, 33, 34, 35, 36, 37, 38, 39, 40, 41, 42, 43, 44, 45, 46, 47, 48, 49, 50, 51, 52, 53, 54, 55, 119, 120, 121, 122, 123, 124, 125, 126, 127, 128, 129, 130, 131, 132, 133, 134, 135, 136, 137, 138, 139, 140, 141, 142, 143, 144, 145, 146, 147, 148, 149, 150, 151, 152, 153, 154, 155, 156, 157, 158, 159, 160, 161, 162, 84, 80, 81, 82, 83, 163, 164, 165, 166, 167, 168, 76, 77, 78, 79, 75, 71, 72, 73, 74, 169, 170, 171, 172, 89, 90, 91, 92, 173, 174, 175, 176, 177, 178, 179, 180, 181, 182, 183, 184, 185, 186, 187, 188, 189, 190, 191, 192, 193, 194, 195, 196, 197, 198, 199, 200, 201, 202, 203, 204, 205, 206, 207, 208, 209, 210] (by decide +kernel) (by decide +kernel)
set_option maxRecDepth 20000 in
theorem gX12_hand_X12_act : GoodIn wsX12_hand (wsV RX12 300 RX12 yX12_act wsX12_act) := goodIn_app (goodIn_of _ (by decide +kernel)) ggX12_hand_X12_act
theorem dX12_hand_0 : decode cX12_hand 0 = .ok (.aload_n 0, 1) := by decide +kernel
theorem dX12_hand_1 : decode cX12_hand 1 = .ok (.iload_n 1, 1) := by decide +kernel
theorem dX12_hand_2 : decode cX12_hand 2 = .ok (.iload_n 2, 1) := by decide +kernel
theorem dX12_hand_3 : decode cX12_hand 3 = .ok (.iload_n 3, 1) := by decide +kernel
theorem dX12_hand_4 : decode cX12_hand 4 = .ok (.invokevirtual 296, 3) := by decide +kernel
theorem dX12_hand_7 : decode cX12_hand 7 = .ok (.istore 6, 2) := by decide +kernel
theorem dX12_hand_9 : decode cX12_hand 9 = .ok (.iload 6, 2) := by decide +kernel
