/-! decode rows (printed by the kit) -/
theorem dX12_readScript_54 : decode cX12_readScript 54 = .ok (.iconst (-1), 1) := by decide +kernel
theorem dX12_readScript_55 : decode cX12_readScript 55 = .ok (.if_icmp .ne 27, 3) := by decide +kernel
theorem dX12_readScript_58 : decode cX12_readScript 58 = .ok (.aload_n 0, 1) := by decide +kernel
theorem dX12_readScript_59 : decode cX12_readScript 59 = .ok (.invokevirtual 90, 3) := by decide +kernel
theorem dX12_readScript_62 : decode cX12_readScript 62 = .ok (.bipush 59, 2) := by decide +kernel
theorem dX12_readScript_64 : decode cX12_readScript 64 = .ok (.if_icmp .ne 18, 3) := by decide +kernel
theorem dX12_readScript_67 : decode cX12_readScript 67 = .ok (.aload_n 0, 1) := by decide +kernel
theorem dX12_readScript_68 : decode cX12_readScript 68 = .ok (.getfield 34, 3) := by decide +kernel
theorem dX12_readScript_71 : decode cX12_readScript 71 = .ok (.iload_n 1, 1) := by decide +kernel
theorem dX12_readScript_72 : decode cX12_readScript 72 = .ok (.iaload, 1) := by decide +kernel
theorem dX12_readScript_73 : decode cX12_readScript 73 = .ok (.bipush 16, 2) := by decide +kernel
theorem dX12_readScript_75 : decode cX12_readScript 75 = .ok (.if_icmp .ge 7, 3) := by decide +kernel
theorem dX12_readScript_78 : decode cX12_readScript 78 = .ok (.iconst 1, 1) := by decide +kernel
theorem dX12_readScript_79 : decode cX12_readScript 79 = .ok (.goto 4, 3) := by decide +kernel
theorem dX12_readScript_82 : decode cX12_readScript 82 = .ok (.iconst 0, 1) := by decide +kernel
theorem dX12_readScript_83 : decode cX12_readScript 83 = .ok (.istore_n 2, 1) := by decide +kernel
theorem dX12_readScript_84 : decode cX12_readScript 84 = .ok (.aload_n 0, 1) := by decide +kernel
theorem dX12_readScript_85 : decode cX12_readScript 85 = .ok (.dup, 1) := by decide +kernel
theorem dX12_readScript_86 : decode cX12_readScript 86 = .ok (.getfield 80, 3) := by decide +kernel
theorem dX12_readScript_89 : decode cX12_readScript 89 = .ok (.iload_n 2, 1) := by decide +kernel
theorem dX12_readScript_90 : decode cX12_readScript 90 = .ok (.ifCond .eq 7, 3) := by decide +kernel
theorem dX12_readScript_93 : decode cX12_readScript 93 = .ok (.iconst 1, 1) := by decide +kernel
theorem dX12_readScript_94 : decode cX12_readScript 94 = .ok (.goto 4, 3) := by decide +kernel
theorem dX12_readScript_97 : decode cX12_readScript 97 = .ok (.iconst 0, 1) := by decide +kernel
theorem dX12_readScript_98 : decode cX12_readScript 98 = .ok (.iadd, 1) := by decide +kernel
theorem dX12_readScript_99 : decode cX12_readScript 99 = .ok (.putfield 80, 3) := by decide +kernel
theorem dX12_readScript_102 : decode cX12_readScript 102 = .ok (.goto (-83), 3) := by decide +kernel
theorem dX12_readScript_105 : decode cX12_readScript 105 = .ok (.aload_n 0, 1) := by decide +kernel
theorem dX12_readScript_106 : decode cX12_readScript 106 = .ok (.getfield 87, 3) := by decide +kernel
theorem dX12_readScript_109 : decode cX12_readScript 109 = .ok (.iconst (-1), 1) := by decide +kernel
theorem dX12_readScript_110 : decode cX12_readScript 110 = .ok (.if_icmp .ne 15, 3) := by decide +kernel
theorem dX12_readScript_113 : decode cX12_readScript 113 = .ok (.aload_n 0, 1) := by decide +kernel
theorem dX12_readScript_114 : decode cX12_readScript 114 = .ok (.invokevirtual 90, 3) := by decide +kernel
theorem dX12_readScript_117 : decode cX12_readScript 117 = .ok (.iconst (-1), 1) := by decide +kernel
theorem dX12_readScript_118 : decode cX12_readScript 118 = .ok (.if_icmp .eq 7, 3) := by decide +kernel
theorem dX12_readScript_121 : decode cX12_readScript 121 = .ok (.aload_n 0, 1) := by decide +kernel
theorem dX12_readScript_122 : decode cX12_readScript 122 = .ok (.invokevirtual 97, 3) := by decide +kernel
theorem dX12_readScript_125 : decode cX12_readScript 125 = .ok (.aload_n 0, 1) := by decide +kernel
theorem dX12_readScript_126 : decode cX12_readScript 126 = .ok (.getfield 87, 3) := by decide +kernel
theorem dX12_readScript_129 : decode cX12_readScript 129 = .ok (.ireturn, 1) := by decide +kernel
theorem dX12_fault_0 : decode cX12_fault 0 = .ok (.iload_n 1, 1) := by decide +kernel
theorem dX12_fault_1 : decode cX12_fault 1 = .ok (.ifCond .ne 10, 3) := by decide +kernel
theorem dX12_fault_4 : decode cX12_fault 4 = .ok (.aload_n 0, 1) := by decide +kernel
theorem dX12_fault_5 : decode cX12_fault 5 = .ok (.invokevirtual 142, 3) := by decide +kernel
theorem dX12_fault_8 : decode cX12_fault 8 = .ok (.goto 18, 3) := by decide +kernel
theorem dX12_fault_11 : decode cX12_fault 11 = .ok (.iload_n 1, 1) := by decide +kernel
theorem dX12_fault_12 : decode cX12_fault 12 = .ok (.iconst 1, 1) := by decide +kernel
theorem dX12_fault_13 : decode cX12_fault 13 = .ok (.if_icmp .ne 11, 3) := by decide +kernel
theorem dX12_fault_16 : decode cX12_fault 16 = .ok (.aload_n 0, 1) := by decide +kernel
theorem dX12_fault_17 : decode cX12_fault 17 = .ok (.iconst 4, 1) := by decide +kernel
theorem dX12_fault_18 : decode cX12_fault 18 = .ok (.invokevirtual 145, 3) := by decide +kernel
theorem dX12_fault_21 : decode cX12_fault 21 = .ok (.goto 5, 3) := by decide +kernel
theorem dX12_fault_24 : decode cX12_fault 24 = .ok (.bipush (-2), 2) := by decide +kernel
theorem dX12_fault_26 : decode cX12_fault 26 = .ok (.ireturn, 1) := by decide +kernel
theorem dX12_isField_0 : decode cX12_isField 0 = .ok (.aload_n 0, 1) := by decide +kernel
theorem dX12_isField_1 : decode cX12_isField 1 = .ok (.getfield 148, 3) := by decide +kernel
theorem dX12_isField_4 : decode cX12_isField 4 = .ok (.ifCond .le 7, 3) := by decide +kernel
theorem dX12_isField_7 : decode cX12_isField 7 = .ok (.iconst 1, 1) := by decide +kernel
theorem dX12_isField_8 : decode cX12_isField 8 = .ok (.goto 4, 3) := by decide +kernel
theorem dX12_isField_11 : decode cX12_isField 11 = .ok (.iconst 0, 1) := by decide +kernel
theorem dX12_isField_12 : decode cX12_isField 12 = .ok (.ireturn, 1) := by decide +kernel
theorem dX12_isUser_0 : decode cX12_isUser 0 = .ok (.iload_n 1, 1) := by decide +kernel
theorem dX12_isUser_1 : decode cX12_isUser 1 = .ok (.iconst 0, 1) := by decide +kernel
theorem dX12_isUser_2 : decode cX12_isUser 2 = .ok (.aload_n 0, 1) := by decide +kernel
theorem dX12_isUser_3 : decode cX12_isUser 3 = .ok (.getfield 148, 3) := by decide +kernel
theorem dX12_isUser_6 : decode cX12_isUser 6 = .ok (.iconst 1, 1) := by decide +kernel
theorem dX12_isUser_7 : decode cX12_isUser 7 = .ok (.isub, 1) := by decide +kernel
theorem dX12_isUser_8 : decode cX12_isUser 8 = .ok (.invokestatic 76, 3) := by decide +kernel
theorem dX12_isUser_11 : decode cX12_isUser 11 = .ok (.ireturn, 1) := by decide +kernel
theorem dX12_slotMany_0 : decode cX12_slotMany 0 = .ok (.aload_n 0, 1) := by decide +kernel
theorem dX12_slotMany_1 : decode cX12_slotMany 1 = .ok (.invokevirtual 151, 3) := by decide +kernel
theorem dX12_slotMany_4 : decode cX12_slotMany 4 = .ok (.ifCond .eq 19, 3) := by decide +kernel
theorem dX12_slotMany_7 : decode cX12_slotMany 7 = .ok (.aload_n 0, 1) := by decide +kernel
theorem dX12_slotMany_8 : decode cX12_slotMany 8 = .ok (.getfield 22, 3) := by decide +kernel
theorem dX12_slotMany_11 : decode cX12_slotMany 11 = .ok (.iconst 0, 1) := by decide +kernel
theorem dX12_slotMany_12 : decode cX12_slotMany 12 = .ok (.iaload, 1) := by decide +kernel
theorem dX12_slotMany_13 : decode cX12_slotMany 13 = .ok (.aload_n 0, 1) := by decide +kernel
theorem dX12_slotMany_14 : decode cX12_slotMany 14 = .ok (.getfield 22, 3) := by decide +kernel
theorem dX12_slotMany_17 : decode cX12_slotMany 17 = .ok (.iconst 1, 1) := by decide +kernel
theorem dX12_slotMany_18 : decode cX12_slotMany 18 = .ok (.iaload, 1) := by decide +kernel
theorem dX12_slotMany_19 : decode cX12_slotMany 19 = .ok (.imul, 1) := by decide +kernel
theorem dX12_slotMany_20 : decode cX12_slotMany 20 = .ok (.goto 4, 3) := by decide +kernel
theorem dX12_slotMany_23 : decode cX12_slotMany 23 = .ok (.iconst 0, 1) := by decide +kernel
theorem dX12_slotMany_24 : decode cX12_slotMany 24 = .ok (.ireturn, 1) := by decide +kernel
theorem dX12_isSlot_0 : decode cX12_isSlot 0 = .ok (.iload_n 1, 1) := by decide +kernel
theorem dX12_isSlot_1 : decode cX12_isSlot 1 = .ok (.iconst 0, 1) := by decide +kernel
theorem dX12_isSlot_2 : decode cX12_isSlot 2 = .ok (.aload_n 0, 1) := by decide +kernel
theorem dX12_isSlot_3 : decode cX12_isSlot 3 = .ok (.invokevirtual 154, 3) := by decide +kernel
theorem dX12_isSlot_6 : decode cX12_isSlot 6 = .ok (.iconst 1, 1) := by decide +kernel
theorem dX12_isSlot_7 : decode cX12_isSlot 7 = .ok (.isub, 1) := by decide +kernel
theorem dX12_isSlot_8 : decode cX12_isSlot 8 = .ok (.invokestatic 76, 3) := by decide +kernel
theorem dX12_isSlot_11 : decode cX12_isSlot 11 = .ok (.ireturn, 1) := by decide +kernel
theorem dX12_isUnknown_0 : decode cX12_isUnknown 0 = .ok (.aload_n 0, 1) := by decide +kernel
theorem dX12_isUnknown_1 : decode cX12_isUnknown 1 = .ok (.getfield 37, 3) := by decide +kernel
theorem dX12_isUnknown_4 : decode cX12_isUnknown 4 = .ok (.iconst 0, 1) := by decide +kernel
theorem dX12_isUnknown_5 : decode cX12_isUnknown 5 = .ok (.iload_n 1, 1) := by decide +kernel
theorem dX12_isUnknown_6 : decode cX12_isUnknown 6 = .ok (.iadd, 1) := by decide +kernel
theorem dX12_isUnknown_7 : decode cX12_isUnknown 7 = .ok (.iaload, 1) := by decide +kernel
theorem dX12_isUnknown_8 : decode cX12_isUnknown 8 = .ok (.ifCond .ne 7, 3) := by decide +kernel
theorem dX12_isUnknown_11 : decode cX12_isUnknown 11 = .ok (.iconst 1, 1) := by decide +kernel
theorem dX12_isUnknown_12 : decode cX12_isUnknown 12 = .ok (.goto 4, 3) := by decide +kernel
theorem dX12_isUnknown_15 : decode cX12_isUnknown 15 = .ok (.iconst 0, 1) := by decide +kernel
theorem dX12_isUnknown_16 : decode cX12_isUnknown 16 = .ok (.ireturn, 1) := by decide +kernel
theorem dX12_hasCopy_0 : decode cX12_hasCopy 0 = .ok (.aload_n 0, 1) := by decide +kernel
theorem dX12_hasCopy_1 : decode cX12_hasCopy 1 = .ok (.getfield 37, 3) := by decide +kernel
theorem dX12_hasCopy_4 : decode cX12_hasCopy 4 = .ok (.iload_n 2, 1) := by decide +kernel
theorem dX12_hasCopy_5 : decode cX12_hasCopy 5 = .ok (.bipush 24, 2) := by decide +kernel
theorem dX12_hasCopy_7 : decode cX12_hasCopy 7 = .ok (.if_icmp .ge 8, 3) := by decide +kernel
theorem dX12_hasCopy_10 : decode cX12_hasCopy 10 = .ok (.bipush 10, 2) := by decide +kernel
theorem dX12_hasCopy_12 : decode cX12_hasCopy 12 = .ok (.goto 5, 3) := by decide +kernel
theorem dX12_hasCopy_15 : decode cX12_hasCopy 15 = .ok (.bipush 20, 2) := by decide +kernel
theorem dX12_hasCopy_17 : decode cX12_hasCopy 17 = .ok (.iload_n 1, 1) := by decide +kernel
theorem dX12_hasCopy_18 : decode cX12_hasCopy 18 = .ok (.iadd, 1) := by decide +kernel
theorem dX12_hasCopy_19 : decode cX12_hasCopy 19 = .ok (.iaload, 1) := by decide +kernel
theorem dX12_hasCopy_20 : decode cX12_hasCopy 20 = .ok (.iload_n 2, 1) := by decide +kernel
theorem dX12_hasCopy_21 : decode cX12_hasCopy 21 = .ok (.bipush 24, 2) := by decide +kernel
theorem dX12_hasCopy_23 : decode cX12_hasCopy 23 = .ok (.irem, 1) := by decide +kernel
theorem dX12_hasCopy_24 : decode cX12_hasCopy 24 = .ok (.invokestatic 107, 3) := by decide +kernel
theorem dX12_hasCopy_27 : decode cX12_hasCopy 27 = .ok (.ireturn, 1) := by decide +kernel
theorem dX12_turnCopy_0 : decode cX12_turnCopy 0 = .ok (.aload_n 0, 1) := by decide +kernel
theorem dX12_turnCopy_1 : decode cX12_turnCopy 1 = .ok (.getfield 37, 3) := by decide +kernel
theorem dX12_turnCopy_4 : decode cX12_turnCopy 4 = .ok (.iload_n 2, 1) := by decide +kernel
theorem dX12_turnCopy_5 : decode cX12_turnCopy 5 = .ok (.bipush 24, 2) := by decide +kernel
theorem dX12_turnCopy_7 : decode cX12_turnCopy 7 = .ok (.if_icmp .ge 8, 3) := by decide +kernel
theorem dX12_turnCopy_10 : decode cX12_turnCopy 10 = .ok (.bipush 10, 2) := by decide +kernel
theorem dX12_turnCopy_12 : decode cX12_turnCopy 12 = .ok (.goto 5, 3) := by decide +kernel
theorem dX12_turnCopy_15 : decode cX12_turnCopy 15 = .ok (.bipush 20, 2) := by decide +kernel
theorem dX12_turnCopy_17 : decode cX12_turnCopy 17 = .ok (.iload_n 1, 1) := by decide +kernel
theorem dX12_turnCopy_18 : decode cX12_turnCopy 18 = .ok (.iadd, 1) := by decide +kernel
theorem dX12_turnCopy_19 : decode cX12_turnCopy 19 = .ok (.dup2, 1) := by decide +kernel
theorem dX12_turnCopy_20 : decode cX12_turnCopy 20 = .ok (.iaload, 1) := by decide +kernel
theorem dX12_turnCopy_21 : decode cX12_turnCopy 21 = .ok (.iconst 1, 1) := by decide +kernel
theorem dX12_turnCopy_22 : decode cX12_turnCopy 22 = .ok (.iload_n 2, 1) := by decide +kernel
theorem dX12_turnCopy_23 : decode cX12_turnCopy 23 = .ok (.bipush 24, 2) := by decide +kernel
theorem dX12_turnCopy_25 : decode cX12_turnCopy 25 = .ok (.irem, 1) := by decide +kernel
theorem dX12_turnCopy_26 : decode cX12_turnCopy 26 = .ok (.ishl, 1) := by decide +kernel
theorem dX12_turnCopy_27 : decode cX12_turnCopy 27 = .ok (.ixor, 1) := by decide +kernel
theorem dX12_turnCopy_28 : decode cX12_turnCopy 28 = .ok (.iastore, 1) := by decide +kernel
theorem dX12_turnCopy_29 : decode cX12_turnCopy 29 = .ok (.return_, 1) := by decide +kernel
theorem dX12_copyMany_0 : decode cX12_copyMany 0 = .ok (.aload_n 0, 1) := by decide +kernel
theorem dX12_copyMany_1 : decode cX12_copyMany 1 = .ok (.getfield 37, 3) := by decide +kernel
theorem dX12_copyMany_4 : decode cX12_copyMany 4 = .ok (.bipush 10, 2) := by decide +kernel
theorem dX12_copyMany_6 : decode cX12_copyMany 6 = .ok (.iload_n 1, 1) := by decide +kernel
theorem dX12_copyMany_7 : decode cX12_copyMany 7 = .ok (.iadd, 1) := by decide +kernel
theorem dX12_copyMany_8 : decode cX12_copyMany 8 = .ok (.iaload, 1) := by decide +kernel
theorem dX12_copyMany_9 : decode cX12_copyMany 9 = .ok (.invokestatic 157, 3) := by decide +kernel
theorem dX12_copyMany_12 : decode cX12_copyMany 12 = .ok (.aload_n 0, 1) := by decide +kernel
theorem dX12_copyMany_13 : decode cX12_copyMany 13 = .ok (.getfield 37, 3) := by decide +kernel
theorem dX12_copyMany_16 : decode cX12_copyMany 16 = .ok (.bipush 20, 2) := by decide +kernel
theorem dX12_copyMany_18 : decode cX12_copyMany 18 = .ok (.iload_n 1, 1) := by decide +kernel
theorem dX12_copyMany_19 : decode cX12_copyMany 19 = .ok (.iadd, 1) := by decide +kernel
theorem dX12_copyMany_20 : decode cX12_copyMany 20 = .ok (.iaload, 1) := by decide +kernel
theorem dX12_copyMany_21 : decode cX12_copyMany 21 = .ok (.invokestatic 157, 3) := by decide +kernel
theorem dX12_copyMany_24 : decode cX12_copyMany 24 = .ok (.iadd, 1) := by decide +kernel
theorem dX12_copyMany_25 : decode cX12_copyMany 25 = .ok (.ireturn, 1) := by decide +kernel
theorem dX12_takeField_0 : decode cX12_takeField 0 = .ok (.aload_n 0, 1) := by decide +kernel
theorem dX12_takeField_1 : decode cX12_takeField 1 = .ok (.aload_n 0, 1) := by decide +kernel
theorem dX12_takeField_2 : decode cX12_takeField 2 = .ok (.getfield 120, 3) := by decide +kernel
theorem dX12_takeField_5 : decode cX12_takeField 5 = .ok (.putfield 148, 3) := by decide +kernel
theorem dX12_takeField_8 : decode cX12_takeField 8 = .ok (.iconst 0, 1) := by decide +kernel
theorem dX12_takeField_9 : decode cX12_takeField 9 = .ok (.istore_n 1, 1) := by decide +kernel
theorem dX12_takeField_10 : decode cX12_takeField 10 = .ok (.iload_n 1, 1) := by decide +kernel
theorem dX12_takeField_11 : decode cX12_takeField 11 = .ok (.iconst 4, 1) := by decide +kernel
theorem dX12_takeField_12 : decode cX12_takeField 12 = .ok (.if_icmp .ge 21, 3) := by decide +kernel
theorem dX12_takeField_15 : decode cX12_takeField 15 = .ok (.aload_n 0, 1) := by decide +kernel
theorem dX12_takeField_16 : decode cX12_takeField 16 = .ok (.getfield 22, 3) := by decide +kernel
theorem dX12_takeField_19 : decode cX12_takeField 19 = .ok (.iload_n 1, 1) := by decide +kernel
theorem dX12_takeField_20 : decode cX12_takeField 20 = .ok (.aload_n 0, 1) := by decide +kernel
theorem dX12_takeField_21 : decode cX12_takeField 21 = .ok (.getfield 13, 3) := by decide +kernel
theorem dX12_takeField_24 : decode cX12_takeField 24 = .ok (.iload_n 1, 1) := by decide +kernel
theorem dX12_takeField_25 : decode cX12_takeField 25 = .ok (.iaload, 1) := by decide +kernel
theorem dX12_takeField_26 : decode cX12_takeField 26 = .ok (.iastore, 1) := by decide +kernel
theorem dX12_takeField_27 : decode cX12_takeField 27 = .ok (.iinc 1 1, 3) := by decide +kernel
theorem dX12_takeField_30 : decode cX12_takeField 30 = .ok (.goto (-20), 3) := by decide +kernel
theorem dX12_takeField_33 : decode cX12_takeField 33 = .ok (.iconst 0, 1) := by decide +kernel
theorem dX12_takeField_34 : decode cX12_takeField 34 = .ok (.istore_n 1, 1) := by decide +kernel
theorem dX12_takeField_35 : decode cX12_takeField 35 = .ok (.iload_n 1, 1) := by decide +kernel
theorem dX12_takeField_36 : decode cX12_takeField 36 = .ok (.bipush 50, 2) := by decide +kernel
theorem dX12_takeField_38 : decode cX12_takeField 38 = .ok (.if_icmp .ge 21, 3) := by decide +kernel
theorem dX12_takeField_41 : decode cX12_takeField 41 = .ok (.aload_n 0, 1) := by decide +kernel
theorem dX12_takeField_42 : decode cX12_takeField 42 = .ok (.getfield 25, 3) := by decide +kernel
theorem dX12_takeField_45 : decode cX12_takeField 45 = .ok (.iload_n 1, 1) := by decide +kernel
theorem dX12_takeField_46 : decode cX12_takeField 46 = .ok (.aload_n 0, 1) := by decide +kernel
theorem dX12_takeField_47 : decode cX12_takeField 47 = .ok (.getfield 16, 3) := by decide +kernel
theorem dX12_takeField_50 : decode cX12_takeField 50 = .ok (.iload_n 1, 1) := by decide +kernel
theorem dX12_takeField_51 : decode cX12_takeField 51 = .ok (.iaload, 1) := by decide +kernel
theorem dX12_takeField_52 : decode cX12_takeField 52 = .ok (.iastore, 1) := by decide +kernel
theorem dX12_takeField_53 : decode cX12_takeField 53 = .ok (.iinc 1 1, 3) := by decide +kernel
theorem dX12_takeField_56 : decode cX12_takeField 56 = .ok (.goto (-21), 3) := by decide +kernel
theorem dX12_takeField_59 : decode cX12_takeField 59 = .ok (.iconst 0, 1) := by decide +kernel
theorem dX12_takeField_60 : decode cX12_takeField 60 = .ok (.istore_n 1, 1) := by decide +kernel
theorem dX12_takeField_61 : decode cX12_takeField 61 = .ok (.iload_n 1, 1) := by decide +kernel
theorem dX12_takeField_62 : decode cX12_takeField 62 = .ok (.bipush 6, 2) := by decide +kernel
theorem dX12_takeField_64 : decode cX12_takeField 64 = .ok (.if_icmp .gt 16, 3) := by decide +kernel
theorem dX12_takeField_67 : decode cX12_takeField 67 = .ok (.aload_n 0, 1) := by decide +kernel
theorem dX12_takeField_68 : decode cX12_takeField 68 = .ok (.getfield 28, 3) := by decide +kernel
theorem dX12_takeField_71 : decode cX12_takeField 71 = .ok (.iload_n 1, 1) := by decide +kernel
theorem dX12_takeField_72 : decode cX12_takeField 72 = .ok (.iconst 0, 1) := by decide +kernel
theorem dX12_takeField_73 : decode cX12_takeField 73 = .ok (.iastore, 1) := by decide +kernel
theorem dX12_takeField_74 : decode cX12_takeField 74 = .ok (.iinc 1 1, 3) := by decide +kernel
theorem dX12_takeField_77 : decode cX12_takeField 77 = .ok (.goto (-16), 3) := by decide +kernel
theorem dX12_takeField_80 : decode cX12_takeField 80 = .ok (.iconst 0, 1) := by decide +kernel
theorem dX12_takeField_81 : decode cX12_takeField 81 = .ok (.istore_n 1, 1) := by decide +kernel
theorem dX12_takeField_82 : decode cX12_takeField 82 = .ok (.iload_n 1, 1) := by decide +kernel
theorem dX12_takeField_83 : decode cX12_takeField 83 = .ok (.aload_n 0, 1) := by decide +kernel
theorem dX12_takeField_84 : decode cX12_takeField 84 = .ok (.getfield 123, 3) := by decide +kernel
theorem dX12_takeField_87 : decode cX12_takeField 87 = .ok (.if_icmp .ge 35, 3) := by decide +kernel
theorem dX12_takeField_90 : decode cX12_takeField 90 = .ok (.aload_n 0, 1) := by decide +kernel
theorem dX12_takeField_91 : decode cX12_takeField 91 = .ok (.getfield 28, 3) := by decide +kernel
theorem dX12_takeField_94 : decode cX12_takeField 94 = .ok (.aload_n 0, 1) := by decide +kernel
theorem dX12_takeField_95 : decode cX12_takeField 95 = .ok (.getfield 19, 3) := by decide +kernel
theorem dX12_takeField_98 : decode cX12_takeField 98 = .ok (.iconst 2, 1) := by decide +kernel
theorem dX12_takeField_99 : decode cX12_takeField 99 = .ok (.iload_n 1, 1) := by decide +kernel
theorem dX12_takeField_100 : decode cX12_takeField 100 = .ok (.imul, 1) := by decide +kernel
theorem dX12_takeField_101 : decode cX12_takeField 101 = .ok (.iaload, 1) := by decide +kernel
theorem dX12_takeField_102 : decode cX12_takeField 102 = .ok (.dup2, 1) := by decide +kernel
theorem dX12_takeField_103 : decode cX12_takeField 103 = .ok (.iaload, 1) := by decide +kernel
theorem dX12_takeField_104 : decode cX12_takeField 104 = .ok (.aload_n 0, 1) := by decide +kernel
theorem dX12_takeField_105 : decode cX12_takeField 105 = .ok (.getfield 19, 3) := by decide +kernel
theorem dX12_takeField_108 : decode cX12_takeField 108 = .ok (.iconst 2, 1) := by decide +kernel
theorem dX12_takeField_109 : decode cX12_takeField 109 = .ok (.iload_n 1, 1) := by decide +kernel
theorem dX12_takeField_110 : decode cX12_takeField 110 = .ok (.imul, 1) := by decide +kernel
theorem dX12_takeField_111 : decode cX12_takeField 111 = .ok (.iconst 1, 1) := by decide +kernel
theorem dX12_takeField_112 : decode cX12_takeField 112 = .ok (.iadd, 1) := by decide +kernel
theorem dX12_takeField_113 : decode cX12_takeField 113 = .ok (.iaload, 1) := by decide +kernel
theorem dX12_takeField_114 : decode cX12_takeField 114 = .ok (.iadd, 1) := by decide +kernel
theorem dX12_takeField_115 : decode cX12_takeField 115 = .ok (.iastore, 1) := by decide +kernel
theorem dX12_takeField_116 : decode cX12_takeField 116 = .ok (.iinc 1 1, 3) := by decide +kernel
theorem dX12_takeField_119 : decode cX12_takeField 119 = .ok (.goto (-37), 3) := by decide +kernel
theorem dX12_takeField_122 : decode cX12_takeField 122 = .ok (.iconst 0, 1) := by decide +kernel
theorem dX12_takeField_123 : decode cX12_takeField 123 = .ok (.istore_n 1, 1) := by decide +kernel
theorem dX12_takeField_124 : decode cX12_takeField 124 = .ok (.iload_n 1, 1) := by decide +kernel
theorem dX12_takeField_125 : decode cX12_takeField 125 = .ok (.sipush 245, 3) := by decide +kernel
theorem dX12_takeField_128 : decode cX12_takeField 128 = .ok (.if_icmp .ge 16, 3) := by decide +kernel
theorem dX12_takeField_131 : decode cX12_takeField 131 = .ok (.aload_n 0, 1) := by decide +kernel
theorem dX12_takeField_132 : decode cX12_takeField 132 = .ok (.getfield 37, 3) := by decide +kernel
theorem dX12_takeField_135 : decode cX12_takeField 135 = .ok (.iload_n 1, 1) := by decide +kernel
theorem dX12_takeField_136 : decode cX12_takeField 136 = .ok (.iconst 0, 1) := by decide +kernel
theorem dX12_takeField_137 : decode cX12_takeField 137 = .ok (.iastore, 1) := by decide +kernel
theorem dX12_takeField_138 : decode cX12_takeField 138 = .ok (.iinc 1 1, 3) := by decide +kernel
theorem dX12_takeField_141 : decode cX12_takeField 141 = .ok (.goto (-17), 3) := by decide +kernel
theorem dX12_takeField_144 : decode cX12_takeField 144 = .ok (.aload_n 0, 1) := by decide +kernel
theorem dX12_takeField_145 : decode cX12_takeField 145 = .ok (.getfield 37, 3) := by decide +kernel
theorem dX12_takeField_148 : decode cX12_takeField 148 = .ok (.bipush 30, 2) := by decide +kernel
theorem dX12_takeField_150 : decode cX12_takeField 150 = .ok (.aload_n 0, 1) := by decide +kernel
theorem dX12_takeField_151 : decode cX12_takeField 151 = .ok (.getfield 22, 3) := by decide +kernel
theorem dX12_takeField_154 : decode cX12_takeField 154 = .ok (.iconst 2, 1) := by decide +kernel
theorem dX12_takeField_155 : decode cX12_takeField 155 = .ok (.iaload, 1) := by decide +kernel
theorem dX12_takeField_156 : decode cX12_takeField 156 = .ok (.iastore, 1) := by decide +kernel
theorem dX12_takeField_157 : decode cX12_takeField 157 = .ok (.iconst 0, 1) := by decide +kernel
theorem dX12_takeField_158 : decode cX12_takeField 158 = .ok (.istore_n 1, 1) := by decide +kernel
theorem dX12_takeField_159 : decode cX12_takeField 159 = .ok (.iload_n 1, 1) := by decide +kernel
theorem dX12_takeField_160 : decode cX12_takeField 160 = .ok (.aload_n 0, 1) := by decide +kernel
theorem dX12_takeField_161 : decode cX12_takeField 161 = .ok (.getfield 148, 3) := by decide +kernel
theorem dX12_takeField_164 : decode cX12_takeField 164 = .ok (.if_icmp .ge 166, 3) := by decide +kernel
theorem dX12_takeField_167 : decode cX12_takeField 167 = .ok (.aload_n 0, 1) := by decide +kernel
theorem dX12_takeField_168 : decode cX12_takeField 168 = .ok (.getfield 25, 3) := by decide +kernel
theorem dX12_takeField_171 : decode cX12_takeField 171 = .ok (.iconst 5, 1) := by decide +kernel
theorem dX12_takeField_172 : decode cX12_takeField 172 = .ok (.iload_n 1, 1) := by decide +kernel
theorem dX12_takeField_173 : decode cX12_takeField 173 = .ok (.imul, 1) := by decide +kernel
theorem dX12_takeField_174 : decode cX12_takeField 174 = .ok (.iconst 0, 1) := by decide +kernel
theorem dX12_takeField_175 : decode cX12_takeField 175 = .ok (.iadd, 1) := by decide +kernel
theorem dX12_takeField_176 : decode cX12_takeField 176 = .ok (.iaload, 1) := by decide +kernel
theorem dX12_takeField_177 : decode cX12_takeField 177 = .ok (.i2f, 1) := by decide +kernel
theorem dX12_takeField_178 : decode cX12_takeField 178 = .ok (.ldc 160, 2) := by decide +kernel
theorem dX12_takeField_180 : decode cX12_takeField 180 = .ok (.fdiv, 1) := by decide +kernel
theorem dX12_takeField_181 : decode cX12_takeField 181 = .ok (.fstore_n 2, 1) := by decide +kernel
theorem dX12_takeField_182 : decode cX12_takeField 182 = .ok (.aload_n 0, 1) := by decide +kernel
theorem dX12_takeField_183 : decode cX12_takeField 183 = .ok (.getfield 43, 3) := by decide +kernel
theorem dX12_takeField_186 : decode cX12_takeField 186 = .ok (.iload_n 1, 1) := by decide +kernel
theorem dX12_takeField_187 : decode cX12_takeField 187 = .ok (.fload_n 2, 1) := by decide +kernel
theorem dX12_takeField_188 : decode cX12_takeField 188 = .ok (.aload_n 0, 1) := by decide +kernel
theorem dX12_takeField_189 : decode cX12_takeField 189 = .ok (.getfield 25, 3) := by decide +kernel
theorem dX12_takeField_192 : decode cX12_takeField 192 = .ok (.iconst 5, 1) := by decide +kernel
theorem dX12_takeField_193 : decode cX12_takeField 193 = .ok (.iload_n 1, 1) := by decide +kernel
theorem dX12_takeField_194 : decode cX12_takeField 194 = .ok (.imul, 1) := by decide +kernel
theorem dX12_takeField_195 : decode cX12_takeField 195 = .ok (.iconst 1, 1) := by decide +kernel
theorem dX12_takeField_196 : decode cX12_takeField 196 = .ok (.iadd, 1) := by decide +kernel
theorem dX12_takeField_197 : decode cX12_takeField 197 = .ok (.iaload, 1) := by decide +kernel
theorem dX12_takeField_198 : decode cX12_takeField 198 = .ok (.i2f, 1) := by decide +kernel
theorem dX12_takeField_199 : decode cX12_takeField 199 = .ok (.fdiv, 1) := by decide +kernel
theorem dX12_takeField_200 : decode cX12_takeField 200 = .ok (.fastore, 1) := by decide +kernel
theorem dX12_takeField_201 : decode cX12_takeField 201 = .ok (.aload_n 0, 1) := by decide +kernel
theorem dX12_takeField_202 : decode cX12_takeField 202 = .ok (.getfield 43, 3) := by decide +kernel
theorem dX12_takeField_205 : decode cX12_takeField 205 = .ok (.iload_n 1, 1) := by decide +kernel
theorem dX12_takeField_206 : decode cX12_takeField 206 = .ok (.aload_n 0, 1) := by decide +kernel
theorem dX12_takeField_207 : decode cX12_takeField 207 = .ok (.getfield 43, 3) := by decide +kernel
theorem dX12_takeField_210 : decode cX12_takeField 210 = .ok (.iload_n 1, 1) := by decide +kernel
theorem dX12_takeField_211 : decode cX12_takeField 211 = .ok (.faload, 1) := by decide +kernel
theorem dX12_takeField_212 : decode cX12_takeField 212 = .ok (.aload_n 0, 1) := by decide +kernel
theorem dX12_takeField_213 : decode cX12_takeField 213 = .ok (.getfield 25, 3) := by decide +kernel
theorem dX12_takeField_216 : decode cX12_takeField 216 = .ok (.iconst 5, 1) := by decide +kernel
theorem dX12_takeField_217 : decode cX12_takeField 217 = .ok (.iload_n 1, 1) := by decide +kernel
theorem dX12_takeField_218 : decode cX12_takeField 218 = .ok (.imul, 1) := by decide +kernel
theorem dX12_takeField_219 : decode cX12_takeField 219 = .ok (.iconst 1, 1) := by decide +kernel
theorem dX12_takeField_220 : decode cX12_takeField 220 = .ok (.iadd, 1) := by decide +kernel
theorem dX12_takeField_221 : decode cX12_takeField 221 = .ok (.iaload, 1) := by decide +kernel
theorem dX12_takeField_222 : decode cX12_takeField 222 = .ok (.i2f, 1) := by decide +kernel
theorem dX12_takeField_223 : decode cX12_takeField 223 = .ok (.fdiv, 1) := by decide +kernel
theorem dX12_takeField_224 : decode cX12_takeField 224 = .ok (.fastore, 1) := by decide +kernel
theorem dX12_takeField_225 : decode cX12_takeField 225 = .ok (.iconst 0, 1) := by decide +kernel
theorem dX12_takeField_226 : decode cX12_takeField 226 = .ok (.istore_n 3, 1) := by decide +kernel
theorem dX12_takeField_227 : decode cX12_takeField 227 = .ok (.iload_n 3, 1) := by decide +kernel
theorem dX12_takeField_228 : decode cX12_takeField 228 = .ok (.iconst 2, 1) := by decide +kernel
theorem dX12_takeField_229 : decode cX12_takeField 229 = .ok (.aload_n 0, 1) := by decide +kernel
theorem dX12_takeField_230 : decode cX12_takeField 230 = .ok (.getfield 22, 3) := by decide +kernel
theorem dX12_takeField_233 : decode cX12_takeField 233 = .ok (.iconst 0, 1) := by decide +kernel
theorem dX12_takeField_234 : decode cX12_takeField 234 = .ok (.iaload, 1) := by decide +kernel
theorem dX12_takeField_235 : decode cX12_takeField 235 = .ok (.imul, 1) := by decide +kernel
theorem dX12_takeField_236 : decode cX12_takeField 236 = .ok (.if_icmp .ge 88, 3) := by decide +kernel
theorem dX12_takeField_239 : decode cX12_takeField 239 = .ok (.iload_n 3, 1) := by decide +kernel
theorem dX12_takeField_240 : decode cX12_takeField 240 = .ok (.aload_n 0, 1) := by decide +kernel
theorem dX12_takeField_241 : decode cX12_takeField 241 = .ok (.getfield 22, 3) := by decide +kernel
theorem dX12_takeField_244 : decode cX12_takeField 244 = .ok (.iconst 0, 1) := by decide +kernel
theorem dX12_takeField_245 : decode cX12_takeField 245 = .ok (.iaload, 1) := by decide +kernel
theorem dX12_takeField_246 : decode cX12_takeField 246 = .ok (.if_icmp .ge 20, 3) := by decide +kernel
theorem dX12_takeField_249 : decode cX12_takeField 249 = .ok (.aload_n 0, 1) := by decide +kernel
theorem dX12_takeField_250 : decode cX12_takeField 250 = .ok (.getfield 25, 3) := by decide +kernel
theorem dX12_takeField_253 : decode cX12_takeField 253 = .ok (.iconst 5, 1) := by decide +kernel
theorem dX12_takeField_254 : decode cX12_takeField 254 = .ok (.iload_n 1, 1) := by decide +kernel
theorem dX12_takeField_255 : decode cX12_takeField 255 = .ok (.imul, 1) := by decide +kernel
theorem dX12_takeField_256 : decode cX12_takeField 256 = .ok (.iconst 3, 1) := by decide +kernel
theorem dX12_takeField_257 : decode cX12_takeField 257 = .ok (.iadd, 1) := by decide +kernel
theorem dX12_takeField_258 : decode cX12_takeField 258 = .ok (.iaload, 1) := by decide +kernel
theorem dX12_takeField_259 : decode cX12_takeField 259 = .ok (.iload_n 3, 1) := by decide +kernel
theorem dX12_takeField_260 : decode cX12_takeField 260 = .ok (.invokestatic 107, 3) := by decide +kernel
theorem dX12_takeField_263 : decode cX12_takeField 263 = .ok (.goto 24, 3) := by decide +kernel
theorem dX12_takeField_266 : decode cX12_takeField 266 = .ok (.aload_n 0, 1) := by decide +kernel
theorem dX12_takeField_267 : decode cX12_takeField 267 = .ok (.getfield 25, 3) := by decide +kernel
theorem dX12_takeField_270 : decode cX12_takeField 270 = .ok (.iconst 5, 1) := by decide +kernel
theorem dX12_takeField_271 : decode cX12_takeField 271 = .ok (.iload_n 1, 1) := by decide +kernel
theorem dX12_takeField_272 : decode cX12_takeField 272 = .ok (.imul, 1) := by decide +kernel
theorem dX12_takeField_273 : decode cX12_takeField 273 = .ok (.iconst 4, 1) := by decide +kernel
theorem dX12_takeField_274 : decode cX12_takeField 274 = .ok (.iadd, 1) := by decide +kernel
theorem dX12_takeField_275 : decode cX12_takeField 275 = .ok (.iaload, 1) := by decide +kernel
theorem dX12_takeField_276 : decode cX12_takeField 276 = .ok (.iload_n 3, 1) := by decide +kernel
theorem dX12_takeField_277 : decode cX12_takeField 277 = .ok (.aload_n 0, 1) := by decide +kernel
theorem dX12_takeField_278 : decode cX12_takeField 278 = .ok (.getfield 22, 3) := by decide +kernel
theorem dX12_takeField_281 : decode cX12_takeField 281 = .ok (.iconst 0, 1) := by decide +kernel
theorem dX12_takeField_282 : decode cX12_takeField 282 = .ok (.iaload, 1) := by decide +kernel
theorem dX12_takeField_283 : decode cX12_takeField 283 = .ok (.isub, 1) := by decide +kernel
theorem dX12_takeField_284 : decode cX12_takeField 284 = .ok (.invokestatic 107, 3) := by decide +kernel
theorem dX12_takeField_287 : decode cX12_takeField 287 = .ok (.istore 4, 2) := by decide +kernel
theorem dX12_takeField_289 : decode cX12_takeField 289 = .ok (.iload 4, 2) := by decide +kernel
theorem dX12_takeField_291 : decode cX12_takeField 291 = .ok (.ifCond .eq 27, 3) := by decide +kernel
theorem dX12_takeField_294 : decode cX12_takeField 294 = .ok (.aload_n 0, 1) := by decide +kernel
theorem dX12_takeField_295 : decode cX12_takeField 295 = .ok (.iload_n 1, 1) := by decide +kernel
theorem dX12_takeField_296 : decode cX12_takeField 296 = .ok (.aload_n 0, 1) := by decide +kernel
theorem dX12_takeField_297 : decode cX12_takeField 297 = .ok (.getfield 22, 3) := by decide +kernel
theorem dX12_takeField_300 : decode cX12_takeField 300 = .ok (.iconst 0, 1) := by decide +kernel
theorem dX12_takeField_301 : decode cX12_takeField 301 = .ok (.iaload, 1) := by decide +kernel
theorem dX12_takeField_302 : decode cX12_takeField 302 = .ok (.aload_n 0, 1) := by decide +kernel
theorem dX12_takeField_303 : decode cX12_takeField 303 = .ok (.getfield 25, 3) := by decide +kernel
theorem dX12_takeField_306 : decode cX12_takeField 306 = .ok (.iconst 5, 1) := by decide +kernel
theorem dX12_takeField_307 : decode cX12_takeField 307 = .ok (.iload_n 1, 1) := by decide +kernel
theorem dX12_takeField_308 : decode cX12_takeField 308 = .ok (.imul, 1) := by decide +kernel
theorem dX12_takeField_309 : decode cX12_takeField 309 = .ok (.iconst 2, 1) := by decide +kernel
theorem dX12_takeField_310 : decode cX12_takeField 310 = .ok (.iadd, 1) := by decide +kernel
theorem dX12_takeField_311 : decode cX12_takeField 311 = .ok (.iaload, 1) := by decide +kernel
theorem dX12_takeField_312 : decode cX12_takeField 312 = .ok (.imul, 1) := by decide +kernel
theorem dX12_takeField_313 : decode cX12_takeField 313 = .ok (.iload_n 3, 1) := by decide +kernel
theorem dX12_takeField_314 : decode cX12_takeField 314 = .ok (.iadd, 1) := by decide +kernel
theorem dX12_takeField_315 : decode cX12_takeField 315 = .ok (.invokevirtual 161, 3) := by decide +kernel
theorem dX12_takeField_318 : decode cX12_takeField 318 = .ok (.iinc 3 1, 3) := by decide +kernel
theorem dX12_takeField_321 : decode cX12_takeField 321 = .ok (.goto (-94), 3) := by decide +kernel
theorem dX12_takeField_324 : decode cX12_takeField 324 = .ok (.iinc 1 1, 3) := by decide +kernel
theorem dX12_takeField_327 : decode cX12_takeField 327 = .ok (.goto (-168), 3) := by decide +kernel
theorem dX12_takeField_330 : decode cX12_takeField 330 = .ok (.aload_n 0, 1) := by decide +kernel
theorem dX12_takeField_331 : decode cX12_takeField 331 = .ok (.iconst 0, 1) := by decide +kernel
theorem dX12_takeField_332 : decode cX12_takeField 332 = .ok (.putfield 165, 3) := by decide +kernel
theorem dX12_takeField_335 : decode cX12_takeField 335 = .ok (.aload_n 0, 1) := by decide +kernel
theorem dX12_takeField_336 : decode cX12_takeField 336 = .ok (.iconst 0, 1) := by decide +kernel
theorem dX12_takeField_337 : decode cX12_takeField 337 = .ok (.putfield 168, 3) := by decide +kernel
theorem dX12_takeField_340 : decode cX12_takeField 340 = .ok (.aload_n 0, 1) := by decide +kernel
theorem dX12_takeField_341 : decode cX12_takeField 341 = .ok (.getfield 148, 3) := by decide +kernel
theorem dX12_takeField_344 : decode cX12_takeField 344 = .ok (.ireturn, 1) := by decide +kernel
theorem dX12_text_0 : decode cX12_text 0 = .ok (.iload_n 1, 1) := by decide +kernel
theorem dX12_text_1 : decode cX12_text 1 = .ok (.ifCond .ne 21, 3) := by decide +kernel
theorem dX12_text_4 : decode cX12_text 4 = .ok (.aload_n 0, 1) := by decide +kernel
theorem dX12_text_5 : decode cX12_text 5 = .ok (.invokevirtual 142, 3) := by decide +kernel
theorem dX12_text_8 : decode cX12_text 8 = .ok (.iconst (-1), 1) := by decide +kernel
theorem dX12_text_9 : decode cX12_text 9 = .ok (.if_icmp .ne 13, 3) := by decide +kernel
theorem dX12_text_12 : decode cX12_text 12 = .ok (.aload_n 0, 1) := by decide +kernel
theorem dX12_text_13 : decode cX12_text 13 = .ok (.iconst 0, 1) := by decide +kernel
theorem dX12_text_14 : decode cX12_text 14 = .ok (.putfield 73, 3) := by decide +kernel
theorem dX12_text_17 : decode cX12_text 17 = .ok (.aload_n 0, 1) := by decide +kernel
theorem dX12_text_18 : decode cX12_text 18 = .ok (.invokevirtual 172, 3) := by decide +kernel
theorem dX12_text_21 : decode cX12_text 21 = .ok (.ireturn, 1) := by decide +kernel
theorem dX12_text_22 : decode cX12_text 22 = .ok (.iload_n 1, 1) := by decide +kernel
theorem dX12_text_23 : decode cX12_text 23 = .ok (.iconst 1, 1) := by decide +kernel
theorem dX12_text_24 : decode cX12_text 24 = .ok (.if_icmp .ne 45, 3) := by decide +kernel
theorem dX12_text_27 : decode cX12_text 27 = .ok (.aload_n 0, 1) := by decide +kernel
theorem dX12_text_28 : decode cX12_text 28 = .ok (.getfield 175, 3) := by decide +kernel
theorem dX12_text_31 : decode cX12_text 31 = .ok (.iconst 4, 1) := by decide +kernel
theorem dX12_text_32 : decode cX12_text 32 = .ok (.if_icmp .ge 37, 3) := by decide +kernel
theorem dX12_text_35 : decode cX12_text 35 = .ok (.aload_n 0, 1) := by decide +kernel
theorem dX12_text_36 : decode cX12_text 36 = .ok (.aload_n 0, 1) := by decide +kernel
theorem dX12_text_37 : decode cX12_text 37 = .ok (.getfield 175, 3) := by decide +kernel
theorem dX12_text_40 : decode cX12_text 40 = .ok (.invokevirtual 145, 3) := by decide +kernel
theorem dX12_text_43 : decode cX12_text 43 = .ok (.iconst (-1), 1) := by decide +kernel
theorem dX12_text_44 : decode cX12_text 44 = .ok (.if_icmp .ne 25, 3) := by decide +kernel
theorem dX12_text_47 : decode cX12_text 47 = .ok (.aload_n 0, 1) := by decide +kernel
theorem dX12_text_48 : decode cX12_text 48 = .ok (.iconst 0, 1) := by decide +kernel
theorem dX12_text_49 : decode cX12_text 49 = .ok (.putfield 73, 3) := by decide +kernel
theorem dX12_text_52 : decode cX12_text 52 = .ok (.aload_n 0, 1) := by decide +kernel
theorem dX12_text_53 : decode cX12_text 53 = .ok (.dup, 1) := by decide +kernel
theorem dX12_text_54 : decode cX12_text 54 = .ok (.getfield 175, 3) := by decide +kernel
theorem dX12_text_57 : decode cX12_text 57 = .ok (.iconst 1, 1) := by decide +kernel
theorem dX12_text_58 : decode cX12_text 58 = .ok (.iadd, 1) := by decide +kernel
theorem dX12_text_59 : decode cX12_text 59 = .ok (.putfield 175, 3) := by decide +kernel
theorem dX12_text_62 : decode cX12_text 62 = .ok (.aload_n 0, 1) := by decide +kernel
theorem dX12_text_63 : decode cX12_text 63 = .ok (.getfield 175, 3) := by decide +kernel
theorem dX12_text_66 : decode cX12_text 66 = .ok (.iconst 1, 1) := by decide +kernel
theorem dX12_text_67 : decode cX12_text 67 = .ok (.isub, 1) := by decide +kernel
theorem dX12_text_68 : decode cX12_text 68 = .ok (.ireturn, 1) := by decide +kernel
theorem dX12_text_69 : decode cX12_text 69 = .ok (.iconst (-1), 1) := by decide +kernel
theorem dX12_text_70 : decode cX12_text 70 = .ok (.ireturn, 1) := by decide +kernel
theorem dX12_dinAt_0 : decode cX12_dinAt 0 = .ok (.aload_n 0, 1) := by decide +kernel
theorem dX12_dinAt_1 : decode cX12_dinAt 1 = .ok (.getfield 22, 3) := by decide +kernel
theorem dX12_dinAt_4 : decode cX12_dinAt 4 = .ok (.iconst 3, 1) := by decide +kernel
theorem dX12_dinAt_5 : decode cX12_dinAt 5 = .ok (.iaload, 1) := by decide +kernel
theorem dX12_dinAt_6 : decode cX12_dinAt 6 = .ok (.i2f, 1) := by decide +kernel
theorem dX12_dinAt_7 : decode cX12_dinAt 7 = .ok (.ldc 160, 2) := by decide +kernel
theorem dX12_dinAt_9 : decode cX12_dinAt 9 = .ok (.fdiv, 1) := by decide +kernel
theorem dX12_dinAt_10 : decode cX12_dinAt 10 = .ok (.fstore_n 3, 1) := by decide +kernel
theorem dX12_dinAt_11 : decode cX12_dinAt 11 = .ok (.iconst 0, 1) := by decide +kernel
theorem dX12_dinAt_12 : decode cX12_dinAt 12 = .ok (.istore 4, 2) := by decide +kernel
theorem dX12_dinAt_14 : decode cX12_dinAt 14 = .ok (.iload 4, 2) := by decide +kernel
theorem dX12_dinAt_16 : decode cX12_dinAt 16 = .ok (.aload_n 0, 1) := by decide +kernel
theorem dX12_dinAt_17 : decode cX12_dinAt 17 = .ok (.getfield 148, 3) := by decide +kernel
theorem dX12_dinAt_20 : decode cX12_dinAt 20 = .ok (.if_icmp .ge 44, 3) := by decide +kernel
theorem dX12_dinAt_23 : decode cX12_dinAt 23 = .ok (.iload 4, 2) := by decide +kernel
theorem dX12_dinAt_25 : decode cX12_dinAt 25 = .ok (.iload_n 1, 1) := by decide +kernel
theorem dX12_dinAt_26 : decode cX12_dinAt 26 = .ok (.if_icmp .eq 32, 3) := by decide +kernel
theorem dX12_dinAt_29 : decode cX12_dinAt 29 = .ok (.aload_n 0, 1) := by decide +kernel
theorem dX12_dinAt_30 : decode cX12_dinAt 30 = .ok (.iload 4, 2) := by decide +kernel
theorem dX12_dinAt_32 : decode cX12_dinAt 32 = .ok (.invokevirtual 178, 3) := by decide +kernel
theorem dX12_dinAt_35 : decode cX12_dinAt 35 = .ok (.ifCond .eq 23, 3) := by decide +kernel
theorem dX12_dinAt_38 : decode cX12_dinAt 38 = .ok (.aload_n 0, 1) := by decide +kernel
theorem dX12_dinAt_39 : decode cX12_dinAt 39 = .ok (.iload 4, 2) := by decide +kernel
theorem dX12_dinAt_41 : decode cX12_dinAt 41 = .ok (.iload_n 2, 1) := by decide +kernel
theorem dX12_dinAt_42 : decode cX12_dinAt 42 = .ok (.invokevirtual 181, 3) := by decide +kernel
theorem dX12_dinAt_45 : decode cX12_dinAt 45 = .ok (.ifCond .eq 13, 3) := by decide +kernel
theorem dX12_dinAt_48 : decode cX12_dinAt 48 = .ok (.fload_n 3, 1) := by decide +kernel
theorem dX12_dinAt_49 : decode cX12_dinAt 49 = .ok (.aload_n 0, 1) := by decide +kernel
theorem dX12_dinAt_50 : decode cX12_dinAt 50 = .ok (.getfield 43, 3) := by decide +kernel
theorem dX12_dinAt_53 : decode cX12_dinAt 53 = .ok (.iload 4, 2) := by decide +kernel
theorem dX12_dinAt_55 : decode cX12_dinAt 55 = .ok (.faload, 1) := by decide +kernel
theorem dX12_dinAt_56 : decode cX12_dinAt 56 = .ok (.fadd, 1) := by decide +kernel
theorem dX12_dinAt_57 : decode cX12_dinAt 57 = .ok (.fstore_n 3, 1) := by decide +kernel
theorem dX12_dinAt_58 : decode cX12_dinAt 58 = .ok (.iinc 4 1, 3) := by decide +kernel
theorem dX12_dinAt_61 : decode cX12_dinAt 61 = .ok (.goto (-47), 3) := by decide +kernel
theorem dX12_dinAt_64 : decode cX12_dinAt 64 = .ok (.fload_n 3, 1) := by decide +kernel
theorem dX12_dinAt_65 : decode cX12_dinAt 65 = .ok (.freturn, 1) := by decide +kernel
theorem dX12_bar_0 : decode cX12_bar 0 = .ok (.aload_n 0, 1) := by decide +kernel
theorem dX12_bar_1 : decode cX12_bar 1 = .ok (.getfield 37, 3) := by decide +kernel
theorem dX12_bar_4 : decode cX12_bar 4 = .ok (.bipush 30, 2) := by decide +kernel
theorem dX12_bar_6 : decode cX12_bar 6 = .ok (.iaload, 1) := by decide +kernel
theorem dX12_bar_7 : decode cX12_bar 7 = .ok (.i2f, 1) := by decide +kernel
theorem dX12_bar_8 : decode cX12_bar 8 = .ok (.ldc 160, 2) := by decide +kernel
theorem dX12_bar_10 : decode cX12_bar 10 = .ok (.fdiv, 1) := by decide +kernel
theorem dX12_bar_11 : decode cX12_bar 11 = .ok (.fstore_n 3, 1) := by decide +kernel
theorem dX12_bar_12 : decode cX12_bar 12 = .ok (.fload_n 3, 1) := by decide +kernel
theorem dX12_bar_13 : decode cX12_bar 13 = .ok (.aload_n 0, 1) := by decide +kernel
theorem dX12_bar_14 : decode cX12_bar 14 = .ok (.iload_n 1, 1) := by decide +kernel
theorem dX12_bar_15 : decode cX12_bar 15 = .ok (.iload_n 2, 1) := by decide +kernel
theorem dX12_bar_16 : decode cX12_bar 16 = .ok (.invokevirtual 184, 3) := by decide +kernel
theorem dX12_bar_19 : decode cX12_bar 19 = .ok (.fmul, 1) := by decide +kernel
theorem dX12_bar_20 : decode cX12_bar 20 = .ok (.freturn, 1) := by decide +kernel
theorem dX12_unknownIn_0 : decode cX12_unknownIn 0 = .ok (.iconst 0, 1) := by decide +kernel
theorem dX12_unknownIn_1 : decode cX12_unknownIn 1 = .ok (.istore_n 2, 1) := by decide +kernel
theorem dX12_unknownIn_2 : decode cX12_unknownIn 2 = .ok (.iconst 0, 1) := by decide +kernel
theorem dX12_unknownIn_3 : decode cX12_unknownIn 3 = .ok (.istore_n 3, 1) := by decide +kernel
theorem dX12_unknownIn_4 : decode cX12_unknownIn 4 = .ok (.iload_n 3, 1) := by decide +kernel
theorem dX12_unknownIn_5 : decode cX12_unknownIn 5 = .ok (.aload_n 0, 1) := by decide +kernel
theorem dX12_unknownIn_6 : decode cX12_unknownIn 6 = .ok (.getfield 148, 3) := by decide +kernel
theorem dX12_unknownIn_9 : decode cX12_unknownIn 9 = .ok (.if_icmp .ge 36, 3) := by decide +kernel
theorem dX12_unknownIn_12 : decode cX12_unknownIn 12 = .ok (.iload_n 2, 1) := by decide +kernel
theorem dX12_unknownIn_13 : decode cX12_unknownIn 13 = .ok (.aload_n 0, 1) := by decide +kernel
theorem dX12_unknownIn_14 : decode cX12_unknownIn 14 = .ok (.iload_n 3, 1) := by decide +kernel
theorem dX12_unknownIn_15 : decode cX12_unknownIn 15 = .ok (.invokevirtual 178, 3) := by decide +kernel
theorem dX12_unknownIn_18 : decode cX12_unknownIn 18 = .ok (.ifCond .eq 18, 3) := by decide +kernel
theorem dX12_unknownIn_21 : decode cX12_unknownIn 21 = .ok (.aload_n 0, 1) := by decide +kernel
theorem dX12_unknownIn_22 : decode cX12_unknownIn 22 = .ok (.iload_n 3, 1) := by decide +kernel
theorem dX12_unknownIn_23 : decode cX12_unknownIn 23 = .ok (.iload_n 1, 1) := by decide +kernel
theorem dX12_unknownIn_24 : decode cX12_unknownIn 24 = .ok (.invokevirtual 181, 3) := by decide +kernel
theorem dX12_unknownIn_27 : decode cX12_unknownIn 27 = .ok (.ifCond .eq 9, 3) := by decide +kernel
theorem dX12_unknownIn_30 : decode cX12_unknownIn 30 = .ok (.iconst 1, 1) := by decide +kernel
theorem dX12_unknownIn_31 : decode cX12_unknownIn 31 = .ok (.iload_n 3, 1) := by decide +kernel
theorem dX12_unknownIn_32 : decode cX12_unknownIn 32 = .ok (.ishl, 1) := by decide +kernel
theorem dX12_unknownIn_33 : decode cX12_unknownIn 33 = .ok (.goto 4, 3) := by decide +kernel
theorem dX12_unknownIn_36 : decode cX12_unknownIn 36 = .ok (.iconst 0, 1) := by decide +kernel
theorem dX12_unknownIn_37 : decode cX12_unknownIn 37 = .ok (.ior, 1) := by decide +kernel
theorem dX12_unknownIn_38 : decode cX12_unknownIn 38 = .ok (.istore_n 2, 1) := by decide +kernel
theorem dX12_unknownIn_39 : decode cX12_unknownIn 39 = .ok (.iinc 3 1, 3) := by decide +kernel
theorem dX12_unknownIn_42 : decode cX12_unknownIn 42 = .ok (.goto (-38), 3) := by decide +kernel
theorem dX12_unknownIn_45 : decode cX12_unknownIn 45 = .ok (.iload_n 2, 1) := by decide +kernel
theorem dX12_unknownIn_46 : decode cX12_unknownIn 46 = .ok (.ireturn, 1) := by decide +kernel
theorem dX12_isClear_0 : decode cX12_isClear 0 = .ok (.aload_n 0, 1) := by decide +kernel
theorem dX12_isClear_1 : decode cX12_isClear 1 = .ok (.iload_n 1, 1) := by decide +kernel
theorem dX12_isClear_2 : decode cX12_isClear 2 = .ok (.invokevirtual 178, 3) := by decide +kernel
theorem dX12_isClear_5 : decode cX12_isClear 5 = .ok (.ifCond .eq 25, 3) := by decide +kernel
theorem dX12_isClear_8 : decode cX12_isClear 8 = .ok (.aload_n 0, 1) := by decide +kernel
theorem dX12_isClear_9 : decode cX12_isClear 9 = .ok (.iload_n 1, 1) := by decide +kernel
theorem dX12_isClear_10 : decode cX12_isClear 10 = .ok (.iload_n 2, 1) := by decide +kernel
theorem dX12_isClear_11 : decode cX12_isClear 11 = .ok (.invokevirtual 181, 3) := by decide +kernel
theorem dX12_isClear_14 : decode cX12_isClear 14 = .ok (.ifCond .eq 16, 3) := by decide +kernel
theorem dX12_isClear_17 : decode cX12_isClear 17 = .ok (.aload_n 0, 1) := by decide +kernel
theorem dX12_isClear_18 : decode cX12_isClear 18 = .ok (.getfield 188, 3) := by decide +kernel
theorem dX12_isClear_21 : decode cX12_isClear 21 = .ok (.iload_n 2, 1) := by decide +kernel
theorem dX12_isClear_22 : decode cX12_isClear 22 = .ok (.lshr, 1) := by decide +kernel
theorem dX12_isClear_23 : decode cX12_isClear 23 = .ok (.lconst 1, 1) := by decide +kernel
theorem dX12_isClear_24 : decode cX12_isClear 24 = .ok (.land, 1) := by decide +kernel
theorem dX12_isClear_25 : decode cX12_isClear 25 = .ok (.lconst 1, 1) := by decide +kernel
theorem dX12_isClear_26 : decode cX12_isClear 26 = .ok (.lcmp, 1) := by decide +kernel
theorem dX12_isClear_27 : decode cX12_isClear 27 = .ok (.ifCond .ne 5, 3) := by decide +kernel
theorem dX12_isClear_30 : decode cX12_isClear 30 = .ok (.iconst 0, 1) := by decide +kernel
theorem dX12_isClear_31 : decode cX12_isClear 31 = .ok (.ireturn, 1) := by decide +kernel
theorem dX12_isClear_32 : decode cX12_isClear 32 = .ok (.aload_n 0, 1) := by decide +kernel
theorem dX12_isClear_33 : decode cX12_isClear 33 = .ok (.getfield 37, 3) := by decide +kernel
theorem dX12_isClear_36 : decode cX12_isClear 36 = .ok (.bipush 30, 2) := by decide +kernel
theorem dX12_isClear_38 : decode cX12_isClear 38 = .ok (.iaload, 1) := by decide +kernel
theorem dX12_isClear_39 : decode cX12_isClear 39 = .ok (.ifCond .ne 22, 3) := by decide +kernel
theorem dX12_isClear_42 : decode cX12_isClear 42 = .ok (.aload_n 0, 1) := by decide +kernel
theorem dX12_isClear_43 : decode cX12_isClear 43 = .ok (.iload_n 2, 1) := by decide +kernel
theorem dX12_isClear_44 : decode cX12_isClear 44 = .ok (.invokevirtual 192, 3) := by decide +kernel
theorem dX12_isClear_47 : decode cX12_isClear 47 = .ok (.iconst 1, 1) := by decide +kernel
theorem dX12_isClear_48 : decode cX12_isClear 48 = .ok (.iload_n 1, 1) := by decide +kernel
theorem dX12_isClear_49 : decode cX12_isClear 49 = .ok (.ishl, 1) := by decide +kernel
theorem dX12_isClear_50 : decode cX12_isClear 50 = .ok (.if_icmp .ne 7, 3) := by decide +kernel
theorem dX12_isClear_53 : decode cX12_isClear 53 = .ok (.iconst 1, 1) := by decide +kernel
theorem dX12_isClear_54 : decode cX12_isClear 54 = .ok (.goto 28, 3) := by decide +kernel
theorem dX12_isClear_57 : decode cX12_isClear 57 = .ok (.iconst 0, 1) := by decide +kernel
theorem dX12_isClear_58 : decode cX12_isClear 58 = .ok (.goto 24, 3) := by decide +kernel
theorem dX12_isClear_61 : decode cX12_isClear 61 = .ok (.aload_n 0, 1) := by decide +kernel
theorem dX12_isClear_62 : decode cX12_isClear 62 = .ok (.getfield 43, 3) := by decide +kernel
theorem dX12_isClear_65 : decode cX12_isClear 65 = .ok (.iload_n 1, 1) := by decide +kernel
theorem dX12_isClear_66 : decode cX12_isClear 66 = .ok (.faload, 1) := by decide +kernel
theorem dX12_isClear_67 : decode cX12_isClear 67 = .ok (.aload_n 0, 1) := by decide +kernel
theorem dX12_isClear_68 : decode cX12_isClear 68 = .ok (.iload_n 1, 1) := by decide +kernel
theorem dX12_isClear_69 : decode cX12_isClear 69 = .ok (.iload_n 2, 1) := by decide +kernel
theorem dX12_isClear_70 : decode cX12_isClear 70 = .ok (.invokevirtual 195, 3) := by decide +kernel
theorem dX12_isClear_73 : decode cX12_isClear 73 = .ok (.fcmp .l, 1) := by decide +kernel
theorem dX12_isClear_74 : decode cX12_isClear 74 = .ok (.ifCond .lt 7, 3) := by decide +kernel
theorem dX12_isClear_77 : decode cX12_isClear 77 = .ok (.iconst 1, 1) := by decide +kernel
theorem dX12_isClear_78 : decode cX12_isClear 78 = .ok (.goto 4, 3) := by decide +kernel
theorem dX12_isClear_81 : decode cX12_isClear 81 = .ok (.iconst 0, 1) := by decide +kernel
theorem dX12_isClear_82 : decode cX12_isClear 82 = .ok (.ireturn, 1) := by decide +kernel
theorem dX12_clearIn_0 : decode cX12_clearIn 0 = .ok (.iconst 0, 1) := by decide +kernel
theorem dX12_clearIn_1 : decode cX12_clearIn 1 = .ok (.istore_n 2, 1) := by decide +kernel
theorem dX12_clearIn_2 : decode cX12_clearIn 2 = .ok (.iconst 0, 1) := by decide +kernel
theorem dX12_clearIn_3 : decode cX12_clearIn 3 = .ok (.istore_n 3, 1) := by decide +kernel
theorem dX12_clearIn_4 : decode cX12_clearIn 4 = .ok (.iload_n 3, 1) := by decide +kernel
theorem dX12_clearIn_5 : decode cX12_clearIn 5 = .ok (.aload_n 0, 1) := by decide +kernel
theorem dX12_clearIn_6 : decode cX12_clearIn 6 = .ok (.getfield 148, 3) := by decide +kernel
theorem dX12_clearIn_9 : decode cX12_clearIn 9 = .ok (.if_icmp .ge 28, 3) := by decide +kernel
theorem dX12_clearIn_12 : decode cX12_clearIn 12 = .ok (.iload_n 2, 1) := by decide +kernel
theorem dX12_clearIn_13 : decode cX12_clearIn 13 = .ok (.aload_n 0, 1) := by decide +kernel
theorem dX12_clearIn_14 : decode cX12_clearIn 14 = .ok (.iload_n 3, 1) := by decide +kernel
theorem dX12_clearIn_15 : decode cX12_clearIn 15 = .ok (.iload_n 1, 1) := by decide +kernel
theorem dX12_clearIn_16 : decode cX12_clearIn 16 = .ok (.invokevirtual 198, 3) := by decide +kernel
theorem dX12_clearIn_19 : decode cX12_clearIn 19 = .ok (.ifCond .eq 9, 3) := by decide +kernel
theorem dX12_clearIn_22 : decode cX12_clearIn 22 = .ok (.iconst 1, 1) := by decide +kernel
theorem dX12_clearIn_23 : decode cX12_clearIn 23 = .ok (.iload_n 3, 1) := by decide +kernel
theorem dX12_clearIn_24 : decode cX12_clearIn 24 = .ok (.ishl, 1) := by decide +kernel
theorem dX12_clearIn_25 : decode cX12_clearIn 25 = .ok (.goto 4, 3) := by decide +kernel
theorem dX12_clearIn_28 : decode cX12_clearIn 28 = .ok (.iconst 0, 1) := by decide +kernel
theorem dX12_clearIn_29 : decode cX12_clearIn 29 = .ok (.ior, 1) := by decide +kernel
theorem dX12_clearIn_30 : decode cX12_clearIn 30 = .ok (.istore_n 2, 1) := by decide +kernel
theorem dX12_clearIn_31 : decode cX12_clearIn 31 = .ok (.iinc 3 1, 3) := by decide +kernel
theorem dX12_clearIn_34 : decode cX12_clearIn 34 = .ok (.goto (-30), 3) := by decide +kernel
theorem dX12_clearIn_37 : decode cX12_clearIn 37 = .ok (.iload_n 2, 1) := by decide +kernel
theorem dX12_clearIn_38 : decode cX12_clearIn 38 = .ok (.ireturn, 1) := by decide +kernel
theorem dX12_lowestOf_0 : decode cX12_lowestOf 0 = .ok (.iconst 0, 1) := by decide +kernel
theorem dX12_lowestOf_1 : decode cX12_lowestOf 1 = .ok (.istore_n 1, 1) := by decide +kernel
theorem dX12_lowestOf_2 : decode cX12_lowestOf 2 = .ok (.iload_n 0, 1) := by decide +kernel
theorem dX12_lowestOf_3 : decode cX12_lowestOf 3 = .ok (.iload_n 1, 1) := by decide +kernel
theorem dX12_lowestOf_4 : decode cX12_lowestOf 4 = .ok (.invokestatic 107, 3) := by decide +kernel
theorem dX12_lowestOf_7 : decode cX12_lowestOf 7 = .ok (.ifCond .ne 9, 3) := by decide +kernel
theorem dX12_lowestOf_10 : decode cX12_lowestOf 10 = .ok (.iinc 1 1, 3) := by decide +kernel
theorem dX12_lowestOf_13 : decode cX12_lowestOf 13 = .ok (.goto (-11), 3) := by decide +kernel
theorem dX12_lowestOf_16 : decode cX12_lowestOf 16 = .ok (.iload_n 1, 1) := by decide +kernel
theorem dX12_lowestOf_17 : decode cX12_lowestOf 17 = .ok (.ireturn, 1) := by decide +kernel
theorem dX12_wayIn_0 : decode cX12_wayIn 0 = .ok (.aload_n 0, 1) := by decide +kernel
theorem dX12_wayIn_1 : decode cX12_wayIn 1 = .ok (.iload_n 2, 1) := by decide +kernel
theorem dX12_wayIn_2 : decode cX12_wayIn 2 = .ok (.invokevirtual 192, 3) := by decide +kernel
theorem dX12_wayIn_5 : decode cX12_wayIn 5 = .ok (.iconst 1, 1) := by decide +kernel
theorem dX12_wayIn_6 : decode cX12_wayIn 6 = .ok (.iload_n 1, 1) := by decide +kernel
theorem dX12_wayIn_7 : decode cX12_wayIn 7 = .ok (.ishl, 1) := by decide +kernel
theorem dX12_wayIn_8 : decode cX12_wayIn 8 = .ok (.if_icmp .ne 7, 3) := by decide +kernel
theorem dX12_wayIn_11 : decode cX12_wayIn 11 = .ok (.iconst 1, 1) := by decide +kernel
theorem dX12_wayIn_12 : decode cX12_wayIn 12 = .ok (.goto 4, 3) := by decide +kernel
theorem dX12_wayIn_15 : decode cX12_wayIn 15 = .ok (.iconst 2, 1) := by decide +kernel
theorem dX12_wayIn_16 : decode cX12_wayIn 16 = .ok (.ireturn, 1) := by decide +kernel
theorem dX12_firstClear_0 : decode cX12_firstClear 0 = .ok (.iload_n 1, 1) := by decide +kernel
theorem dX12_firstClear_1 : decode cX12_firstClear 1 = .ok (.istore_n 3, 1) := by decide +kernel
theorem dX12_firstClear_2 : decode cX12_firstClear 2 = .ok (.iload_n 3, 1) := by decide +kernel
theorem dX12_firstClear_3 : decode cX12_firstClear 3 = .ok (.iload_n 2, 1) := by decide +kernel
theorem dX12_firstClear_4 : decode cX12_firstClear 4 = .ok (.if_icmp .ge 19, 3) := by decide +kernel
theorem dX12_firstClear_7 : decode cX12_firstClear 7 = .ok (.aload_n 0, 1) := by decide +kernel
theorem dX12_firstClear_8 : decode cX12_firstClear 8 = .ok (.iload_n 3, 1) := by decide +kernel
theorem dX12_firstClear_9 : decode cX12_firstClear 9 = .ok (.invokevirtual 201, 3) := by decide +kernel
theorem dX12_firstClear_12 : decode cX12_firstClear 12 = .ok (.ifCond .eq 5, 3) := by decide +kernel
theorem dX12_firstClear_15 : decode cX12_firstClear 15 = .ok (.iload_n 3, 1) := by decide +kernel
theorem dX12_firstClear_16 : decode cX12_firstClear 16 = .ok (.ireturn, 1) := by decide +kernel
theorem dX12_firstClear_17 : decode cX12_firstClear 17 = .ok (.iinc 3 1, 3) := by decide +kernel
theorem dX12_firstClear_20 : decode cX12_firstClear 20 = .ok (.goto (-18), 3) := by decide +kernel
theorem dX12_firstClear_23 : decode cX12_firstClear 23 = .ok (.iconst (-1), 1) := by decide +kernel
theorem dX12_firstClear_24 : decode cX12_firstClear 24 = .ok (.ireturn, 1) := by decide +kernel
theorem dX12_peelNow_0 : decode cX12_peelNow 0 = .ok (.aload_n 0, 1) := by decide +kernel
theorem dX12_peelNow_1 : decode cX12_peelNow 1 = .ok (.iload_n 1, 1) := by decide +kernel
theorem dX12_peelNow_2 : decode cX12_peelNow 2 = .ok (.iload_n 2, 1) := by decide +kernel
theorem dX12_peelNow_3 : decode cX12_peelNow 3 = .ok (.invokevirtual 204, 3) := by decide +kernel
theorem dX12_peelNow_6 : decode cX12_peelNow 6 = .ok (.istore_n 3, 1) := by decide +kernel
theorem dX12_peelNow_7 : decode cX12_peelNow 7 = .ok (.iload_n 3, 1) := by decide +kernel
theorem dX12_peelNow_8 : decode cX12_peelNow 8 = .ok (.iconst (-1), 1) := by decide +kernel
theorem dX12_peelNow_9 : decode cX12_peelNow 9 = .ok (.if_icmp .ne 5, 3) := by decide +kernel
theorem dX12_peelNow_12 : decode cX12_peelNow 12 = .ok (.iconst (-1), 1) := by decide +kernel
theorem dX12_peelNow_13 : decode cX12_peelNow 13 = .ok (.ireturn, 1) := by decide +kernel
theorem dX12_peelNow_14 : decode cX12_peelNow 14 = .ok (.aload_n 0, 1) := by decide +kernel
theorem dX12_peelNow_15 : decode cX12_peelNow 15 = .ok (.iload_n 3, 1) := by decide +kernel
theorem dX12_peelNow_16 : decode cX12_peelNow 16 = .ok (.invokevirtual 201, 3) := by decide +kernel
theorem dX12_peelNow_19 : decode cX12_peelNow 19 = .ok (.invokestatic 207, 3) := by decide +kernel
theorem dX12_peelNow_22 : decode cX12_peelNow 22 = .ok (.istore 4, 2) := by decide +kernel
theorem dX12_peelNow_24 : decode cX12_peelNow 24 = .ok (.aload_n 0, 1) := by decide +kernel
theorem dX12_peelNow_25 : decode cX12_peelNow 25 = .ok (.getfield 37, 3) := by decide +kernel
theorem dX12_peelNow_28 : decode cX12_peelNow 28 = .ok (.iconst 0, 1) := by decide +kernel
theorem dX12_peelNow_29 : decode cX12_peelNow 29 = .ok (.iload 4, 2) := by decide +kernel
theorem dX12_peelNow_31 : decode cX12_peelNow 31 = .ok (.iadd, 1) := by decide +kernel
theorem dX12_peelNow_32 : decode cX12_peelNow 32 = .ok (.aload_n 0, 1) := by decide +kernel
theorem dX12_peelNow_33 : decode cX12_peelNow 33 = .ok (.iload 4, 2) := by decide +kernel
theorem dX12_peelNow_35 : decode cX12_peelNow 35 = .ok (.iload_n 3, 1) := by decide +kernel
theorem dX12_peelNow_36 : decode cX12_peelNow 36 = .ok (.invokevirtual 210, 3) := by decide +kernel
theorem dX12_peelNow_39 : decode cX12_peelNow 39 = .ok (.iastore, 1) := by decide +kernel
theorem dX12_peelNow_40 : decode cX12_peelNow 40 = .ok (.iload 4, 2) := by decide +kernel
theorem dX12_peelNow_42 : decode cX12_peelNow 42 = .ok (.ireturn, 1) := by decide +kernel
theorem dX12_roundNow_0 : decode cX12_roundNow 0 = .ok (.iconst 0, 1) := by decide +kernel
theorem dX12_roundNow_1 : decode cX12_roundNow 1 = .ok (.istore_n 1, 1) := by decide +kernel
theorem dX12_roundNow_2 : decode cX12_roundNow 2 = .ok (.iload_n 1, 1) := by decide +kernel
theorem dX12_roundNow_3 : decode cX12_roundNow 3 = .ok (.aload_n 0, 1) := by decide +kernel
theorem dX12_roundNow_4 : decode cX12_roundNow 4 = .ok (.getfield 148, 3) := by decide +kernel
theorem dX12_roundNow_7 : decode cX12_roundNow 7 = .ok (.if_icmp .ge 16, 3) := by decide +kernel
theorem dX12_roundNow_10 : decode cX12_roundNow 10 = .ok (.aload_n 0, 1) := by decide +kernel
theorem dX12_roundNow_11 : decode cX12_roundNow 11 = .ok (.getfield 47, 3) := by decide +kernel
theorem dX12_roundNow_14 : decode cX12_roundNow 14 = .ok (.iload_n 1, 1) := by decide +kernel
theorem dX12_roundNow_15 : decode cX12_roundNow 15 = .ok (.iconst 0, 1) := by decide +kernel
theorem dX12_roundNow_16 : decode cX12_roundNow 16 = .ok (.iastore, 1) := by decide +kernel
theorem dX12_roundNow_17 : decode cX12_roundNow 17 = .ok (.iinc 1 1, 3) := by decide +kernel
theorem dX12_roundNow_20 : decode cX12_roundNow 20 = .ok (.goto (-18), 3) := by decide +kernel
theorem dX12_roundNow_23 : decode cX12_roundNow 23 = .ok (.aload_n 0, 1) := by decide +kernel
theorem dX12_roundNow_24 : decode cX12_roundNow 24 = .ok (.invokevirtual 154, 3) := by decide +kernel
theorem dX12_roundNow_27 : decode cX12_roundNow 27 = .ok (.iconst 1, 1) := by decide +kernel
theorem dX12_roundNow_28 : decode cX12_roundNow 28 = .ok (.isub, 1) := by decide +kernel
theorem dX12_roundNow_29 : decode cX12_roundNow 29 = .ok (.istore_n 1, 1) := by decide +kernel
theorem dX12_roundNow_30 : decode cX12_roundNow 30 = .ok (.iload_n 1, 1) := by decide +kernel
theorem dX12_roundNow_31 : decode cX12_roundNow 31 = .ok (.ifCond .lt 60, 3) := by decide +kernel
theorem dX12_roundNow_34 : decode cX12_roundNow 34 = .ok (.aload_n 0, 1) := by decide +kernel
theorem dX12_roundNow_35 : decode cX12_roundNow 35 = .ok (.iload_n 1, 1) := by decide +kernel
theorem dX12_roundNow_36 : decode cX12_roundNow 36 = .ok (.invokevirtual 201, 3) := by decide +kernel
theorem dX12_roundNow_39 : decode cX12_roundNow 39 = .ok (.istore_n 2, 1) := by decide +kernel
theorem dX12_roundNow_40 : decode cX12_roundNow 40 = .ok (.iconst 0, 1) := by decide +kernel
theorem dX12_roundNow_41 : decode cX12_roundNow 41 = .ok (.istore_n 3, 1) := by decide +kernel
theorem dX12_roundNow_42 : decode cX12_roundNow 42 = .ok (.iload_n 3, 1) := by decide +kernel
theorem dX12_roundNow_43 : decode cX12_roundNow 43 = .ok (.aload_n 0, 1) := by decide +kernel
theorem dX12_roundNow_44 : decode cX12_roundNow 44 = .ok (.getfield 148, 3) := by decide +kernel
theorem dX12_roundNow_47 : decode cX12_roundNow 47 = .ok (.if_icmp .ge 38, 3) := by decide +kernel
theorem dX12_roundNow_50 : decode cX12_roundNow 50 = .ok (.aload_n 0, 1) := by decide +kernel
theorem dX12_roundNow_51 : decode cX12_roundNow 51 = .ok (.getfield 47, 3) := by decide +kernel
theorem dX12_roundNow_54 : decode cX12_roundNow 54 = .ok (.iload_n 3, 1) := by decide +kernel
theorem dX12_roundNow_55 : decode cX12_roundNow 55 = .ok (.iload_n 2, 1) := by decide +kernel
theorem dX12_roundNow_56 : decode cX12_roundNow 56 = .ok (.iload_n 3, 1) := by decide +kernel
theorem dX12_roundNow_57 : decode cX12_roundNow 57 = .ok (.invokestatic 107, 3) := by decide +kernel
theorem dX12_roundNow_60 : decode cX12_roundNow 60 = .ok (.ifCond .eq 12, 3) := by decide +kernel
theorem dX12_roundNow_63 : decode cX12_roundNow 63 = .ok (.aload_n 0, 1) := by decide +kernel
theorem dX12_roundNow_64 : decode cX12_roundNow 64 = .ok (.iload_n 3, 1) := by decide +kernel
theorem dX12_roundNow_65 : decode cX12_roundNow 65 = .ok (.iload_n 1, 1) := by decide +kernel
theorem dX12_roundNow_66 : decode cX12_roundNow 66 = .ok (.invokevirtual 210, 3) := by decide +kernel
theorem dX12_roundNow_69 : decode cX12_roundNow 69 = .ok (.goto 9, 3) := by decide +kernel
theorem dX12_roundNow_72 : decode cX12_roundNow 72 = .ok (.aload_n 0, 1) := by decide +kernel
theorem dX12_roundNow_73 : decode cX12_roundNow 73 = .ok (.getfield 47, 3) := by decide +kernel
theorem dX12_roundNow_76 : decode cX12_roundNow 76 = .ok (.iload_n 3, 1) := by decide +kernel
theorem dX12_roundNow_77 : decode cX12_roundNow 77 = .ok (.iaload, 1) := by decide +kernel
theorem dX12_roundNow_78 : decode cX12_roundNow 78 = .ok (.iastore, 1) := by decide +kernel
theorem dX12_roundNow_79 : decode cX12_roundNow 79 = .ok (.iinc 3 1, 3) := by decide +kernel
theorem dX12_roundNow_82 : decode cX12_roundNow 82 = .ok (.goto (-40), 3) := by decide +kernel
theorem dX12_roundNow_85 : decode cX12_roundNow 85 = .ok (.iinc 1 (-1), 3) := by decide +kernel
theorem dX12_roundNow_88 : decode cX12_roundNow 88 = .ok (.goto (-58), 3) := by decide +kernel
theorem dX12_roundNow_91 : decode cX12_roundNow 91 = .ok (.iconst 0, 1) := by decide +kernel
theorem dX12_roundNow_92 : decode cX12_roundNow 92 = .ok (.istore_n 1, 1) := by decide +kernel
theorem dX12_roundNow_93 : decode cX12_roundNow 93 = .ok (.iconst 0, 1) := by decide +kernel
theorem dX12_roundNow_94 : decode cX12_roundNow 94 = .ok (.istore_n 2, 1) := by decide +kernel
theorem dX12_roundNow_95 : decode cX12_roundNow 95 = .ok (.iload_n 2, 1) := by decide +kernel
theorem dX12_roundNow_96 : decode cX12_roundNow 96 = .ok (.aload_n 0, 1) := by decide +kernel
theorem dX12_roundNow_97 : decode cX12_roundNow 97 = .ok (.getfield 148, 3) := by decide +kernel
theorem dX12_roundNow_100 : decode cX12_roundNow 100 = .ok (.if_icmp .ge 35, 3) := by decide +kernel
theorem dX12_roundNow_103 : decode cX12_roundNow 103 = .ok (.aload_n 0, 1) := by decide +kernel
theorem dX12_roundNow_104 : decode cX12_roundNow 104 = .ok (.getfield 47, 3) := by decide +kernel
theorem dX12_roundNow_107 : decode cX12_roundNow 107 = .ok (.iload_n 2, 1) := by decide +kernel
theorem dX12_roundNow_108 : decode cX12_roundNow 108 = .ok (.iaload, 1) := by decide +kernel
theorem dX12_roundNow_109 : decode cX12_roundNow 109 = .ok (.ifCond .le 20, 3) := by decide +kernel
theorem dX12_roundNow_112 : decode cX12_roundNow 112 = .ok (.aload_n 0, 1) := by decide +kernel
theorem dX12_roundNow_113 : decode cX12_roundNow 113 = .ok (.getfield 37, 3) := by decide +kernel
theorem dX12_roundNow_116 : decode cX12_roundNow 116 = .ok (.iconst 0, 1) := by decide +kernel
theorem dX12_roundNow_117 : decode cX12_roundNow 117 = .ok (.iload_n 2, 1) := by decide +kernel
theorem dX12_roundNow_118 : decode cX12_roundNow 118 = .ok (.iadd, 1) := by decide +kernel
theorem dX12_roundNow_119 : decode cX12_roundNow 119 = .ok (.aload_n 0, 1) := by decide +kernel
theorem dX12_roundNow_120 : decode cX12_roundNow 120 = .ok (.getfield 47, 3) := by decide +kernel
theorem dX12_roundNow_123 : decode cX12_roundNow 123 = .ok (.iload_n 2, 1) := by decide +kernel
theorem dX12_roundNow_124 : decode cX12_roundNow 124 = .ok (.iaload, 1) := by decide +kernel
theorem dX12_roundNow_125 : decode cX12_roundNow 125 = .ok (.iastore, 1) := by decide +kernel
theorem dX12_roundNow_126 : decode cX12_roundNow 126 = .ok (.iinc 1 1, 3) := by decide +kernel
theorem dX12_roundNow_129 : decode cX12_roundNow 129 = .ok (.iinc 2 1, 3) := by decide +kernel
theorem dX12_roundNow_132 : decode cX12_roundNow 132 = .ok (.goto (-37), 3) := by decide +kernel
theorem dX12_roundNow_135 : decode cX12_roundNow 135 = .ok (.iload_n 1, 1) := by decide +kernel
theorem dX12_roundNow_136 : decode cX12_roundNow 136 = .ok (.ireturn, 1) := by decide +kernel
theorem dX12_knownSet_0 : decode cX12_knownSet 0 = .ok (.iconst 0, 1) := by decide +kernel
theorem dX12_knownSet_1 : decode cX12_knownSet 1 = .ok (.istore_n 1, 1) := by decide +kernel
theorem dX12_knownSet_2 : decode cX12_knownSet 2 = .ok (.iconst 0, 1) := by decide +kernel
theorem dX12_knownSet_3 : decode cX12_knownSet 3 = .ok (.istore_n 2, 1) := by decide +kernel
theorem dX12_knownSet_4 : decode cX12_knownSet 4 = .ok (.iload_n 2, 1) := by decide +kernel
theorem dX12_knownSet_5 : decode cX12_knownSet 5 = .ok (.aload_n 0, 1) := by decide +kernel
theorem dX12_knownSet_6 : decode cX12_knownSet 6 = .ok (.getfield 148, 3) := by decide +kernel
theorem dX12_knownSet_9 : decode cX12_knownSet 9 = .ok (.if_icmp .ge 27, 3) := by decide +kernel
theorem dX12_knownSet_12 : decode cX12_knownSet 12 = .ok (.iload_n 1, 1) := by decide +kernel
theorem dX12_knownSet_13 : decode cX12_knownSet 13 = .ok (.aload_n 0, 1) := by decide +kernel
theorem dX12_knownSet_14 : decode cX12_knownSet 14 = .ok (.iload_n 2, 1) := by decide +kernel
theorem dX12_knownSet_15 : decode cX12_knownSet 15 = .ok (.invokevirtual 178, 3) := by decide +kernel
theorem dX12_knownSet_18 : decode cX12_knownSet 18 = .ok (.ifCond .eq 7, 3) := by decide +kernel
theorem dX12_knownSet_21 : decode cX12_knownSet 21 = .ok (.iconst 0, 1) := by decide +kernel
theorem dX12_knownSet_22 : decode cX12_knownSet 22 = .ok (.goto 6, 3) := by decide +kernel
theorem dX12_knownSet_25 : decode cX12_knownSet 25 = .ok (.iconst 1, 1) := by decide +kernel
theorem dX12_knownSet_26 : decode cX12_knownSet 26 = .ok (.iload_n 2, 1) := by decide +kernel
theorem dX12_knownSet_27 : decode cX12_knownSet 27 = .ok (.ishl, 1) := by decide +kernel
theorem dX12_knownSet_28 : decode cX12_knownSet 28 = .ok (.ior, 1) := by decide +kernel
theorem dX12_knownSet_29 : decode cX12_knownSet 29 = .ok (.istore_n 1, 1) := by decide +kernel
theorem dX12_knownSet_30 : decode cX12_knownSet 30 = .ok (.iinc 2 1, 3) := by decide +kernel
theorem dX12_knownSet_33 : decode cX12_knownSet 33 = .ok (.goto (-29), 3) := by decide +kernel
theorem dX12_knownSet_36 : decode cX12_knownSet 36 = .ok (.iload_n 1, 1) := by decide +kernel
theorem dX12_knownSet_37 : decode cX12_knownSet 37 = .ok (.ireturn, 1) := by decide +kernel
theorem dX12_everybody_0 : decode cX12_everybody 0 = .ok (.iconst 1, 1) := by decide +kernel
theorem dX12_everybody_1 : decode cX12_everybody 1 = .ok (.aload_n 0, 1) := by decide +kernel
theorem dX12_everybody_2 : decode cX12_everybody 2 = .ok (.getfield 148, 3) := by decide +kernel
theorem dX12_everybody_5 : decode cX12_everybody 5 = .ok (.ishl, 1) := by decide +kernel
theorem dX12_everybody_6 : decode cX12_everybody 6 = .ok (.iconst 1, 1) := by decide +kernel
theorem dX12_everybody_7 : decode cX12_everybody 7 = .ok (.isub, 1) := by decide +kernel
theorem dX12_everybody_8 : decode cX12_everybody 8 = .ok (.ireturn, 1) := by decide +kernel
theorem dX12_knownMany_0 : decode cX12_knownMany 0 = .ok (.aload_n 0, 1) := by decide +kernel
theorem dX12_knownMany_1 : decode cX12_knownMany 1 = .ok (.invokevirtual 213, 3) := by decide +kernel
theorem dX12_knownMany_4 : decode cX12_knownMany 4 = .ok (.invokestatic 157, 3) := by decide +kernel
theorem dX12_knownMany_7 : decode cX12_knownMany 7 = .ok (.ireturn, 1) := by decide +kernel
theorem dX12_solveNow_0 : decode cX12_solveNow 0 = .ok (.iconst 0, 1) := by decide +kernel
theorem dX12_solveNow_1 : decode cX12_solveNow 1 = .ok (.istore_n 1, 1) := by decide +kernel
theorem dX12_solveNow_2 : decode cX12_solveNow 2 = .ok (.aload_n 0, 1) := by decide +kernel
theorem dX12_solveNow_3 : decode cX12_solveNow 3 = .ok (.invokevirtual 216, 3) := by decide +kernel
theorem dX12_solveNow_6 : decode cX12_solveNow 6 = .ok (.ifCond .le 9, 3) := by decide +kernel
theorem dX12_solveNow_9 : decode cX12_solveNow 9 = .ok (.iinc 1 1, 3) := by decide +kernel
theorem dX12_solveNow_12 : decode cX12_solveNow 12 = .ok (.goto (-10), 3) := by decide +kernel
theorem dX12_solveNow_15 : decode cX12_solveNow 15 = .ok (.iload_n 1, 1) := by decide +kernel
theorem dX12_solveNow_16 : decode cX12_solveNow 16 = .ok (.ireturn, 1) := by decide +kernel
theorem dX12_keep_0 : decode cX12_keep 0 = .ok (.aload_n 0, 1) := by decide +kernel
theorem dX12_keep_1 : decode cX12_keep 1 = .ok (.getfield 165, 3) := by decide +kernel
theorem dX12_keep_4 : decode cX12_keep 4 = .ok (.bipush 40, 2) := by decide +kernel
theorem dX12_keep_6 : decode cX12_keep 6 = .ok (.if_icmp .ne 46, 3) := by decide +kernel
theorem dX12_keep_9 : decode cX12_keep 9 = .ok (.sipush 245, 3) := by decide +kernel
theorem dX12_keep_12 : decode cX12_keep 12 = .ok (.istore_n 1, 1) := by decide +kernel
theorem dX12_keep_13 : decode cX12_keep 13 = .ok (.iload_n 1, 1) := by decide +kernel
theorem dX12_keep_14 : decode cX12_keep 14 = .ok (.sipush 9800, 3) := by decide +kernel
theorem dX12_keep_17 : decode cX12_keep 17 = .ok (.if_icmp .ge 25, 3) := by decide +kernel
theorem dX12_keep_20 : decode cX12_keep 20 = .ok (.aload_n 0, 1) := by decide +kernel
theorem dX12_keep_21 : decode cX12_keep 21 = .ok (.getfield 50, 3) := by decide +kernel
theorem dX12_keep_24 : decode cX12_keep 24 = .ok (.iload_n 1, 1) := by decide +kernel
theorem dX12_keep_25 : decode cX12_keep 25 = .ok (.sipush 245, 3) := by decide +kernel
theorem dX12_keep_28 : decode cX12_keep 28 = .ok (.isub, 1) := by decide +kernel
theorem dX12_keep_29 : decode cX12_keep 29 = .ok (.aload_n 0, 1) := by decide +kernel
theorem dX12_keep_30 : decode cX12_keep 30 = .ok (.getfield 50, 3) := by decide +kernel
theorem dX12_keep_33 : decode cX12_keep 33 = .ok (.iload_n 1, 1) := by decide +kernel
theorem dX12_keep_34 : decode cX12_keep 34 = .ok (.iaload, 1) := by decide +kernel
theorem dX12_keep_35 : decode cX12_keep 35 = .ok (.iastore, 1) := by decide +kernel
theorem dX12_keep_36 : decode cX12_keep 36 = .ok (.iinc 1 1, 3) := by decide +kernel
theorem dX12_keep_39 : decode cX12_keep 39 = .ok (.goto (-26), 3) := by decide +kernel
theorem dX12_keep_42 : decode cX12_keep 42 = .ok (.aload_n 0, 1) := by decide +kernel
theorem dX12_keep_43 : decode cX12_keep 43 = .ok (.dup, 1) := by decide +kernel
theorem dX12_keep_44 : decode cX12_keep 44 = .ok (.getfield 165, 3) := by decide +kernel
theorem dX12_keep_47 : decode cX12_keep 47 = .ok (.iconst 1, 1) := by decide +kernel
theorem dX12_keep_48 : decode cX12_keep 48 = .ok (.isub, 1) := by decide +kernel
theorem dX12_keep_49 : decode cX12_keep 49 = .ok (.putfield 165, 3) := by decide +kernel
theorem dX12_keep_52 : decode cX12_keep 52 = .ok (.iconst 0, 1) := by decide +kernel
theorem dX12_keep_53 : decode cX12_keep 53 = .ok (.istore_n 1, 1) := by decide +kernel
theorem dX12_keep_54 : decode cX12_keep 54 = .ok (.iload_n 1, 1) := by decide +kernel
theorem dX12_keep_55 : decode cX12_keep 55 = .ok (.sipush 245, 3) := by decide +kernel
theorem dX12_keep_58 : decode cX12_keep 58 = .ok (.if_icmp .ge 30, 3) := by decide +kernel
theorem dX12_keep_61 : decode cX12_keep 61 = .ok (.aload_n 0, 1) := by decide +kernel
theorem dX12_keep_62 : decode cX12_keep 62 = .ok (.getfield 50, 3) := by decide +kernel
theorem dX12_keep_65 : decode cX12_keep 65 = .ok (.sipush 245, 3) := by decide +kernel
theorem dX12_keep_68 : decode cX12_keep 68 = .ok (.aload_n 0, 1) := by decide +kernel
theorem dX12_keep_69 : decode cX12_keep 69 = .ok (.getfield 165, 3) := by decide +kernel
theorem dX12_keep_72 : decode cX12_keep 72 = .ok (.imul, 1) := by decide +kernel
theorem dX12_keep_73 : decode cX12_keep 73 = .ok (.iload_n 1, 1) := by decide +kernel
theorem dX12_keep_74 : decode cX12_keep 74 = .ok (.iadd, 1) := by decide +kernel
theorem dX12_keep_75 : decode cX12_keep 75 = .ok (.aload_n 0, 1) := by decide +kernel
theorem dX12_keep_76 : decode cX12_keep 76 = .ok (.getfield 37, 3) := by decide +kernel
theorem dX12_keep_79 : decode cX12_keep 79 = .ok (.iload_n 1, 1) := by decide +kernel
theorem dX12_keep_80 : decode cX12_keep 80 = .ok (.iaload, 1) := by decide +kernel
theorem dX12_keep_81 : decode cX12_keep 81 = .ok (.iastore, 1) := by decide +kernel
theorem dX12_keep_82 : decode cX12_keep 82 = .ok (.iinc 1 1, 3) := by decide +kernel
theorem dX12_keep_85 : decode cX12_keep 85 = .ok (.goto (-31), 3) := by decide +kernel
theorem dX12_keep_88 : decode cX12_keep 88 = .ok (.aload_n 0, 1) := by decide +kernel
theorem dX12_keep_89 : decode cX12_keep 89 = .ok (.dup, 1) := by decide +kernel
theorem dX12_keep_90 : decode cX12_keep 90 = .ok (.getfield 165, 3) := by decide +kernel
theorem dX12_keep_93 : decode cX12_keep 93 = .ok (.iconst 1, 1) := by decide +kernel
theorem dX12_keep_94 : decode cX12_keep 94 = .ok (.iadd, 1) := by decide +kernel
theorem dX12_keep_95 : decode cX12_keep 95 = .ok (.putfield 165, 3) := by decide +kernel
theorem dX12_keep_98 : decode cX12_keep 98 = .ok (.return_, 1) := by decide +kernel
theorem dX12_note_0 : decode cX12_note 0 = .ok (.aload_n 0, 1) := by decide +kernel
theorem dX12_note_1 : decode cX12_note 1 = .ok (.getfield 37, 3) := by decide +kernel
theorem dX12_note_4 : decode cX12_note 4 = .ok (.bipush 64, 2) := by decide +kernel
theorem dX12_note_6 : decode cX12_note 6 = .ok (.iaload, 1) := by decide +kernel
theorem dX12_note_7 : decode cX12_note 7 = .ok (.bipush 60, 2) := by decide +kernel
theorem dX12_note_9 : decode cX12_note 9 = .ok (.if_icmp .ne 49, 3) := by decide +kernel
theorem dX12_note_12 : decode cX12_note 12 = .ok (.iconst 3, 1) := by decide +kernel
theorem dX12_note_13 : decode cX12_note 13 = .ok (.istore_n 3, 1) := by decide +kernel
theorem dX12_note_14 : decode cX12_note 14 = .ok (.iload_n 3, 1) := by decide +kernel
theorem dX12_note_15 : decode cX12_note 15 = .ok (.sipush 180, 3) := by decide +kernel
theorem dX12_note_18 : decode cX12_note 18 = .ok (.if_icmp .ge 29, 3) := by decide +kernel
theorem dX12_note_21 : decode cX12_note 21 = .ok (.aload_n 0, 1) := by decide +kernel
theorem dX12_note_22 : decode cX12_note 22 = .ok (.getfield 37, 3) := by decide +kernel
theorem dX12_note_25 : decode cX12_note 25 = .ok (.bipush 65, 2) := by decide +kernel
theorem dX12_note_27 : decode cX12_note 27 = .ok (.iload_n 3, 1) := by decide +kernel
theorem dX12_note_28 : decode cX12_note 28 = .ok (.iadd, 1) := by decide +kernel
theorem dX12_note_29 : decode cX12_note 29 = .ok (.iconst 3, 1) := by decide +kernel
theorem dX12_note_30 : decode cX12_note 30 = .ok (.isub, 1) := by decide +kernel
theorem dX12_note_31 : decode cX12_note 31 = .ok (.aload_n 0, 1) := by decide +kernel
theorem dX12_note_32 : decode cX12_note 32 = .ok (.getfield 37, 3) := by decide +kernel
theorem dX12_note_35 : decode cX12_note 35 = .ok (.bipush 65, 2) := by decide +kernel
theorem dX12_note_37 : decode cX12_note 37 = .ok (.iload_n 3, 1) := by decide +kernel
theorem dX12_note_38 : decode cX12_note 38 = .ok (.iadd, 1) := by decide +kernel
theorem dX12_note_39 : decode cX12_note 39 = .ok (.iaload, 1) := by decide +kernel
theorem dX12_note_40 : decode cX12_note 40 = .ok (.iastore, 1) := by decide +kernel
theorem dX12_note_41 : decode cX12_note 41 = .ok (.iinc 3 1, 3) := by decide +kernel
theorem dX12_note_44 : decode cX12_note 44 = .ok (.goto (-30), 3) := by decide +kernel
theorem dX12_note_47 : decode cX12_note 47 = .ok (.aload_n 0, 1) := by decide +kernel
theorem dX12_note_48 : decode cX12_note 48 = .ok (.getfield 37, 3) := by decide +kernel
theorem dX12_note_51 : decode cX12_note 51 = .ok (.bipush 64, 2) := by decide +kernel
theorem dX12_note_53 : decode cX12_note 53 = .ok (.dup2, 1) := by decide +kernel
theorem dX12_note_54 : decode cX12_note 54 = .ok (.iaload, 1) := by decide +kernel
theorem dX12_note_55 : decode cX12_note 55 = .ok (.iconst 1, 1) := by decide +kernel
theorem dX12_note_56 : decode cX12_note 56 = .ok (.isub, 1) := by decide +kernel
theorem dX12_note_57 : decode cX12_note 57 = .ok (.iastore, 1) := by decide +kernel
theorem dX12_note_58 : decode cX12_note 58 = .ok (.bipush 65, 2) := by decide +kernel
theorem dX12_note_60 : decode cX12_note 60 = .ok (.iconst 3, 1) := by decide +kernel
theorem dX12_note_61 : decode cX12_note 61 = .ok (.aload_n 0, 1) := by decide +kernel
theorem dX12_note_62 : decode cX12_note 62 = .ok (.getfield 37, 3) := by decide +kernel
theorem dX12_note_65 : decode cX12_note 65 = .ok (.bipush 64, 2) := by decide +kernel
theorem dX12_note_67 : decode cX12_note 67 = .ok (.iaload, 1) := by decide +kernel
theorem dX12_note_68 : decode cX12_note 68 = .ok (.imul, 1) := by decide +kernel
theorem dX12_note_69 : decode cX12_note 69 = .ok (.iadd, 1) := by decide +kernel
theorem dX12_note_70 : decode cX12_note 70 = .ok (.istore_n 3, 1) := by decide +kernel
theorem dX12_note_71 : decode cX12_note 71 = .ok (.aload_n 0, 1) := by decide +kernel
theorem dX12_note_72 : decode cX12_note 72 = .ok (.getfield 37, 3) := by decide +kernel
theorem dX12_note_75 : decode cX12_note 75 = .ok (.iload_n 3, 1) := by decide +kernel
theorem dX12_note_76 : decode cX12_note 76 = .ok (.iload_n 1, 1) := by decide +kernel
theorem dX12_note_77 : decode cX12_note 77 = .ok (.iastore, 1) := by decide +kernel
theorem dX12_note_78 : decode cX12_note 78 = .ok (.aload_n 0, 1) := by decide +kernel
theorem dX12_note_79 : decode cX12_note 79 = .ok (.getfield 37, 3) := by decide +kernel
theorem dX12_note_82 : decode cX12_note 82 = .ok (.iload_n 3, 1) := by decide +kernel
theorem dX12_note_83 : decode cX12_note 83 = .ok (.iconst 1, 1) := by decide +kernel
theorem dX12_note_84 : decode cX12_note 84 = .ok (.iadd, 1) := by decide +kernel
theorem dX12_note_85 : decode cX12_note 85 = .ok (.iload_n 2, 1) := by decide +kernel
theorem dX12_note_86 : decode cX12_note 86 = .ok (.iastore, 1) := by decide +kernel
theorem dX12_note_87 : decode cX12_note 87 = .ok (.aload_n 0, 1) := by decide +kernel
theorem dX12_note_88 : decode cX12_note 88 = .ok (.getfield 37, 3) := by decide +kernel
theorem dX12_note_91 : decode cX12_note 91 = .ok (.iload_n 3, 1) := by decide +kernel
theorem dX12_note_92 : decode cX12_note 92 = .ok (.iconst 2, 1) := by decide +kernel
theorem dX12_note_93 : decode cX12_note 93 = .ok (.iadd, 1) := by decide +kernel
theorem dX12_note_94 : decode cX12_note 94 = .ok (.aload_n 0, 1) := by decide +kernel
theorem dX12_note_95 : decode cX12_note 95 = .ok (.invokevirtual 219, 3) := by decide +kernel
theorem dX12_note_98 : decode cX12_note 98 = .ok (.iastore, 1) := by decide +kernel
theorem dX12_note_99 : decode cX12_note 99 = .ok (.aload_n 0, 1) := by decide +kernel
theorem dX12_note_100 : decode cX12_note 100 = .ok (.getfield 37, 3) := by decide +kernel
theorem dX12_note_103 : decode cX12_note 103 = .ok (.bipush 64, 2) := by decide +kernel
theorem dX12_note_105 : decode cX12_note 105 = .ok (.dup2, 1) := by decide +kernel
theorem dX12_note_106 : decode cX12_note 106 = .ok (.iaload, 1) := by decide +kernel
theorem dX12_note_107 : decode cX12_note 107 = .ok (.iconst 1, 1) := by decide +kernel
theorem dX12_note_108 : decode cX12_note 108 = .ok (.iadd, 1) := by decide +kernel
theorem dX12_note_109 : decode cX12_note 109 = .ok (.iastore, 1) := by decide +kernel
theorem dX12_note_110 : decode cX12_note 110 = .ok (.return_, 1) := by decide +kernel
theorem dX12_degreesOfAll_0 : decode cX12_degreesOfAll 0 = .ok (.iconst 0, 1) := by decide +kernel
theorem dX12_degreesOfAll_1 : decode cX12_degreesOfAll 1 = .ok (.istore_n 1, 1) := by decide +kernel
theorem dX12_degreesOfAll_2 : decode cX12_degreesOfAll 2 = .ok (.iconst 1, 1) := by decide +kernel
theorem dX12_degreesOfAll_3 : decode cX12_degreesOfAll 3 = .ok (.istore_n 2, 1) := by decide +kernel
theorem dX12_degreesOfAll_4 : decode cX12_degreesOfAll 4 = .ok (.iload_n 2, 1) := by decide +kernel
theorem dX12_degreesOfAll_5 : decode cX12_degreesOfAll 5 = .ok (.bipush 6, 2) := by decide +kernel
theorem dX12_degreesOfAll_7 : decode cX12_degreesOfAll 7 = .ok (.if_icmp .gt 18, 3) := by decide +kernel
theorem dX12_degreesOfAll_10 : decode cX12_degreesOfAll 10 = .ok (.iload_n 1, 1) := by decide +kernel
theorem dX12_degreesOfAll_11 : decode cX12_degreesOfAll 11 = .ok (.aload_n 0, 1) := by decide +kernel
theorem dX12_degreesOfAll_12 : decode cX12_degreesOfAll 12 = .ok (.getfield 28, 3) := by decide +kernel
theorem dX12_degreesOfAll_15 : decode cX12_degreesOfAll 15 = .ok (.iload_n 2, 1) := by decide +kernel
theorem dX12_degreesOfAll_16 : decode cX12_degreesOfAll 16 = .ok (.iaload, 1) := by decide +kernel
theorem dX12_degreesOfAll_17 : decode cX12_degreesOfAll 17 = .ok (.iadd, 1) := by decide +kernel
theorem dX12_degreesOfAll_18 : decode cX12_degreesOfAll 18 = .ok (.istore_n 1, 1) := by decide +kernel
theorem dX12_degreesOfAll_19 : decode cX12_degreesOfAll 19 = .ok (.iinc 2 1, 3) := by decide +kernel
theorem dX12_degreesOfAll_22 : decode cX12_degreesOfAll 22 = .ok (.goto (-18), 3) := by decide +kernel
theorem dX12_degreesOfAll_25 : decode cX12_degreesOfAll 25 = .ok (.iload_n 1, 1) := by decide +kernel
theorem dX12_degreesOfAll_26 : decode cX12_degreesOfAll 26 = .ok (.ireturn, 1) := by decide +kernel
theorem dX12_beginOf_0 : decode cX12_beginOf 0 = .ok (.aload_n 0, 1) := by decide +kernel
theorem dX12_beginOf_1 : decode cX12_beginOf 1 = .ok (.getfield 22, 3) := by decide +kernel
theorem dX12_beginOf_4 : decode cX12_beginOf 4 = .ok (.iconst 0, 1) := by decide +kernel
theorem dX12_beginOf_5 : decode cX12_beginOf 5 = .ok (.iaload, 1) := by decide +kernel
theorem dX12_beginOf_6 : decode cX12_beginOf 6 = .ok (.aload_n 0, 1) := by decide +kernel
theorem dX12_beginOf_7 : decode cX12_beginOf 7 = .ok (.getfield 25, 3) := by decide +kernel
theorem dX12_beginOf_10 : decode cX12_beginOf 10 = .ok (.iconst 5, 1) := by decide +kernel
theorem dX12_beginOf_11 : decode cX12_beginOf 11 = .ok (.iload_n 1, 1) := by decide +kernel
theorem dX12_beginOf_12 : decode cX12_beginOf 12 = .ok (.imul, 1) := by decide +kernel
theorem dX12_beginOf_13 : decode cX12_beginOf 13 = .ok (.iconst 2, 1) := by decide +kernel
theorem dX12_beginOf_14 : decode cX12_beginOf 14 = .ok (.iadd, 1) := by decide +kernel
theorem dX12_beginOf_15 : decode cX12_beginOf 15 = .ok (.iaload, 1) := by decide +kernel
theorem dX12_beginOf_16 : decode cX12_beginOf 16 = .ok (.imul, 1) := by decide +kernel
theorem dX12_beginOf_17 : decode cX12_beginOf 17 = .ok (.ireturn, 1) := by decide +kernel
theorem dX12_widthOf_0 : decode cX12_widthOf 0 = .ok (.aload_n 0, 1) := by decide +kernel
theorem dX12_widthOf_1 : decode cX12_widthOf 1 = .ok (.getfield 22, 3) := by decide +kernel
theorem dX12_widthOf_4 : decode cX12_widthOf 4 = .ok (.iconst 0, 1) := by decide +kernel
theorem dX12_widthOf_5 : decode cX12_widthOf 5 = .ok (.iaload, 1) := by decide +kernel
theorem dX12_widthOf_6 : decode cX12_widthOf 6 = .ok (.aload_n 0, 1) := by decide +kernel
theorem dX12_widthOf_7 : decode cX12_widthOf 7 = .ok (.getfield 25, 3) := by decide +kernel
theorem dX12_widthOf_10 : decode cX12_widthOf 10 = .ok (.iconst 5, 1) := by decide +kernel
theorem dX12_widthOf_11 : decode cX12_widthOf 11 = .ok (.iload_n 1, 1) := by decide +kernel
theorem dX12_widthOf_12 : decode cX12_widthOf 12 = .ok (.imul, 1) := by decide +kernel
theorem dX12_widthOf_13 : decode cX12_widthOf 13 = .ok (.iconst 2, 1) := by decide +kernel
theorem dX12_widthOf_14 : decode cX12_widthOf 14 = .ok (.iadd, 1) := by decide +kernel
theorem dX12_widthOf_15 : decode cX12_widthOf 15 = .ok (.iaload, 1) := by decide +kernel
theorem dX12_widthOf_16 : decode cX12_widthOf 16 = .ok (.iconst 1, 1) := by decide +kernel
theorem dX12_widthOf_17 : decode cX12_widthOf 17 = .ok (.iadd, 1) := by decide +kernel
theorem dX12_widthOf_18 : decode cX12_widthOf 18 = .ok (.aload_n 0, 1) := by decide +kernel
theorem dX12_widthOf_19 : decode cX12_widthOf 19 = .ok (.getfield 22, 3) := by decide +kernel
theorem dX12_widthOf_22 : decode cX12_widthOf 22 = .ok (.iconst 1, 1) := by decide +kernel
theorem dX12_widthOf_23 : decode cX12_widthOf 23 = .ok (.iaload, 1) := by decide +kernel
theorem dX12_widthOf_24 : decode cX12_widthOf 24 = .ok (.if_icmp .ge 7, 3) := by decide +kernel
theorem dX12_widthOf_27 : decode cX12_widthOf 27 = .ok (.iconst 2, 1) := by decide +kernel
theorem dX12_widthOf_28 : decode cX12_widthOf 28 = .ok (.goto 4, 3) := by decide +kernel
theorem dX12_widthOf_31 : decode cX12_widthOf 31 = .ok (.iconst 1, 1) := by decide +kernel
theorem dX12_widthOf_32 : decode cX12_widthOf 32 = .ok (.imul, 1) := by decide +kernel
theorem dX12_widthOf_33 : decode cX12_widthOf 33 = .ok (.ireturn, 1) := by decide +kernel
theorem dX12_isOf_0 : decode cX12_isOf 0 = .ok (.iload_n 2, 1) := by decide +kernel
theorem dX12_isOf_1 : decode cX12_isOf 1 = .ok (.aload_n 0, 1) := by decide +kernel
theorem dX12_isOf_2 : decode cX12_isOf 2 = .ok (.iload_n 1, 1) := by decide +kernel
theorem dX12_isOf_3 : decode cX12_isOf 3 = .ok (.invokevirtual 222, 3) := by decide +kernel
theorem dX12_isOf_6 : decode cX12_isOf 6 = .ok (.aload_n 0, 1) := by decide +kernel
theorem dX12_isOf_7 : decode cX12_isOf 7 = .ok (.iload_n 1, 1) := by decide +kernel
theorem dX12_isOf_8 : decode cX12_isOf 8 = .ok (.invokevirtual 222, 3) := by decide +kernel
theorem dX12_isOf_11 : decode cX12_isOf 11 = .ok (.aload_n 0, 1) := by decide +kernel
theorem dX12_isOf_12 : decode cX12_isOf 12 = .ok (.iload_n 1, 1) := by decide +kernel
theorem dX12_isOf_13 : decode cX12_isOf 13 = .ok (.invokevirtual 225, 3) := by decide +kernel
theorem dX12_isOf_16 : decode cX12_isOf 16 = .ok (.iadd, 1) := by decide +kernel
theorem dX12_isOf_17 : decode cX12_isOf 17 = .ok (.iconst 1, 1) := by decide +kernel
theorem dX12_isOf_18 : decode cX12_isOf 18 = .ok (.isub, 1) := by decide +kernel
theorem dX12_isOf_19 : decode cX12_isOf 19 = .ok (.invokestatic 76, 3) := by decide +kernel
theorem dX12_isOf_22 : decode cX12_isOf 22 = .ok (.ireturn, 1) := by decide +kernel
theorem dX12_haveLikeCopies_0 : decode cX12_haveLikeCopies 0 = .ok (.aload_n 0, 1) := by decide +kernel
theorem dX12_haveLikeCopies_1 : decode cX12_haveLikeCopies 1 = .ok (.getfield 37, 3) := by decide +kernel
theorem dX12_haveLikeCopies_4 : decode cX12_haveLikeCopies 4 = .ok (.bipush 10, 2) := by decide +kernel
theorem dX12_haveLikeCopies_6 : decode cX12_haveLikeCopies 6 = .ok (.iload_n 1, 1) := by decide +kernel
theorem dX12_haveLikeCopies_7 : decode cX12_haveLikeCopies 7 = .ok (.iadd, 1) := by decide +kernel
theorem dX12_haveLikeCopies_8 : decode cX12_haveLikeCopies 8 = .ok (.iaload, 1) := by decide +kernel
theorem dX12_haveLikeCopies_9 : decode cX12_haveLikeCopies 9 = .ok (.aload_n 0, 1) := by decide +kernel
theorem dX12_haveLikeCopies_10 : decode cX12_haveLikeCopies 10 = .ok (.getfield 37, 3) := by decide +kernel
theorem dX12_haveLikeCopies_13 : decode cX12_haveLikeCopies 13 = .ok (.bipush 10, 2) := by decide +kernel
theorem dX12_haveLikeCopies_15 : decode cX12_haveLikeCopies 15 = .ok (.iload_n 2, 1) := by decide +kernel
theorem dX12_haveLikeCopies_16 : decode cX12_haveLikeCopies 16 = .ok (.iadd, 1) := by decide +kernel
theorem dX12_haveLikeCopies_17 : decode cX12_haveLikeCopies 17 = .ok (.iaload, 1) := by decide +kernel
theorem dX12_haveLikeCopies_18 : decode cX12_haveLikeCopies 18 = .ok (.if_icmp .ne 28, 3) := by decide +kernel
theorem dX12_haveLikeCopies_21 : decode cX12_haveLikeCopies 21 = .ok (.aload_n 0, 1) := by decide +kernel
theorem dX12_haveLikeCopies_22 : decode cX12_haveLikeCopies 22 = .ok (.getfield 37, 3) := by decide +kernel
theorem dX12_haveLikeCopies_25 : decode cX12_haveLikeCopies 25 = .ok (.bipush 20, 2) := by decide +kernel
theorem dX12_haveLikeCopies_27 : decode cX12_haveLikeCopies 27 = .ok (.iload_n 1, 1) := by decide +kernel
theorem dX12_haveLikeCopies_28 : decode cX12_haveLikeCopies 28 = .ok (.iadd, 1) := by decide +kernel
theorem dX12_haveLikeCopies_29 : decode cX12_haveLikeCopies 29 = .ok (.iaload, 1) := by decide +kernel
theorem dX12_haveLikeCopies_30 : decode cX12_haveLikeCopies 30 = .ok (.aload_n 0, 1) := by decide +kernel
theorem dX12_haveLikeCopies_31 : decode cX12_haveLikeCopies 31 = .ok (.getfield 37, 3) := by decide +kernel
theorem dX12_haveLikeCopies_34 : decode cX12_haveLikeCopies 34 = .ok (.bipush 20, 2) := by decide +kernel
theorem dX12_haveLikeCopies_36 : decode cX12_haveLikeCopies 36 = .ok (.iload_n 2, 1) := by decide +kernel
theorem dX12_haveLikeCopies_37 : decode cX12_haveLikeCopies 37 = .ok (.iadd, 1) := by decide +kernel
theorem dX12_haveLikeCopies_38 : decode cX12_haveLikeCopies 38 = .ok (.iaload, 1) := by decide +kernel
theorem dX12_haveLikeCopies_39 : decode cX12_haveLikeCopies 39 = .ok (.if_icmp .ne 7, 3) := by decide +kernel
theorem dX12_haveLikeCopies_42 : decode cX12_haveLikeCopies 42 = .ok (.iconst 1, 1) := by decide +kernel
theorem dX12_haveLikeCopies_43 : decode cX12_haveLikeCopies 43 = .ok (.goto 4, 3) := by decide +kernel
theorem dX12_haveLikeCopies_46 : decode cX12_haveLikeCopies 46 = .ok (.iconst 0, 1) := by decide +kernel
theorem dX12_haveLikeCopies_47 : decode cX12_haveLikeCopies 47 = .ok (.ireturn, 1) := by decide +kernel
theorem dX12_whyNot_0 : decode cX12_whyNot 0 = .ok (.iload_n 1, 1) := by decide +kernel
theorem dX12_whyNot_1 : decode cX12_whyNot 1 = .ok (.tableswitch 238 0 7 #[47, 47, 77, 103, 129, 164, 206, 231], 47) := by decide +kernel
theorem dX12_whyNot_48 : decode cX12_whyNot 48 = .ok (.aload_n 0, 1) := by decide +kernel
theorem dX12_whyNot_49 : decode cX12_whyNot 49 = .ok (.invokevirtual 151, 3) := by decide +kernel
theorem dX12_whyNot_52 : decode cX12_whyNot 52 = .ok (.ifCond .ne 7, 3) := by decide +kernel
theorem dX12_whyNot_55 : decode cX12_whyNot 55 = .ok (.iconst 0, 1) := by decide +kernel
theorem dX12_whyNot_56 : decode cX12_whyNot 56 = .ok (.goto 21, 3) := by decide +kernel
theorem dX12_whyNot_59 : decode cX12_whyNot 59 = .ok (.aload_n 0, 1) := by decide +kernel
theorem dX12_whyNot_60 : decode cX12_whyNot 60 = .ok (.iconst 0, 1) := by decide +kernel
theorem dX12_whyNot_61 : decode cX12_whyNot 61 = .ok (.aload_n 0, 1) := by decide +kernel
theorem dX12_whyNot_62 : decode cX12_whyNot 62 = .ok (.invokevirtual 154, 3) := by decide +kernel
theorem dX12_whyNot_65 : decode cX12_whyNot 65 = .ok (.invokevirtual 204, 3) := by decide +kernel
theorem dX12_whyNot_68 : decode cX12_whyNot 68 = .ok (.iconst (-1), 1) := by decide +kernel
theorem dX12_whyNot_69 : decode cX12_whyNot 69 = .ok (.if_icmp .ne 7, 3) := by decide +kernel
theorem dX12_whyNot_72 : decode cX12_whyNot 72 = .ok (.iconst 2, 1) := by decide +kernel
theorem dX12_whyNot_73 : decode cX12_whyNot 73 = .ok (.goto 4, 3) := by decide +kernel
theorem dX12_whyNot_76 : decode cX12_whyNot 76 = .ok (.iconst (-1), 1) := by decide +kernel
theorem dX12_whyNot_77 : decode cX12_whyNot 77 = .ok (.ireturn, 1) := by decide +kernel
theorem dX12_whyNot_78 : decode cX12_whyNot 78 = .ok (.aload_n 0, 1) := by decide +kernel
theorem dX12_whyNot_79 : decode cX12_whyNot 79 = .ok (.iload_n 2, 1) := by decide +kernel
theorem dX12_whyNot_80 : decode cX12_whyNot 80 = .ok (.invokevirtual 228, 3) := by decide +kernel
theorem dX12_whyNot_83 : decode cX12_whyNot 83 = .ok (.ifCond .ne 7, 3) := by decide +kernel
theorem dX12_whyNot_86 : decode cX12_whyNot 86 = .ok (.iconst 0, 1) := by decide +kernel
theorem dX12_whyNot_87 : decode cX12_whyNot 87 = .ok (.goto 16, 3) := by decide +kernel
theorem dX12_whyNot_90 : decode cX12_whyNot 90 = .ok (.aload_n 0, 1) := by decide +kernel
theorem dX12_whyNot_91 : decode cX12_whyNot 91 = .ok (.iload_n 2, 1) := by decide +kernel
theorem dX12_whyNot_92 : decode cX12_whyNot 92 = .ok (.invokevirtual 178, 3) := by decide +kernel
theorem dX12_whyNot_95 : decode cX12_whyNot 95 = .ok (.ifCond .ne 7, 3) := by decide +kernel
theorem dX12_whyNot_98 : decode cX12_whyNot 98 = .ok (.iconst 2, 1) := by decide +kernel
theorem dX12_whyNot_99 : decode cX12_whyNot 99 = .ok (.goto 4, 3) := by decide +kernel
theorem dX12_whyNot_102 : decode cX12_whyNot 102 = .ok (.iconst (-1), 1) := by decide +kernel
theorem dX12_whyNot_103 : decode cX12_whyNot 103 = .ok (.ireturn, 1) := by decide +kernel
theorem dX12_whyNot_104 : decode cX12_whyNot 104 = .ok (.aload_n 0, 1) := by decide +kernel
theorem dX12_whyNot_105 : decode cX12_whyNot 105 = .ok (.iload_n 2, 1) := by decide +kernel
theorem dX12_whyNot_106 : decode cX12_whyNot 106 = .ok (.invokevirtual 228, 3) := by decide +kernel
theorem dX12_whyNot_109 : decode cX12_whyNot 109 = .ok (.ifCond .ne 7, 3) := by decide +kernel
theorem dX12_whyNot_112 : decode cX12_whyNot 112 = .ok (.iconst 0, 1) := by decide +kernel
theorem dX12_whyNot_113 : decode cX12_whyNot 113 = .ok (.goto 16, 3) := by decide +kernel
theorem dX12_whyNot_116 : decode cX12_whyNot 116 = .ok (.aload_n 0, 1) := by decide +kernel
theorem dX12_whyNot_117 : decode cX12_whyNot 117 = .ok (.iload_n 2, 1) := by decide +kernel
theorem dX12_whyNot_118 : decode cX12_whyNot 118 = .ok (.invokevirtual 178, 3) := by decide +kernel
theorem dX12_whyNot_121 : decode cX12_whyNot 121 = .ok (.ifCond .eq 7, 3) := by decide +kernel
theorem dX12_whyNot_124 : decode cX12_whyNot 124 = .ok (.iconst 2, 1) := by decide +kernel
theorem dX12_whyNot_125 : decode cX12_whyNot 125 = .ok (.goto 4, 3) := by decide +kernel
theorem dX12_whyNot_128 : decode cX12_whyNot 128 = .ok (.iconst (-1), 1) := by decide +kernel
theorem dX12_whyNot_129 : decode cX12_whyNot 129 = .ok (.ireturn, 1) := by decide +kernel
theorem dX12_whyNot_130 : decode cX12_whyNot 130 = .ok (.aload_n 0, 1) := by decide +kernel
theorem dX12_whyNot_131 : decode cX12_whyNot 131 = .ok (.iload_n 2, 1) := by decide +kernel
theorem dX12_whyNot_132 : decode cX12_whyNot 132 = .ok (.invokevirtual 228, 3) := by decide +kernel
theorem dX12_whyNot_135 : decode cX12_whyNot 135 = .ok (.ifCond .eq 11, 3) := by decide +kernel
theorem dX12_whyNot_138 : decode cX12_whyNot 138 = .ok (.aload_n 0, 1) := by decide +kernel
theorem dX12_whyNot_139 : decode cX12_whyNot 139 = .ok (.iload_n 3, 1) := by decide +kernel
theorem dX12_whyNot_140 : decode cX12_whyNot 140 = .ok (.invokevirtual 231, 3) := by decide +kernel
theorem dX12_whyNot_143 : decode cX12_whyNot 143 = .ok (.ifCond .ne 7, 3) := by decide +kernel
theorem dX12_whyNot_146 : decode cX12_whyNot 146 = .ok (.iconst 0, 1) := by decide +kernel
theorem dX12_whyNot_147 : decode cX12_whyNot 147 = .ok (.goto 17, 3) := by decide +kernel
theorem dX12_whyNot_150 : decode cX12_whyNot 150 = .ok (.aload_n 0, 1) := by decide +kernel
theorem dX12_whyNot_151 : decode cX12_whyNot 151 = .ok (.iload_n 2, 1) := by decide +kernel
theorem dX12_whyNot_152 : decode cX12_whyNot 152 = .ok (.iload_n 3, 1) := by decide +kernel
theorem dX12_whyNot_153 : decode cX12_whyNot 153 = .ok (.invokevirtual 234, 3) := by decide +kernel
theorem dX12_whyNot_156 : decode cX12_whyNot 156 = .ok (.ifCond .ne 7, 3) := by decide +kernel
theorem dX12_whyNot_159 : decode cX12_whyNot 159 = .ok (.iconst 1, 1) := by decide +kernel
theorem dX12_whyNot_160 : decode cX12_whyNot 160 = .ok (.goto 4, 3) := by decide +kernel
theorem dX12_whyNot_163 : decode cX12_whyNot 163 = .ok (.iconst (-1), 1) := by decide +kernel
theorem dX12_whyNot_164 : decode cX12_whyNot 164 = .ok (.ireturn, 1) := by decide +kernel
theorem dX12_whyNot_165 : decode cX12_whyNot 165 = .ok (.aload_n 0, 1) := by decide +kernel
theorem dX12_whyNot_166 : decode cX12_whyNot 166 = .ok (.invokevirtual 151, 3) := by decide +kernel
theorem dX12_whyNot_169 : decode cX12_whyNot 169 = .ok (.ifCond .ne 7, 3) := by decide +kernel
theorem dX12_whyNot_172 : decode cX12_whyNot 172 = .ok (.iconst 0, 1) := by decide +kernel
theorem dX12_whyNot_173 : decode cX12_whyNot 173 = .ok (.goto 33, 3) := by decide +kernel
theorem dX12_whyNot_176 : decode cX12_whyNot 176 = .ok (.iload_n 2, 1) := by decide +kernel
theorem dX12_whyNot_177 : decode cX12_whyNot 177 = .ok (.iconst 0, 1) := by decide +kernel
theorem dX12_whyNot_178 : decode cX12_whyNot 178 = .ok (.bipush 99, 2) := by decide +kernel
theorem dX12_whyNot_180 : decode cX12_whyNot 180 = .ok (.invokestatic 76, 3) := by decide +kernel
theorem dX12_whyNot_183 : decode cX12_whyNot 183 = .ok (.ifCond .ne 7, 3) := by decide +kernel
theorem dX12_whyNot_186 : decode cX12_whyNot 186 = .ok (.iconst 1, 1) := by decide +kernel
theorem dX12_whyNot_187 : decode cX12_whyNot 187 = .ok (.goto 19, 3) := by decide +kernel
theorem dX12_whyNot_190 : decode cX12_whyNot 190 = .ok (.iload_n 2, 1) := by decide +kernel
theorem dX12_whyNot_191 : decode cX12_whyNot 191 = .ok (.aload_n 0, 1) := by decide +kernel
theorem dX12_whyNot_192 : decode cX12_whyNot 192 = .ok (.getfield 37, 3) := by decide +kernel
theorem dX12_whyNot_195 : decode cX12_whyNot 195 = .ok (.bipush 30, 2) := by decide +kernel
theorem dX12_whyNot_197 : decode cX12_whyNot 197 = .ok (.iaload, 1) := by decide +kernel
theorem dX12_whyNot_198 : decode cX12_whyNot 198 = .ok (.if_icmp .ne 7, 3) := by decide +kernel
theorem dX12_whyNot_201 : decode cX12_whyNot 201 = .ok (.iconst 2, 1) := by decide +kernel
theorem dX12_whyNot_202 : decode cX12_whyNot 202 = .ok (.goto 4, 3) := by decide +kernel
theorem dX12_whyNot_205 : decode cX12_whyNot 205 = .ok (.iconst (-1), 1) := by decide +kernel
theorem dX12_whyNot_206 : decode cX12_whyNot 206 = .ok (.ireturn, 1) := by decide +kernel
theorem dX12_whyNot_207 : decode cX12_whyNot 207 = .ok (.aload_n 0, 1) := by decide +kernel
theorem dX12_whyNot_208 : decode cX12_whyNot 208 = .ok (.iload_n 2, 1) := by decide +kernel
theorem dX12_whyNot_209 : decode cX12_whyNot 209 = .ok (.invokevirtual 228, 3) := by decide +kernel
theorem dX12_whyNot_212 : decode cX12_whyNot 212 = .ok (.ifCond .ne 7, 3) := by decide +kernel
theorem dX12_whyNot_215 : decode cX12_whyNot 215 = .ok (.iconst 0, 1) := by decide +kernel
theorem dX12_whyNot_216 : decode cX12_whyNot 216 = .ok (.goto 15, 3) := by decide +kernel
theorem dX12_whyNot_219 : decode cX12_whyNot 219 = .ok (.aload_n 0, 1) := by decide +kernel
theorem dX12_whyNot_220 : decode cX12_whyNot 220 = .ok (.invokevirtual 237, 3) := by decide +kernel
theorem dX12_whyNot_223 : decode cX12_whyNot 223 = .ok (.ifCond .ne 7, 3) := by decide +kernel
theorem dX12_whyNot_226 : decode cX12_whyNot 226 = .ok (.iconst 2, 1) := by decide +kernel
theorem dX12_whyNot_227 : decode cX12_whyNot 227 = .ok (.goto 4, 3) := by decide +kernel
theorem dX12_whyNot_230 : decode cX12_whyNot 230 = .ok (.iconst (-1), 1) := by decide +kernel
theorem dX12_whyNot_231 : decode cX12_whyNot 231 = .ok (.ireturn, 1) := by decide +kernel
theorem dX12_whyNot_232 : decode cX12_whyNot 232 = .ok (.aload_n 0, 1) := by decide +kernel
theorem dX12_whyNot_233 : decode cX12_whyNot 233 = .ok (.iload_n 2, 1) := by decide +kernel
theorem dX12_whyNot_234 : decode cX12_whyNot 234 = .ok (.iload_n 3, 1) := by decide +kernel
theorem dX12_whyNot_235 : decode cX12_whyNot 235 = .ok (.invokevirtual 240, 3) := by decide +kernel
theorem dX12_whyNot_238 : decode cX12_whyNot 238 = .ok (.ireturn, 1) := by decide +kernel
theorem dX12_whyNot_239 : decode cX12_whyNot 239 = .ok (.aload_n 0, 1) := by decide +kernel
theorem dX12_whyNot_240 : decode cX12_whyNot 240 = .ok (.iload_n 2, 1) := by decide +kernel
theorem dX12_whyNot_241 : decode cX12_whyNot 241 = .ok (.iload_n 3, 1) := by decide +kernel
theorem dX12_whyNot_242 : decode cX12_whyNot 242 = .ok (.invokevirtual 243, 3) := by decide +kernel
theorem dX12_whyNot_245 : decode cX12_whyNot 245 = .ok (.ireturn, 1) := by decide +kernel
theorem dX12_shelfAt_0 : decode cX12_shelfAt 0 = .ok (.bipush 31, 2) := by decide +kernel
theorem dX12_shelfAt_2 : decode cX12_shelfAt 2 = .ok (.bipush 11, 2) := by decide +kernel
theorem dX12_shelfAt_4 : decode cX12_shelfAt 4 = .ok (.iload_n 1, 1) := by decide +kernel
theorem dX12_shelfAt_5 : decode cX12_shelfAt 5 = .ok (.imul, 1) := by decide +kernel
theorem dX12_shelfAt_6 : decode cX12_shelfAt 6 = .ok (.iadd, 1) := by decide +kernel
theorem dX12_shelfAt_7 : decode cX12_shelfAt 7 = .ok (.ireturn, 1) := by decide +kernel
theorem dX12_whyNotFiled_0 : decode cX12_whyNotFiled 0 = .ok (.aload_n 0, 1) := by decide +kernel
theorem dX12_whyNotFiled_1 : decode cX12_whyNotFiled 1 = .ok (.invokevirtual 151, 3) := by decide +kernel
theorem dX12_whyNotFiled_4 : decode cX12_whyNotFiled 4 = .ok (.ifCond .eq 20, 3) := by decide +kernel
theorem dX12_whyNotFiled_7 : decode cX12_whyNotFiled 7 = .ok (.iload_n 1, 1) := by decide +kernel
theorem dX12_whyNotFiled_8 : decode cX12_whyNotFiled 8 = .ok (.iconst 0, 1) := by decide +kernel
theorem dX12_whyNotFiled_9 : decode cX12_whyNotFiled 9 = .ok (.iconst 2, 1) := by decide +kernel
theorem dX12_whyNotFiled_10 : decode cX12_whyNotFiled 10 = .ok (.invokestatic 76, 3) := by decide +kernel
theorem dX12_whyNotFiled_13 : decode cX12_whyNotFiled 13 = .ok (.ifCond .eq 11, 3) := by decide +kernel
theorem dX12_whyNotFiled_16 : decode cX12_whyNotFiled 16 = .ok (.aload_n 0, 1) := by decide +kernel
theorem dX12_whyNotFiled_17 : decode cX12_whyNotFiled 17 = .ok (.iload_n 2, 1) := by decide +kernel
theorem dX12_whyNotFiled_18 : decode cX12_whyNotFiled 18 = .ok (.invokevirtual 228, 3) := by decide +kernel
theorem dX12_whyNotFiled_21 : decode cX12_whyNotFiled 21 = .ok (.ifCond .ne 5, 3) := by decide +kernel
theorem dX12_whyNotFiled_24 : decode cX12_whyNotFiled 24 = .ok (.iconst 0, 1) := by decide +kernel
theorem dX12_whyNotFiled_25 : decode cX12_whyNotFiled 25 = .ok (.ireturn, 1) := by decide +kernel
theorem dX12_whyNotFiled_26 : decode cX12_whyNotFiled 26 = .ok (.aload_n 0, 1) := by decide +kernel
theorem dX12_whyNotFiled_27 : decode cX12_whyNotFiled 27 = .ok (.iload_n 2, 1) := by decide +kernel
theorem dX12_whyNotFiled_28 : decode cX12_whyNotFiled 28 = .ok (.invokevirtual 178, 3) := by decide +kernel
theorem dX12_whyNotFiled_31 : decode cX12_whyNotFiled 31 = .ok (.ifCond .eq 7, 3) := by decide +kernel
theorem dX12_whyNotFiled_34 : decode cX12_whyNotFiled 34 = .ok (.iconst 2, 1) := by decide +kernel
theorem dX12_whyNotFiled_35 : decode cX12_whyNotFiled 35 = .ok (.goto 37, 3) := by decide +kernel
theorem dX12_whyNotFiled_38 : decode cX12_whyNotFiled 38 = .ok (.aload_n 0, 1) := by decide +kernel
theorem dX12_whyNotFiled_39 : decode cX12_whyNotFiled 39 = .ok (.getfield 37, 3) := by decide +kernel
theorem dX12_whyNotFiled_42 : decode cX12_whyNotFiled 42 = .ok (.iconst 0, 1) := by decide +kernel
theorem dX12_whyNotFiled_43 : decode cX12_whyNotFiled 43 = .ok (.iload_n 2, 1) := by decide +kernel
theorem dX12_whyNotFiled_44 : decode cX12_whyNotFiled 44 = .ok (.iadd, 1) := by decide +kernel
theorem dX12_whyNotFiled_45 : decode cX12_whyNotFiled 45 = .ok (.iaload, 1) := by decide +kernel
theorem dX12_whyNotFiled_46 : decode cX12_whyNotFiled 46 = .ok (.iload_n 1, 1) := by decide +kernel
theorem dX12_whyNotFiled_47 : decode cX12_whyNotFiled 47 = .ok (.iconst 1, 1) := by decide +kernel
theorem dX12_whyNotFiled_48 : decode cX12_whyNotFiled 48 = .ok (.iadd, 1) := by decide +kernel
theorem dX12_whyNotFiled_49 : decode cX12_whyNotFiled 49 = .ok (.if_icmp .ne 18, 3) := by decide +kernel
theorem dX12_whyNotFiled_52 : decode cX12_whyNotFiled 52 = .ok (.aload_n 0, 1) := by decide +kernel
theorem dX12_whyNotFiled_53 : decode cX12_whyNotFiled 53 = .ok (.getfield 37, 3) := by decide +kernel
theorem dX12_whyNotFiled_56 : decode cX12_whyNotFiled 56 = .ok (.aload_n 0, 1) := by decide +kernel
theorem dX12_whyNotFiled_57 : decode cX12_whyNotFiled 57 = .ok (.iload_n 1, 1) := by decide +kernel
theorem dX12_whyNotFiled_58 : decode cX12_whyNotFiled 58 = .ok (.invokevirtual 246, 3) := by decide +kernel
theorem dX12_whyNotFiled_61 : decode cX12_whyNotFiled 61 = .ok (.iaload, 1) := by decide +kernel
theorem dX12_whyNotFiled_62 : decode cX12_whyNotFiled 62 = .ok (.bipush 10, 2) := by decide +kernel
theorem dX12_whyNotFiled_64 : decode cX12_whyNotFiled 64 = .ok (.if_icmp .ne 7, 3) := by decide +kernel
theorem dX12_whyNotFiled_67 : decode cX12_whyNotFiled 67 = .ok (.iconst 3, 1) := by decide +kernel
theorem dX12_whyNotFiled_68 : decode cX12_whyNotFiled 68 = .ok (.goto 4, 3) := by decide +kernel
theorem dX12_whyNotFiled_71 : decode cX12_whyNotFiled 71 = .ok (.iconst (-1), 1) := by decide +kernel
theorem dX12_whyNotFiled_72 : decode cX12_whyNotFiled 72 = .ok (.ireturn, 1) := by decide +kernel
theorem dX12_whyNotSwapped_0 : decode cX12_whyNotSwapped 0 = .ok (.aload_n 0, 1) := by decide +kernel
theorem dX12_whyNotSwapped_1 : decode cX12_whyNotSwapped 1 = .ok (.iload_n 1, 1) := by decide +kernel
theorem dX12_whyNotSwapped_2 : decode cX12_whyNotSwapped 2 = .ok (.invokevirtual 228, 3) := by decide +kernel
theorem dX12_whyNotSwapped_5 : decode cX12_whyNotSwapped 5 = .ok (.ifCond .eq 11, 3) := by decide +kernel
theorem dX12_whyNotSwapped_8 : decode cX12_whyNotSwapped 8 = .ok (.aload_n 0, 1) := by decide +kernel
theorem dX12_whyNotSwapped_9 : decode cX12_whyNotSwapped 9 = .ok (.iload_n 2, 1) := by decide +kernel
theorem dX12_whyNotSwapped_10 : decode cX12_whyNotSwapped 10 = .ok (.invokevirtual 228, 3) := by decide +kernel
theorem dX12_whyNotSwapped_13 : decode cX12_whyNotSwapped 13 = .ok (.ifCond .ne 5, 3) := by decide +kernel
theorem dX12_whyNotSwapped_16 : decode cX12_whyNotSwapped 16 = .ok (.iconst 0, 1) := by decide +kernel
theorem dX12_whyNotSwapped_17 : decode cX12_whyNotSwapped 17 = .ok (.ireturn, 1) := by decide +kernel
theorem dX12_whyNotSwapped_18 : decode cX12_whyNotSwapped 18 = .ok (.aload_n 0, 1) := by decide +kernel
theorem dX12_whyNotSwapped_19 : decode cX12_whyNotSwapped 19 = .ok (.getfield 25, 3) := by decide +kernel
theorem dX12_whyNotSwapped_22 : decode cX12_whyNotSwapped 22 = .ok (.iconst 5, 1) := by decide +kernel
theorem dX12_whyNotSwapped_23 : decode cX12_whyNotSwapped 23 = .ok (.iload_n 1, 1) := by decide +kernel
theorem dX12_whyNotSwapped_24 : decode cX12_whyNotSwapped 24 = .ok (.imul, 1) := by decide +kernel
theorem dX12_whyNotSwapped_25 : decode cX12_whyNotSwapped 25 = .ok (.iconst 2, 1) := by decide +kernel
theorem dX12_whyNotSwapped_26 : decode cX12_whyNotSwapped 26 = .ok (.iadd, 1) := by decide +kernel
theorem dX12_whyNotSwapped_27 : decode cX12_whyNotSwapped 27 = .ok (.iaload, 1) := by decide +kernel
theorem dX12_whyNotSwapped_28 : decode cX12_whyNotSwapped 28 = .ok (.aload_n 0, 1) := by decide +kernel
theorem dX12_whyNotSwapped_29 : decode cX12_whyNotSwapped 29 = .ok (.getfield 25, 3) := by decide +kernel
theorem dX12_whyNotSwapped_32 : decode cX12_whyNotSwapped 32 = .ok (.iconst 5, 1) := by decide +kernel
theorem dX12_whyNotSwapped_33 : decode cX12_whyNotSwapped 33 = .ok (.iload_n 2, 1) := by decide +kernel
theorem dX12_whyNotSwapped_34 : decode cX12_whyNotSwapped 34 = .ok (.imul, 1) := by decide +kernel
theorem dX12_whyNotSwapped_35 : decode cX12_whyNotSwapped 35 = .ok (.iconst 2, 1) := by decide +kernel
theorem dX12_whyNotSwapped_36 : decode cX12_whyNotSwapped 36 = .ok (.iadd, 1) := by decide +kernel
theorem dX12_whyNotSwapped_37 : decode cX12_whyNotSwapped 37 = .ok (.iaload, 1) := by decide +kernel
theorem dX12_whyNotSwapped_38 : decode cX12_whyNotSwapped 38 = .ok (.if_icmp .eq 7, 3) := by decide +kernel
theorem dX12_whyNotSwapped_41 : decode cX12_whyNotSwapped 41 = .ok (.iconst 1, 1) := by decide +kernel
theorem dX12_whyNotSwapped_42 : decode cX12_whyNotSwapped 42 = .ok (.goto 17, 3) := by decide +kernel
theorem dX12_whyNotSwapped_45 : decode cX12_whyNotSwapped 45 = .ok (.aload_n 0, 1) := by decide +kernel
theorem dX12_whyNotSwapped_46 : decode cX12_whyNotSwapped 46 = .ok (.iload_n 1, 1) := by decide +kernel
theorem dX12_whyNotSwapped_47 : decode cX12_whyNotSwapped 47 = .ok (.iload_n 2, 1) := by decide +kernel
theorem dX12_whyNotSwapped_48 : decode cX12_whyNotSwapped 48 = .ok (.invokevirtual 249, 3) := by decide +kernel
theorem dX12_whyNotSwapped_51 : decode cX12_whyNotSwapped 51 = .ok (.ifCond .eq 7, 3) := by decide +kernel
theorem dX12_whyNotSwapped_54 : decode cX12_whyNotSwapped 54 = .ok (.iconst 2, 1) := by decide +kernel
theorem dX12_whyNotSwapped_55 : decode cX12_whyNotSwapped 55 = .ok (.goto 4, 3) := by decide +kernel
theorem dX12_whyNotSwapped_58 : decode cX12_whyNotSwapped 58 = .ok (.iconst (-1), 1) := by decide +kernel
theorem dX12_whyNotSwapped_59 : decode cX12_whyNotSwapped 59 = .ok (.ireturn, 1) := by decide +kernel
theorem dX12_draw_0 : decode cX12_draw 0 = .ok (.aload_n 0, 1) := by decide +kernel
theorem dX12_draw_1 : decode cX12_draw 1 = .ok (.aload_n 0, 1) := by decide +kernel
theorem dX12_draw_2 : decode cX12_draw 2 = .ok (.getfield 252, 3) := by decide +kernel
theorem dX12_draw_5 : decode cX12_draw 5 = .ok (.ldc2_w 255, 3) := by decide +kernel
theorem dX12_draw_8 : decode cX12_draw 8 = .ok (.lmul, 1) := by decide +kernel
theorem dX12_draw_9 : decode cX12_draw 9 = .ok (.ldc2_w 257, 3) := by decide +kernel
theorem dX12_draw_12 : decode cX12_draw 12 = .ok (.ladd, 1) := by decide +kernel
theorem dX12_draw_13 : decode cX12_draw 13 = .ok (.putfield 252, 3) := by decide +kernel
theorem dX12_draw_16 : decode cX12_draw 16 = .ok (.aload_n 0, 1) := by decide +kernel
theorem dX12_draw_17 : decode cX12_draw 17 = .ok (.getfield 252, 3) := by decide +kernel
theorem dX12_draw_20 : decode cX12_draw 20 = .ok (.bipush 33, 2) := by decide +kernel
theorem dX12_draw_22 : decode cX12_draw 22 = .ok (.lushr, 1) := by decide +kernel
theorem dX12_draw_23 : decode cX12_draw 23 = .ok (.iload_n 1, 1) := by decide +kernel
theorem dX12_draw_24 : decode cX12_draw 24 = .ok (.i2l, 1) := by decide +kernel
theorem dX12_draw_25 : decode cX12_draw 25 = .ok (.lrem, 1) := by decide +kernel
theorem dX12_draw_26 : decode cX12_draw 26 = .ok (.l2i, 1) := by decide +kernel
theorem dX12_draw_27 : decode cX12_draw 27 = .ok (.ireturn, 1) := by decide +kernel
theorem dX12_drawDegree_0 : decode cX12_drawDegree 0 = .ok (.aload_n 0, 1) := by decide +kernel
theorem dX12_drawDegree_1 : decode cX12_drawDegree 1 = .ok (.aload_n 0, 1) := by decide +kernel
theorem dX12_drawDegree_2 : decode cX12_drawDegree 2 = .ok (.invokevirtual 237, 3) := by decide +kernel
theorem dX12_drawDegree_5 : decode cX12_drawDegree 5 = .ok (.invokevirtual 259, 3) := by decide +kernel
theorem dX12_drawDegree_8 : decode cX12_drawDegree 8 = .ok (.istore_n 1, 1) := by decide +kernel
theorem dX12_drawDegree_9 : decode cX12_drawDegree 9 = .ok (.iconst 1, 1) := by decide +kernel
theorem dX12_drawDegree_10 : decode cX12_drawDegree 10 = .ok (.istore_n 2, 1) := by decide +kernel
theorem dX12_drawDegree_11 : decode cX12_drawDegree 11 = .ok (.iload_n 1, 1) := by decide +kernel
theorem dX12_drawDegree_12 : decode cX12_drawDegree 12 = .ok (.aload_n 0, 1) := by decide +kernel
theorem dX12_drawDegree_13 : decode cX12_drawDegree 13 = .ok (.getfield 28, 3) := by decide +kernel
theorem dX12_drawDegree_16 : decode cX12_drawDegree 16 = .ok (.iload_n 2, 1) := by decide +kernel
theorem dX12_drawDegree_17 : decode cX12_drawDegree 17 = .ok (.iaload, 1) := by decide +kernel
theorem dX12_drawDegree_18 : decode cX12_drawDegree 18 = .ok (.if_icmp .lt 18, 3) := by decide +kernel
theorem dX12_drawDegree_21 : decode cX12_drawDegree 21 = .ok (.iload_n 1, 1) := by decide +kernel
theorem dX12_drawDegree_22 : decode cX12_drawDegree 22 = .ok (.aload_n 0, 1) := by decide +kernel
theorem dX12_drawDegree_23 : decode cX12_drawDegree 23 = .ok (.getfield 28, 3) := by decide +kernel
theorem dX12_drawDegree_26 : decode cX12_drawDegree 26 = .ok (.iload_n 2, 1) := by decide +kernel
theorem dX12_drawDegree_27 : decode cX12_drawDegree 27 = .ok (.iaload, 1) := by decide +kernel
theorem dX12_drawDegree_28 : decode cX12_drawDegree 28 = .ok (.isub, 1) := by decide +kernel
theorem dX12_drawDegree_29 : decode cX12_drawDegree 29 = .ok (.istore_n 1, 1) := by decide +kernel
theorem dX12_drawDegree_30 : decode cX12_drawDegree 30 = .ok (.iinc 2 1, 3) := by decide +kernel
theorem dX12_drawDegree_33 : decode cX12_drawDegree 33 = .ok (.goto (-22), 3) := by decide +kernel
theorem dX12_drawDegree_36 : decode cX12_drawDegree 36 = .ok (.iload_n 2, 1) := by decide +kernel
theorem dX12_drawDegree_37 : decode cX12_drawDegree 37 = .ok (.ireturn, 1) := by decide +kernel
theorem dX12_drawNow_0 : decode cX12_drawNow 0 = .ok (.aload_n 0, 1) := by decide +kernel
theorem dX12_drawNow_1 : decode cX12_drawNow 1 = .ok (.lload_n 2, 1) := by decide +kernel
theorem dX12_drawNow_2 : decode cX12_drawNow 2 = .ok (.putfield 252, 3) := by decide +kernel
theorem dX12_drawNow_5 : decode cX12_drawNow 5 = .ok (.aload_n 0, 1) := by decide +kernel
theorem dX12_drawNow_6 : decode cX12_drawNow 6 = .ok (.invokevirtual 262, 3) := by decide +kernel
theorem dX12_drawNow_9 : decode cX12_drawNow 9 = .ok (.aload_n 0, 1) := by decide +kernel
theorem dX12_drawNow_10 : decode cX12_drawNow 10 = .ok (.iload_n 1, 1) := by decide +kernel
theorem dX12_drawNow_11 : decode cX12_drawNow 11 = .ok (.invokevirtual 225, 3) := by decide +kernel
theorem dX12_drawNow_14 : decode cX12_drawNow 14 = .ok (.invokestatic 265, 3) := by decide +kernel
theorem dX12_drawNow_17 : decode cX12_drawNow 17 = .ok (.istore 4, 2) := by decide +kernel
theorem dX12_drawNow_19 : decode cX12_drawNow 19 = .ok (.aload_n 0, 1) := by decide +kernel
theorem dX12_drawNow_20 : decode cX12_drawNow 20 = .ok (.getfield 37, 3) := by decide +kernel
theorem dX12_drawNow_23 : decode cX12_drawNow 23 = .ok (.bipush 10, 2) := by decide +kernel
theorem dX12_drawNow_25 : decode cX12_drawNow 25 = .ok (.iload_n 1, 1) := by decide +kernel
theorem dX12_drawNow_26 : decode cX12_drawNow 26 = .ok (.iadd, 1) := by decide +kernel
theorem dX12_drawNow_27 : decode cX12_drawNow 27 = .ok (.iconst 0, 1) := by decide +kernel
theorem dX12_drawNow_28 : decode cX12_drawNow 28 = .ok (.iastore, 1) := by decide +kernel
theorem dX12_drawNow_29 : decode cX12_drawNow 29 = .ok (.aload_n 0, 1) := by decide +kernel
theorem dX12_drawNow_30 : decode cX12_drawNow 30 = .ok (.getfield 37, 3) := by decide +kernel
theorem dX12_drawNow_33 : decode cX12_drawNow 33 = .ok (.bipush 20, 2) := by decide +kernel
theorem dX12_drawNow_35 : decode cX12_drawNow 35 = .ok (.iload_n 1, 1) := by decide +kernel
theorem dX12_drawNow_36 : decode cX12_drawNow 36 = .ok (.iadd, 1) := by decide +kernel
theorem dX12_drawNow_37 : decode cX12_drawNow 37 = .ok (.iconst 0, 1) := by decide +kernel
theorem dX12_drawNow_38 : decode cX12_drawNow 38 = .ok (.iastore, 1) := by decide +kernel
theorem dX12_drawNow_39 : decode cX12_drawNow 39 = .ok (.iconst 0, 1) := by decide +kernel
theorem dX12_drawNow_40 : decode cX12_drawNow 40 = .ok (.istore 5, 2) := by decide +kernel
theorem dX12_drawNow_42 : decode cX12_drawNow 42 = .ok (.iload 5, 2) := by decide +kernel
theorem dX12_drawNow_44 : decode cX12_drawNow 44 = .ok (.iload 4, 2) := by decide +kernel
theorem dX12_drawNow_46 : decode cX12_drawNow 46 = .ok (.if_icmp .ge 78, 3) := by decide +kernel
theorem dX12_drawNow_49 : decode cX12_drawNow 49 = .ok (.aload_n 0, 1) := by decide +kernel
theorem dX12_drawNow_50 : decode cX12_drawNow 50 = .ok (.aload_n 0, 1) := by decide +kernel
theorem dX12_drawNow_51 : decode cX12_drawNow 51 = .ok (.iload_n 1, 1) := by decide +kernel
theorem dX12_drawNow_52 : decode cX12_drawNow 52 = .ok (.invokevirtual 225, 3) := by decide +kernel
theorem dX12_drawNow_55 : decode cX12_drawNow 55 = .ok (.iload 5, 2) := by decide +kernel
theorem dX12_drawNow_57 : decode cX12_drawNow 57 = .ok (.isub, 1) := by decide +kernel
theorem dX12_drawNow_58 : decode cX12_drawNow 58 = .ok (.invokevirtual 259, 3) := by decide +kernel
theorem dX12_drawNow_61 : decode cX12_drawNow 61 = .ok (.istore 6, 2) := by decide +kernel
theorem dX12_drawNow_63 : decode cX12_drawNow 63 = .ok (.aload_n 0, 1) := by decide +kernel
theorem dX12_drawNow_64 : decode cX12_drawNow 64 = .ok (.iload_n 1, 1) := by decide +kernel
theorem dX12_drawNow_65 : decode cX12_drawNow 65 = .ok (.invokevirtual 222, 3) := by decide +kernel
theorem dX12_drawNow_68 : decode cX12_drawNow 68 = .ok (.istore 7, 2) := by decide +kernel
theorem dX12_drawNow_70 : decode cX12_drawNow 70 = .ok (.iload 6, 2) := by decide +kernel
theorem dX12_drawNow_72 : decode cX12_drawNow 72 = .ok (.ifCond .gt 13, 3) := by decide +kernel
theorem dX12_drawNow_75 : decode cX12_drawNow 75 = .ok (.aload_n 0, 1) := by decide +kernel
theorem dX12_drawNow_76 : decode cX12_drawNow 76 = .ok (.iload_n 1, 1) := by decide +kernel
theorem dX12_drawNow_77 : decode cX12_drawNow 77 = .ok (.iload 7, 2) := by decide +kernel
theorem dX12_drawNow_79 : decode cX12_drawNow 79 = .ok (.invokevirtual 181, 3) := by decide +kernel
theorem dX12_drawNow_82 : decode cX12_drawNow 82 = .ok (.ifCond .eq 29, 3) := by decide +kernel
theorem dX12_drawNow_85 : decode cX12_drawNow 85 = .ok (.iload 6, 2) := by decide +kernel
theorem dX12_drawNow_87 : decode cX12_drawNow 87 = .ok (.aload_n 0, 1) := by decide +kernel
theorem dX12_drawNow_88 : decode cX12_drawNow 88 = .ok (.iload_n 1, 1) := by decide +kernel
theorem dX12_drawNow_89 : decode cX12_drawNow 89 = .ok (.iload 7, 2) := by decide +kernel
theorem dX12_drawNow_91 : decode cX12_drawNow 91 = .ok (.invokevirtual 181, 3) := by decide +kernel
theorem dX12_drawNow_94 : decode cX12_drawNow 94 = .ok (.ifCond .eq 7, 3) := by decide +kernel
theorem dX12_drawNow_97 : decode cX12_drawNow 97 = .ok (.iconst 0, 1) := by decide +kernel
theorem dX12_drawNow_98 : decode cX12_drawNow 98 = .ok (.goto 4, 3) := by decide +kernel
theorem dX12_drawNow_101 : decode cX12_drawNow 101 = .ok (.iconst 1, 1) := by decide +kernel
theorem dX12_drawNow_102 : decode cX12_drawNow 102 = .ok (.isub, 1) := by decide +kernel
theorem dX12_drawNow_103 : decode cX12_drawNow 103 = .ok (.istore 6, 2) := by decide +kernel
theorem dX12_drawNow_105 : decode cX12_drawNow 105 = .ok (.iinc 7 1, 3) := by decide +kernel
theorem dX12_drawNow_108 : decode cX12_drawNow 108 = .ok (.goto (-38), 3) := by decide +kernel
theorem dX12_drawNow_111 : decode cX12_drawNow 111 = .ok (.aload_n 0, 1) := by decide +kernel
theorem dX12_drawNow_112 : decode cX12_drawNow 112 = .ok (.iload_n 1, 1) := by decide +kernel
theorem dX12_drawNow_113 : decode cX12_drawNow 113 = .ok (.iload 7, 2) := by decide +kernel
theorem dX12_drawNow_115 : decode cX12_drawNow 115 = .ok (.invokevirtual 161, 3) := by decide +kernel
theorem dX12_drawNow_118 : decode cX12_drawNow 118 = .ok (.iinc 5 1, 3) := by decide +kernel
theorem dX12_drawNow_121 : decode cX12_drawNow 121 = .ok (.goto (-79), 3) := by decide +kernel
theorem dX12_drawNow_124 : decode cX12_drawNow 124 = .ok (.aload_n 0, 1) := by decide +kernel
theorem dX12_drawNow_125 : decode cX12_drawNow 125 = .ok (.iload_n 1, 1) := by decide +kernel
theorem dX12_drawNow_126 : decode cX12_drawNow 126 = .ok (.invokevirtual 270, 3) := by decide +kernel
theorem dX12_drawNow_129 : decode cX12_drawNow 129 = .ok (.ireturn, 1) := by decide +kernel
theorem dX12_fileNow_0 : decode cX12_fileNow 0 = .ok (.aload_n 0, 1) := by decide +kernel
theorem dX12_fileNow_1 : decode cX12_fileNow 1 = .ok (.iload_n 1, 1) := by decide +kernel
theorem dX12_fileNow_2 : decode cX12_fileNow 2 = .ok (.invokevirtual 246, 3) := by decide +kernel
theorem dX12_fileNow_5 : decode cX12_fileNow 5 = .ok (.istore_n 3, 1) := by decide +kernel
theorem dX12_fileNow_6 : decode cX12_fileNow 6 = .ok (.aload_n 0, 1) := by decide +kernel
theorem dX12_fileNow_7 : decode cX12_fileNow 7 = .ok (.getfield 37, 3) := by decide +kernel
theorem dX12_fileNow_10 : decode cX12_fileNow 10 = .ok (.iload_n 3, 1) := by decide +kernel
theorem dX12_fileNow_11 : decode cX12_fileNow 11 = .ok (.dup2, 1) := by decide +kernel
theorem dX12_fileNow_12 : decode cX12_fileNow 12 = .ok (.iaload, 1) := by decide +kernel
theorem dX12_fileNow_13 : decode cX12_fileNow 13 = .ok (.iconst 1, 1) := by decide +kernel
theorem dX12_fileNow_14 : decode cX12_fileNow 14 = .ok (.iadd, 1) := by decide +kernel
theorem dX12_fileNow_15 : decode cX12_fileNow 15 = .ok (.iastore, 1) := by decide +kernel
theorem dX12_fileNow_16 : decode cX12_fileNow 16 = .ok (.aload_n 0, 1) := by decide +kernel
theorem dX12_fileNow_17 : decode cX12_fileNow 17 = .ok (.getfield 37, 3) := by decide +kernel
theorem dX12_fileNow_20 : decode cX12_fileNow 20 = .ok (.iload_n 3, 1) := by decide +kernel
theorem dX12_fileNow_21 : decode cX12_fileNow 21 = .ok (.aload_n 0, 1) := by decide +kernel
theorem dX12_fileNow_22 : decode cX12_fileNow 22 = .ok (.getfield 37, 3) := by decide +kernel
theorem dX12_fileNow_25 : decode cX12_fileNow 25 = .ok (.iload_n 3, 1) := by decide +kernel
theorem dX12_fileNow_26 : decode cX12_fileNow 26 = .ok (.iaload, 1) := by decide +kernel
theorem dX12_fileNow_27 : decode cX12_fileNow 27 = .ok (.iadd, 1) := by decide +kernel
theorem dX12_fileNow_28 : decode cX12_fileNow 28 = .ok (.iload_n 2, 1) := by decide +kernel
theorem dX12_fileNow_29 : decode cX12_fileNow 29 = .ok (.iastore, 1) := by decide +kernel
theorem dX12_fileNow_30 : decode cX12_fileNow 30 = .ok (.aload_n 0, 1) := by decide +kernel
theorem dX12_fileNow_31 : decode cX12_fileNow 31 = .ok (.getfield 37, 3) := by decide +kernel
theorem dX12_fileNow_34 : decode cX12_fileNow 34 = .ok (.iload_n 3, 1) := by decide +kernel
theorem dX12_fileNow_35 : decode cX12_fileNow 35 = .ok (.iaload, 1) := by decide +kernel
theorem dX12_fileNow_36 : decode cX12_fileNow 36 = .ok (.iconst 1, 1) := by decide +kernel
theorem dX12_fileNow_37 : decode cX12_fileNow 37 = .ok (.isub, 1) := by decide +kernel
theorem dX12_fileNow_38 : decode cX12_fileNow 38 = .ok (.ireturn, 1) := by decide +kernel
theorem dX12_swapNow_0 : decode cX12_swapNow 0 = .ok (.aload_n 0, 1) := by decide +kernel
theorem dX12_swapNow_1 : decode cX12_swapNow 1 = .ok (.getfield 37, 3) := by decide +kernel
theorem dX12_swapNow_4 : decode cX12_swapNow 4 = .ok (.bipush 10, 2) := by decide +kernel
theorem dX12_swapNow_6 : decode cX12_swapNow 6 = .ok (.iload_n 1, 1) := by decide +kernel
theorem dX12_swapNow_7 : decode cX12_swapNow 7 = .ok (.iadd, 1) := by decide +kernel
theorem dX12_swapNow_8 : decode cX12_swapNow 8 = .ok (.iaload, 1) := by decide +kernel
theorem dX12_swapNow_9 : decode cX12_swapNow 9 = .ok (.istore_n 3, 1) := by decide +kernel
theorem dX12_swapNow_10 : decode cX12_swapNow 10 = .ok (.aload_n 0, 1) := by decide +kernel
theorem dX12_swapNow_11 : decode cX12_swapNow 11 = .ok (.getfield 37, 3) := by decide +kernel
theorem dX12_swapNow_14 : decode cX12_swapNow 14 = .ok (.bipush 20, 2) := by decide +kernel
theorem dX12_swapNow_16 : decode cX12_swapNow 16 = .ok (.iload_n 1, 1) := by decide +kernel
theorem dX12_swapNow_17 : decode cX12_swapNow 17 = .ok (.iadd, 1) := by decide +kernel
theorem dX12_swapNow_18 : decode cX12_swapNow 18 = .ok (.iaload, 1) := by decide +kernel
theorem dX12_swapNow_19 : decode cX12_swapNow 19 = .ok (.istore 4, 2) := by decide +kernel
theorem dX12_swapNow_21 : decode cX12_swapNow 21 = .ok (.aload_n 0, 1) := by decide +kernel
theorem dX12_swapNow_22 : decode cX12_swapNow 22 = .ok (.getfield 37, 3) := by decide +kernel
theorem dX12_swapNow_25 : decode cX12_swapNow 25 = .ok (.bipush 10, 2) := by decide +kernel
theorem dX12_swapNow_27 : decode cX12_swapNow 27 = .ok (.iload_n 1, 1) := by decide +kernel
theorem dX12_swapNow_28 : decode cX12_swapNow 28 = .ok (.iadd, 1) := by decide +kernel
theorem dX12_swapNow_29 : decode cX12_swapNow 29 = .ok (.aload_n 0, 1) := by decide +kernel
theorem dX12_swapNow_30 : decode cX12_swapNow 30 = .ok (.getfield 37, 3) := by decide +kernel
theorem dX12_swapNow_33 : decode cX12_swapNow 33 = .ok (.bipush 10, 2) := by decide +kernel
theorem dX12_swapNow_35 : decode cX12_swapNow 35 = .ok (.iload_n 2, 1) := by decide +kernel
theorem dX12_swapNow_36 : decode cX12_swapNow 36 = .ok (.iadd, 1) := by decide +kernel
theorem dX12_swapNow_37 : decode cX12_swapNow 37 = .ok (.iaload, 1) := by decide +kernel
theorem dX12_swapNow_38 : decode cX12_swapNow 38 = .ok (.iastore, 1) := by decide +kernel
theorem dX12_swapNow_39 : decode cX12_swapNow 39 = .ok (.aload_n 0, 1) := by decide +kernel
theorem dX12_swapNow_40 : decode cX12_swapNow 40 = .ok (.getfield 37, 3) := by decide +kernel
theorem dX12_swapNow_43 : decode cX12_swapNow 43 = .ok (.bipush 20, 2) := by decide +kernel
theorem dX12_swapNow_45 : decode cX12_swapNow 45 = .ok (.iload_n 1, 1) := by decide +kernel
theorem dX12_swapNow_46 : decode cX12_swapNow 46 = .ok (.iadd, 1) := by decide +kernel
theorem dX12_swapNow_47 : decode cX12_swapNow 47 = .ok (.aload_n 0, 1) := by decide +kernel
theorem dX12_swapNow_48 : decode cX12_swapNow 48 = .ok (.getfield 37, 3) := by decide +kernel
theorem dX12_swapNow_51 : decode cX12_swapNow 51 = .ok (.bipush 20, 2) := by decide +kernel
theorem dX12_swapNow_53 : decode cX12_swapNow 53 = .ok (.iload_n 2, 1) := by decide +kernel
theorem dX12_swapNow_54 : decode cX12_swapNow 54 = .ok (.iadd, 1) := by decide +kernel
theorem dX12_swapNow_55 : decode cX12_swapNow 55 = .ok (.iaload, 1) := by decide +kernel
theorem dX12_swapNow_56 : decode cX12_swapNow 56 = .ok (.iastore, 1) := by decide +kernel
theorem dX12_swapNow_57 : decode cX12_swapNow 57 = .ok (.aload_n 0, 1) := by decide +kernel
theorem dX12_swapNow_58 : decode cX12_swapNow 58 = .ok (.getfield 37, 3) := by decide +kernel
theorem dX12_swapNow_61 : decode cX12_swapNow 61 = .ok (.bipush 10, 2) := by decide +kernel
theorem dX12_swapNow_63 : decode cX12_swapNow 63 = .ok (.iload_n 2, 1) := by decide +kernel
theorem dX12_swapNow_64 : decode cX12_swapNow 64 = .ok (.iadd, 1) := by decide +kernel
theorem dX12_swapNow_65 : decode cX12_swapNow 65 = .ok (.iload_n 3, 1) := by decide +kernel
theorem dX12_swapNow_66 : decode cX12_swapNow 66 = .ok (.iastore, 1) := by decide +kernel
theorem dX12_swapNow_67 : decode cX12_swapNow 67 = .ok (.aload_n 0, 1) := by decide +kernel
theorem dX12_swapNow_68 : decode cX12_swapNow 68 = .ok (.getfield 37, 3) := by decide +kernel
theorem dX12_swapNow_71 : decode cX12_swapNow 71 = .ok (.bipush 20, 2) := by decide +kernel
theorem dX12_swapNow_73 : decode cX12_swapNow 73 = .ok (.iload_n 2, 1) := by decide +kernel
theorem dX12_swapNow_74 : decode cX12_swapNow 74 = .ok (.iadd, 1) := by decide +kernel
theorem dX12_swapNow_75 : decode cX12_swapNow 75 = .ok (.iload 4, 2) := by decide +kernel
theorem dX12_swapNow_77 : decode cX12_swapNow 77 = .ok (.iastore, 1) := by decide +kernel
theorem dX12_swapNow_78 : decode cX12_swapNow 78 = .ok (.aload_n 0, 1) := by decide +kernel
theorem dX12_swapNow_79 : decode cX12_swapNow 79 = .ok (.iload_n 1, 1) := by decide +kernel
theorem dX12_swapNow_80 : decode cX12_swapNow 80 = .ok (.invokevirtual 270, 3) := by decide +kernel
theorem dX12_swapNow_83 : decode cX12_swapNow 83 = .ok (.ireturn, 1) := by decide +kernel
theorem dX12_doNow_0 : decode cX12_doNow 0 = .ok (.iconst 0, 1) := by decide +kernel
theorem dX12_doNow_1 : decode cX12_doNow 1 = .ok (.istore 6, 2) := by decide +kernel
theorem dX12_doNow_3 : decode cX12_doNow 3 = .ok (.iload_n 1, 1) := by decide +kernel
theorem dX12_doNow_4 : decode cX12_doNow 4 = .ok (.tableswitch 146 0 7 #[48, 58, 63, 77, 99, 111, 131, 139], 48) := by decide +kernel
theorem dX12_doNow_52 : decode cX12_doNow 52 = .ok (.aload_n 0, 1) := by decide +kernel
theorem dX12_doNow_53 : decode cX12_doNow 53 = .ok (.iconst 0, 1) := by decide +kernel
theorem dX12_doNow_54 : decode cX12_doNow 54 = .ok (.aload_n 0, 1) := by decide +kernel
theorem dX12_doNow_55 : decode cX12_doNow 55 = .ok (.invokevirtual 154, 3) := by decide +kernel
theorem dX12_doNow_58 : decode cX12_doNow 58 = .ok (.invokevirtual 273, 3) := by decide +kernel
theorem dX12_doNow_61 : decode cX12_doNow 61 = .ok (.ireturn, 1) := by decide +kernel
theorem dX12_doNow_62 : decode cX12_doNow 62 = .ok (.aload_n 0, 1) := by decide +kernel
theorem dX12_doNow_63 : decode cX12_doNow 63 = .ok (.invokevirtual 216, 3) := by decide +kernel
theorem dX12_doNow_66 : decode cX12_doNow 66 = .ok (.ireturn, 1) := by decide +kernel
theorem dX12_doNow_67 : decode cX12_doNow 67 = .ok (.aload_n 0, 1) := by decide +kernel
theorem dX12_doNow_68 : decode cX12_doNow 68 = .ok (.getfield 37, 3) := by decide +kernel
theorem dX12_doNow_71 : decode cX12_doNow 71 = .ok (.iconst 0, 1) := by decide +kernel
theorem dX12_doNow_72 : decode cX12_doNow 72 = .ok (.iload_n 2, 1) := by decide +kernel
theorem dX12_doNow_73 : decode cX12_doNow 73 = .ok (.iadd, 1) := by decide +kernel
theorem dX12_doNow_74 : decode cX12_doNow 74 = .ok (.iconst 3, 1) := by decide +kernel
theorem dX12_doNow_75 : decode cX12_doNow 75 = .ok (.iastore, 1) := by decide +kernel
theorem dX12_doNow_76 : decode cX12_doNow 76 = .ok (.aload_n 0, 1) := by decide +kernel
theorem dX12_doNow_77 : decode cX12_doNow 77 = .ok (.invokevirtual 219, 3) := by decide +kernel
theorem dX12_doNow_80 : decode cX12_doNow 80 = .ok (.ireturn, 1) := by decide +kernel
theorem dX12_doNow_81 : decode cX12_doNow 81 = .ok (.aload_n 0, 1) := by decide +kernel
theorem dX12_doNow_82 : decode cX12_doNow 82 = .ok (.getfield 37, 3) := by decide +kernel
theorem dX12_doNow_85 : decode cX12_doNow 85 = .ok (.iconst 0, 1) := by decide +kernel
theorem dX12_doNow_86 : decode cX12_doNow 86 = .ok (.iload_n 2, 1) := by decide +kernel
theorem dX12_doNow_87 : decode cX12_doNow 87 = .ok (.iadd, 1) := by decide +kernel
theorem dX12_doNow_88 : decode cX12_doNow 88 = .ok (.iaload, 1) := by decide +kernel
theorem dX12_doNow_89 : decode cX12_doNow 89 = .ok (.istore 6, 2) := by decide +kernel
theorem dX12_doNow_91 : decode cX12_doNow 91 = .ok (.aload_n 0, 1) := by decide +kernel
theorem dX12_doNow_92 : decode cX12_doNow 92 = .ok (.getfield 37, 3) := by decide +kernel
theorem dX12_doNow_95 : decode cX12_doNow 95 = .ok (.iconst 0, 1) := by decide +kernel
theorem dX12_doNow_96 : decode cX12_doNow 96 = .ok (.iload_n 2, 1) := by decide +kernel
theorem dX12_doNow_97 : decode cX12_doNow 97 = .ok (.iadd, 1) := by decide +kernel
theorem dX12_doNow_98 : decode cX12_doNow 98 = .ok (.iconst 0, 1) := by decide +kernel
theorem dX12_doNow_99 : decode cX12_doNow 99 = .ok (.iastore, 1) := by decide +kernel
theorem dX12_doNow_100 : decode cX12_doNow 100 = .ok (.iload 6, 2) := by decide +kernel
theorem dX12_doNow_102 : decode cX12_doNow 102 = .ok (.ireturn, 1) := by decide +kernel
theorem dX12_doNow_103 : decode cX12_doNow 103 = .ok (.aload_n 0, 1) := by decide +kernel
theorem dX12_doNow_104 : decode cX12_doNow 104 = .ok (.iload_n 2, 1) := by decide +kernel
theorem dX12_doNow_105 : decode cX12_doNow 105 = .ok (.iload_n 3, 1) := by decide +kernel
theorem dX12_doNow_106 : decode cX12_doNow 106 = .ok (.invokevirtual 161, 3) := by decide +kernel
theorem dX12_doNow_109 : decode cX12_doNow 109 = .ok (.aload_n 0, 1) := by decide +kernel
theorem dX12_doNow_110 : decode cX12_doNow 110 = .ok (.iload_n 2, 1) := by decide +kernel
theorem dX12_doNow_111 : decode cX12_doNow 111 = .ok (.invokevirtual 270, 3) := by decide +kernel
theorem dX12_doNow_114 : decode cX12_doNow 114 = .ok (.ireturn, 1) := by decide +kernel
theorem dX12_doNow_115 : decode cX12_doNow 115 = .ok (.aload_n 0, 1) := by decide +kernel
theorem dX12_doNow_116 : decode cX12_doNow 116 = .ok (.getfield 37, 3) := by decide +kernel
theorem dX12_doNow_119 : decode cX12_doNow 119 = .ok (.bipush 30, 2) := by decide +kernel
theorem dX12_doNow_121 : decode cX12_doNow 121 = .ok (.iaload, 1) := by decide +kernel
theorem dX12_doNow_122 : decode cX12_doNow 122 = .ok (.istore 6, 2) := by decide +kernel
theorem dX12_doNow_124 : decode cX12_doNow 124 = .ok (.aload_n 0, 1) := by decide +kernel
theorem dX12_doNow_125 : decode cX12_doNow 125 = .ok (.getfield 37, 3) := by decide +kernel
theorem dX12_doNow_128 : decode cX12_doNow 128 = .ok (.bipush 30, 2) := by decide +kernel
theorem dX12_doNow_130 : decode cX12_doNow 130 = .ok (.iload_n 2, 1) := by decide +kernel
theorem dX12_doNow_131 : decode cX12_doNow 131 = .ok (.iastore, 1) := by decide +kernel
theorem dX12_doNow_132 : decode cX12_doNow 132 = .ok (.iload 6, 2) := by decide +kernel
theorem dX12_doNow_134 : decode cX12_doNow 134 = .ok (.ireturn, 1) := by decide +kernel
theorem dX12_doNow_135 : decode cX12_doNow 135 = .ok (.aload_n 0, 1) := by decide +kernel
theorem dX12_doNow_136 : decode cX12_doNow 136 = .ok (.iload_n 2, 1) := by decide +kernel
theorem dX12_doNow_137 : decode cX12_doNow 137 = .ok (.lload 4, 2) := by decide +kernel
theorem dX12_doNow_139 : decode cX12_doNow 139 = .ok (.invokevirtual 276, 3) := by decide +kernel
theorem dX12_doNow_142 : decode cX12_doNow 142 = .ok (.ireturn, 1) := by decide +kernel
theorem dX12_doNow_143 : decode cX12_doNow 143 = .ok (.aload_n 0, 1) := by decide +kernel
theorem dX12_doNow_144 : decode cX12_doNow 144 = .ok (.iload_n 2, 1) := by decide +kernel
theorem dX12_doNow_145 : decode cX12_doNow 145 = .ok (.iload_n 3, 1) := by decide +kernel
theorem dX12_doNow_146 : decode cX12_doNow 146 = .ok (.invokevirtual 280, 3) := by decide +kernel
theorem dX12_doNow_149 : decode cX12_doNow 149 = .ok (.ireturn, 1) := by decide +kernel
theorem dX12_doNow_150 : decode cX12_doNow 150 = .ok (.aload_n 0, 1) := by decide +kernel
theorem dX12_doNow_151 : decode cX12_doNow 151 = .ok (.iload_n 2, 1) := by decide +kernel
theorem dX12_doNow_152 : decode cX12_doNow 152 = .ok (.iload_n 3, 1) := by decide +kernel
theorem dX12_doNow_153 : decode cX12_doNow 153 = .ok (.invokevirtual 283, 3) := by decide +kernel
theorem dX12_doNow_156 : decode cX12_doNow 156 = .ok (.ireturn, 1) := by decide +kernel
theorem dX12_act_0 : decode cX12_act 0 = .ok (.aload_n 0, 1) := by decide +kernel
theorem dX12_act_1 : decode cX12_act 1 = .ok (.invokevirtual 286, 3) := by decide +kernel
theorem dX12_act_4 : decode cX12_act 4 = .ok (.aload_n 0, 1) := by decide +kernel
theorem dX12_act_5 : decode cX12_act 5 = .ok (.iload_n 1, 1) := by decide +kernel
theorem dX12_act_6 : decode cX12_act 6 = .ok (.iload_n 2, 1) := by decide +kernel
theorem dX12_act_7 : decode cX12_act 7 = .ok (.iload_n 3, 1) := by decide +kernel
theorem dX12_act_8 : decode cX12_act 8 = .ok (.lload 4, 2) := by decide +kernel
theorem dX12_act_10 : decode cX12_act 10 = .ok (.invokevirtual 289, 3) := by decide +kernel
theorem dX12_act_13 : decode cX12_act 13 = .ok (.istore 6, 2) := by decide +kernel
theorem dX12_act_15 : decode cX12_act 15 = .ok (.aload_n 0, 1) := by decide +kernel
theorem dX12_act_16 : decode cX12_act 16 = .ok (.iload_n 1, 1) := by decide +kernel
theorem dX12_act_17 : decode cX12_act 17 = .ok (.iload_n 1, 1) := by decide +kernel
theorem dX12_act_18 : decode cX12_act 18 = .ok (.ifCond .ne 8, 3) := by decide +kernel
theorem dX12_act_21 : decode cX12_act 21 = .ok (.iload 6, 2) := by decide +kernel
theorem dX12_act_23 : decode cX12_act 23 = .ok (.goto 28, 3) := by decide +kernel
theorem dX12_act_26 : decode cX12_act 26 = .ok (.iload_n 1, 1) := by decide +kernel
theorem dX12_act_27 : decode cX12_act 27 = .ok (.iconst 1, 1) := by decide +kernel
theorem dX12_act_28 : decode cX12_act 28 = .ok (.if_icmp .eq 8, 3) := by decide +kernel
theorem dX12_act_31 : decode cX12_act 31 = .ok (.iload_n 1, 1) := by decide +kernel
theorem dX12_act_32 : decode cX12_act 32 = .ok (.iconst 5, 1) := by decide +kernel
theorem dX12_act_33 : decode cX12_act 33 = .ok (.if_icmp .ne 7, 3) := by decide +kernel
theorem dX12_act_36 : decode cX12_act 36 = .ok (.iconst (-1), 1) := by decide +kernel
theorem dX12_act_37 : decode cX12_act 37 = .ok (.goto 14, 3) := by decide +kernel
theorem dX12_act_40 : decode cX12_act 40 = .ok (.iload_n 1, 1) := by decide +kernel
theorem dX12_act_41 : decode cX12_act 41 = .ok (.bipush 7, 2) := by decide +kernel
theorem dX12_act_43 : decode cX12_act 43 = .ok (.if_icmp .ne 7, 3) := by decide +kernel
theorem dX12_act_46 : decode cX12_act 46 = .ok (.iload_n 3, 1) := by decide +kernel
theorem dX12_act_47 : decode cX12_act 47 = .ok (.goto 4, 3) := by decide +kernel
theorem dX12_act_50 : decode cX12_act 50 = .ok (.iload_n 2, 1) := by decide +kernel
theorem dX12_act_51 : decode cX12_act 51 = .ok (.invokevirtual 293, 3) := by decide +kernel
theorem dX12_act_54 : decode cX12_act 54 = .ok (.iload 6, 2) := by decide +kernel
theorem dX12_act_56 : decode cX12_act 56 = .ok (.ireturn, 1) := by decide +kernel
theorem dX12_hand_0 : decode cX12_hand 0 = .ok (.aload_n 0, 1) := by decide +kernel
theorem dX12_hand_1 : decode cX12_hand 1 = .ok (.iload_n 1, 1) := by decide +kernel
theorem dX12_hand_2 : decode cX12_hand 2 = .ok (.iload_n 2, 1) := by decide +kernel
theorem dX12_hand_3 : decode cX12_hand 3 = .ok (.iload_n 3, 1) := by decide +kernel
theorem dX12_hand_4 : decode cX12_hand 4 = .ok (.invokevirtual 296, 3) := by decide +kernel
theorem dX12_hand_7 : decode cX12_hand 7 = .ok (.istore 6, 2) := by decide +kernel
theorem dX12_hand_9 : decode cX12_hand 9 = .ok (.iload 6, 2) := by decide +kernel
theorem dX12_hand_11 : decode cX12_hand 11 = .ok (.iconst (-1), 1) := by decide +kernel
theorem dX12_hand_12 : decode cX12_hand 12 = .ok (.if_icmp .eq 16, 3) := by decide +kernel
theorem dX12_hand_15 : decode cX12_hand 15 = .ok (.aload_n 0, 1) := by decide +kernel
theorem dX12_hand_16 : decode cX12_hand 16 = .ok (.getfield 40, 3) := by decide +kernel
theorem dX12_hand_19 : decode cX12_hand 19 = .ok (.iload 6, 2) := by decide +kernel
theorem dX12_hand_21 : decode cX12_hand 21 = .ok (.dup2, 1) := by decide +kernel
theorem dX12_hand_22 : decode cX12_hand 22 = .ok (.iaload, 1) := by decide +kernel
theorem dX12_hand_23 : decode cX12_hand 23 = .ok (.iconst 1, 1) := by decide +kernel
theorem dX12_hand_24 : decode cX12_hand 24 = .ok (.iadd, 1) := by decide +kernel
theorem dX12_hand_25 : decode cX12_hand 25 = .ok (.iastore, 1) := by decide +kernel
theorem dX12_hand_26 : decode cX12_hand 26 = .ok (.iconst (-1), 1) := by decide +kernel
theorem dX12_hand_27 : decode cX12_hand 27 = .ok (.ireturn, 1) := by decide +kernel
theorem dX12_hand_28 : decode cX12_hand 28 = .ok (.aload_n 0, 1) := by decide +kernel
theorem dX12_hand_29 : decode cX12_hand 29 = .ok (.iload_n 1, 1) := by decide +kernel
theorem dX12_hand_30 : decode cX12_hand 30 = .ok (.iload_n 2, 1) := by decide +kernel
theorem dX12_hand_31 : decode cX12_hand 31 = .ok (.iload_n 3, 1) := by decide +kernel
theorem dX12_hand_32 : decode cX12_hand 32 = .ok (.lload 4, 2) := by decide +kernel
theorem dX12_hand_34 : decode cX12_hand 34 = .ok (.invokevirtual 300, 3) := by decide +kernel
theorem dX12_hand_37 : decode cX12_hand 37 = .ok (.ireturn, 1) := by decide +kernel
theorem dX12_peel_0 : decode cX12_peel 0 = .ok (.aload_n 0, 1) := by decide +kernel
theorem dX12_peel_1 : decode cX12_peel 1 = .ok (.iconst 0, 1) := by decide +kernel
theorem dX12_peel_2 : decode cX12_peel 2 = .ok (.iconst 0, 1) := by decide +kernel
theorem dX12_peel_3 : decode cX12_peel 3 = .ok (.iconst 0, 1) := by decide +kernel
theorem dX12_peel_4 : decode cX12_peel 4 = .ok (.lconst 0, 1) := by decide +kernel
theorem dX12_peel_5 : decode cX12_peel 5 = .ok (.invokevirtual 303, 3) := by decide +kernel
theorem dX12_peel_8 : decode cX12_peel 8 = .ok (.ireturn, 1) := by decide +kernel
theorem dX12_round_0 : decode cX12_round 0 = .ok (.aload_n 0, 1) := by decide +kernel
theorem dX12_round_1 : decode cX12_round 1 = .ok (.iconst 1, 1) := by decide +kernel
theorem dX12_round_2 : decode cX12_round 2 = .ok (.iconst 0, 1) := by decide +kernel
theorem dX12_round_3 : decode cX12_round 3 = .ok (.iconst 0, 1) := by decide +kernel
theorem dX12_round_4 : decode cX12_round 4 = .ok (.lconst 0, 1) := by decide +kernel
theorem dX12_round_5 : decode cX12_round 5 = .ok (.invokevirtual 303, 3) := by decide +kernel
theorem dX12_round_8 : decode cX12_round 8 = .ok (.ireturn, 1) := by decide +kernel
theorem dX12_tell_0 : decode cX12_tell 0 = .ok (.aload_n 0, 1) := by decide +kernel
theorem dX12_tell_1 : decode cX12_tell 1 = .ok (.iconst 2, 1) := by decide +kernel
theorem dX12_tell_2 : decode cX12_tell 2 = .ok (.iload_n 1, 1) := by decide +kernel
theorem dX12_tell_3 : decode cX12_tell 3 = .ok (.iconst 0, 1) := by decide +kernel
theorem dX12_tell_4 : decode cX12_tell 4 = .ok (.lconst 0, 1) := by decide +kernel
theorem dX12_tell_5 : decode cX12_tell 5 = .ok (.invokevirtual 303, 3) := by decide +kernel
theorem dX12_tell_8 : decode cX12_tell 8 = .ok (.ireturn, 1) := by decide +kernel
theorem dX12_forget_0 : decode cX12_forget 0 = .ok (.aload_n 0, 1) := by decide +kernel
theorem dX12_forget_1 : decode cX12_forget 1 = .ok (.iconst 3, 1) := by decide +kernel
theorem dX12_forget_2 : decode cX12_forget 2 = .ok (.iload_n 1, 1) := by decide +kernel
theorem dX12_forget_3 : decode cX12_forget 3 = .ok (.iconst 0, 1) := by decide +kernel
theorem dX12_forget_4 : decode cX12_forget 4 = .ok (.lconst 0, 1) := by decide +kernel
theorem dX12_forget_5 : decode cX12_forget 5 = .ok (.invokevirtual 303, 3) := by decide +kernel
theorem dX12_forget_8 : decode cX12_forget 8 = .ok (.ireturn, 1) := by decide +kernel
theorem dX12_turn_0 : decode cX12_turn 0 = .ok (.aload_n 0, 1) := by decide +kernel
theorem dX12_turn_1 : decode cX12_turn 1 = .ok (.iconst 4, 1) := by decide +kernel
theorem dX12_turn_2 : decode cX12_turn 2 = .ok (.iload_n 1, 1) := by decide +kernel
theorem dX12_turn_3 : decode cX12_turn 3 = .ok (.iload_n 2, 1) := by decide +kernel
theorem dX12_turn_4 : decode cX12_turn 4 = .ok (.lconst 0, 1) := by decide +kernel
theorem dX12_turn_5 : decode cX12_turn 5 = .ok (.invokevirtual 303, 3) := by decide +kernel
theorem dX12_turn_8 : decode cX12_turn 8 = .ok (.ireturn, 1) := by decide +kernel
theorem dX12_capture_0 : decode cX12_capture 0 = .ok (.aload_n 0, 1) := by decide +kernel
theorem dX12_capture_1 : decode cX12_capture 1 = .ok (.iconst 5, 1) := by decide +kernel
theorem dX12_capture_2 : decode cX12_capture 2 = .ok (.iload_n 1, 1) := by decide +kernel
theorem dX12_capture_3 : decode cX12_capture 3 = .ok (.iconst 0, 1) := by decide +kernel
theorem dX12_capture_4 : decode cX12_capture 4 = .ok (.lconst 0, 1) := by decide +kernel
theorem dX12_capture_5 : decode cX12_capture 5 = .ok (.invokevirtual 303, 3) := by decide +kernel
theorem dX12_capture_8 : decode cX12_capture 8 = .ok (.ireturn, 1) := by decide +kernel
theorem dX12_draw__0 : decode cX12_draw_ 0 = .ok (.aload_n 0, 1) := by decide +kernel
theorem dX12_draw__1 : decode cX12_draw_ 1 = .ok (.bipush 6, 2) := by decide +kernel
theorem dX12_draw__3 : decode cX12_draw_ 3 = .ok (.iload_n 1, 1) := by decide +kernel
theorem dX12_draw__4 : decode cX12_draw_ 4 = .ok (.iconst 0, 1) := by decide +kernel
theorem dX12_draw__5 : decode cX12_draw_ 5 = .ok (.lload_n 2, 1) := by decide +kernel
theorem dX12_draw__6 : decode cX12_draw_ 6 = .ok (.invokevirtual 303, 3) := by decide +kernel
theorem dX12_draw__9 : decode cX12_draw_ 9 = .ok (.ireturn, 1) := by decide +kernel
theorem dX12_swap_0 : decode cX12_swap 0 = .ok (.aload_n 0, 1) := by decide +kernel
theorem dX12_swap_1 : decode cX12_swap 1 = .ok (.bipush 8, 2) := by decide +kernel
theorem dX12_swap_3 : decode cX12_swap 3 = .ok (.iload_n 1, 1) := by decide +kernel
theorem dX12_swap_4 : decode cX12_swap 4 = .ok (.iload_n 2, 1) := by decide +kernel
theorem dX12_swap_5 : decode cX12_swap 5 = .ok (.lconst 0, 1) := by decide +kernel
theorem dX12_swap_6 : decode cX12_swap 6 = .ok (.invokevirtual 303, 3) := by decide +kernel
theorem dX12_swap_9 : decode cX12_swap 9 = .ok (.ireturn, 1) := by decide +kernel
theorem dX12_file_0 : decode cX12_file 0 = .ok (.aload_n 0, 1) := by decide +kernel
theorem dX12_file_1 : decode cX12_file 1 = .ok (.bipush 7, 2) := by decide +kernel
theorem dX12_file_3 : decode cX12_file 3 = .ok (.iload_n 1, 1) := by decide +kernel
theorem dX12_file_4 : decode cX12_file 4 = .ok (.iload_n 2, 1) := by decide +kernel
theorem dX12_file_5 : decode cX12_file 5 = .ok (.lconst 0, 1) := by decide +kernel
theorem dX12_file_6 : decode cX12_file 6 = .ok (.invokevirtual 303, 3) := by decide +kernel
theorem dX12_file_9 : decode cX12_file 9 = .ok (.ireturn, 1) := by decide +kernel
theorem dX12_shelf_0 : decode cX12_shelf 0 = .ok (.aload_n 0, 1) := by decide +kernel
theorem dX12_shelf_1 : decode cX12_shelf 1 = .ok (.invokevirtual 151, 3) := by decide +kernel
theorem dX12_shelf_4 : decode cX12_shelf 4 = .ok (.ifCond .eq 49, 3) := by decide +kernel
theorem dX12_shelf_7 : decode cX12_shelf 7 = .ok (.iload_n 1, 1) := by decide +kernel
theorem dX12_shelf_8 : decode cX12_shelf 8 = .ok (.iconst 0, 1) := by decide +kernel
theorem dX12_shelf_9 : decode cX12_shelf 9 = .ok (.iconst 2, 1) := by decide +kernel
theorem dX12_shelf_10 : decode cX12_shelf 10 = .ok (.invokestatic 76, 3) := by decide +kernel
theorem dX12_shelf_13 : decode cX12_shelf 13 = .ok (.ifCond .eq 40, 3) := by decide +kernel
theorem dX12_shelf_16 : decode cX12_shelf 16 = .ok (.iload_n 2, 1) := by decide +kernel
theorem dX12_shelf_17 : decode cX12_shelf 17 = .ok (.iconst 0, 1) := by decide +kernel
theorem dX12_shelf_18 : decode cX12_shelf 18 = .ok (.aload_n 0, 1) := by decide +kernel
theorem dX12_shelf_19 : decode cX12_shelf 19 = .ok (.getfield 37, 3) := by decide +kernel
theorem dX12_shelf_22 : decode cX12_shelf 22 = .ok (.aload_n 0, 1) := by decide +kernel
theorem dX12_shelf_23 : decode cX12_shelf 23 = .ok (.iload_n 1, 1) := by decide +kernel
theorem dX12_shelf_24 : decode cX12_shelf 24 = .ok (.invokevirtual 246, 3) := by decide +kernel
theorem dX12_shelf_27 : decode cX12_shelf 27 = .ok (.iaload, 1) := by decide +kernel
theorem dX12_shelf_28 : decode cX12_shelf 28 = .ok (.iconst 1, 1) := by decide +kernel
theorem dX12_shelf_29 : decode cX12_shelf 29 = .ok (.isub, 1) := by decide +kernel
theorem dX12_shelf_30 : decode cX12_shelf 30 = .ok (.invokestatic 76, 3) := by decide +kernel
theorem dX12_shelf_33 : decode cX12_shelf 33 = .ok (.ifCond .eq 20, 3) := by decide +kernel
theorem dX12_shelf_36 : decode cX12_shelf 36 = .ok (.aload_n 0, 1) := by decide +kernel
theorem dX12_shelf_37 : decode cX12_shelf 37 = .ok (.getfield 37, 3) := by decide +kernel
theorem dX12_shelf_40 : decode cX12_shelf 40 = .ok (.aload_n 0, 1) := by decide +kernel
theorem dX12_shelf_41 : decode cX12_shelf 41 = .ok (.iload_n 1, 1) := by decide +kernel
theorem dX12_shelf_42 : decode cX12_shelf 42 = .ok (.invokevirtual 246, 3) := by decide +kernel
theorem dX12_shelf_45 : decode cX12_shelf 45 = .ok (.iconst 1, 1) := by decide +kernel
theorem dX12_shelf_46 : decode cX12_shelf 46 = .ok (.iadd, 1) := by decide +kernel
theorem dX12_shelf_47 : decode cX12_shelf 47 = .ok (.iload_n 2, 1) := by decide +kernel
theorem dX12_shelf_48 : decode cX12_shelf 48 = .ok (.iadd, 1) := by decide +kernel
theorem dX12_shelf_49 : decode cX12_shelf 49 = .ok (.iaload, 1) := by decide +kernel
theorem dX12_shelf_50 : decode cX12_shelf 50 = .ok (.goto 4, 3) := by decide +kernel
theorem dX12_shelf_53 : decode cX12_shelf 53 = .ok (.iconst (-1), 1) := by decide +kernel
theorem dX12_shelf_54 : decode cX12_shelf 54 = .ok (.ireturn, 1) := by decide +kernel
theorem dX12_tryOne_0 : decode cX12_tryOne 0 = .ok (.aload_n 0, 1) := by decide +kernel
theorem dX12_tryOne_1 : decode cX12_tryOne 1 = .ok (.iload_n 1, 1) := by decide +kernel
theorem dX12_tryOne_2 : decode cX12_tryOne 2 = .ok (.iload_n 2, 1) := by decide +kernel
theorem dX12_tryOne_3 : decode cX12_tryOne 3 = .ok (.iload_n 3, 1) := by decide +kernel
theorem dX12_tryOne_4 : decode cX12_tryOne 4 = .ok (.invokevirtual 296, 3) := by decide +kernel
theorem dX12_tryOne_7 : decode cX12_tryOne 7 = .ok (.iconst (-1), 1) := by decide +kernel
theorem dX12_tryOne_8 : decode cX12_tryOne 8 = .ok (.if_icmp .ne 12, 3) := by decide +kernel
theorem dX12_tryOne_11 : decode cX12_tryOne 11 = .ok (.aload_n 0, 1) := by decide +kernel
theorem dX12_tryOne_12 : decode cX12_tryOne 12 = .ok (.iload_n 1, 1) := by decide +kernel
theorem dX12_tryOne_13 : decode cX12_tryOne 13 = .ok (.iload_n 2, 1) := by decide +kernel
theorem dX12_tryOne_14 : decode cX12_tryOne 14 = .ok (.iload_n 3, 1) := by decide +kernel
theorem dX12_tryOne_15 : decode cX12_tryOne 15 = .ok (.lconst 0, 1) := by decide +kernel
theorem dX12_tryOne_16 : decode cX12_tryOne 16 = .ok (.invokevirtual 300, 3) := by decide +kernel
theorem dX12_tryOne_19 : decode cX12_tryOne 19 = .ok (.pop, 1) := by decide +kernel
theorem dX12_tryOne_20 : decode cX12_tryOne 20 = .ok (.return_, 1) := by decide +kernel
theorem dX12_drawYear_0 : decode cX12_drawYear 0 = .ok (.aload_n 0, 1) := by decide +kernel
theorem dX12_drawYear_1 : decode cX12_drawYear 1 = .ok (.bipush 8, 2) := by decide +kernel
theorem dX12_drawYear_3 : decode cX12_drawYear 3 = .ok (.invokevirtual 259, 3) := by decide +kernel
theorem dX12_drawYear_6 : decode cX12_drawYear 6 = .ok (.istore_n 1, 1) := by decide +kernel
theorem dX12_drawYear_7 : decode cX12_drawYear 7 = .ok (.iload_n 1, 1) := by decide +kernel
theorem dX12_drawYear_8 : decode cX12_drawYear 8 = .ok (.iconst 2, 1) := by decide +kernel
theorem dX12_drawYear_9 : decode cX12_drawYear 9 = .ok (.if_icmp .ge 13, 3) := by decide +kernel
theorem dX12_drawYear_12 : decode cX12_drawYear 12 = .ok (.aload_n 0, 1) := by decide +kernel
theorem dX12_drawYear_13 : decode cX12_drawYear 13 = .ok (.iconst 0, 1) := by decide +kernel
theorem dX12_drawYear_14 : decode cX12_drawYear 14 = .ok (.iconst 0, 1) := by decide +kernel
theorem dX12_drawYear_15 : decode cX12_drawYear 15 = .ok (.iconst 0, 1) := by decide +kernel
theorem dX12_drawYear_16 : decode cX12_drawYear 16 = .ok (.invokevirtual 306, 3) := by decide +kernel
theorem dX12_drawYear_19 : decode cX12_drawYear 19 = .ok (.goto 100, 3) := by decide +kernel
theorem dX12_drawYear_22 : decode cX12_drawYear 22 = .ok (.iload_n 1, 1) := by decide +kernel
theorem dX12_drawYear_23 : decode cX12_drawYear 23 = .ok (.iconst 2, 1) := by decide +kernel
theorem dX12_drawYear_24 : decode cX12_drawYear 24 = .ok (.if_icmp .ne 13, 3) := by decide +kernel
theorem dX12_drawYear_27 : decode cX12_drawYear 27 = .ok (.aload_n 0, 1) := by decide +kernel
theorem dX12_drawYear_28 : decode cX12_drawYear 28 = .ok (.iconst 1, 1) := by decide +kernel
theorem dX12_drawYear_29 : decode cX12_drawYear 29 = .ok (.iconst 0, 1) := by decide +kernel
theorem dX12_drawYear_30 : decode cX12_drawYear 30 = .ok (.iconst 0, 1) := by decide +kernel
theorem dX12_drawYear_31 : decode cX12_drawYear 31 = .ok (.invokevirtual 306, 3) := by decide +kernel
theorem dX12_drawYear_34 : decode cX12_drawYear 34 = .ok (.goto 85, 3) := by decide +kernel
theorem dX12_drawYear_37 : decode cX12_drawYear 37 = .ok (.iload_n 1, 1) := by decide +kernel
theorem dX12_drawYear_38 : decode cX12_drawYear 38 = .ok (.iconst 5, 1) := by decide +kernel
theorem dX12_drawYear_39 : decode cX12_drawYear 39 = .ok (.if_icmp .ge 29, 3) := by decide +kernel
theorem dX12_drawYear_42 : decode cX12_drawYear 42 = .ok (.aload_n 0, 1) := by decide +kernel
theorem dX12_drawYear_43 : decode cX12_drawYear 43 = .ok (.iload_n 1, 1) := by decide +kernel
theorem dX12_drawYear_44 : decode cX12_drawYear 44 = .ok (.iconst 3, 1) := by decide +kernel
theorem dX12_drawYear_45 : decode cX12_drawYear 45 = .ok (.if_icmp .ne 7, 3) := by decide +kernel
theorem dX12_drawYear_48 : decode cX12_drawYear 48 = .ok (.iconst 2, 1) := by decide +kernel
theorem dX12_drawYear_49 : decode cX12_drawYear 49 = .ok (.goto 4, 3) := by decide +kernel
theorem dX12_drawYear_52 : decode cX12_drawYear 52 = .ok (.iconst 3, 1) := by decide +kernel
theorem dX12_drawYear_53 : decode cX12_drawYear 53 = .ok (.aload_n 0, 1) := by decide +kernel
theorem dX12_drawYear_54 : decode cX12_drawYear 54 = .ok (.aload_n 0, 1) := by decide +kernel
theorem dX12_drawYear_55 : decode cX12_drawYear 55 = .ok (.getfield 148, 3) := by decide +kernel
theorem dX12_drawYear_58 : decode cX12_drawYear 58 = .ok (.invokevirtual 259, 3) := by decide +kernel
theorem dX12_drawYear_61 : decode cX12_drawYear 61 = .ok (.iconst 0, 1) := by decide +kernel
theorem dX12_drawYear_62 : decode cX12_drawYear 62 = .ok (.invokevirtual 306, 3) := by decide +kernel
theorem dX12_drawYear_65 : decode cX12_drawYear 65 = .ok (.goto 54, 3) := by decide +kernel
theorem dX12_drawYear_68 : decode cX12_drawYear 68 = .ok (.iload_n 1, 1) := by decide +kernel
theorem dX12_drawYear_69 : decode cX12_drawYear 69 = .ok (.bipush 7, 2) := by decide +kernel
theorem dX12_drawYear_71 : decode cX12_drawYear 71 = .ok (.if_icmp .ge 36, 3) := by decide +kernel
theorem dX12_drawYear_74 : decode cX12_drawYear 74 = .ok (.aload_n 0, 1) := by decide +kernel
theorem dX12_drawYear_75 : decode cX12_drawYear 75 = .ok (.aload_n 0, 1) := by decide +kernel
theorem dX12_drawYear_76 : decode cX12_drawYear 76 = .ok (.getfield 148, 3) := by decide +kernel
theorem dX12_drawYear_79 : decode cX12_drawYear 79 = .ok (.invokevirtual 259, 3) := by decide +kernel
theorem dX12_drawYear_82 : decode cX12_drawYear 82 = .ok (.istore_n 2, 1) := by decide +kernel
theorem dX12_drawYear_83 : decode cX12_drawYear 83 = .ok (.aload_n 0, 1) := by decide +kernel
theorem dX12_drawYear_84 : decode cX12_drawYear 84 = .ok (.iconst 4, 1) := by decide +kernel
theorem dX12_drawYear_85 : decode cX12_drawYear 85 = .ok (.iload_n 2, 1) := by decide +kernel
theorem dX12_drawYear_86 : decode cX12_drawYear 86 = .ok (.aload_n 0, 1) := by decide +kernel
theorem dX12_drawYear_87 : decode cX12_drawYear 87 = .ok (.iload_n 2, 1) := by decide +kernel
theorem dX12_drawYear_88 : decode cX12_drawYear 88 = .ok (.invokevirtual 222, 3) := by decide +kernel
theorem dX12_drawYear_91 : decode cX12_drawYear 91 = .ok (.aload_n 0, 1) := by decide +kernel
theorem dX12_drawYear_92 : decode cX12_drawYear 92 = .ok (.aload_n 0, 1) := by decide +kernel
theorem dX12_drawYear_93 : decode cX12_drawYear 93 = .ok (.iload_n 2, 1) := by decide +kernel
theorem dX12_drawYear_94 : decode cX12_drawYear 94 = .ok (.invokevirtual 225, 3) := by decide +kernel
theorem dX12_drawYear_97 : decode cX12_drawYear 97 = .ok (.invokevirtual 259, 3) := by decide +kernel
theorem dX12_drawYear_100 : decode cX12_drawYear 100 = .ok (.iadd, 1) := by decide +kernel
theorem dX12_drawYear_101 : decode cX12_drawYear 101 = .ok (.invokevirtual 306, 3) := by decide +kernel
theorem dX12_drawYear_104 : decode cX12_drawYear 104 = .ok (.goto 15, 3) := by decide +kernel
theorem dX12_drawYear_107 : decode cX12_drawYear 107 = .ok (.aload_n 0, 1) := by decide +kernel
theorem dX12_drawYear_108 : decode cX12_drawYear 108 = .ok (.iconst 5, 1) := by decide +kernel
theorem dX12_drawYear_109 : decode cX12_drawYear 109 = .ok (.aload_n 0, 1) := by decide +kernel
theorem dX12_drawYear_110 : decode cX12_drawYear 110 = .ok (.bipush 30, 2) := by decide +kernel
theorem dX12_drawYear_112 : decode cX12_drawYear 112 = .ok (.invokevirtual 259, 3) := by decide +kernel
theorem dX12_drawYear_115 : decode cX12_drawYear 115 = .ok (.iconst 0, 1) := by decide +kernel
theorem dX12_drawYear_116 : decode cX12_drawYear 116 = .ok (.invokevirtual 306, 3) := by decide +kernel
theorem dX12_drawYear_119 : decode cX12_drawYear 119 = .ok (.return_, 1) := by decide +kernel
theorem dX12_years_0 : decode cX12_years 0 = .ok (.aload_n 0, 1) := by decide +kernel
theorem dX12_years_1 : decode cX12_years 1 = .ok (.invokevirtual 151, 3) := by decide +kernel
theorem dX12_years_4 : decode cX12_years 4 = .ok (.ifCond .eq 13, 3) := by decide +kernel
theorem dX12_years_7 : decode cX12_years 7 = .ok (.iload_n 1, 1) := by decide +kernel
theorem dX12_years_8 : decode cX12_years 8 = .ok (.iconst 1, 1) := by decide +kernel
theorem dX12_years_9 : decode cX12_years 9 = .ok (.bipush 40, 2) := by decide +kernel
theorem dX12_years_11 : decode cX12_years 11 = .ok (.invokestatic 76, 3) := by decide +kernel
theorem dX12_years_14 : decode cX12_years 14 = .ok (.ifCond .ne 5, 3) := by decide +kernel
theorem dX12_years_17 : decode cX12_years 17 = .ok (.iconst (-1), 1) := by decide +kernel
theorem dX12_years_18 : decode cX12_years 18 = .ok (.ireturn, 1) := by decide +kernel
theorem dX12_years_19 : decode cX12_years 19 = .ok (.aload_n 0, 1) := by decide +kernel
theorem dX12_years_20 : decode cX12_years 20 = .ok (.lload_n 2, 1) := by decide +kernel
theorem dX12_years_21 : decode cX12_years 21 = .ok (.putfield 252, 3) := by decide +kernel
theorem dX12_years_24 : decode cX12_years 24 = .ok (.iconst 0, 1) := by decide +kernel
theorem dX12_years_25 : decode cX12_years 25 = .ok (.istore 4, 2) := by decide +kernel
theorem dX12_years_27 : decode cX12_years 27 = .ok (.iload 4, 2) := by decide +kernel
theorem dX12_years_29 : decode cX12_years 29 = .ok (.iload_n 1, 1) := by decide +kernel
theorem dX12_years_30 : decode cX12_years 30 = .ok (.if_icmp .ge 13, 3) := by decide +kernel
theorem dX12_years_33 : decode cX12_years 33 = .ok (.aload_n 0, 1) := by decide +kernel
theorem dX12_years_34 : decode cX12_years 34 = .ok (.invokevirtual 310, 3) := by decide +kernel
theorem dX12_years_37 : decode cX12_years 37 = .ok (.iinc 4 1, 3) := by decide +kernel
theorem dX12_years_40 : decode cX12_years 40 = .ok (.goto (-13), 3) := by decide +kernel
theorem dX12_years_43 : decode cX12_years 43 = .ok (.aload_n 0, 1) := by decide +kernel
theorem dX12_years_44 : decode cX12_years 44 = .ok (.invokevirtual 219, 3) := by decide +kernel
theorem dX12_years_47 : decode cX12_years 47 = .ok (.ireturn, 1) := by decide +kernel
theorem dX12_status_0 : decode cX12_status 0 = .ok (.iload_n 1, 1) := by decide +kernel
theorem dX12_status_1 : decode cX12_status 1 = .ok (.iconst 0, 1) := by decide +kernel
theorem dX12_status_2 : decode cX12_status 2 = .ok (.iconst 3, 1) := by decide +kernel
theorem dX12_status_3 : decode cX12_status 3 = .ok (.invokestatic 76, 3) := by decide +kernel
theorem dX12_status_6 : decode cX12_status 6 = .ok (.ifCond .eq 12, 3) := by decide +kernel
theorem dX12_status_9 : decode cX12_status 9 = .ok (.aload_n 0, 1) := by decide +kernel
theorem dX12_status_10 : decode cX12_status 10 = .ok (.getfield 40, 3) := by decide +kernel
theorem dX12_status_13 : decode cX12_status 13 = .ok (.iload_n 1, 1) := by decide +kernel
theorem dX12_status_14 : decode cX12_status 14 = .ok (.iaload, 1) := by decide +kernel
theorem dX12_status_15 : decode cX12_status 15 = .ok (.goto 4, 3) := by decide +kernel
theorem dX12_status_18 : decode cX12_status 18 = .ok (.iconst (-1), 1) := by decide +kernel
theorem dX12_status_19 : decode cX12_status 19 = .ok (.ireturn, 1) := by decide +kernel
theorem dX12_undo_0 : decode cX12_undo 0 = .ok (.aload_n 0, 1) := by decide +kernel
theorem dX12_undo_1 : decode cX12_undo 1 = .ok (.getfield 165, 3) := by decide +kernel
theorem dX12_undo_4 : decode cX12_undo 4 = .ok (.ifCond .ne 5, 3) := by decide +kernel
theorem dX12_undo_7 : decode cX12_undo 7 = .ok (.iconst (-1), 1) := by decide +kernel
theorem dX12_undo_8 : decode cX12_undo 8 = .ok (.ireturn, 1) := by decide +kernel
theorem dX12_undo_9 : decode cX12_undo 9 = .ok (.aload_n 0, 1) := by decide +kernel
theorem dX12_undo_10 : decode cX12_undo 10 = .ok (.dup, 1) := by decide +kernel
theorem dX12_undo_11 : decode cX12_undo 11 = .ok (.getfield 165, 3) := by decide +kernel
theorem dX12_undo_14 : decode cX12_undo 14 = .ok (.iconst 1, 1) := by decide +kernel
theorem dX12_undo_15 : decode cX12_undo 15 = .ok (.isub, 1) := by decide +kernel
theorem dX12_undo_16 : decode cX12_undo 16 = .ok (.putfield 165, 3) := by decide +kernel
theorem dX12_undo_19 : decode cX12_undo 19 = .ok (.iconst 0, 1) := by decide +kernel
theorem dX12_undo_20 : decode cX12_undo 20 = .ok (.istore_n 1, 1) := by decide +kernel
theorem dX12_undo_21 : decode cX12_undo 21 = .ok (.iload_n 1, 1) := by decide +kernel
theorem dX12_undo_22 : decode cX12_undo 22 = .ok (.sipush 245, 3) := by decide +kernel
theorem dX12_undo_25 : decode cX12_undo 25 = .ok (.if_icmp .ge 30, 3) := by decide +kernel
theorem dX12_undo_28 : decode cX12_undo 28 = .ok (.aload_n 0, 1) := by decide +kernel
theorem dX12_undo_29 : decode cX12_undo 29 = .ok (.getfield 37, 3) := by decide +kernel
theorem dX12_undo_32 : decode cX12_undo 32 = .ok (.iload_n 1, 1) := by decide +kernel
theorem dX12_undo_33 : decode cX12_undo 33 = .ok (.aload_n 0, 1) := by decide +kernel
theorem dX12_undo_34 : decode cX12_undo 34 = .ok (.getfield 50, 3) := by decide +kernel
theorem dX12_undo_37 : decode cX12_undo 37 = .ok (.sipush 245, 3) := by decide +kernel
theorem dX12_undo_40 : decode cX12_undo 40 = .ok (.aload_n 0, 1) := by decide +kernel
theorem dX12_undo_41 : decode cX12_undo 41 = .ok (.getfield 165, 3) := by decide +kernel
theorem dX12_undo_44 : decode cX12_undo 44 = .ok (.imul, 1) := by decide +kernel
theorem dX12_undo_45 : decode cX12_undo 45 = .ok (.iload_n 1, 1) := by decide +kernel
theorem dX12_undo_46 : decode cX12_undo 46 = .ok (.iadd, 1) := by decide +kernel
theorem dX12_undo_47 : decode cX12_undo 47 = .ok (.iaload, 1) := by decide +kernel
theorem dX12_undo_48 : decode cX12_undo 48 = .ok (.iastore, 1) := by decide +kernel
theorem dX12_undo_49 : decode cX12_undo 49 = .ok (.iinc 1 1, 3) := by decide +kernel
theorem dX12_undo_52 : decode cX12_undo 52 = .ok (.goto (-31), 3) := by decide +kernel
theorem dX12_undo_55 : decode cX12_undo 55 = .ok (.aload_n 0, 1) := by decide +kernel
theorem dX12_undo_56 : decode cX12_undo 56 = .ok (.getfield 165, 3) := by decide +kernel
theorem dX12_undo_59 : decode cX12_undo 59 = .ok (.ireturn, 1) := by decide +kernel
theorem dX12_log_0 : decode cX12_log 0 = .ok (.iload_n 1, 1) := by decide +kernel
theorem dX12_log_1 : decode cX12_log 1 = .ok (.iconst 0, 1) := by decide +kernel
theorem dX12_log_2 : decode cX12_log 2 = .ok (.aload_n 0, 1) := by decide +kernel
theorem dX12_log_3 : decode cX12_log 3 = .ok (.getfield 37, 3) := by decide +kernel
theorem dX12_log_6 : decode cX12_log 6 = .ok (.bipush 64, 2) := by decide +kernel
theorem dX12_log_8 : decode cX12_log 8 = .ok (.iaload, 1) := by decide +kernel
theorem dX12_log_9 : decode cX12_log 9 = .ok (.iconst 1, 1) := by decide +kernel
theorem dX12_log_10 : decode cX12_log 10 = .ok (.isub, 1) := by decide +kernel
theorem dX12_log_11 : decode cX12_log 11 = .ok (.invokestatic 76, 3) := by decide +kernel
theorem dX12_log_14 : decode cX12_log 14 = .ok (.ifCond .eq 38, 3) := by decide +kernel
theorem dX12_log_17 : decode cX12_log 17 = .ok (.iload_n 2, 1) := by decide +kernel
theorem dX12_log_18 : decode cX12_log 18 = .ok (.iconst 0, 1) := by decide +kernel
theorem dX12_log_19 : decode cX12_log 19 = .ok (.iconst 2, 1) := by decide +kernel
theorem dX12_log_20 : decode cX12_log 20 = .ok (.invokestatic 76, 3) := by decide +kernel
theorem dX12_log_23 : decode cX12_log 23 = .ok (.ifCond .eq 29, 3) := by decide +kernel
theorem dX12_log_26 : decode cX12_log 26 = .ok (.aload_n 0, 1) := by decide +kernel
theorem dX12_log_27 : decode cX12_log 27 = .ok (.getfield 37, 3) := by decide +kernel
theorem dX12_log_30 : decode cX12_log 30 = .ok (.bipush 65, 2) := by decide +kernel
theorem dX12_log_32 : decode cX12_log 32 = .ok (.iconst 3, 1) := by decide +kernel
theorem dX12_log_33 : decode cX12_log 33 = .ok (.aload_n 0, 1) := by decide +kernel
theorem dX12_log_34 : decode cX12_log 34 = .ok (.getfield 37, 3) := by decide +kernel
theorem dX12_log_37 : decode cX12_log 37 = .ok (.bipush 64, 2) := by decide +kernel
theorem dX12_log_39 : decode cX12_log 39 = .ok (.iaload, 1) := by decide +kernel
theorem dX12_log_40 : decode cX12_log 40 = .ok (.iconst 1, 1) := by decide +kernel
theorem dX12_log_41 : decode cX12_log 41 = .ok (.isub, 1) := by decide +kernel
theorem dX12_log_42 : decode cX12_log 42 = .ok (.iload_n 1, 1) := by decide +kernel
theorem dX12_log_43 : decode cX12_log 43 = .ok (.isub, 1) := by decide +kernel
theorem dX12_log_44 : decode cX12_log 44 = .ok (.imul, 1) := by decide +kernel
theorem dX12_log_45 : decode cX12_log 45 = .ok (.iadd, 1) := by decide +kernel
theorem dX12_log_46 : decode cX12_log 46 = .ok (.iload_n 2, 1) := by decide +kernel
theorem dX12_log_47 : decode cX12_log 47 = .ok (.iadd, 1) := by decide +kernel
theorem dX12_log_48 : decode cX12_log 48 = .ok (.iaload, 1) := by decide +kernel
theorem dX12_log_49 : decode cX12_log 49 = .ok (.goto 6, 3) := by decide +kernel
theorem dX12_log_52 : decode cX12_log 52 = .ok (.ldc_w 313, 3) := by decide +kernel
theorem dX12_log_55 : decode cX12_log 55 = .ok (.ireturn, 1) := by decide +kernel
theorem dX12_rule_0 : decode cX12_rule 0 = .ok (.aload_n 0, 1) := by decide +kernel
theorem dX12_rule_1 : decode cX12_rule 1 = .ok (.invokevirtual 151, 3) := by decide +kernel
theorem dX12_rule_4 : decode cX12_rule 4 = .ok (.ifCond .eq 12, 3) := by decide +kernel
theorem dX12_rule_7 : decode cX12_rule 7 = .ok (.iload_n 1, 1) := by decide +kernel
theorem dX12_rule_8 : decode cX12_rule 8 = .ok (.iconst 0, 1) := by decide +kernel
theorem dX12_rule_9 : decode cX12_rule 9 = .ok (.iconst 4, 1) := by decide +kernel
theorem dX12_rule_10 : decode cX12_rule 10 = .ok (.invokestatic 76, 3) := by decide +kernel
theorem dX12_rule_13 : decode cX12_rule 13 = .ok (.ifCond .ne 5, 3) := by decide +kernel
theorem dX12_rule_16 : decode cX12_rule 16 = .ok (.iconst (-1), 1) := by decide +kernel
theorem dX12_rule_17 : decode cX12_rule 17 = .ok (.ireturn, 1) := by decide +kernel
theorem dX12_rule_18 : decode cX12_rule 18 = .ok (.iload_n 1, 1) := by decide +kernel
theorem dX12_rule_19 : decode cX12_rule 19 = .ok (.iconst 4, 1) := by decide +kernel
theorem dX12_rule_20 : decode cX12_rule 20 = .ok (.if_icmp .ne 10, 3) := by decide +kernel
theorem dX12_rule_23 : decode cX12_rule 23 = .ok (.aload_n 0, 1) := by decide +kernel
theorem dX12_rule_24 : decode cX12_rule 24 = .ok (.invokevirtual 154, 3) := by decide +kernel
theorem dX12_rule_27 : decode cX12_rule 27 = .ok (.goto 24, 3) := by decide +kernel
theorem dX12_rule_30 : decode cX12_rule 30 = .ok (.iload_n 1, 1) := by decide +kernel
theorem dX12_rule_31 : decode cX12_rule 31 = .ok (.iconst 2, 1) := by decide +kernel
theorem dX12_rule_32 : decode cX12_rule 32 = .ok (.if_icmp .ne 13, 3) := by decide +kernel
theorem dX12_rule_35 : decode cX12_rule 35 = .ok (.aload_n 0, 1) := by decide +kernel
theorem dX12_rule_36 : decode cX12_rule 36 = .ok (.getfield 37, 3) := by decide +kernel
theorem dX12_rule_39 : decode cX12_rule 39 = .ok (.bipush 30, 2) := by decide +kernel
theorem dX12_rule_41 : decode cX12_rule 41 = .ok (.iaload, 1) := by decide +kernel
theorem dX12_rule_42 : decode cX12_rule 42 = .ok (.goto 9, 3) := by decide +kernel
theorem dX12_rule_45 : decode cX12_rule 45 = .ok (.aload_n 0, 1) := by decide +kernel
theorem dX12_rule_46 : decode cX12_rule 46 = .ok (.getfield 22, 3) := by decide +kernel
theorem dX12_rule_49 : decode cX12_rule 49 = .ok (.iload_n 1, 1) := by decide +kernel
theorem dX12_rule_50 : decode cX12_rule 50 = .ok (.iaload, 1) := by decide +kernel
theorem dX12_rule_51 : decode cX12_rule 51 = .ok (.ireturn, 1) := by decide +kernel
theorem dX12_weight_0 : decode cX12_weight 0 = .ok (.aload_n 0, 1) := by decide +kernel
theorem dX12_weight_1 : decode cX12_weight 1 = .ok (.invokevirtual 151, 3) := by decide +kernel
theorem dX12_weight_4 : decode cX12_weight 4 = .ok (.ifCond .eq 22, 3) := by decide +kernel
theorem dX12_weight_7 : decode cX12_weight 7 = .ok (.iload_n 1, 1) := by decide +kernel
theorem dX12_weight_8 : decode cX12_weight 8 = .ok (.iconst 1, 1) := by decide +kernel
theorem dX12_weight_9 : decode cX12_weight 9 = .ok (.bipush 6, 2) := by decide +kernel
theorem dX12_weight_11 : decode cX12_weight 11 = .ok (.invokestatic 76, 3) := by decide +kernel
theorem dX12_weight_14 : decode cX12_weight 14 = .ok (.ifCond .eq 12, 3) := by decide +kernel
theorem dX12_weight_17 : decode cX12_weight 17 = .ok (.aload_n 0, 1) := by decide +kernel
theorem dX12_weight_18 : decode cX12_weight 18 = .ok (.getfield 28, 3) := by decide +kernel
theorem dX12_weight_21 : decode cX12_weight 21 = .ok (.iload_n 1, 1) := by decide +kernel
theorem dX12_weight_22 : decode cX12_weight 22 = .ok (.iaload, 1) := by decide +kernel
theorem dX12_weight_23 : decode cX12_weight 23 = .ok (.goto 4, 3) := by decide +kernel
theorem dX12_weight_26 : decode cX12_weight 26 = .ok (.iconst (-1), 1) := by decide +kernel
theorem dX12_weight_27 : decode cX12_weight 27 = .ok (.ireturn, 1) := by decide +kernel
theorem dX12_user_0 : decode cX12_user 0 = .ok (.aload_n 0, 1) := by decide +kernel
theorem dX12_user_1 : decode cX12_user 1 = .ok (.aload_n 0, 1) := by decide +kernel
theorem dX12_user_2 : decode cX12_user 2 = .ok (.iload_n 1, 1) := by decide +kernel
theorem dX12_user_3 : decode cX12_user 3 = .ok (.invokevirtual 228, 3) := by decide +kernel
theorem dX12_user_6 : decode cX12_user 6 = .ok (.ifCond .eq 16, 3) := by decide +kernel
theorem dX12_user_9 : decode cX12_user 9 = .ok (.iload_n 2, 1) := by decide +kernel
theorem dX12_user_10 : decode cX12_user 10 = .ok (.iconst 0, 1) := by decide +kernel
theorem dX12_user_11 : decode cX12_user 11 = .ok (.iconst 5, 1) := by decide +kernel
theorem dX12_user_12 : decode cX12_user 12 = .ok (.invokestatic 76, 3) := by decide +kernel
theorem dX12_user_15 : decode cX12_user 15 = .ok (.ifCond .eq 7, 3) := by decide +kernel
theorem dX12_user_18 : decode cX12_user 18 = .ok (.iconst 0, 1) := by decide +kernel
theorem dX12_user_19 : decode cX12_user 19 = .ok (.goto 4, 3) := by decide +kernel
theorem dX12_user_22 : decode cX12_user 22 = .ok (.iconst 1, 1) := by decide +kernel
theorem dX12_user_23 : decode cX12_user 23 = .ok (.putfield 65, 3) := by decide +kernel
theorem dX12_user_26 : decode cX12_user 26 = .ok (.aload_n 0, 1) := by decide +kernel
theorem dX12_user_27 : decode cX12_user 27 = .ok (.getfield 65, 3) := by decide +kernel
theorem dX12_user_30 : decode cX12_user 30 = .ok (.iconst 1, 1) := by decide +kernel
theorem dX12_user_31 : decode cX12_user 31 = .ok (.if_icmp .ne 5, 3) := by decide +kernel
theorem dX12_user_34 : decode cX12_user 34 = .ok (.iconst 0, 1) := by decide +kernel
theorem dX12_user_35 : decode cX12_user 35 = .ok (.ireturn, 1) := by decide +kernel
theorem dX12_user_36 : decode cX12_user 36 = .ok (.iload_n 2, 1) := by decide +kernel
theorem dX12_user_37 : decode cX12_user 37 = .ok (.tableswitch 48 3 5 #[27, 33, 42], 27) := by decide +kernel
theorem dX12_user_64 : decode cX12_user 64 = .ok (.aload_n 0, 1) := by decide +kernel
theorem dX12_user_65 : decode cX12_user 65 = .ok (.iload_n 1, 1) := by decide +kernel
theorem dX12_user_66 : decode cX12_user 66 = .ok (.invokevirtual 270, 3) := by decide +kernel
theorem dX12_user_69 : decode cX12_user 69 = .ok (.ireturn, 1) := by decide +kernel
theorem dX12_user_70 : decode cX12_user 70 = .ok (.aload_n 0, 1) := by decide +kernel
theorem dX12_user_71 : decode cX12_user 71 = .ok (.getfield 37, 3) := by decide +kernel
theorem dX12_user_74 : decode cX12_user 74 = .ok (.iconst 0, 1) := by decide +kernel
theorem dX12_user_75 : decode cX12_user 75 = .ok (.iload_n 1, 1) := by decide +kernel
theorem dX12_user_76 : decode cX12_user 76 = .ok (.iadd, 1) := by decide +kernel
theorem dX12_user_77 : decode cX12_user 77 = .ok (.iaload, 1) := by decide +kernel
theorem dX12_user_78 : decode cX12_user 78 = .ok (.ireturn, 1) := by decide +kernel
theorem dX12_user_79 : decode cX12_user 79 = .ok (.aload_n 0, 1) := by decide +kernel
theorem dX12_user_80 : decode cX12_user 80 = .ok (.iload_n 1, 1) := by decide +kernel
theorem dX12_user_81 : decode cX12_user 81 = .ok (.invokevirtual 314, 3) := by decide +kernel
theorem dX12_user_84 : decode cX12_user 84 = .ok (.ireturn, 1) := by decide +kernel
theorem dX12_user_85 : decode cX12_user 85 = .ok (.aload_n 0, 1) := by decide +kernel
theorem dX12_user_86 : decode cX12_user 86 = .ok (.getfield 25, 3) := by decide +kernel
theorem dX12_user_89 : decode cX12_user 89 = .ok (.iconst 5, 1) := by decide +kernel
theorem dX12_user_90 : decode cX12_user 90 = .ok (.iload_n 1, 1) := by decide +kernel
theorem dX12_user_91 : decode cX12_user 91 = .ok (.imul, 1) := by decide +kernel
theorem dX12_user_92 : decode cX12_user 92 = .ok (.iload_n 2, 1) := by decide +kernel
theorem dX12_user_93 : decode cX12_user 93 = .ok (.iadd, 1) := by decide +kernel
theorem dX12_user_94 : decode cX12_user 94 = .ok (.iaload, 1) := by decide +kernel
theorem dX12_user_95 : decode cX12_user 95 = .ok (.ireturn, 1) := by decide +kernel
theorem dX12_copies_0 : decode cX12_copies 0 = .ok (.aload_n 0, 1) := by decide +kernel
theorem dX12_copies_1 : decode cX12_copies 1 = .ok (.iload_n 1, 1) := by decide +kernel
theorem dX12_copies_2 : decode cX12_copies 2 = .ok (.invokevirtual 228, 3) := by decide +kernel
theorem dX12_copies_5 : decode cX12_copies 5 = .ok (.ifCond .eq 30, 3) := by decide +kernel
theorem dX12_copies_8 : decode cX12_copies 8 = .ok (.aload_n 0, 1) := by decide +kernel
theorem dX12_copies_9 : decode cX12_copies 9 = .ok (.getfield 37, 3) := by decide +kernel
theorem dX12_copies_12 : decode cX12_copies 12 = .ok (.bipush 20, 2) := by decide +kernel
theorem dX12_copies_14 : decode cX12_copies 14 = .ok (.iload_n 1, 1) := by decide +kernel
theorem dX12_copies_15 : decode cX12_copies 15 = .ok (.iadd, 1) := by decide +kernel
theorem dX12_copies_16 : decode cX12_copies 16 = .ok (.iaload, 1) := by decide +kernel
theorem dX12_copies_17 : decode cX12_copies 17 = .ok (.i2l, 1) := by decide +kernel
theorem dX12_copies_18 : decode cX12_copies 18 = .ok (.bipush 24, 2) := by decide +kernel
theorem dX12_copies_20 : decode cX12_copies 20 = .ok (.lshl, 1) := by decide +kernel
theorem dX12_copies_21 : decode cX12_copies 21 = .ok (.aload_n 0, 1) := by decide +kernel
theorem dX12_copies_22 : decode cX12_copies 22 = .ok (.getfield 37, 3) := by decide +kernel
theorem dX12_copies_25 : decode cX12_copies 25 = .ok (.bipush 10, 2) := by decide +kernel
theorem dX12_copies_27 : decode cX12_copies 27 = .ok (.iload_n 1, 1) := by decide +kernel
theorem dX12_copies_28 : decode cX12_copies 28 = .ok (.iadd, 1) := by decide +kernel
theorem dX12_copies_29 : decode cX12_copies 29 = .ok (.iaload, 1) := by decide +kernel
theorem dX12_copies_30 : decode cX12_copies 30 = .ok (.i2l, 1) := by decide +kernel
theorem dX12_copies_31 : decode cX12_copies 31 = .ok (.lor, 1) := by decide +kernel
theorem dX12_copies_32 : decode cX12_copies 32 = .ok (.goto 4, 3) := by decide +kernel
theorem dX12_copies_35 : decode cX12_copies 35 = .ok (.lconst 0, 1) := by decide +kernel
theorem dX12_copies_36 : decode cX12_copies 36 = .ok (.lreturn, 1) := by decide +kernel
theorem dX12_strength_0 : decode cX12_strength 0 = .ok (.aload_n 0, 1) := by decide +kernel
theorem dX12_strength_1 : decode cX12_strength 1 = .ok (.iload_n 1, 1) := by decide +kernel
theorem dX12_strength_2 : decode cX12_strength 2 = .ok (.invokevirtual 228, 3) := by decide +kernel
theorem dX12_strength_5 : decode cX12_strength 5 = .ok (.ifCond .eq 15, 3) := by decide +kernel
theorem dX12_strength_8 : decode cX12_strength 8 = .ok (.aload_n 0, 1) := by decide +kernel
theorem dX12_strength_9 : decode cX12_strength 9 = .ok (.getfield 43, 3) := by decide +kernel
theorem dX12_strength_12 : decode cX12_strength 12 = .ok (.iload_n 1, 1) := by decide +kernel
theorem dX12_strength_13 : decode cX12_strength 13 = .ok (.faload, 1) := by decide +kernel
theorem dX12_strength_14 : decode cX12_strength 14 = .ok (.invokestatic 317, 3) := by decide +kernel
theorem dX12_strength_17 : decode cX12_strength 17 = .ok (.goto 4, 3) := by decide +kernel
theorem dX12_strength_20 : decode cX12_strength 20 = .ok (.iconst (-1), 1) := by decide +kernel
theorem dX12_strength_21 : decode cX12_strength 21 = .ok (.ireturn, 1) := by decide +kernel
theorem dX12_isAsked_0 : decode cX12_isAsked 0 = .ok (.aload_n 0, 1) := by decide +kernel
theorem dX12_isAsked_1 : decode cX12_isAsked 1 = .ok (.iload_n 1, 1) := by decide +kernel
theorem dX12_isAsked_2 : decode cX12_isAsked 2 = .ok (.invokevirtual 228, 3) := by decide +kernel
theorem dX12_isAsked_5 : decode cX12_isAsked 5 = .ok (.ifCond .eq 32, 3) := by decide +kernel
theorem dX12_isAsked_8 : decode cX12_isAsked 8 = .ok (.aload_n 0, 1) := by decide +kernel
theorem dX12_isAsked_9 : decode cX12_isAsked 9 = .ok (.iload_n 2, 1) := by decide +kernel
theorem dX12_isAsked_10 : decode cX12_isAsked 10 = .ok (.invokevirtual 231, 3) := by decide +kernel
theorem dX12_isAsked_13 : decode cX12_isAsked 13 = .ok (.ifCond .eq 24, 3) := by decide +kernel
theorem dX12_isAsked_16 : decode cX12_isAsked 16 = .ok (.aload_n 0, 1) := by decide +kernel
theorem dX12_isAsked_17 : decode cX12_isAsked 17 = .ok (.iload_n 1, 1) := by decide +kernel
theorem dX12_isAsked_18 : decode cX12_isAsked 18 = .ok (.invokevirtual 178, 3) := by decide +kernel
theorem dX12_isAsked_21 : decode cX12_isAsked 21 = .ok (.ifCond .eq 16, 3) := by decide +kernel
theorem dX12_isAsked_24 : decode cX12_isAsked 24 = .ok (.aload_n 0, 1) := by decide +kernel
theorem dX12_isAsked_25 : decode cX12_isAsked 25 = .ok (.iload_n 1, 1) := by decide +kernel
theorem dX12_isAsked_26 : decode cX12_isAsked 26 = .ok (.iload_n 2, 1) := by decide +kernel
theorem dX12_isAsked_27 : decode cX12_isAsked 27 = .ok (.invokevirtual 181, 3) := by decide +kernel
theorem dX12_isAsked_30 : decode cX12_isAsked 30 = .ok (.ifCond .eq 7, 3) := by decide +kernel
theorem dX12_isAsked_33 : decode cX12_isAsked 33 = .ok (.iconst 1, 1) := by decide +kernel
theorem dX12_isAsked_34 : decode cX12_isAsked 34 = .ok (.goto 4, 3) := by decide +kernel
theorem dX12_isAsked_37 : decode cX12_isAsked 37 = .ok (.iconst 0, 1) := by decide +kernel
theorem dX12_isAsked_38 : decode cX12_isAsked 38 = .ok (.ireturn, 1) := by decide +kernel
theorem dX12_din_0 : decode cX12_din 0 = .ok (.aload_n 0, 1) := by decide +kernel
theorem dX12_din_1 : decode cX12_din 1 = .ok (.iload_n 1, 1) := by decide +kernel
theorem dX12_din_2 : decode cX12_din 2 = .ok (.iload_n 2, 1) := by decide +kernel
theorem dX12_din_3 : decode cX12_din 3 = .ok (.invokevirtual 323, 3) := by decide +kernel
theorem dX12_din_6 : decode cX12_din 6 = .ok (.ifCond .eq 15, 3) := by decide +kernel
theorem dX12_din_9 : decode cX12_din 9 = .ok (.aload_n 0, 1) := by decide +kernel
theorem dX12_din_10 : decode cX12_din 10 = .ok (.iload_n 1, 1) := by decide +kernel
theorem dX12_din_11 : decode cX12_din 11 = .ok (.iload_n 2, 1) := by decide +kernel
theorem dX12_din_12 : decode cX12_din 12 = .ok (.invokevirtual 184, 3) := by decide +kernel
theorem dX12_din_15 : decode cX12_din 15 = .ok (.invokestatic 317, 3) := by decide +kernel
theorem dX12_din_18 : decode cX12_din 18 = .ok (.goto 4, 3) := by decide +kernel
theorem dX12_din_21 : decode cX12_din 21 = .ok (.iconst (-1), 1) := by decide +kernel
theorem dX12_din_22 : decode cX12_din 22 = .ok (.ireturn, 1) := by decide +kernel
theorem dX12_margin_0 : decode cX12_margin 0 = .ok (.aload_n 0, 1) := by decide +kernel
theorem dX12_margin_1 : decode cX12_margin 1 = .ok (.iload_n 1, 1) := by decide +kernel
theorem dX12_margin_2 : decode cX12_margin 2 = .ok (.iload_n 2, 1) := by decide +kernel
theorem dX12_margin_3 : decode cX12_margin 3 = .ok (.invokevirtual 323, 3) := by decide +kernel
theorem dX12_margin_6 : decode cX12_margin 6 = .ok (.ifCond .eq 22, 3) := by decide +kernel
theorem dX12_margin_9 : decode cX12_margin 9 = .ok (.aload_n 0, 1) := by decide +kernel
theorem dX12_margin_10 : decode cX12_margin 10 = .ok (.getfield 43, 3) := by decide +kernel
theorem dX12_margin_13 : decode cX12_margin 13 = .ok (.iload_n 1, 1) := by decide +kernel
theorem dX12_margin_14 : decode cX12_margin 14 = .ok (.faload, 1) := by decide +kernel
theorem dX12_margin_15 : decode cX12_margin 15 = .ok (.aload_n 0, 1) := by decide +kernel
theorem dX12_margin_16 : decode cX12_margin 16 = .ok (.iload_n 1, 1) := by decide +kernel
theorem dX12_margin_17 : decode cX12_margin 17 = .ok (.iload_n 2, 1) := by decide +kernel
theorem dX12_margin_18 : decode cX12_margin 18 = .ok (.invokevirtual 195, 3) := by decide +kernel
theorem dX12_margin_21 : decode cX12_margin 21 = .ok (.fsub, 1) := by decide +kernel
theorem dX12_margin_22 : decode cX12_margin 22 = .ok (.invokestatic 317, 3) := by decide +kernel
theorem dX12_margin_25 : decode cX12_margin 25 = .ok (.goto 4, 3) := by decide +kernel
theorem dX12_margin_28 : decode cX12_margin 28 = .ok (.iconst (-1), 1) := by decide +kernel
theorem dX12_margin_29 : decode cX12_margin 29 = .ok (.ireturn, 1) := by decide +kernel
theorem dX12_clear_0 : decode cX12_clear 0 = .ok (.aload_n 0, 1) := by decide +kernel
theorem dX12_clear_1 : decode cX12_clear 1 = .ok (.iload_n 1, 1) := by decide +kernel
theorem dX12_clear_2 : decode cX12_clear 2 = .ok (.iload_n 2, 1) := by decide +kernel
theorem dX12_clear_3 : decode cX12_clear 3 = .ok (.invokevirtual 323, 3) := by decide +kernel
theorem dX12_clear_6 : decode cX12_clear 6 = .ok (.ifCond .ne 7, 3) := by decide +kernel
theorem dX12_clear_9 : decode cX12_clear 9 = .ok (.iconst (-1), 1) := by decide +kernel
theorem dX12_clear_10 : decode cX12_clear 10 = .ok (.goto 17, 3) := by decide +kernel
theorem dX12_clear_13 : decode cX12_clear 13 = .ok (.aload_n 0, 1) := by decide +kernel
theorem dX12_clear_14 : decode cX12_clear 14 = .ok (.iload_n 1, 1) := by decide +kernel
theorem dX12_clear_15 : decode cX12_clear 15 = .ok (.iload_n 2, 1) := by decide +kernel
theorem dX12_clear_16 : decode cX12_clear 16 = .ok (.invokevirtual 198, 3) := by decide +kernel
theorem dX12_clear_19 : decode cX12_clear 19 = .ok (.ifCond .eq 7, 3) := by decide +kernel
theorem dX12_clear_22 : decode cX12_clear 22 = .ok (.iconst 1, 1) := by decide +kernel
theorem dX12_clear_23 : decode cX12_clear 23 = .ok (.goto 4, 3) := by decide +kernel
theorem dX12_clear_26 : decode cX12_clear 26 = .ok (.iconst 0, 1) := by decide +kernel
theorem dX12_clear_27 : decode cX12_clear 27 = .ok (.ireturn, 1) := by decide +kernel
theorem dX12_copiesIn_0 : decode cX12_copiesIn 0 = .ok (.iconst 0, 1) := by decide +kernel
theorem dX12_copiesIn_1 : decode cX12_copiesIn 1 = .ok (.istore_n 2, 1) := by decide +kernel
theorem dX12_copiesIn_2 : decode cX12_copiesIn 2 = .ok (.iconst 0, 1) := by decide +kernel
theorem dX12_copiesIn_3 : decode cX12_copiesIn 3 = .ok (.istore_n 3, 1) := by decide +kernel
theorem dX12_copiesIn_4 : decode cX12_copiesIn 4 = .ok (.iload_n 3, 1) := by decide +kernel
theorem dX12_copiesIn_5 : decode cX12_copiesIn 5 = .ok (.aload_n 0, 1) := by decide +kernel
theorem dX12_copiesIn_6 : decode cX12_copiesIn 6 = .ok (.getfield 148, 3) := by decide +kernel
theorem dX12_copiesIn_9 : decode cX12_copiesIn 9 = .ok (.if_icmp .ge 26, 3) := by decide +kernel
