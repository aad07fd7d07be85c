/-! decode rows (printed by the kit) -/
theorem dX6_partsKnown_10 : decode cX6_partsKnown 10 = .ok (.lsub, 1) := by decide +kernel
theorem dX6_partsKnown_11 : decode cX6_partsKnown 11 = .ok (.iload_n 2, 1) := by decide +kernel
theorem dX6_partsKnown_12 : decode cX6_partsKnown 12 = .ok (.aload_n 0, 1) := by decide +kernel
theorem dX6_partsKnown_13 : decode cX6_partsKnown 13 = .ok (.getfield 9, 3) := by decide +kernel
theorem dX6_partsKnown_16 : decode cX6_partsKnown 16 = .ok (.getfield 41, 3) := by decide +kernel
theorem dX6_partsKnown_19 : decode cX6_partsKnown 19 = .ok (.imul, 1) := by decide +kernel
theorem dX6_partsKnown_20 : decode cX6_partsKnown 20 = .ok (.lshl, 1) := by decide +kernel
theorem dX6_partsKnown_21 : decode cX6_partsKnown 21 = .ok (.lstore 4, 2) := by decide +kernel
theorem dX6_partsKnown_23 : decode cX6_partsKnown 23 = .ok (.aload_n 0, 1) := by decide +kernel
theorem dX6_partsKnown_24 : decode cX6_partsKnown 24 = .ok (.getfield 15, 3) := by decide +kernel
theorem dX6_partsKnown_27 : decode cX6_partsKnown 27 = .ok (.iconst 1, 1) := by decide +kernel
theorem dX6_partsKnown_28 : decode cX6_partsKnown 28 = .ok (.iload_n 1, 1) := by decide +kernel
theorem dX6_partsKnown_29 : decode cX6_partsKnown 29 = .ok (.ishl, 1) := by decide +kernel
theorem dX6_partsKnown_30 : decode cX6_partsKnown 30 = .ok (.iload_n 3, 1) := by decide +kernel
theorem dX6_partsKnown_31 : decode cX6_partsKnown 31 = .ok (.lload 4, 2) := by decide +kernel
theorem dX6_partsKnown_33 : decode cX6_partsKnown 33 = .ok (.lconst 0, 1) := by decide +kernel
theorem dX6_partsKnown_34 : decode cX6_partsKnown 34 = .ok (.ldc2_w 84, 3) := by decide +kernel
theorem dX6_partsKnown_37 : decode cX6_partsKnown 37 = .ok (.invokestatic 86, 3) := by decide +kernel
theorem dX6_partsKnown_40 : decode cX6_partsKnown 40 = .ok (.l2i, 1) := by decide +kernel
theorem dX6_partsKnown_41 : decode cX6_partsKnown 41 = .ok (.ireturn, 1) := by decide +kernel
theorem dX6_partsFrom_0 : decode cX6_partsFrom 0 = .ok (.lload 7, 2) := by decide +kernel
theorem dX6_partsFrom_2 : decode cX6_partsFrom 2 = .ok (.lconst 0, 1) := by decide +kernel
theorem dX6_partsFrom_3 : decode cX6_partsFrom 3 = .ok (.lcmp, 1) := by decide +kernel
theorem dX6_partsFrom_4 : decode cX6_partsFrom 4 = .ok (.ifCond .eq 13, 3) := by decide +kernel
theorem dX6_partsFrom_7 : decode cX6_partsFrom 7 = .ok (.aload_n 0, 1) := by decide +kernel
theorem dX6_partsFrom_8 : decode cX6_partsFrom 8 = .ok (.iload_n 1, 1) := by decide +kernel
theorem dX6_partsFrom_9 : decode cX6_partsFrom 9 = .ok (.lload 5, 2) := by decide +kernel
theorem dX6_partsFrom_11 : decode cX6_partsFrom 11 = .ok (.invokevirtual 90, 3) := by decide +kernel
theorem dX6_partsFrom_14 : decode cX6_partsFrom 14 = .ok (.ifCond .ne 5, 3) := by decide +kernel
theorem dX6_partsFrom_17 : decode cX6_partsFrom 17 = .ok (.lconst 0, 1) := by decide +kernel
theorem dX6_partsFrom_18 : decode cX6_partsFrom 18 = .ok (.lreturn, 1) := by decide +kernel
theorem dX6_partsFrom_19 : decode cX6_partsFrom 19 = .ok (.lload_n 3, 1) := by decide +kernel
theorem dX6_partsFrom_20 : decode cX6_partsFrom 20 = .ok (.lconst 0, 1) := by decide +kernel
theorem dX6_partsFrom_21 : decode cX6_partsFrom 21 = .ok (.lcmp, 1) := by decide +kernel
theorem dX6_partsFrom_22 : decode cX6_partsFrom 22 = .ok (.ifCond .eq 15, 3) := by decide +kernel
theorem dX6_partsFrom_25 : decode cX6_partsFrom 25 = .ok (.aload_n 0, 1) := by decide +kernel
theorem dX6_partsFrom_26 : decode cX6_partsFrom 26 = .ok (.iload_n 1, 1) := by decide +kernel
theorem dX6_partsFrom_27 : decode cX6_partsFrom 27 = .ok (.lload 5, 2) := by decide +kernel
theorem dX6_partsFrom_29 : decode cX6_partsFrom 29 = .ok (.lload_n 3, 1) := by decide +kernel
theorem dX6_partsFrom_30 : decode cX6_partsFrom 30 = .ok (.lor, 1) := by decide +kernel
theorem dX6_partsFrom_31 : decode cX6_partsFrom 31 = .ok (.invokevirtual 90, 3) := by decide +kernel
theorem dX6_partsFrom_34 : decode cX6_partsFrom 34 = .ok (.ifCond .eq 6, 3) := by decide +kernel
theorem dX6_partsFrom_37 : decode cX6_partsFrom 37 = .ok (.lload 7, 2) := by decide +kernel
theorem dX6_partsFrom_39 : decode cX6_partsFrom 39 = .ok (.lreturn, 1) := by decide +kernel
theorem dX6_partsFrom_40 : decode cX6_partsFrom 40 = .ok (.lload_n 3, 1) := by decide +kernel
theorem dX6_partsFrom_41 : decode cX6_partsFrom 41 = .ok (.lload_n 3, 1) := by decide +kernel
theorem dX6_partsFrom_42 : decode cX6_partsFrom 42 = .ok (.lneg, 1) := by decide +kernel
theorem dX6_partsFrom_43 : decode cX6_partsFrom 43 = .ok (.land, 1) := by decide +kernel
theorem dX6_partsFrom_44 : decode cX6_partsFrom 44 = .ok (.lstore 9, 2) := by decide +kernel
theorem dX6_partsFrom_46 : decode cX6_partsFrom 46 = .ok (.lload 7, 2) := by decide +kernel
theorem dX6_partsFrom_48 : decode cX6_partsFrom 48 = .ok (.iload_n 2, 1) := by decide +kernel
theorem dX6_partsFrom_49 : decode cX6_partsFrom 49 = .ok (.i2l, 1) := by decide +kernel
theorem dX6_partsFrom_50 : decode cX6_partsFrom 50 = .ok (.lmul, 1) := by decide +kernel
theorem dX6_partsFrom_51 : decode cX6_partsFrom 51 = .ok (.ldc2_w 94, 3) := by decide +kernel
theorem dX6_partsFrom_54 : decode cX6_partsFrom 54 = .ok (.ldiv, 1) := by decide +kernel
theorem dX6_partsFrom_55 : decode cX6_partsFrom 55 = .ok (.lstore 11, 2) := by decide +kernel
theorem dX6_partsFrom_57 : decode cX6_partsFrom 57 = .ok (.aload_n 0, 1) := by decide +kernel
theorem dX6_partsFrom_58 : decode cX6_partsFrom 58 = .ok (.iload_n 1, 1) := by decide +kernel
theorem dX6_partsFrom_59 : decode cX6_partsFrom 59 = .ok (.iload_n 2, 1) := by decide +kernel
theorem dX6_partsFrom_60 : decode cX6_partsFrom 60 = .ok (.lload_n 3, 1) := by decide +kernel
theorem dX6_partsFrom_61 : decode cX6_partsFrom 61 = .ok (.lload 9, 2) := by decide +kernel
theorem dX6_partsFrom_63 : decode cX6_partsFrom 63 = .ok (.ldc2_w 96, 3) := by decide +kernel
theorem dX6_partsFrom_66 : decode cX6_partsFrom 66 = .ok (.lxor, 1) := by decide +kernel
theorem dX6_partsFrom_67 : decode cX6_partsFrom 67 = .ok (.land, 1) := by decide +kernel
theorem dX6_partsFrom_68 : decode cX6_partsFrom 68 = .ok (.lload 5, 2) := by decide +kernel
theorem dX6_partsFrom_70 : decode cX6_partsFrom 70 = .ok (.lload 9, 2) := by decide +kernel
theorem dX6_partsFrom_72 : decode cX6_partsFrom 72 = .ok (.lor, 1) := by decide +kernel
theorem dX6_partsFrom_73 : decode cX6_partsFrom 73 = .ok (.lload 11, 2) := by decide +kernel
theorem dX6_partsFrom_75 : decode cX6_partsFrom 75 = .ok (.invokestatic 86, 3) := by decide +kernel
theorem dX6_partsFrom_78 : decode cX6_partsFrom 78 = .ok (.aload_n 0, 1) := by decide +kernel
theorem dX6_partsFrom_79 : decode cX6_partsFrom 79 = .ok (.iload_n 1, 1) := by decide +kernel
theorem dX6_partsFrom_80 : decode cX6_partsFrom 80 = .ok (.iload_n 2, 1) := by decide +kernel
theorem dX6_partsFrom_81 : decode cX6_partsFrom 81 = .ok (.lload_n 3, 1) := by decide +kernel
theorem dX6_partsFrom_82 : decode cX6_partsFrom 82 = .ok (.lload 9, 2) := by decide +kernel
theorem dX6_partsFrom_84 : decode cX6_partsFrom 84 = .ok (.ldc2_w 96, 3) := by decide +kernel
theorem dX6_partsFrom_87 : decode cX6_partsFrom 87 = .ok (.lxor, 1) := by decide +kernel
theorem dX6_partsFrom_88 : decode cX6_partsFrom 88 = .ok (.land, 1) := by decide +kernel
theorem dX6_partsFrom_89 : decode cX6_partsFrom 89 = .ok (.lload 5, 2) := by decide +kernel
theorem dX6_partsFrom_91 : decode cX6_partsFrom 91 = .ok (.lload 7, 2) := by decide +kernel
theorem dX6_partsFrom_93 : decode cX6_partsFrom 93 = .ok (.lload 11, 2) := by decide +kernel
theorem dX6_partsFrom_95 : decode cX6_partsFrom 95 = .ok (.lsub, 1) := by decide +kernel
theorem dX6_partsFrom_96 : decode cX6_partsFrom 96 = .ok (.invokestatic 86, 3) := by decide +kernel
theorem dX6_partsFrom_99 : decode cX6_partsFrom 99 = .ok (.ladd, 1) := by decide +kernel
theorem dX6_partsFrom_100 : decode cX6_partsFrom 100 = .ok (.lreturn, 1) := by decide +kernel
theorem dX6_fullestSlot_0 : decode cX6_fullestSlot 0 = .ok (.iconst 0, 1) := by decide +kernel
theorem dX6_fullestSlot_1 : decode cX6_fullestSlot 1 = .ok (.istore_n 1, 1) := by decide +kernel
theorem dX6_fullestSlot_2 : decode cX6_fullestSlot 2 = .ok (.iconst 1, 1) := by decide +kernel
theorem dX6_fullestSlot_3 : decode cX6_fullestSlot 3 = .ok (.istore_n 2, 1) := by decide +kernel
theorem dX6_fullestSlot_4 : decode cX6_fullestSlot 4 = .ok (.iload_n 2, 1) := by decide +kernel
theorem dX6_fullestSlot_5 : decode cX6_fullestSlot 5 = .ok (.aload_n 0, 1) := by decide +kernel
theorem dX6_fullestSlot_6 : decode cX6_fullestSlot 6 = .ok (.getfield 9, 3) := by decide +kernel
theorem dX6_fullestSlot_9 : decode cX6_fullestSlot 9 = .ok (.invokevirtual 98, 3) := by decide +kernel
theorem dX6_fullestSlot_12 : decode cX6_fullestSlot 12 = .ok (.if_icmp .ge 38, 3) := by decide +kernel
theorem dX6_fullestSlot_15 : decode cX6_fullestSlot 15 = .ok (.aload_n 0, 1) := by decide +kernel
theorem dX6_fullestSlot_16 : decode cX6_fullestSlot 16 = .ok (.getfield 15, 3) := by decide +kernel
theorem dX6_fullestSlot_19 : decode cX6_fullestSlot 19 = .ok (.getfield 46, 3) := by decide +kernel
theorem dX6_fullestSlot_22 : decode cX6_fullestSlot 22 = .ok (.iload_n 2, 1) := by decide +kernel
theorem dX6_fullestSlot_23 : decode cX6_fullestSlot 23 = .ok (.iaload, 1) := by decide +kernel
theorem dX6_fullestSlot_24 : decode cX6_fullestSlot 24 = .ok (.invokestatic 32, 3) := by decide +kernel
theorem dX6_fullestSlot_27 : decode cX6_fullestSlot 27 = .ok (.aload_n 0, 1) := by decide +kernel
theorem dX6_fullestSlot_28 : decode cX6_fullestSlot 28 = .ok (.getfield 15, 3) := by decide +kernel
theorem dX6_fullestSlot_31 : decode cX6_fullestSlot 31 = .ok (.getfield 46, 3) := by decide +kernel
theorem dX6_fullestSlot_34 : decode cX6_fullestSlot 34 = .ok (.iload_n 1, 1) := by decide +kernel
theorem dX6_fullestSlot_35 : decode cX6_fullestSlot 35 = .ok (.iaload, 1) := by decide +kernel
theorem dX6_fullestSlot_36 : decode cX6_fullestSlot 36 = .ok (.invokestatic 32, 3) := by decide +kernel
theorem dX6_fullestSlot_39 : decode cX6_fullestSlot 39 = .ok (.if_icmp .le 5, 3) := by decide +kernel
theorem dX6_fullestSlot_42 : decode cX6_fullestSlot 42 = .ok (.iload_n 2, 1) := by decide +kernel
theorem dX6_fullestSlot_43 : decode cX6_fullestSlot 43 = .ok (.istore_n 1, 1) := by decide +kernel
theorem dX6_fullestSlot_44 : decode cX6_fullestSlot 44 = .ok (.iinc 2 1, 3) := by decide +kernel
theorem dX6_fullestSlot_47 : decode cX6_fullestSlot 47 = .ok (.goto (-43), 3) := by decide +kernel
theorem dX6_fullestSlot_50 : decode cX6_fullestSlot 50 = .ok (.iload_n 1, 1) := by decide +kernel
theorem dX6_fullestSlot_51 : decode cX6_fullestSlot 51 = .ok (.ireturn, 1) := by decide +kernel
theorem dX6_busiestUser_0 : decode cX6_busiestUser 0 = .ok (.iconst 0, 1) := by decide +kernel
theorem dX6_busiestUser_1 : decode cX6_busiestUser 1 = .ok (.istore_n 2, 1) := by decide +kernel
theorem dX6_busiestUser_2 : decode cX6_busiestUser 2 = .ok (.iconst 1, 1) := by decide +kernel
theorem dX6_busiestUser_3 : decode cX6_busiestUser 3 = .ok (.istore_n 3, 1) := by decide +kernel
theorem dX6_busiestUser_4 : decode cX6_busiestUser 4 = .ok (.iload_n 3, 1) := by decide +kernel
theorem dX6_busiestUser_5 : decode cX6_busiestUser 5 = .ok (.aload_n 0, 1) := by decide +kernel
theorem dX6_busiestUser_6 : decode cX6_busiestUser 6 = .ok (.getfield 9, 3) := by decide +kernel
theorem dX6_busiestUser_9 : decode cX6_busiestUser 9 = .ok (.getfield 69, 3) := by decide +kernel
theorem dX6_busiestUser_12 : decode cX6_busiestUser 12 = .ok (.if_icmp .ge 32, 3) := by decide +kernel
theorem dX6_busiestUser_15 : decode cX6_busiestUser 15 = .ok (.aload_n 1, 1) := by decide +kernel
theorem dX6_busiestUser_16 : decode cX6_busiestUser 16 = .ok (.getfield 102, 3) := by decide +kernel
theorem dX6_busiestUser_19 : decode cX6_busiestUser 19 = .ok (.iload_n 3, 1) := by decide +kernel
theorem dX6_busiestUser_20 : decode cX6_busiestUser 20 = .ok (.laload, 1) := by decide +kernel
theorem dX6_busiestUser_21 : decode cX6_busiestUser 21 = .ok (.invokestatic 108, 3) := by decide +kernel
theorem dX6_busiestUser_24 : decode cX6_busiestUser 24 = .ok (.aload_n 1, 1) := by decide +kernel
theorem dX6_busiestUser_25 : decode cX6_busiestUser 25 = .ok (.getfield 102, 3) := by decide +kernel
theorem dX6_busiestUser_28 : decode cX6_busiestUser 28 = .ok (.iload_n 2, 1) := by decide +kernel
theorem dX6_busiestUser_29 : decode cX6_busiestUser 29 = .ok (.laload, 1) := by decide +kernel
theorem dX6_busiestUser_30 : decode cX6_busiestUser 30 = .ok (.invokestatic 108, 3) := by decide +kernel
theorem dX6_busiestUser_33 : decode cX6_busiestUser 33 = .ok (.if_icmp .le 5, 3) := by decide +kernel
theorem dX6_busiestUser_36 : decode cX6_busiestUser 36 = .ok (.iload_n 3, 1) := by decide +kernel
theorem dX6_busiestUser_37 : decode cX6_busiestUser 37 = .ok (.istore_n 2, 1) := by decide +kernel
theorem dX6_busiestUser_38 : decode cX6_busiestUser 38 = .ok (.iinc 3 1, 3) := by decide +kernel
theorem dX6_busiestUser_41 : decode cX6_busiestUser 41 = .ok (.goto (-37), 3) := by decide +kernel
theorem dX6_busiestUser_44 : decode cX6_busiestUser 44 = .ok (.iload_n 2, 1) := by decide +kernel
theorem dX6_busiestUser_45 : decode cX6_busiestUser 45 = .ok (.ireturn, 1) := by decide +kernel
theorem dX6_strongestUser_0 : decode cX6_strongestUser 0 = .ok (.iconst 0, 1) := by decide +kernel
theorem dX6_strongestUser_1 : decode cX6_strongestUser 1 = .ok (.istore_n 1, 1) := by decide +kernel
theorem dX6_strongestUser_2 : decode cX6_strongestUser 2 = .ok (.iconst 1, 1) := by decide +kernel
theorem dX6_strongestUser_3 : decode cX6_strongestUser 3 = .ok (.istore_n 2, 1) := by decide +kernel
theorem dX6_strongestUser_4 : decode cX6_strongestUser 4 = .ok (.iload_n 2, 1) := by decide +kernel
theorem dX6_strongestUser_5 : decode cX6_strongestUser 5 = .ok (.aload_n 0, 1) := by decide +kernel
theorem dX6_strongestUser_6 : decode cX6_strongestUser 6 = .ok (.getfield 9, 3) := by decide +kernel
theorem dX6_strongestUser_9 : decode cX6_strongestUser 9 = .ok (.getfield 69, 3) := by decide +kernel
theorem dX6_strongestUser_12 : decode cX6_strongestUser 12 = .ok (.if_icmp .ge 33, 3) := by decide +kernel
theorem dX6_strongestUser_15 : decode cX6_strongestUser 15 = .ok (.aload_n 0, 1) := by decide +kernel
theorem dX6_strongestUser_16 : decode cX6_strongestUser 16 = .ok (.getfield 15, 3) := by decide +kernel
theorem dX6_strongestUser_19 : decode cX6_strongestUser 19 = .ok (.getfield 113, 3) := by decide +kernel
theorem dX6_strongestUser_22 : decode cX6_strongestUser 22 = .ok (.iload_n 2, 1) := by decide +kernel
theorem dX6_strongestUser_23 : decode cX6_strongestUser 23 = .ok (.faload, 1) := by decide +kernel
theorem dX6_strongestUser_24 : decode cX6_strongestUser 24 = .ok (.aload_n 0, 1) := by decide +kernel
theorem dX6_strongestUser_25 : decode cX6_strongestUser 25 = .ok (.getfield 15, 3) := by decide +kernel
theorem dX6_strongestUser_28 : decode cX6_strongestUser 28 = .ok (.getfield 113, 3) := by decide +kernel
theorem dX6_strongestUser_31 : decode cX6_strongestUser 31 = .ok (.iload_n 1, 1) := by decide +kernel
theorem dX6_strongestUser_32 : decode cX6_strongestUser 32 = .ok (.faload, 1) := by decide +kernel
theorem dX6_strongestUser_33 : decode cX6_strongestUser 33 = .ok (.fcmp .l, 1) := by decide +kernel
theorem dX6_strongestUser_34 : decode cX6_strongestUser 34 = .ok (.ifCond .le 5, 3) := by decide +kernel
theorem dX6_strongestUser_37 : decode cX6_strongestUser 37 = .ok (.iload_n 2, 1) := by decide +kernel
theorem dX6_strongestUser_38 : decode cX6_strongestUser 38 = .ok (.istore_n 1, 1) := by decide +kernel
theorem dX6_strongestUser_39 : decode cX6_strongestUser 39 = .ok (.iinc 2 1, 3) := by decide +kernel
theorem dX6_strongestUser_42 : decode cX6_strongestUser 42 = .ok (.goto (-38), 3) := by decide +kernel
theorem dX6_strongestUser_45 : decode cX6_strongestUser 45 = .ok (.iload_n 1, 1) := by decide +kernel
theorem dX6_strongestUser_46 : decode cX6_strongestUser 46 = .ok (.ireturn, 1) := by decide +kernel
theorem dX6_slotsWith_0 : decode cX6_slotsWith 0 = .ok (.iconst 0, 1) := by decide +kernel
theorem dX6_slotsWith_1 : decode cX6_slotsWith 1 = .ok (.istore_n 2, 1) := by decide +kernel
theorem dX6_slotsWith_2 : decode cX6_slotsWith 2 = .ok (.iconst 0, 1) := by decide +kernel
theorem dX6_slotsWith_3 : decode cX6_slotsWith 3 = .ok (.istore_n 3, 1) := by decide +kernel
theorem dX6_slotsWith_4 : decode cX6_slotsWith 4 = .ok (.iload_n 3, 1) := by decide +kernel
theorem dX6_slotsWith_5 : decode cX6_slotsWith 5 = .ok (.aload_n 0, 1) := by decide +kernel
theorem dX6_slotsWith_6 : decode cX6_slotsWith 6 = .ok (.getfield 9, 3) := by decide +kernel
theorem dX6_slotsWith_9 : decode cX6_slotsWith 9 = .ok (.invokevirtual 98, 3) := by decide +kernel
theorem dX6_slotsWith_12 : decode cX6_slotsWith 12 = .ok (.if_icmp .ge 33, 3) := by decide +kernel
theorem dX6_slotsWith_15 : decode cX6_slotsWith 15 = .ok (.iload_n 2, 1) := by decide +kernel
theorem dX6_slotsWith_16 : decode cX6_slotsWith 16 = .ok (.aload_n 0, 1) := by decide +kernel
theorem dX6_slotsWith_17 : decode cX6_slotsWith 17 = .ok (.getfield 15, 3) := by decide +kernel
theorem dX6_slotsWith_20 : decode cX6_slotsWith 20 = .ok (.getfield 46, 3) := by decide +kernel
theorem dX6_slotsWith_23 : decode cX6_slotsWith 23 = .ok (.iload_n 3, 1) := by decide +kernel
theorem dX6_slotsWith_24 : decode cX6_slotsWith 24 = .ok (.iaload, 1) := by decide +kernel
theorem dX6_slotsWith_25 : decode cX6_slotsWith 25 = .ok (.invokestatic 32, 3) := by decide +kernel
theorem dX6_slotsWith_28 : decode cX6_slotsWith 28 = .ok (.iload_n 1, 1) := by decide +kernel
theorem dX6_slotsWith_29 : decode cX6_slotsWith 29 = .ok (.if_icmp .ne 7, 3) := by decide +kernel
theorem dX6_slotsWith_32 : decode cX6_slotsWith 32 = .ok (.iconst 1, 1) := by decide +kernel
theorem dX6_slotsWith_33 : decode cX6_slotsWith 33 = .ok (.goto 4, 3) := by decide +kernel
theorem dX6_slotsWith_36 : decode cX6_slotsWith 36 = .ok (.iconst 0, 1) := by decide +kernel
theorem dX6_slotsWith_37 : decode cX6_slotsWith 37 = .ok (.iadd, 1) := by decide +kernel
theorem dX6_slotsWith_38 : decode cX6_slotsWith 38 = .ok (.istore_n 2, 1) := by decide +kernel
theorem dX6_slotsWith_39 : decode cX6_slotsWith 39 = .ok (.iinc 3 1, 3) := by decide +kernel
theorem dX6_slotsWith_42 : decode cX6_slotsWith 42 = .ok (.goto (-38), 3) := by decide +kernel
theorem dX6_slotsWith_45 : decode cX6_slotsWith 45 = .ok (.iload_n 2, 1) := by decide +kernel
theorem dX6_slotsWith_46 : decode cX6_slotsWith 46 = .ok (.ireturn, 1) := by decide +kernel
theorem dX6_partsOfUnknown_0 : decode cX6_partsOfUnknown 0 = .ok (.aload_n 0, 1) := by decide +kernel
theorem dX6_partsOfUnknown_1 : decode cX6_partsOfUnknown 1 = .ok (.getfield 15, 3) := by decide +kernel
theorem dX6_partsOfUnknown_4 : decode cX6_partsOfUnknown 4 = .ok (.getfield 19, 3) := by decide +kernel
theorem dX6_partsOfUnknown_7 : decode cX6_partsOfUnknown 7 = .ok (.istore_n 1, 1) := by decide +kernel
theorem dX6_partsOfUnknown_8 : decode cX6_partsOfUnknown 8 = .ok (.iconst 0, 1) := by decide +kernel
theorem dX6_partsOfUnknown_9 : decode cX6_partsOfUnknown 9 = .ok (.istore_n 2, 1) := by decide +kernel
theorem dX6_partsOfUnknown_10 : decode cX6_partsOfUnknown 10 = .ok (.iconst 0, 1) := by decide +kernel
theorem dX6_partsOfUnknown_11 : decode cX6_partsOfUnknown 11 = .ok (.istore_n 3, 1) := by decide +kernel
theorem dX6_partsOfUnknown_12 : decode cX6_partsOfUnknown 12 = .ok (.iload_n 3, 1) := by decide +kernel
theorem dX6_partsOfUnknown_13 : decode cX6_partsOfUnknown 13 = .ok (.bipush 10, 2) := by decide +kernel
theorem dX6_partsOfUnknown_15 : decode cX6_partsOfUnknown 15 = .ok (.if_icmp .ge 29, 3) := by decide +kernel
theorem dX6_partsOfUnknown_18 : decode cX6_partsOfUnknown 18 = .ok (.iload_n 1, 1) := by decide +kernel
theorem dX6_partsOfUnknown_19 : decode cX6_partsOfUnknown 19 = .ok (.ifCond .eq 25, 3) := by decide +kernel
theorem dX6_partsOfUnknown_22 : decode cX6_partsOfUnknown 22 = .ok (.iload_n 1, 1) := by decide +kernel
theorem dX6_partsOfUnknown_23 : decode cX6_partsOfUnknown 23 = .ok (.aload_n 0, 1) := by decide +kernel
theorem dX6_partsOfUnknown_24 : decode cX6_partsOfUnknown 24 = .ok (.iload_n 1, 1) := by decide +kernel
theorem dX6_partsOfUnknown_25 : decode cX6_partsOfUnknown 25 = .ok (.iload_n 1, 1) := by decide +kernel
theorem dX6_partsOfUnknown_26 : decode cX6_partsOfUnknown 26 = .ok (.ineg, 1) := by decide +kernel
theorem dX6_partsOfUnknown_27 : decode cX6_partsOfUnknown 27 = .ok (.iand, 1) := by decide +kernel
theorem dX6_partsOfUnknown_28 : decode cX6_partsOfUnknown 28 = .ok (.invokevirtual 117, 3) := by decide +kernel
theorem dX6_partsOfUnknown_31 : decode cX6_partsOfUnknown 31 = .ok (.iconst (-1), 1) := by decide +kernel
theorem dX6_partsOfUnknown_32 : decode cX6_partsOfUnknown 32 = .ok (.ixor, 1) := by decide +kernel
theorem dX6_partsOfUnknown_33 : decode cX6_partsOfUnknown 33 = .ok (.iand, 1) := by decide +kernel
theorem dX6_partsOfUnknown_34 : decode cX6_partsOfUnknown 34 = .ok (.istore_n 1, 1) := by decide +kernel
theorem dX6_partsOfUnknown_35 : decode cX6_partsOfUnknown 35 = .ok (.iinc 2 1, 3) := by decide +kernel
theorem dX6_partsOfUnknown_38 : decode cX6_partsOfUnknown 38 = .ok (.iinc 3 1, 3) := by decide +kernel
theorem dX6_partsOfUnknown_41 : decode cX6_partsOfUnknown 41 = .ok (.goto (-29), 3) := by decide +kernel
theorem dX6_partsOfUnknown_44 : decode cX6_partsOfUnknown 44 = .ok (.iload_n 2, 1) := by decide +kernel
theorem dX6_partsOfUnknown_45 : decode cX6_partsOfUnknown 45 = .ok (.ireturn, 1) := by decide +kernel
theorem dX6_partAround_0 : decode cX6_partAround 0 = .ok (.iload_n 1, 1) := by decide +kernel
theorem dX6_partAround_1 : decode cX6_partAround 1 = .ok (.istore_n 2, 1) := by decide +kernel
theorem dX6_partAround_2 : decode cX6_partAround 2 = .ok (.iconst 0, 1) := by decide +kernel
theorem dX6_partAround_3 : decode cX6_partAround 3 = .ok (.istore_n 3, 1) := by decide +kernel
theorem dX6_partAround_4 : decode cX6_partAround 4 = .ok (.iload_n 3, 1) := by decide +kernel
theorem dX6_partAround_5 : decode cX6_partAround 5 = .ok (.bipush 10, 2) := by decide +kernel
theorem dX6_partAround_7 : decode cX6_partAround 7 = .ok (.if_icmp .ge 66, 3) := by decide +kernel
theorem dX6_partAround_10 : decode cX6_partAround 10 = .ok (.iconst 0, 1) := by decide +kernel
theorem dX6_partAround_11 : decode cX6_partAround 11 = .ok (.istore 4, 2) := by decide +kernel
theorem dX6_partAround_13 : decode cX6_partAround 13 = .ok (.iload 4, 2) := by decide +kernel
theorem dX6_partAround_15 : decode cX6_partAround 15 = .ok (.aload_n 0, 1) := by decide +kernel
theorem dX6_partAround_16 : decode cX6_partAround 16 = .ok (.getfield 9, 3) := by decide +kernel
theorem dX6_partAround_19 : decode cX6_partAround 19 = .ok (.invokevirtual 98, 3) := by decide +kernel
theorem dX6_partAround_22 : decode cX6_partAround 22 = .ok (.if_icmp .ge 45, 3) := by decide +kernel
theorem dX6_partAround_25 : decode cX6_partAround 25 = .ok (.aload_n 0, 1) := by decide +kernel
theorem dX6_partAround_26 : decode cX6_partAround 26 = .ok (.getfield 15, 3) := by decide +kernel
theorem dX6_partAround_29 : decode cX6_partAround 29 = .ok (.getfield 46, 3) := by decide +kernel
theorem dX6_partAround_32 : decode cX6_partAround 32 = .ok (.iload 4, 2) := by decide +kernel
theorem dX6_partAround_34 : decode cX6_partAround 34 = .ok (.iaload, 1) := by decide +kernel
theorem dX6_partAround_35 : decode cX6_partAround 35 = .ok (.aload_n 0, 1) := by decide +kernel
theorem dX6_partAround_36 : decode cX6_partAround 36 = .ok (.getfield 15, 3) := by decide +kernel
theorem dX6_partAround_39 : decode cX6_partAround 39 = .ok (.getfield 19, 3) := by decide +kernel
theorem dX6_partAround_42 : decode cX6_partAround 42 = .ok (.iand, 1) := by decide +kernel
theorem dX6_partAround_43 : decode cX6_partAround 43 = .ok (.istore 5, 2) := by decide +kernel
theorem dX6_partAround_45 : decode cX6_partAround 45 = .ok (.iload_n 2, 1) := by decide +kernel
theorem dX6_partAround_46 : decode cX6_partAround 46 = .ok (.iload 5, 2) := by decide +kernel
theorem dX6_partAround_48 : decode cX6_partAround 48 = .ok (.iload_n 2, 1) := by decide +kernel
theorem dX6_partAround_49 : decode cX6_partAround 49 = .ok (.iand, 1) := by decide +kernel
theorem dX6_partAround_50 : decode cX6_partAround 50 = .ok (.ifCond .eq 8, 3) := by decide +kernel
theorem dX6_partAround_53 : decode cX6_partAround 53 = .ok (.iload 5, 2) := by decide +kernel
theorem dX6_partAround_55 : decode cX6_partAround 55 = .ok (.goto 4, 3) := by decide +kernel
theorem dX6_partAround_58 : decode cX6_partAround 58 = .ok (.iconst 0, 1) := by decide +kernel
theorem dX6_partAround_59 : decode cX6_partAround 59 = .ok (.ior, 1) := by decide +kernel
theorem dX6_partAround_60 : decode cX6_partAround 60 = .ok (.istore_n 2, 1) := by decide +kernel
theorem dX6_partAround_61 : decode cX6_partAround 61 = .ok (.iinc 4 1, 3) := by decide +kernel
theorem dX6_partAround_64 : decode cX6_partAround 64 = .ok (.goto (-51), 3) := by decide +kernel
theorem dX6_partAround_67 : decode cX6_partAround 67 = .ok (.iinc 3 1, 3) := by decide +kernel
theorem dX6_partAround_70 : decode cX6_partAround 70 = .ok (.goto (-66), 3) := by decide +kernel
theorem dX6_partAround_73 : decode cX6_partAround 73 = .ok (.iload_n 2, 1) := by decide +kernel
theorem dX6_partAround_74 : decode cX6_partAround 74 = .ok (.ireturn, 1) := by decide +kernel
theorem dX7_init_0 : decode cX7_init 0 = .ok (.aload_n 0, 1) := by decide +kernel
theorem dX7_init_1 : decode cX7_init 1 = .ok (.invokespecial 3, 3) := by decide +kernel
theorem dX7_init_4 : decode cX7_init 4 = .ok (.aload_n 0, 1) := by decide +kernel
theorem dX7_init_5 : decode cX7_init 5 = .ok (.bipush 10, 2) := by decide +kernel
theorem dX7_init_7 : decode cX7_init 7 = .ok (.newarray .float, 2) := by decide +kernel
theorem dX7_init_9 : decode cX7_init 9 = .ok (.putfield 9, 3) := by decide +kernel
theorem dX7_init_12 : decode cX7_init 12 = .ok (.aload_n 0, 1) := by decide +kernel
theorem dX7_init_13 : decode cX7_init 13 = .ok (.sipush 1024, 3) := by decide +kernel
theorem dX7_init_16 : decode cX7_init 16 = .ok (.newarray .float, 2) := by decide +kernel
theorem dX7_init_18 : decode cX7_init 18 = .ok (.putfield 15, 3) := by decide +kernel
theorem dX7_init_21 : decode cX7_init 21 = .ok (.aload_n 0, 1) := by decide +kernel
theorem dX7_init_22 : decode cX7_init 22 = .ok (.sipush 1024, 3) := by decide +kernel
theorem dX7_init_25 : decode cX7_init 25 = .ok (.newarray .int, 2) := by decide +kernel
theorem dX7_init_27 : decode cX7_init 27 = .ok (.putfield 18, 3) := by decide +kernel
theorem dX7_init_30 : decode cX7_init 30 = .ok (.aload_n 0, 1) := by decide +kernel
theorem dX7_init_31 : decode cX7_init 31 = .ok (.bipush 48, 2) := by decide +kernel
theorem dX7_init_33 : decode cX7_init 33 = .ok (.newarray .int, 2) := by decide +kernel
theorem dX7_init_35 : decode cX7_init 35 = .ok (.putfield 22, 3) := by decide +kernel
theorem dX7_init_38 : decode cX7_init 38 = .ok (.aload_n 0, 1) := by decide +kernel
theorem dX7_init_39 : decode cX7_init 39 = .ok (.aload_n 1, 1) := by decide +kernel
theorem dX7_init_40 : decode cX7_init 40 = .ok (.putfield 25, 3) := by decide +kernel
theorem dX7_init_43 : decode cX7_init 43 = .ok (.return_, 1) := by decide +kernel
theorem dX7_begin_0 : decode cX7_begin 0 = .ok (.iconst 0, 1) := by decide +kernel
theorem dX7_begin_1 : decode cX7_begin 1 = .ok (.istore_n 1, 1) := by decide +kernel
theorem dX7_begin_2 : decode cX7_begin 2 = .ok (.iload_n 1, 1) := by decide +kernel
theorem dX7_begin_3 : decode cX7_begin 3 = .ok (.aload_n 0, 1) := by decide +kernel
theorem dX7_begin_4 : decode cX7_begin 4 = .ok (.getfield 25, 3) := by decide +kernel
theorem dX7_begin_7 : decode cX7_begin 7 = .ok (.getfield 29, 3) := by decide +kernel
theorem dX7_begin_10 : decode cX7_begin 10 = .ok (.if_icmp .ge 50, 3) := by decide +kernel
theorem dX7_begin_13 : decode cX7_begin 13 = .ok (.aload_n 0, 1) := by decide +kernel
theorem dX7_begin_14 : decode cX7_begin 14 = .ok (.getfield 9, 3) := by decide +kernel
theorem dX7_begin_17 : decode cX7_begin 17 = .ok (.iload_n 1, 1) := by decide +kernel
theorem dX7_begin_18 : decode cX7_begin 18 = .ok (.aload_n 0, 1) := by decide +kernel
theorem dX7_begin_19 : decode cX7_begin 19 = .ok (.getfield 25, 3) := by decide +kernel
theorem dX7_begin_22 : decode cX7_begin 22 = .ok (.getfield 35, 3) := by decide +kernel
theorem dX7_begin_25 : decode cX7_begin 25 = .ok (.iload_n 1, 1) := by decide +kernel
theorem dX7_begin_26 : decode cX7_begin 26 = .ok (.iaload, 1) := by decide +kernel
theorem dX7_begin_27 : decode cX7_begin 27 = .ok (.i2f, 1) := by decide +kernel
theorem dX7_begin_28 : decode cX7_begin 28 = .ok (.ldc 38, 2) := by decide +kernel
theorem dX7_begin_30 : decode cX7_begin 30 = .ok (.fdiv, 1) := by decide +kernel
theorem dX7_begin_31 : decode cX7_begin 31 = .ok (.aload_n 0, 1) := by decide +kernel
theorem dX7_begin_32 : decode cX7_begin 32 = .ok (.getfield 25, 3) := by decide +kernel
theorem dX7_begin_35 : decode cX7_begin 35 = .ok (.getfield 39, 3) := by decide +kernel
theorem dX7_begin_38 : decode cX7_begin 38 = .ok (.iload_n 1, 1) := by decide +kernel
theorem dX7_begin_39 : decode cX7_begin 39 = .ok (.iaload, 1) := by decide +kernel
theorem dX7_begin_40 : decode cX7_begin 40 = .ok (.i2f, 1) := by decide +kernel
theorem dX7_begin_41 : decode cX7_begin 41 = .ok (.fdiv, 1) := by decide +kernel
theorem dX7_begin_42 : decode cX7_begin 42 = .ok (.aload_n 0, 1) := by decide +kernel
theorem dX7_begin_43 : decode cX7_begin 43 = .ok (.getfield 25, 3) := by decide +kernel
theorem dX7_begin_46 : decode cX7_begin 46 = .ok (.getfield 39, 3) := by decide +kernel
theorem dX7_begin_49 : decode cX7_begin 49 = .ok (.iload_n 1, 1) := by decide +kernel
theorem dX7_begin_50 : decode cX7_begin 50 = .ok (.iaload, 1) := by decide +kernel
theorem dX7_begin_51 : decode cX7_begin 51 = .ok (.i2f, 1) := by decide +kernel
theorem dX7_begin_52 : decode cX7_begin 52 = .ok (.fdiv, 1) := by decide +kernel
theorem dX7_begin_53 : decode cX7_begin 53 = .ok (.fastore, 1) := by decide +kernel
theorem dX7_begin_54 : decode cX7_begin 54 = .ok (.iinc 1 1, 3) := by decide +kernel
theorem dX7_begin_57 : decode cX7_begin 57 = .ok (.goto (-55), 3) := by decide +kernel
theorem dX7_begin_60 : decode cX7_begin 60 = .ok (.aload_n 0, 1) := by decide +kernel
theorem dX7_begin_61 : decode cX7_begin 61 = .ok (.getfield 15, 3) := by decide +kernel
theorem dX7_begin_64 : decode cX7_begin 64 = .ok (.iconst 0, 1) := by decide +kernel
theorem dX7_begin_65 : decode cX7_begin 65 = .ok (.aload_n 0, 1) := by decide +kernel
theorem dX7_begin_66 : decode cX7_begin 66 = .ok (.getfield 25, 3) := by decide +kernel
theorem dX7_begin_69 : decode cX7_begin 69 = .ok (.getfield 42, 3) := by decide +kernel
theorem dX7_begin_72 : decode cX7_begin 72 = .ok (.i2f, 1) := by decide +kernel
theorem dX7_begin_73 : decode cX7_begin 73 = .ok (.ldc 38, 2) := by decide +kernel
theorem dX7_begin_75 : decode cX7_begin 75 = .ok (.fdiv, 1) := by decide +kernel
theorem dX7_begin_76 : decode cX7_begin 76 = .ok (.fastore, 1) := by decide +kernel
theorem dX7_begin_77 : decode cX7_begin 77 = .ok (.iconst 1, 1) := by decide +kernel
theorem dX7_begin_78 : decode cX7_begin 78 = .ok (.istore_n 1, 1) := by decide +kernel
theorem dX7_begin_79 : decode cX7_begin 79 = .ok (.iload_n 1, 1) := by decide +kernel
theorem dX7_begin_80 : decode cX7_begin 80 = .ok (.aload_n 0, 1) := by decide +kernel
theorem dX7_begin_81 : decode cX7_begin 81 = .ok (.getfield 25, 3) := by decide +kernel
theorem dX7_begin_84 : decode cX7_begin 84 = .ok (.invokevirtual 45, 3) := by decide +kernel
theorem dX7_begin_87 : decode cX7_begin 87 = .ok (.if_icmp .gt 42, 3) := by decide +kernel
theorem dX7_begin_90 : decode cX7_begin 90 = .ok (.bipush 31, 2) := by decide +kernel
theorem dX7_begin_92 : decode cX7_begin 92 = .ok (.iload_n 1, 1) := by decide +kernel
theorem dX7_begin_93 : decode cX7_begin 93 = .ok (.invokestatic 49, 3) := by decide +kernel
theorem dX7_begin_96 : decode cX7_begin 96 = .ok (.isub, 1) := by decide +kernel
theorem dX7_begin_97 : decode cX7_begin 97 = .ok (.istore_n 2, 1) := by decide +kernel
theorem dX7_begin_98 : decode cX7_begin 98 = .ok (.aload_n 0, 1) := by decide +kernel
theorem dX7_begin_99 : decode cX7_begin 99 = .ok (.getfield 15, 3) := by decide +kernel
theorem dX7_begin_102 : decode cX7_begin 102 = .ok (.iload_n 1, 1) := by decide +kernel
theorem dX7_begin_103 : decode cX7_begin 103 = .ok (.aload_n 0, 1) := by decide +kernel
theorem dX7_begin_104 : decode cX7_begin 104 = .ok (.getfield 15, 3) := by decide +kernel
theorem dX7_begin_107 : decode cX7_begin 107 = .ok (.iload_n 1, 1) := by decide +kernel
theorem dX7_begin_108 : decode cX7_begin 108 = .ok (.iconst 1, 1) := by decide +kernel
theorem dX7_begin_109 : decode cX7_begin 109 = .ok (.iload_n 2, 1) := by decide +kernel
theorem dX7_begin_110 : decode cX7_begin 110 = .ok (.ishl, 1) := by decide +kernel
theorem dX7_begin_111 : decode cX7_begin 111 = .ok (.iconst (-1), 1) := by decide +kernel
theorem dX7_begin_112 : decode cX7_begin 112 = .ok (.ixor, 1) := by decide +kernel
theorem dX7_begin_113 : decode cX7_begin 113 = .ok (.iand, 1) := by decide +kernel
theorem dX7_begin_114 : decode cX7_begin 114 = .ok (.faload, 1) := by decide +kernel
theorem dX7_begin_115 : decode cX7_begin 115 = .ok (.aload_n 0, 1) := by decide +kernel
theorem dX7_begin_116 : decode cX7_begin 116 = .ok (.getfield 9, 3) := by decide +kernel
theorem dX7_begin_119 : decode cX7_begin 119 = .ok (.iload_n 2, 1) := by decide +kernel
theorem dX7_begin_120 : decode cX7_begin 120 = .ok (.faload, 1) := by decide +kernel
theorem dX7_begin_121 : decode cX7_begin 121 = .ok (.fadd, 1) := by decide +kernel
theorem dX7_begin_122 : decode cX7_begin 122 = .ok (.fastore, 1) := by decide +kernel
theorem dX7_begin_123 : decode cX7_begin 123 = .ok (.iinc 1 1, 3) := by decide +kernel
theorem dX7_begin_126 : decode cX7_begin 126 = .ok (.goto (-47), 3) := by decide +kernel
theorem dX7_begin_129 : decode cX7_begin 129 = .ok (.aload_n 0, 1) := by decide +kernel
theorem dX7_begin_130 : decode cX7_begin 130 = .ok (.iconst (-1), 1) := by decide +kernel
theorem dX7_begin_131 : decode cX7_begin 131 = .ok (.putfield 55, 3) := by decide +kernel
theorem dX7_begin_134 : decode cX7_begin 134 = .ok (.return_, 1) := by decide +kernel
theorem dX7_lookAt_0 : decode cX7_lookAt 0 = .ok (.aload_n 0, 1) := by decide +kernel
theorem dX7_lookAt_1 : decode cX7_lookAt 1 = .ok (.getfield 22, 3) := by decide +kernel
theorem dX7_lookAt_4 : decode cX7_lookAt 4 = .ok (.iconst 0, 1) := by decide +kernel
theorem dX7_lookAt_5 : decode cX7_lookAt 5 = .ok (.invokestatic 58, 3) := by decide +kernel
theorem dX7_lookAt_8 : decode cX7_lookAt 8 = .ok (.aload_n 0, 1) := by decide +kernel
theorem dX7_lookAt_9 : decode cX7_lookAt 9 = .ok (.iconst 0, 1) := by decide +kernel
theorem dX7_lookAt_10 : decode cX7_lookAt 10 = .ok (.putfield 64, 3) := by decide +kernel
theorem dX7_lookAt_13 : decode cX7_lookAt 13 = .ok (.iconst 0, 1) := by decide +kernel
theorem dX7_lookAt_14 : decode cX7_lookAt 14 = .ok (.istore_n 2, 1) := by decide +kernel
theorem dX7_lookAt_15 : decode cX7_lookAt 15 = .ok (.iload_n 2, 1) := by decide +kernel
theorem dX7_lookAt_16 : decode cX7_lookAt 16 = .ok (.aload_n 0, 1) := by decide +kernel
theorem dX7_lookAt_17 : decode cX7_lookAt 17 = .ok (.getfield 25, 3) := by decide +kernel
theorem dX7_lookAt_20 : decode cX7_lookAt 20 = .ok (.getfield 29, 3) := by decide +kernel
theorem dX7_lookAt_23 : decode cX7_lookAt 23 = .ok (.if_icmp .ge 92, 3) := by decide +kernel
theorem dX7_lookAt_26 : decode cX7_lookAt 26 = .ok (.aload_n 0, 1) := by decide +kernel
theorem dX7_lookAt_27 : decode cX7_lookAt 27 = .ok (.dup, 1) := by decide +kernel
theorem dX7_lookAt_28 : decode cX7_lookAt 28 = .ok (.getfield 64, 3) := by decide +kernel
theorem dX7_lookAt_31 : decode cX7_lookAt 31 = .ok (.aload_n 1, 1) := by decide +kernel
theorem dX7_lookAt_32 : decode cX7_lookAt 32 = .ok (.getfield 67, 3) := by decide +kernel
theorem dX7_lookAt_35 : decode cX7_lookAt 35 = .ok (.iload_n 2, 1) := by decide +kernel
theorem dX7_lookAt_36 : decode cX7_lookAt 36 = .ok (.iaload, 1) := by decide +kernel
theorem dX7_lookAt_37 : decode cX7_lookAt 37 = .ok (.ifCond .ne 9, 3) := by decide +kernel
theorem dX7_lookAt_40 : decode cX7_lookAt 40 = .ok (.iconst 1, 1) := by decide +kernel
theorem dX7_lookAt_41 : decode cX7_lookAt 41 = .ok (.iload_n 2, 1) := by decide +kernel
theorem dX7_lookAt_42 : decode cX7_lookAt 42 = .ok (.ishl, 1) := by decide +kernel
theorem dX7_lookAt_43 : decode cX7_lookAt 43 = .ok (.goto 4, 3) := by decide +kernel
theorem dX7_lookAt_46 : decode cX7_lookAt 46 = .ok (.iconst 0, 1) := by decide +kernel
theorem dX7_lookAt_47 : decode cX7_lookAt 47 = .ok (.ior, 1) := by decide +kernel
theorem dX7_lookAt_48 : decode cX7_lookAt 48 = .ok (.putfield 64, 3) := by decide +kernel
theorem dX7_lookAt_51 : decode cX7_lookAt 51 = .ok (.aload_n 0, 1) := by decide +kernel
theorem dX7_lookAt_52 : decode cX7_lookAt 52 = .ok (.getfield 25, 3) := by decide +kernel
theorem dX7_lookAt_55 : decode cX7_lookAt 55 = .ok (.iload_n 2, 1) := by decide +kernel
theorem dX7_lookAt_56 : decode cX7_lookAt 56 = .ok (.invokevirtual 72, 3) := by decide +kernel
theorem dX7_lookAt_59 : decode cX7_lookAt 59 = .ok (.istore_n 3, 1) := by decide +kernel
theorem dX7_lookAt_60 : decode cX7_lookAt 60 = .ok (.aload_n 0, 1) := by decide +kernel
theorem dX7_lookAt_61 : decode cX7_lookAt 61 = .ok (.getfield 25, 3) := by decide +kernel
theorem dX7_lookAt_64 : decode cX7_lookAt 64 = .ok (.iload_n 2, 1) := by decide +kernel
theorem dX7_lookAt_65 : decode cX7_lookAt 65 = .ok (.invokevirtual 75, 3) := by decide +kernel
theorem dX7_lookAt_68 : decode cX7_lookAt 68 = .ok (.istore 4, 2) := by decide +kernel
theorem dX7_lookAt_70 : decode cX7_lookAt 70 = .ok (.iload 4, 2) := by decide +kernel
theorem dX7_lookAt_72 : decode cX7_lookAt 72 = .ok (.iload_n 3, 1) := by decide +kernel
theorem dX7_lookAt_73 : decode cX7_lookAt 73 = .ok (.if_icmp .ge 36, 3) := by decide +kernel
theorem dX7_lookAt_76 : decode cX7_lookAt 76 = .ok (.aload_n 0, 1) := by decide +kernel
theorem dX7_lookAt_77 : decode cX7_lookAt 77 = .ok (.getfield 22, 3) := by decide +kernel
theorem dX7_lookAt_80 : decode cX7_lookAt 80 = .ok (.iload 4, 2) := by decide +kernel
theorem dX7_lookAt_82 : decode cX7_lookAt 82 = .ok (.dup2, 1) := by decide +kernel
theorem dX7_lookAt_83 : decode cX7_lookAt 83 = .ok (.iaload, 1) := by decide +kernel
theorem dX7_lookAt_84 : decode cX7_lookAt 84 = .ok (.aload_n 1, 1) := by decide +kernel
theorem dX7_lookAt_85 : decode cX7_lookAt 85 = .ok (.iload_n 2, 1) := by decide +kernel
theorem dX7_lookAt_86 : decode cX7_lookAt 86 = .ok (.iload 4, 2) := by decide +kernel
theorem dX7_lookAt_88 : decode cX7_lookAt 88 = .ok (.invokevirtual 78, 3) := by decide +kernel
theorem dX7_lookAt_91 : decode cX7_lookAt 91 = .ok (.ifCond .eq 9, 3) := by decide +kernel
theorem dX7_lookAt_94 : decode cX7_lookAt 94 = .ok (.iconst 1, 1) := by decide +kernel
theorem dX7_lookAt_95 : decode cX7_lookAt 95 = .ok (.iload_n 2, 1) := by decide +kernel
theorem dX7_lookAt_96 : decode cX7_lookAt 96 = .ok (.ishl, 1) := by decide +kernel
theorem dX7_lookAt_97 : decode cX7_lookAt 97 = .ok (.goto 4, 3) := by decide +kernel
theorem dX7_lookAt_100 : decode cX7_lookAt 100 = .ok (.iconst 0, 1) := by decide +kernel
theorem dX7_lookAt_101 : decode cX7_lookAt 101 = .ok (.ior, 1) := by decide +kernel
theorem dX7_lookAt_102 : decode cX7_lookAt 102 = .ok (.iastore, 1) := by decide +kernel
theorem dX7_lookAt_103 : decode cX7_lookAt 103 = .ok (.iinc 4 1, 3) := by decide +kernel
theorem dX7_lookAt_106 : decode cX7_lookAt 106 = .ok (.goto (-36), 3) := by decide +kernel
theorem dX7_lookAt_109 : decode cX7_lookAt 109 = .ok (.iinc 2 1, 3) := by decide +kernel
theorem dX7_lookAt_112 : decode cX7_lookAt 112 = .ok (.goto (-97), 3) := by decide +kernel
theorem dX7_lookAt_115 : decode cX7_lookAt 115 = .ok (.aload_n 0, 1) := by decide +kernel
theorem dX7_lookAt_116 : decode cX7_lookAt 116 = .ok (.aload_n 1, 1) := by decide +kernel
theorem dX7_lookAt_117 : decode cX7_lookAt 117 = .ok (.getfield 82, 3) := by decide +kernel
theorem dX7_lookAt_120 : decode cX7_lookAt 120 = .ok (.invokevirtual 85, 3) := by decide +kernel
theorem dX7_lookAt_123 : decode cX7_lookAt 123 = .ok (.return_, 1) := by decide +kernel
theorem dX7_assume_0 : decode cX7_assume 0 = .ok (.aload_n 0, 1) := by decide +kernel
theorem dX7_assume_1 : decode cX7_assume 1 = .ok (.getfield 55, 3) := by decide +kernel
theorem dX7_assume_4 : decode cX7_assume 4 = .ok (.iload_n 1, 1) := by decide +kernel
theorem dX7_assume_5 : decode cX7_assume 5 = .ok (.if_icmp .eq 16, 3) := by decide +kernel
theorem dX7_assume_8 : decode cX7_assume 8 = .ok (.aload_n 0, 1) := by decide +kernel
theorem dX7_assume_9 : decode cX7_assume 9 = .ok (.getfield 18, 3) := by decide +kernel
theorem dX7_assume_12 : decode cX7_assume 12 = .ok (.iconst (-1), 1) := by decide +kernel
theorem dX7_assume_13 : decode cX7_assume 13 = .ok (.invokestatic 58, 3) := by decide +kernel
theorem dX7_assume_16 : decode cX7_assume 16 = .ok (.aload_n 0, 1) := by decide +kernel
theorem dX7_assume_17 : decode cX7_assume 17 = .ok (.iload_n 1, 1) := by decide +kernel
theorem dX7_assume_18 : decode cX7_assume 18 = .ok (.putfield 55, 3) := by decide +kernel
theorem dX7_assume_21 : decode cX7_assume 21 = .ok (.return_, 1) := by decide +kernel
theorem dX7_dinFor_0 : decode cX7_dinFor 0 = .ok (.aload_n 0, 1) := by decide +kernel
theorem dX7_dinFor_1 : decode cX7_dinFor 1 = .ok (.getfield 15, 3) := by decide +kernel
theorem dX7_dinFor_4 : decode cX7_dinFor 4 = .ok (.aload_n 0, 1) := by decide +kernel
theorem dX7_dinFor_5 : decode cX7_dinFor 5 = .ok (.getfield 22, 3) := by decide +kernel
theorem dX7_dinFor_8 : decode cX7_dinFor 8 = .ok (.iload_n 2, 1) := by decide +kernel
theorem dX7_dinFor_9 : decode cX7_dinFor 9 = .ok (.iaload, 1) := by decide +kernel
theorem dX7_dinFor_10 : decode cX7_dinFor 10 = .ok (.aload_n 0, 1) := by decide +kernel
theorem dX7_dinFor_11 : decode cX7_dinFor 11 = .ok (.getfield 64, 3) := by decide +kernel
theorem dX7_dinFor_14 : decode cX7_dinFor 14 = .ok (.iand, 1) := by decide +kernel
theorem dX7_dinFor_15 : decode cX7_dinFor 15 = .ok (.iconst 1, 1) := by decide +kernel
theorem dX7_dinFor_16 : decode cX7_dinFor 16 = .ok (.iload_n 1, 1) := by decide +kernel
theorem dX7_dinFor_17 : decode cX7_dinFor 17 = .ok (.ishl, 1) := by decide +kernel
theorem dX7_dinFor_18 : decode cX7_dinFor 18 = .ok (.iconst (-1), 1) := by decide +kernel
theorem dX7_dinFor_19 : decode cX7_dinFor 19 = .ok (.ixor, 1) := by decide +kernel
theorem dX7_dinFor_20 : decode cX7_dinFor 20 = .ok (.iand, 1) := by decide +kernel
theorem dX7_dinFor_21 : decode cX7_dinFor 21 = .ok (.faload, 1) := by decide +kernel
theorem dX7_dinFor_22 : decode cX7_dinFor 22 = .ok (.freturn, 1) := by decide +kernel
theorem dX7_marginOf_0 : decode cX7_marginOf 0 = .ok (.aload_n 0, 1) := by decide +kernel
theorem dX7_marginOf_1 : decode cX7_marginOf 1 = .ok (.getfield 9, 3) := by decide +kernel
theorem dX7_marginOf_4 : decode cX7_marginOf 4 = .ok (.iload_n 1, 1) := by decide +kernel
theorem dX7_marginOf_5 : decode cX7_marginOf 5 = .ok (.faload, 1) := by decide +kernel
theorem dX7_marginOf_6 : decode cX7_marginOf 6 = .ok (.aload_n 0, 1) := by decide +kernel
theorem dX7_marginOf_7 : decode cX7_marginOf 7 = .ok (.getfield 55, 3) := by decide +kernel
theorem dX7_marginOf_10 : decode cX7_marginOf 10 = .ok (.i2f, 1) := by decide +kernel
theorem dX7_marginOf_11 : decode cX7_marginOf 11 = .ok (.ldc 38, 2) := by decide +kernel
theorem dX7_marginOf_13 : decode cX7_marginOf 13 = .ok (.fdiv, 1) := by decide +kernel
theorem dX7_marginOf_14 : decode cX7_marginOf 14 = .ok (.aload_n 0, 1) := by decide +kernel
theorem dX7_marginOf_15 : decode cX7_marginOf 15 = .ok (.iload_n 1, 1) := by decide +kernel
theorem dX7_marginOf_16 : decode cX7_marginOf 16 = .ok (.iload_n 2, 1) := by decide +kernel
theorem dX7_marginOf_17 : decode cX7_marginOf 17 = .ok (.invokevirtual 89, 3) := by decide +kernel
theorem dX7_marginOf_20 : decode cX7_marginOf 20 = .ok (.fmul, 1) := by decide +kernel
theorem dX7_marginOf_21 : decode cX7_marginOf 21 = .ok (.fsub, 1) := by decide +kernel
theorem dX7_marginOf_22 : decode cX7_marginOf 22 = .ok (.freturn, 1) := by decide +kernel
theorem dX7_clearIn_0 : decode cX7_clearIn 0 = .ok (.aload_n 0, 1) := by decide +kernel
theorem dX7_clearIn_1 : decode cX7_clearIn 1 = .ok (.getfield 22, 3) := by decide +kernel
theorem dX7_clearIn_4 : decode cX7_clearIn 4 = .ok (.iload_n 1, 1) := by decide +kernel
theorem dX7_clearIn_5 : decode cX7_clearIn 5 = .ok (.iaload, 1) := by decide +kernel
theorem dX7_clearIn_6 : decode cX7_clearIn 6 = .ok (.iload_n 2, 1) := by decide +kernel
theorem dX7_clearIn_7 : decode cX7_clearIn 7 = .ok (.iand, 1) := by decide +kernel
theorem dX7_clearIn_8 : decode cX7_clearIn 8 = .ok (.istore_n 3, 1) := by decide +kernel
theorem dX7_clearIn_9 : decode cX7_clearIn 9 = .ok (.aload_n 0, 1) := by decide +kernel
theorem dX7_clearIn_10 : decode cX7_clearIn 10 = .ok (.getfield 18, 3) := by decide +kernel
theorem dX7_clearIn_13 : decode cX7_clearIn 13 = .ok (.iload_n 3, 1) := by decide +kernel
theorem dX7_clearIn_14 : decode cX7_clearIn 14 = .ok (.iaload, 1) := by decide +kernel
theorem dX7_clearIn_15 : decode cX7_clearIn 15 = .ok (.iconst (-1), 1) := by decide +kernel
theorem dX7_clearIn_16 : decode cX7_clearIn 16 = .ok (.if_icmp .ne 14, 3) := by decide +kernel
theorem dX7_clearIn_19 : decode cX7_clearIn 19 = .ok (.aload_n 0, 1) := by decide +kernel
theorem dX7_clearIn_20 : decode cX7_clearIn 20 = .ok (.getfield 18, 3) := by decide +kernel
theorem dX7_clearIn_23 : decode cX7_clearIn 23 = .ok (.iload_n 3, 1) := by decide +kernel
theorem dX7_clearIn_24 : decode cX7_clearIn 24 = .ok (.aload_n 0, 1) := by decide +kernel
theorem dX7_clearIn_25 : decode cX7_clearIn 25 = .ok (.iload_n 3, 1) := by decide +kernel
theorem dX7_clearIn_26 : decode cX7_clearIn 26 = .ok (.invokevirtual 93, 3) := by decide +kernel
theorem dX7_clearIn_29 : decode cX7_clearIn 29 = .ok (.iastore, 1) := by decide +kernel
theorem dX7_clearIn_30 : decode cX7_clearIn 30 = .ok (.aload_n 0, 1) := by decide +kernel
theorem dX7_clearIn_31 : decode cX7_clearIn 31 = .ok (.getfield 18, 3) := by decide +kernel
theorem dX7_clearIn_34 : decode cX7_clearIn 34 = .ok (.iload_n 3, 1) := by decide +kernel
theorem dX7_clearIn_35 : decode cX7_clearIn 35 = .ok (.iaload, 1) := by decide +kernel
theorem dX7_clearIn_36 : decode cX7_clearIn 36 = .ok (.ireturn, 1) := by decide +kernel
theorem dX7_clearAmong_0 : decode cX7_clearAmong 0 = .ok (.iconst 0, 1) := by decide +kernel
theorem dX7_clearAmong_1 : decode cX7_clearAmong 1 = .ok (.istore_n 2, 1) := by decide +kernel
theorem dX7_clearAmong_2 : decode cX7_clearAmong 2 = .ok (.iconst 0, 1) := by decide +kernel
theorem dX7_clearAmong_3 : decode cX7_clearAmong 3 = .ok (.istore_n 3, 1) := by decide +kernel
theorem dX7_clearAmong_4 : decode cX7_clearAmong 4 = .ok (.iload_n 3, 1) := by decide +kernel
theorem dX7_clearAmong_5 : decode cX7_clearAmong 5 = .ok (.aload_n 0, 1) := by decide +kernel
theorem dX7_clearAmong_6 : decode cX7_clearAmong 6 = .ok (.getfield 25, 3) := by decide +kernel
theorem dX7_clearAmong_9 : decode cX7_clearAmong 9 = .ok (.getfield 29, 3) := by decide +kernel
theorem dX7_clearAmong_12 : decode cX7_clearAmong 12 = .ok (.if_icmp .ge 92, 3) := by decide +kernel
theorem dX7_clearAmong_15 : decode cX7_clearAmong 15 = .ok (.iload_n 1, 1) := by decide +kernel
theorem dX7_clearAmong_16 : decode cX7_clearAmong 16 = .ok (.iconst 1, 1) := by decide +kernel
theorem dX7_clearAmong_17 : decode cX7_clearAmong 17 = .ok (.iload_n 3, 1) := by decide +kernel
theorem dX7_clearAmong_18 : decode cX7_clearAmong 18 = .ok (.ishl, 1) := by decide +kernel
theorem dX7_clearAmong_19 : decode cX7_clearAmong 19 = .ok (.iconst (-1), 1) := by decide +kernel
theorem dX7_clearAmong_20 : decode cX7_clearAmong 20 = .ok (.ixor, 1) := by decide +kernel
theorem dX7_clearAmong_21 : decode cX7_clearAmong 21 = .ok (.iand, 1) := by decide +kernel
theorem dX7_clearAmong_22 : decode cX7_clearAmong 22 = .ok (.istore 4, 2) := by decide +kernel
theorem dX7_clearAmong_24 : decode cX7_clearAmong 24 = .ok (.aload_n 0, 1) := by decide +kernel
theorem dX7_clearAmong_25 : decode cX7_clearAmong 25 = .ok (.getfield 55, 3) := by decide +kernel
theorem dX7_clearAmong_28 : decode cX7_clearAmong 28 = .ok (.ifCond .ne 16, 3) := by decide +kernel
theorem dX7_clearAmong_31 : decode cX7_clearAmong 31 = .ok (.iload 4, 2) := by decide +kernel
theorem dX7_clearAmong_33 : decode cX7_clearAmong 33 = .ok (.ifCond .ne 7, 3) := by decide +kernel
theorem dX7_clearAmong_36 : decode cX7_clearAmong 36 = .ok (.iconst 1, 1) := by decide +kernel
theorem dX7_clearAmong_37 : decode cX7_clearAmong 37 = .ok (.goto 38, 3) := by decide +kernel
theorem dX7_clearAmong_40 : decode cX7_clearAmong 40 = .ok (.iconst 0, 1) := by decide +kernel
theorem dX7_clearAmong_41 : decode cX7_clearAmong 41 = .ok (.goto 34, 3) := by decide +kernel
theorem dX7_clearAmong_44 : decode cX7_clearAmong 44 = .ok (.aload_n 0, 1) := by decide +kernel
theorem dX7_clearAmong_45 : decode cX7_clearAmong 45 = .ok (.getfield 9, 3) := by decide +kernel
theorem dX7_clearAmong_48 : decode cX7_clearAmong 48 = .ok (.iload_n 3, 1) := by decide +kernel
theorem dX7_clearAmong_49 : decode cX7_clearAmong 49 = .ok (.faload, 1) := by decide +kernel
theorem dX7_clearAmong_50 : decode cX7_clearAmong 50 = .ok (.aload_n 0, 1) := by decide +kernel
theorem dX7_clearAmong_51 : decode cX7_clearAmong 51 = .ok (.getfield 55, 3) := by decide +kernel
theorem dX7_clearAmong_54 : decode cX7_clearAmong 54 = .ok (.i2f, 1) := by decide +kernel
theorem dX7_clearAmong_55 : decode cX7_clearAmong 55 = .ok (.ldc 38, 2) := by decide +kernel
theorem dX7_clearAmong_57 : decode cX7_clearAmong 57 = .ok (.fdiv, 1) := by decide +kernel
theorem dX7_clearAmong_58 : decode cX7_clearAmong 58 = .ok (.aload_n 0, 1) := by decide +kernel
theorem dX7_clearAmong_59 : decode cX7_clearAmong 59 = .ok (.getfield 15, 3) := by decide +kernel
theorem dX7_clearAmong_62 : decode cX7_clearAmong 62 = .ok (.iload 4, 2) := by decide +kernel
theorem dX7_clearAmong_64 : decode cX7_clearAmong 64 = .ok (.faload, 1) := by decide +kernel
theorem dX7_clearAmong_65 : decode cX7_clearAmong 65 = .ok (.fmul, 1) := by decide +kernel
theorem dX7_clearAmong_66 : decode cX7_clearAmong 66 = .ok (.fcmp .l, 1) := by decide +kernel
theorem dX7_clearAmong_67 : decode cX7_clearAmong 67 = .ok (.ifCond .lt 7, 3) := by decide +kernel
theorem dX7_clearAmong_70 : decode cX7_clearAmong 70 = .ok (.iconst 1, 1) := by decide +kernel
theorem dX7_clearAmong_71 : decode cX7_clearAmong 71 = .ok (.goto 4, 3) := by decide +kernel
theorem dX7_clearAmong_74 : decode cX7_clearAmong 74 = .ok (.iconst 0, 1) := by decide +kernel
theorem dX7_clearAmong_75 : decode cX7_clearAmong 75 = .ok (.istore 5, 2) := by decide +kernel
theorem dX7_clearAmong_77 : decode cX7_clearAmong 77 = .ok (.iload_n 2, 1) := by decide +kernel
theorem dX7_clearAmong_78 : decode cX7_clearAmong 78 = .ok (.iload 4, 2) := by decide +kernel
theorem dX7_clearAmong_80 : decode cX7_clearAmong 80 = .ok (.iload_n 1, 1) := by decide +kernel
theorem dX7_clearAmong_81 : decode cX7_clearAmong 81 = .ok (.if_icmp .eq 14, 3) := by decide +kernel
theorem dX7_clearAmong_84 : decode cX7_clearAmong 84 = .ok (.iload 5, 2) := by decide +kernel
theorem dX7_clearAmong_86 : decode cX7_clearAmong 86 = .ok (.ifCond .eq 9, 3) := by decide +kernel
theorem dX7_clearAmong_89 : decode cX7_clearAmong 89 = .ok (.iconst 1, 1) := by decide +kernel
theorem dX7_clearAmong_90 : decode cX7_clearAmong 90 = .ok (.iload_n 3, 1) := by decide +kernel
theorem dX7_clearAmong_91 : decode cX7_clearAmong 91 = .ok (.ishl, 1) := by decide +kernel
theorem dX7_clearAmong_92 : decode cX7_clearAmong 92 = .ok (.goto 4, 3) := by decide +kernel
theorem dX7_clearAmong_95 : decode cX7_clearAmong 95 = .ok (.iconst 0, 1) := by decide +kernel
theorem dX7_clearAmong_96 : decode cX7_clearAmong 96 = .ok (.ior, 1) := by decide +kernel
theorem dX7_clearAmong_97 : decode cX7_clearAmong 97 = .ok (.istore_n 2, 1) := by decide +kernel
theorem dX7_clearAmong_98 : decode cX7_clearAmong 98 = .ok (.iinc 3 1, 3) := by decide +kernel
theorem dX7_clearAmong_101 : decode cX7_clearAmong 101 = .ok (.goto (-97), 3) := by decide +kernel
theorem dX7_clearAmong_104 : decode cX7_clearAmong 104 = .ok (.iload_n 2, 1) := by decide +kernel
theorem dX7_clearAmong_105 : decode cX7_clearAmong 105 = .ok (.ireturn, 1) := by decide +kernel
theorem dX7_clearAnywhere_0 : decode cX7_clearAnywhere 0 = .ok (.iconst 0, 1) := by decide +kernel
theorem dX7_clearAnywhere_1 : decode cX7_clearAnywhere 1 = .ok (.istore_n 2, 1) := by decide +kernel
theorem dX7_clearAnywhere_2 : decode cX7_clearAnywhere 2 = .ok (.iconst 0, 1) := by decide +kernel
theorem dX7_clearAnywhere_3 : decode cX7_clearAnywhere 3 = .ok (.istore_n 3, 1) := by decide +kernel
theorem dX7_clearAnywhere_4 : decode cX7_clearAnywhere 4 = .ok (.iload_n 3, 1) := by decide +kernel
theorem dX7_clearAnywhere_5 : decode cX7_clearAnywhere 5 = .ok (.aload_n 0, 1) := by decide +kernel
theorem dX7_clearAnywhere_6 : decode cX7_clearAnywhere 6 = .ok (.getfield 25, 3) := by decide +kernel
theorem dX7_clearAnywhere_9 : decode cX7_clearAnywhere 9 = .ok (.invokevirtual 96, 3) := by decide +kernel
theorem dX7_clearAnywhere_12 : decode cX7_clearAnywhere 12 = .ok (.if_icmp .ge 18, 3) := by decide +kernel
theorem dX7_clearAnywhere_15 : decode cX7_clearAnywhere 15 = .ok (.iload_n 2, 1) := by decide +kernel
theorem dX7_clearAnywhere_16 : decode cX7_clearAnywhere 16 = .ok (.aload_n 0, 1) := by decide +kernel
theorem dX7_clearAnywhere_17 : decode cX7_clearAnywhere 17 = .ok (.iload_n 3, 1) := by decide +kernel
theorem dX7_clearAnywhere_18 : decode cX7_clearAnywhere 18 = .ok (.iload_n 1, 1) := by decide +kernel
theorem dX7_clearAnywhere_19 : decode cX7_clearAnywhere 19 = .ok (.invokevirtual 99, 3) := by decide +kernel
theorem dX7_clearAnywhere_22 : decode cX7_clearAnywhere 22 = .ok (.ior, 1) := by decide +kernel
theorem dX7_clearAnywhere_23 : decode cX7_clearAnywhere 23 = .ok (.istore_n 2, 1) := by decide +kernel
theorem dX7_clearAnywhere_24 : decode cX7_clearAnywhere 24 = .ok (.iinc 3 1, 3) := by decide +kernel
theorem dX7_clearAnywhere_27 : decode cX7_clearAnywhere 27 = .ok (.goto (-23), 3) := by decide +kernel
theorem dX7_clearAnywhere_30 : decode cX7_clearAnywhere 30 = .ok (.iload_n 2, 1) := by decide +kernel
theorem dX7_clearAnywhere_31 : decode cX7_clearAnywhere 31 = .ok (.ireturn, 1) := by decide +kernel
theorem dX7_settle_0 : decode cX7_settle 0 = .ok (.iload_n 1, 1) := by decide +kernel
theorem dX7_settle_1 : decode cX7_settle 1 = .ok (.istore 6, 2) := by decide +kernel
theorem dX7_settle_3 : decode cX7_settle 3 = .ok (.iconst 0, 1) := by decide +kernel
theorem dX7_settle_4 : decode cX7_settle 4 = .ok (.istore 7, 2) := by decide +kernel
theorem dX7_settle_6 : decode cX7_settle 6 = .ok (.iload 7, 2) := by decide +kernel
theorem dX7_settle_8 : decode cX7_settle 8 = .ok (.bipush 10, 2) := by decide +kernel
theorem dX7_settle_10 : decode cX7_settle 10 = .ok (.if_icmp .gt 65, 3) := by decide +kernel
theorem dX7_settle_13 : decode cX7_settle 13 = .ok (.iload 6, 2) := by decide +kernel
theorem dX7_settle_15 : decode cX7_settle 15 = .ok (.istore 8, 2) := by decide +kernel
theorem dX7_settle_17 : decode cX7_settle 17 = .ok (.iload_n 2, 1) := by decide +kernel
theorem dX7_settle_18 : decode cX7_settle 18 = .ok (.istore 9, 2) := by decide +kernel
theorem dX7_settle_20 : decode cX7_settle 20 = .ok (.iload 9, 2) := by decide +kernel
theorem dX7_settle_22 : decode cX7_settle 22 = .ok (.iload_n 3, 1) := by decide +kernel
theorem dX7_settle_23 : decode cX7_settle 23 = .ok (.if_icmp .ge 36, 3) := by decide +kernel
theorem dX7_settle_26 : decode cX7_settle 26 = .ok (.lload 4, 2) := by decide +kernel
theorem dX7_settle_28 : decode cX7_settle 28 = .ok (.iload 9, 2) := by decide +kernel
theorem dX7_settle_30 : decode cX7_settle 30 = .ok (.lshr, 1) := by decide +kernel
theorem dX7_settle_31 : decode cX7_settle 31 = .ok (.lconst 1, 1) := by decide +kernel
theorem dX7_settle_32 : decode cX7_settle 32 = .ok (.land, 1) := by decide +kernel
theorem dX7_settle_33 : decode cX7_settle 33 = .ok (.lconst 0, 1) := by decide +kernel
theorem dX7_settle_34 : decode cX7_settle 34 = .ok (.lcmp, 1) := by decide +kernel
theorem dX7_settle_35 : decode cX7_settle 35 = .ok (.ifCond .ne 18, 3) := by decide +kernel
theorem dX7_settle_38 : decode cX7_settle 38 = .ok (.iload 6, 2) := by decide +kernel
theorem dX7_settle_40 : decode cX7_settle 40 = .ok (.aload_n 0, 1) := by decide +kernel
theorem dX7_settle_41 : decode cX7_settle 41 = .ok (.iload 9, 2) := by decide +kernel
theorem dX7_settle_43 : decode cX7_settle 43 = .ok (.iload 6, 2) := by decide +kernel
theorem dX7_settle_45 : decode cX7_settle 45 = .ok (.invokevirtual 99, 3) := by decide +kernel
theorem dX7_settle_48 : decode cX7_settle 48 = .ok (.iconst (-1), 1) := by decide +kernel
theorem dX7_settle_49 : decode cX7_settle 49 = .ok (.ixor, 1) := by decide +kernel
theorem dX7_settle_50 : decode cX7_settle 50 = .ok (.iand, 1) := by decide +kernel
theorem dX7_settle_51 : decode cX7_settle 51 = .ok (.istore 6, 2) := by decide +kernel
theorem dX7_settle_53 : decode cX7_settle 53 = .ok (.iinc 9 1, 3) := by decide +kernel
theorem dX7_settle_56 : decode cX7_settle 56 = .ok (.goto (-36), 3) := by decide +kernel
theorem dX7_settle_59 : decode cX7_settle 59 = .ok (.iload 6, 2) := by decide +kernel
theorem dX7_settle_61 : decode cX7_settle 61 = .ok (.iload 8, 2) := by decide +kernel
theorem dX7_settle_63 : decode cX7_settle 63 = .ok (.if_icmp .ne 6, 3) := by decide +kernel
theorem dX7_settle_66 : decode cX7_settle 66 = .ok (.iload 6, 2) := by decide +kernel
theorem dX7_settle_68 : decode cX7_settle 68 = .ok (.ireturn, 1) := by decide +kernel
theorem dX7_settle_69 : decode cX7_settle 69 = .ok (.iinc 7 1, 3) := by decide +kernel
theorem dX7_settle_72 : decode cX7_settle 72 = .ok (.goto (-66), 3) := by decide +kernel
theorem dX7_settle_75 : decode cX7_settle 75 = .ok (.iload 6, 2) := by decide +kernel
theorem dX7_settle_77 : decode cX7_settle 77 = .ok (.ireturn, 1) := by decide +kernel
theorem dX7_stuckOf_0 : decode cX7_stuckOf 0 = .ok (.aload_n 0, 1) := by decide +kernel
theorem dX7_stuckOf_1 : decode cX7_stuckOf 1 = .ok (.iload_n 1, 1) := by decide +kernel
theorem dX7_stuckOf_2 : decode cX7_stuckOf 2 = .ok (.iconst 0, 1) := by decide +kernel
theorem dX7_stuckOf_3 : decode cX7_stuckOf 3 = .ok (.aload_n 0, 1) := by decide +kernel
theorem dX7_stuckOf_4 : decode cX7_stuckOf 4 = .ok (.getfield 25, 3) := by decide +kernel
theorem dX7_stuckOf_7 : decode cX7_stuckOf 7 = .ok (.invokevirtual 96, 3) := by decide +kernel
theorem dX7_stuckOf_10 : decode cX7_stuckOf 10 = .ok (.lconst 0, 1) := by decide +kernel
theorem dX7_stuckOf_11 : decode cX7_stuckOf 11 = .ok (.invokevirtual 103, 3) := by decide +kernel
theorem dX7_stuckOf_14 : decode cX7_stuckOf 14 = .ok (.ireturn, 1) := by decide +kernel
theorem dX7_isKnownDespite_0 : decode cX7_isKnownDespite 0 = .ok (.aload_n 0, 1) := by decide +kernel
theorem dX7_isKnownDespite_1 : decode cX7_isKnownDespite 1 = .ok (.aload_n 0, 1) := by decide +kernel
theorem dX7_isKnownDespite_2 : decode cX7_isKnownDespite 2 = .ok (.getfield 64, 3) := by decide +kernel
theorem dX7_isKnownDespite_5 : decode cX7_isKnownDespite 5 = .ok (.iconst 0, 1) := by decide +kernel
theorem dX7_isKnownDespite_6 : decode cX7_isKnownDespite 6 = .ok (.aload_n 0, 1) := by decide +kernel
theorem dX7_isKnownDespite_7 : decode cX7_isKnownDespite 7 = .ok (.getfield 25, 3) := by decide +kernel
theorem dX7_isKnownDespite_10 : decode cX7_isKnownDespite 10 = .ok (.invokevirtual 96, 3) := by decide +kernel
theorem dX7_isKnownDespite_13 : decode cX7_isKnownDespite 13 = .ok (.lload_n 2, 1) := by decide +kernel
theorem dX7_isKnownDespite_14 : decode cX7_isKnownDespite 14 = .ok (.invokevirtual 103, 3) := by decide +kernel
theorem dX7_isKnownDespite_17 : decode cX7_isKnownDespite 17 = .ok (.iload_n 1, 1) := by decide +kernel
theorem dX7_isKnownDespite_18 : decode cX7_isKnownDespite 18 = .ok (.iand, 1) := by decide +kernel
theorem dX7_isKnownDespite_19 : decode cX7_isKnownDespite 19 = .ok (.ifCond .ne 7, 3) := by decide +kernel
theorem dX7_isKnownDespite_22 : decode cX7_isKnownDespite 22 = .ok (.iconst 1, 1) := by decide +kernel
theorem dX7_isKnownDespite_23 : decode cX7_isKnownDespite 23 = .ok (.goto 4, 3) := by decide +kernel
theorem dX7_isKnownDespite_26 : decode cX7_isKnownDespite 26 = .ok (.iconst 0, 1) := by decide +kernel
theorem dX7_isKnownDespite_27 : decode cX7_isKnownDespite 27 = .ok (.ireturn, 1) := by decide +kernel
theorem dX8_init_0 : decode cX8_init 0 = .ok (.aload_n 0, 1) := by decide +kernel
theorem dX8_init_1 : decode cX8_init 1 = .ok (.invokespecial 3, 3) := by decide +kernel
theorem dX8_init_4 : decode cX8_init 4 = .ok (.aload_n 0, 1) := by decide +kernel
theorem dX8_init_5 : decode cX8_init 5 = .ok (.bipush 16, 2) := by decide +kernel
theorem dX8_init_7 : decode cX8_init 7 = .ok (.newarray .int, 2) := by decide +kernel
theorem dX8_init_9 : decode cX8_init 9 = .ok (.putfield 9, 3) := by decide +kernel
theorem dX8_init_12 : decode cX8_init 12 = .ok (.aload_n 0, 1) := by decide +kernel
theorem dX8_init_13 : decode cX8_init 13 = .ok (.bipush 16, 2) := by decide +kernel
theorem dX8_init_15 : decode cX8_init 15 = .ok (.newarray .int, 2) := by decide +kernel
theorem dX8_init_17 : decode cX8_init 17 = .ok (.putfield 15, 3) := by decide +kernel
theorem dX8_init_20 : decode cX8_init 20 = .ok (.return_, 1) := by decide +kernel
theorem dX8_sortOf_0 : decode cX8_sortOf 0 = .ok (.getstatic 18, 3) := by decide +kernel
theorem dX8_sortOf_3 : decode cX8_sortOf 3 = .ok (.aload_n 0, 1) := by decide +kernel
theorem dX8_sortOf_4 : decode cX8_sortOf 4 = .ok (.getfield 9, 3) := by decide +kernel
theorem dX8_sortOf_7 : decode cX8_sortOf 7 = .ok (.iload_n 1, 1) := by decide +kernel
theorem dX8_sortOf_8 : decode cX8_sortOf 8 = .ok (.iaload, 1) := by decide +kernel
theorem dX8_sortOf_9 : decode cX8_sortOf 9 = .ok (.iaload, 1) := by decide +kernel
theorem dX8_sortOf_10 : decode cX8_sortOf 10 = .ok (.ireturn, 1) := by decide +kernel
theorem dX8_readFrom_0 : decode cX8_readFrom 0 = .ok (.aload_n 0, 1) := by decide +kernel
theorem dX8_readFrom_1 : decode cX8_readFrom 1 = .ok (.iconst 0, 1) := by decide +kernel
theorem dX8_readFrom_2 : decode cX8_readFrom 2 = .ok (.putfield 21, 3) := by decide +kernel
theorem dX8_readFrom_5 : decode cX8_readFrom 5 = .ok (.aload_n 1, 1) := by decide +kernel
theorem dX8_readFrom_6 : decode cX8_readFrom 6 = .ok (.iconst 0, 1) := by decide +kernel
theorem dX8_readFrom_7 : decode cX8_readFrom 7 = .ok (.putfield 25, 3) := by decide +kernel
theorem dX8_readFrom_10 : decode cX8_readFrom 10 = .ok (.iconst 0, 1) := by decide +kernel
theorem dX8_readFrom_11 : decode cX8_readFrom 11 = .ok (.istore_n 2, 1) := by decide +kernel
theorem dX8_readFrom_12 : decode cX8_readFrom 12 = .ok (.iload_n 2, 1) := by decide +kernel
theorem dX8_readFrom_13 : decode cX8_readFrom 13 = .ok (.bipush 16, 2) := by decide +kernel
theorem dX8_readFrom_15 : decode cX8_readFrom 15 = .ok (.if_icmp .ge 63, 3) := by decide +kernel
theorem dX8_readFrom_18 : decode cX8_readFrom 18 = .ok (.aload_n 0, 1) := by decide +kernel
theorem dX8_readFrom_19 : decode cX8_readFrom 19 = .ok (.aload_n 1, 1) := by decide +kernel
theorem dX8_readFrom_20 : decode cX8_readFrom 20 = .ok (.invokevirtual 30, 3) := by decide +kernel
theorem dX8_readFrom_23 : decode cX8_readFrom 23 = .ok (.ifCond .ne 8, 3) := by decide +kernel
theorem dX8_readFrom_26 : decode cX8_readFrom 26 = .ok (.aload_n 1, 1) := by decide +kernel
theorem dX8_readFrom_27 : decode cX8_readFrom 27 = .ok (.getfield 25, 3) := by decide +kernel
theorem dX8_readFrom_30 : decode cX8_readFrom 30 = .ok (.ireturn, 1) := by decide +kernel
theorem dX8_readFrom_31 : decode cX8_readFrom 31 = .ok (.aload_n 1, 1) := by decide +kernel
theorem dX8_readFrom_32 : decode cX8_readFrom 32 = .ok (.invokevirtual 34, 3) := by decide +kernel
theorem dX8_readFrom_35 : decode cX8_readFrom 35 = .ok (.istore_n 3, 1) := by decide +kernel
theorem dX8_readFrom_36 : decode cX8_readFrom 36 = .ok (.iload_n 3, 1) := by decide +kernel
theorem dX8_readFrom_37 : decode cX8_readFrom 37 = .ok (.ifCond .ne 5, 3) := by decide +kernel
theorem dX8_readFrom_40 : decode cX8_readFrom 40 = .ok (.iconst (-1), 1) := by decide +kernel
theorem dX8_readFrom_41 : decode cX8_readFrom 41 = .ok (.ireturn, 1) := by decide +kernel
theorem dX8_readFrom_42 : decode cX8_readFrom 42 = .ok (.iload_n 3, 1) := by decide +kernel
theorem dX8_readFrom_43 : decode cX8_readFrom 43 = .ok (.bipush 59, 2) := by decide +kernel
theorem dX8_readFrom_45 : decode cX8_readFrom 45 = .ok (.if_icmp .ne 12, 3) := by decide +kernel
theorem dX8_readFrom_48 : decode cX8_readFrom 48 = .ok (.aload_n 0, 1) := by decide +kernel
theorem dX8_readFrom_49 : decode cX8_readFrom 49 = .ok (.getfield 21, 3) := by decide +kernel
theorem dX8_readFrom_52 : decode cX8_readFrom 52 = .ok (.bipush 16, 2) := by decide +kernel
theorem dX8_readFrom_54 : decode cX8_readFrom 54 = .ok (.if_icmp .ne 8, 3) := by decide +kernel
theorem dX8_readFrom_57 : decode cX8_readFrom 57 = .ok (.aload_n 1, 1) := by decide +kernel
theorem dX8_readFrom_58 : decode cX8_readFrom 58 = .ok (.getfield 25, 3) := by decide +kernel
theorem dX8_readFrom_61 : decode cX8_readFrom 61 = .ok (.ireturn, 1) := by decide +kernel
theorem dX8_readFrom_62 : decode cX8_readFrom 62 = .ok (.aload_n 1, 1) := by decide +kernel
theorem dX8_readFrom_63 : decode cX8_readFrom 63 = .ok (.dup, 1) := by decide +kernel
theorem dX8_readFrom_64 : decode cX8_readFrom 64 = .ok (.getfield 25, 3) := by decide +kernel
theorem dX8_readFrom_67 : decode cX8_readFrom 67 = .ok (.iconst 1, 1) := by decide +kernel
theorem dX8_readFrom_68 : decode cX8_readFrom 68 = .ok (.iadd, 1) := by decide +kernel
theorem dX8_readFrom_69 : decode cX8_readFrom 69 = .ok (.putfield 25, 3) := by decide +kernel
theorem dX8_readFrom_72 : decode cX8_readFrom 72 = .ok (.iinc 2 1, 3) := by decide +kernel
theorem dX8_readFrom_75 : decode cX8_readFrom 75 = .ok (.goto (-63), 3) := by decide +kernel
theorem dX8_readFrom_78 : decode cX8_readFrom 78 = .ok (.aload_n 1, 1) := by decide +kernel
theorem dX8_readFrom_79 : decode cX8_readFrom 79 = .ok (.getfield 25, 3) := by decide +kernel
theorem dX8_readFrom_82 : decode cX8_readFrom 82 = .ok (.ireturn, 1) := by decide +kernel
theorem dX8_readStep_0 : decode cX8_readStep 0 = .ok (.aload_n 1, 1) := by decide +kernel
theorem dX8_readStep_1 : decode cX8_readStep 1 = .ok (.invokevirtual 34, 3) := by decide +kernel
theorem dX8_readStep_4 : decode cX8_readStep 4 = .ok (.istore_n 2, 1) := by decide +kernel
theorem dX8_readStep_5 : decode cX8_readStep 5 = .ok (.ldc 38, 2) := by decide +kernel
theorem dX8_readStep_7 : decode cX8_readStep 7 = .ok (.iload_n 2, 1) := by decide +kernel
theorem dX8_readStep_8 : decode cX8_readStep 8 = .ok (.invokevirtual 40, 3) := by decide +kernel
theorem dX8_readStep_11 : decode cX8_readStep 11 = .ok (.istore_n 3, 1) := by decide +kernel
theorem dX8_readStep_12 : decode cX8_readStep 12 = .ok (.iload_n 3, 1) := by decide +kernel
theorem dX8_readStep_13 : decode cX8_readStep 13 = .ok (.ifCond .ge 5, 3) := by decide +kernel
theorem dX8_readStep_16 : decode cX8_readStep 16 = .ok (.iconst 0, 1) := by decide +kernel
theorem dX8_readStep_17 : decode cX8_readStep 17 = .ok (.ireturn, 1) := by decide +kernel
theorem dX8_readStep_18 : decode cX8_readStep 18 = .ok (.aload_n 1, 1) := by decide +kernel
theorem dX8_readStep_19 : decode cX8_readStep 19 = .ok (.dup, 1) := by decide +kernel
theorem dX8_readStep_20 : decode cX8_readStep 20 = .ok (.getfield 25, 3) := by decide +kernel
theorem dX8_readStep_23 : decode cX8_readStep 23 = .ok (.iconst 1, 1) := by decide +kernel
theorem dX8_readStep_24 : decode cX8_readStep 24 = .ok (.iadd, 1) := by decide +kernel
theorem dX8_readStep_25 : decode cX8_readStep 25 = .ok (.putfield 25, 3) := by decide +kernel
theorem dX8_readStep_28 : decode cX8_readStep 28 = .ok (.aload_n 1, 1) := by decide +kernel
theorem dX8_readStep_29 : decode cX8_readStep 29 = .ok (.iconst (-1), 1) := by decide +kernel
theorem dX8_readStep_30 : decode cX8_readStep 30 = .ok (.putfield 46, 3) := by decide +kernel
theorem dX8_readStep_33 : decode cX8_readStep 33 = .ok (.iload_n 3, 1) := by decide +kernel
theorem dX8_readStep_34 : decode cX8_readStep 34 = .ok (.iconst 5, 1) := by decide +kernel
theorem dX8_readStep_35 : decode cX8_readStep 35 = .ok (.if_icmp .ne 16, 3) := by decide +kernel
theorem dX8_readStep_38 : decode cX8_readStep 38 = .ok (.aload_n 1, 1) := by decide +kernel
theorem dX8_readStep_39 : decode cX8_readStep 39 = .ok (.iconst 0, 1) := by decide +kernel
theorem dX8_readStep_40 : decode cX8_readStep 40 = .ok (.sipush 9999, 3) := by decide +kernel
theorem dX8_readStep_43 : decode cX8_readStep 43 = .ok (.invokevirtual 49, 3) := by decide +kernel
theorem dX8_readStep_46 : decode cX8_readStep 46 = .ok (.ifCond .ne 19, 3) := by decide +kernel
theorem dX8_readStep_49 : decode cX8_readStep 49 = .ok (.iconst 0, 1) := by decide +kernel
theorem dX8_readStep_50 : decode cX8_readStep 50 = .ok (.ireturn, 1) := by decide +kernel
theorem dX8_readStep_51 : decode cX8_readStep 51 = .ok (.iload_n 3, 1) := by decide +kernel
theorem dX8_readStep_52 : decode cX8_readStep 52 = .ok (.iconst 2, 1) := by decide +kernel
theorem dX8_readStep_53 : decode cX8_readStep 53 = .ok (.if_icmp .lt 12, 3) := by decide +kernel
theorem dX8_readStep_56 : decode cX8_readStep 56 = .ok (.aload_n 1, 1) := by decide +kernel
theorem dX8_readStep_57 : decode cX8_readStep 57 = .ok (.invokevirtual 53, 3) := by decide +kernel
theorem dX8_readStep_60 : decode cX8_readStep 60 = .ok (.ifCond .ne 5, 3) := by decide +kernel
theorem dX8_readStep_63 : decode cX8_readStep 63 = .ok (.iconst 0, 1) := by decide +kernel
theorem dX8_readStep_64 : decode cX8_readStep 64 = .ok (.ireturn, 1) := by decide +kernel
theorem dX8_readStep_65 : decode cX8_readStep 65 = .ok (.aload_n 0, 1) := by decide +kernel
theorem dX8_readStep_66 : decode cX8_readStep 66 = .ok (.getfield 9, 3) := by decide +kernel
theorem dX8_readStep_69 : decode cX8_readStep 69 = .ok (.aload_n 0, 1) := by decide +kernel
theorem dX8_readStep_70 : decode cX8_readStep 70 = .ok (.getfield 21, 3) := by decide +kernel
theorem dX8_readStep_73 : decode cX8_readStep 73 = .ok (.iload_n 3, 1) := by decide +kernel
theorem dX8_readStep_74 : decode cX8_readStep 74 = .ok (.iastore, 1) := by decide +kernel
theorem dX8_readStep_75 : decode cX8_readStep 75 = .ok (.aload_n 0, 1) := by decide +kernel
theorem dX8_readStep_76 : decode cX8_readStep 76 = .ok (.getfield 15, 3) := by decide +kernel
theorem dX8_readStep_79 : decode cX8_readStep 79 = .ok (.aload_n 0, 1) := by decide +kernel
theorem dX8_readStep_80 : decode cX8_readStep 80 = .ok (.getfield 21, 3) := by decide +kernel
theorem dX8_readStep_83 : decode cX8_readStep 83 = .ok (.aload_n 1, 1) := by decide +kernel
theorem dX8_readStep_84 : decode cX8_readStep 84 = .ok (.getfield 46, 3) := by decide +kernel
theorem dX8_readStep_87 : decode cX8_readStep 87 = .ok (.iastore, 1) := by decide +kernel
theorem dX8_readStep_88 : decode cX8_readStep 88 = .ok (.aload_n 0, 1) := by decide +kernel
theorem dX8_readStep_89 : decode cX8_readStep 89 = .ok (.dup, 1) := by decide +kernel
theorem dX8_readStep_90 : decode cX8_readStep 90 = .ok (.getfield 21, 3) := by decide +kernel
theorem dX8_readStep_93 : decode cX8_readStep 93 = .ok (.iconst 1, 1) := by decide +kernel
theorem dX8_readStep_94 : decode cX8_readStep 94 = .ok (.iadd, 1) := by decide +kernel
theorem dX8_readStep_95 : decode cX8_readStep 95 = .ok (.putfield 21, 3) := by decide +kernel
theorem dX8_readStep_98 : decode cX8_readStep 98 = .ok (.iconst 1, 1) := by decide +kernel
theorem dX8_readStep_99 : decode cX8_readStep 99 = .ok (.ireturn, 1) := by decide +kernel
theorem dX9_init_0 : decode cX9_init 0 = .ok (.aload_n 0, 1) := by decide +kernel
theorem dX9_init_1 : decode cX9_init 1 = .ok (.invokespecial 3, 3) := by decide +kernel
theorem dX9_init_4 : decode cX9_init 4 = .ok (.aload_n 0, 1) := by decide +kernel
theorem dX9_init_5 : decode cX9_init 5 = .ok (.bipush 10, 2) := by decide +kernel
theorem dX9_init_7 : decode cX9_init 7 = .ok (.newarray .int, 2) := by decide +kernel
theorem dX9_init_9 : decode cX9_init 9 = .ok (.putfield 9, 3) := by decide +kernel
theorem dX9_init_12 : decode cX9_init 12 = .ok (.aload_n 0, 1) := by decide +kernel
theorem dX9_init_13 : decode cX9_init 13 = .ok (.bipush 10, 2) := by decide +kernel
theorem dX9_init_15 : decode cX9_init 15 = .ok (.newarray .long, 2) := by decide +kernel
theorem dX9_init_17 : decode cX9_init 17 = .ok (.putfield 15, 3) := by decide +kernel
theorem dX9_init_20 : decode cX9_init 20 = .ok (.aload_n 0, 1) := by decide +kernel
theorem dX9_init_21 : decode cX9_init 21 = .ok (.bipush 30, 2) := by decide +kernel
theorem dX9_init_23 : decode cX9_init 23 = .ok (.newarray .int, 2) := by decide +kernel
theorem dX9_init_25 : decode cX9_init 25 = .ok (.putfield 19, 3) := by decide +kernel
theorem dX9_init_28 : decode cX9_init 28 = .ok (.aload_n 0, 1) := by decide +kernel
theorem dX9_init_29 : decode cX9_init 29 = .ok (.iconst 3, 1) := by decide +kernel
theorem dX9_init_30 : decode cX9_init 30 = .ok (.newarray .int, 2) := by decide +kernel
theorem dX9_init_32 : decode cX9_init 32 = .ok (.putfield 22, 3) := by decide +kernel
theorem dX9_init_35 : decode cX9_init 35 = .ok (.return_, 1) := by decide +kernel
theorem dX9_begin_0 : decode cX9_begin 0 = .ok (.aload_n 0, 1) := by decide +kernel
theorem dX9_begin_1 : decode cX9_begin 1 = .ok (.getfield 9, 3) := by decide +kernel
theorem dX9_begin_4 : decode cX9_begin 4 = .ok (.iconst 0, 1) := by decide +kernel
theorem dX9_begin_5 : decode cX9_begin 5 = .ok (.invokestatic 25, 3) := by decide +kernel
theorem dX9_begin_8 : decode cX9_begin 8 = .ok (.aload_n 0, 1) := by decide +kernel
theorem dX9_begin_9 : decode cX9_begin 9 = .ok (.getfield 15, 3) := by decide +kernel
theorem dX9_begin_12 : decode cX9_begin 12 = .ok (.lconst 0, 1) := by decide +kernel
theorem dX9_begin_13 : decode cX9_begin 13 = .ok (.invokestatic 31, 3) := by decide +kernel
theorem dX9_begin_16 : decode cX9_begin 16 = .ok (.aload_n 0, 1) := by decide +kernel
theorem dX9_begin_17 : decode cX9_begin 17 = .ok (.getfield 22, 3) := by decide +kernel
theorem dX9_begin_20 : decode cX9_begin 20 = .ok (.iconst 0, 1) := by decide +kernel
theorem dX9_begin_21 : decode cX9_begin 21 = .ok (.invokestatic 25, 3) := by decide +kernel
theorem dX9_begin_24 : decode cX9_begin 24 = .ok (.aload_n 0, 1) := by decide +kernel
theorem dX9_begin_25 : decode cX9_begin 25 = .ok (.aload_n 1, 1) := by decide +kernel
theorem dX9_begin_26 : decode cX9_begin 26 = .ok (.getfield 34, 3) := by decide +kernel
theorem dX9_begin_29 : decode cX9_begin 29 = .ok (.putfield 40, 3) := by decide +kernel
theorem dX9_begin_32 : decode cX9_begin 32 = .ok (.iconst 0, 1) := by decide +kernel
theorem dX9_begin_33 : decode cX9_begin 33 = .ok (.istore_n 2, 1) := by decide +kernel
theorem dX9_begin_34 : decode cX9_begin 34 = .ok (.iload_n 2, 1) := by decide +kernel
theorem dX9_begin_35 : decode cX9_begin 35 = .ok (.aload_n 1, 1) := by decide +kernel
theorem dX9_begin_36 : decode cX9_begin 36 = .ok (.getfield 41, 3) := by decide +kernel
theorem dX9_begin_39 : decode cX9_begin 39 = .ok (.if_icmp .ge 43, 3) := by decide +kernel
theorem dX9_begin_42 : decode cX9_begin 42 = .ok (.aload_n 1, 1) := by decide +kernel
theorem dX9_begin_43 : decode cX9_begin 43 = .ok (.getfield 44, 3) := by decide +kernel
theorem dX9_begin_46 : decode cX9_begin 46 = .ok (.iload_n 2, 1) := by decide +kernel
theorem dX9_begin_47 : decode cX9_begin 47 = .ok (.iaload, 1) := by decide +kernel
theorem dX9_begin_48 : decode cX9_begin 48 = .ok (.i2l, 1) := by decide +kernel
theorem dX9_begin_49 : decode cX9_begin 49 = .ok (.aload_n 1, 1) := by decide +kernel
theorem dX9_begin_50 : decode cX9_begin 50 = .ok (.getfield 47, 3) := by decide +kernel
theorem dX9_begin_53 : decode cX9_begin 53 = .ok (.iload_n 2, 1) := by decide +kernel
theorem dX9_begin_54 : decode cX9_begin 54 = .ok (.iaload, 1) := by decide +kernel
theorem dX9_begin_55 : decode cX9_begin 55 = .ok (.i2l, 1) := by decide +kernel
theorem dX9_begin_56 : decode cX9_begin 56 = .ok (.aload_n 1, 1) := by decide +kernel
theorem dX9_begin_57 : decode cX9_begin 57 = .ok (.getfield 50, 3) := by decide +kernel
theorem dX9_begin_60 : decode cX9_begin 60 = .ok (.lshl, 1) := by decide +kernel
theorem dX9_begin_61 : decode cX9_begin 61 = .ok (.lor, 1) := by decide +kernel
theorem dX9_begin_62 : decode cX9_begin 62 = .ok (.lstore_n 3, 1) := by decide +kernel
theorem dX9_begin_63 : decode cX9_begin 63 = .ok (.aload_n 0, 1) := by decide +kernel
theorem dX9_begin_64 : decode cX9_begin 64 = .ok (.getfield 15, 3) := by decide +kernel
theorem dX9_begin_67 : decode cX9_begin 67 = .ok (.iload_n 2, 1) := by decide +kernel
theorem dX9_begin_68 : decode cX9_begin 68 = .ok (.lload_n 3, 1) := by decide +kernel
theorem dX9_begin_69 : decode cX9_begin 69 = .ok (.aload_n 1, 1) := by decide +kernel
theorem dX9_begin_70 : decode cX9_begin 70 = .ok (.iload_n 2, 1) := by decide +kernel
theorem dX9_begin_71 : decode cX9_begin 71 = .ok (.invokevirtual 53, 3) := by decide +kernel
theorem dX9_begin_74 : decode cX9_begin 74 = .ok (.lshl, 1) := by decide +kernel
theorem dX9_begin_75 : decode cX9_begin 75 = .ok (.lastore, 1) := by decide +kernel
theorem dX9_begin_76 : decode cX9_begin 76 = .ok (.iinc 2 1, 3) := by decide +kernel
theorem dX9_begin_79 : decode cX9_begin 79 = .ok (.goto (-45), 3) := by decide +kernel
theorem dX9_begin_82 : decode cX9_begin 82 = .ok (.return_, 1) := by decide +kernel
theorem dX9_takeFrom_0 : decode cX9_takeFrom 0 = .ok (.aload_n 1, 1) := by decide +kernel
theorem dX9_takeFrom_1 : decode cX9_takeFrom 1 = .ok (.getfield 9, 3) := by decide +kernel
theorem dX9_takeFrom_4 : decode cX9_takeFrom 4 = .ok (.iconst 0, 1) := by decide +kernel
theorem dX9_takeFrom_5 : decode cX9_takeFrom 5 = .ok (.aload_n 0, 1) := by decide +kernel
theorem dX9_takeFrom_6 : decode cX9_takeFrom 6 = .ok (.getfield 9, 3) := by decide +kernel
theorem dX9_takeFrom_9 : decode cX9_takeFrom 9 = .ok (.iconst 0, 1) := by decide +kernel
theorem dX9_takeFrom_10 : decode cX9_takeFrom 10 = .ok (.aload_n 0, 1) := by decide +kernel
theorem dX9_takeFrom_11 : decode cX9_takeFrom 11 = .ok (.getfield 9, 3) := by decide +kernel
theorem dX9_takeFrom_14 : decode cX9_takeFrom 14 = .ok (.arraylength, 1) := by decide +kernel
theorem dX9_takeFrom_15 : decode cX9_takeFrom 15 = .ok (.invokestatic 57, 3) := by decide +kernel
theorem dX9_takeFrom_18 : decode cX9_takeFrom 18 = .ok (.aload_n 1, 1) := by decide +kernel
theorem dX9_takeFrom_19 : decode cX9_takeFrom 19 = .ok (.getfield 15, 3) := by decide +kernel
theorem dX9_takeFrom_22 : decode cX9_takeFrom 22 = .ok (.iconst 0, 1) := by decide +kernel
theorem dX9_takeFrom_23 : decode cX9_takeFrom 23 = .ok (.aload_n 0, 1) := by decide +kernel
theorem dX9_takeFrom_24 : decode cX9_takeFrom 24 = .ok (.getfield 15, 3) := by decide +kernel
theorem dX9_takeFrom_27 : decode cX9_takeFrom 27 = .ok (.iconst 0, 1) := by decide +kernel
theorem dX9_takeFrom_28 : decode cX9_takeFrom 28 = .ok (.aload_n 0, 1) := by decide +kernel
theorem dX9_takeFrom_29 : decode cX9_takeFrom 29 = .ok (.getfield 15, 3) := by decide +kernel
theorem dX9_takeFrom_32 : decode cX9_takeFrom 32 = .ok (.arraylength, 1) := by decide +kernel
theorem dX9_takeFrom_33 : decode cX9_takeFrom 33 = .ok (.invokestatic 57, 3) := by decide +kernel
theorem dX9_takeFrom_36 : decode cX9_takeFrom 36 = .ok (.aload_n 1, 1) := by decide +kernel
theorem dX9_takeFrom_37 : decode cX9_takeFrom 37 = .ok (.getfield 19, 3) := by decide +kernel
theorem dX9_takeFrom_40 : decode cX9_takeFrom 40 = .ok (.iconst 0, 1) := by decide +kernel
theorem dX9_takeFrom_41 : decode cX9_takeFrom 41 = .ok (.aload_n 0, 1) := by decide +kernel
theorem dX9_takeFrom_42 : decode cX9_takeFrom 42 = .ok (.getfield 19, 3) := by decide +kernel
theorem dX9_takeFrom_45 : decode cX9_takeFrom 45 = .ok (.iconst 0, 1) := by decide +kernel
theorem dX9_takeFrom_46 : decode cX9_takeFrom 46 = .ok (.aload_n 0, 1) := by decide +kernel
theorem dX9_takeFrom_47 : decode cX9_takeFrom 47 = .ok (.getfield 19, 3) := by decide +kernel
theorem dX9_takeFrom_50 : decode cX9_takeFrom 50 = .ok (.arraylength, 1) := by decide +kernel
theorem dX9_takeFrom_51 : decode cX9_takeFrom 51 = .ok (.invokestatic 57, 3) := by decide +kernel
theorem dX9_takeFrom_54 : decode cX9_takeFrom 54 = .ok (.aload_n 1, 1) := by decide +kernel
theorem dX9_takeFrom_55 : decode cX9_takeFrom 55 = .ok (.getfield 22, 3) := by decide +kernel
theorem dX9_takeFrom_58 : decode cX9_takeFrom 58 = .ok (.iconst 0, 1) := by decide +kernel
theorem dX9_takeFrom_59 : decode cX9_takeFrom 59 = .ok (.aload_n 0, 1) := by decide +kernel
theorem dX9_takeFrom_60 : decode cX9_takeFrom 60 = .ok (.getfield 22, 3) := by decide +kernel
theorem dX9_takeFrom_63 : decode cX9_takeFrom 63 = .ok (.iconst 0, 1) := by decide +kernel
theorem dX9_takeFrom_64 : decode cX9_takeFrom 64 = .ok (.aload_n 0, 1) := by decide +kernel
theorem dX9_takeFrom_65 : decode cX9_takeFrom 65 = .ok (.getfield 22, 3) := by decide +kernel
theorem dX9_takeFrom_68 : decode cX9_takeFrom 68 = .ok (.arraylength, 1) := by decide +kernel
theorem dX9_takeFrom_69 : decode cX9_takeFrom 69 = .ok (.invokestatic 57, 3) := by decide +kernel
theorem dX9_takeFrom_72 : decode cX9_takeFrom 72 = .ok (.aload_n 0, 1) := by decide +kernel
theorem dX9_takeFrom_73 : decode cX9_takeFrom 73 = .ok (.aload_n 1, 1) := by decide +kernel
theorem dX9_takeFrom_74 : decode cX9_takeFrom 74 = .ok (.getfield 40, 3) := by decide +kernel
theorem dX9_takeFrom_77 : decode cX9_takeFrom 77 = .ok (.putfield 40, 3) := by decide +kernel
theorem dX9_takeFrom_80 : decode cX9_takeFrom 80 = .ok (.return_, 1) := by decide +kernel
theorem dX9_hasCopy_0 : decode cX9_hasCopy 0 = .ok (.aload_n 0, 1) := by decide +kernel
theorem dX9_hasCopy_1 : decode cX9_hasCopy 1 = .ok (.getfield 15, 3) := by decide +kernel
theorem dX9_hasCopy_4 : decode cX9_hasCopy 4 = .ok (.iload_n 1, 1) := by decide +kernel
theorem dX9_hasCopy_5 : decode cX9_hasCopy 5 = .ok (.laload, 1) := by decide +kernel
theorem dX9_hasCopy_6 : decode cX9_hasCopy 6 = .ok (.iload_n 2, 1) := by decide +kernel
theorem dX9_hasCopy_7 : decode cX9_hasCopy 7 = .ok (.lshr, 1) := by decide +kernel
theorem dX9_hasCopy_8 : decode cX9_hasCopy 8 = .ok (.lconst 1, 1) := by decide +kernel
theorem dX9_hasCopy_9 : decode cX9_hasCopy 9 = .ok (.land, 1) := by decide +kernel
theorem dX9_hasCopy_10 : decode cX9_hasCopy 10 = .ok (.lconst 0, 1) := by decide +kernel
theorem dX9_hasCopy_11 : decode cX9_hasCopy 11 = .ok (.lcmp, 1) := by decide +kernel
theorem dX9_hasCopy_12 : decode cX9_hasCopy 12 = .ok (.ifCond .eq 7, 3) := by decide +kernel
theorem dX9_hasCopy_15 : decode cX9_hasCopy 15 = .ok (.iconst 1, 1) := by decide +kernel
theorem dX9_hasCopy_16 : decode cX9_hasCopy 16 = .ok (.goto 4, 3) := by decide +kernel
theorem dX9_hasCopy_19 : decode cX9_hasCopy 19 = .ok (.iconst 0, 1) := by decide +kernel
theorem dX9_hasCopy_20 : decode cX9_hasCopy 20 = .ok (.ireturn, 1) := by decide +kernel
theorem dX9_knownCount_0 : decode cX9_knownCount 0 = .ok (.iconst 0, 1) := by decide +kernel
theorem dX9_knownCount_1 : decode cX9_knownCount 1 = .ok (.istore_n 1, 1) := by decide +kernel
theorem dX9_knownCount_2 : decode cX9_knownCount 2 = .ok (.iconst 0, 1) := by decide +kernel
theorem dX9_knownCount_3 : decode cX9_knownCount 3 = .ok (.istore_n 2, 1) := by decide +kernel
theorem dX9_knownCount_4 : decode cX9_knownCount 4 = .ok (.iload_n 2, 1) := by decide +kernel
theorem dX9_knownCount_5 : decode cX9_knownCount 5 = .ok (.aload_n 0, 1) := by decide +kernel
theorem dX9_knownCount_6 : decode cX9_knownCount 6 = .ok (.getfield 9, 3) := by decide +kernel
theorem dX9_knownCount_9 : decode cX9_knownCount 9 = .ok (.arraylength, 1) := by decide +kernel
theorem dX9_knownCount_10 : decode cX9_knownCount 10 = .ok (.if_icmp .ge 26, 3) := by decide +kernel
theorem dX9_knownCount_13 : decode cX9_knownCount 13 = .ok (.iload_n 1, 1) := by decide +kernel
theorem dX9_knownCount_14 : decode cX9_knownCount 14 = .ok (.aload_n 0, 1) := by decide +kernel
theorem dX9_knownCount_15 : decode cX9_knownCount 15 = .ok (.getfield 9, 3) := by decide +kernel
theorem dX9_knownCount_18 : decode cX9_knownCount 18 = .ok (.iload_n 2, 1) := by decide +kernel
theorem dX9_knownCount_19 : decode cX9_knownCount 19 = .ok (.iaload, 1) := by decide +kernel
theorem dX9_knownCount_20 : decode cX9_knownCount 20 = .ok (.ifCond .eq 7, 3) := by decide +kernel
theorem dX9_knownCount_23 : decode cX9_knownCount 23 = .ok (.iconst 1, 1) := by decide +kernel
theorem dX9_knownCount_24 : decode cX9_knownCount 24 = .ok (.goto 4, 3) := by decide +kernel
theorem dX9_knownCount_27 : decode cX9_knownCount 27 = .ok (.iconst 0, 1) := by decide +kernel
theorem dX9_knownCount_28 : decode cX9_knownCount 28 = .ok (.iadd, 1) := by decide +kernel
theorem dX9_knownCount_29 : decode cX9_knownCount 29 = .ok (.istore_n 1, 1) := by decide +kernel
theorem dX9_knownCount_30 : decode cX9_knownCount 30 = .ok (.iinc 2 1, 3) := by decide +kernel
theorem dX9_knownCount_33 : decode cX9_knownCount 33 = .ok (.goto (-29), 3) := by decide +kernel
theorem dX9_knownCount_36 : decode cX9_knownCount 36 = .ok (.iload_n 1, 1) := by decide +kernel
theorem dX9_knownCount_37 : decode cX9_knownCount 37 = .ok (.ireturn, 1) := by decide +kernel
theorem dX9_copyCount_0 : decode cX9_copyCount 0 = .ok (.iconst 0, 1) := by decide +kernel
theorem dX9_copyCount_1 : decode cX9_copyCount 1 = .ok (.istore_n 1, 1) := by decide +kernel
theorem dX9_copyCount_2 : decode cX9_copyCount 2 = .ok (.iconst 0, 1) := by decide +kernel
theorem dX9_copyCount_3 : decode cX9_copyCount 3 = .ok (.istore_n 2, 1) := by decide +kernel
theorem dX9_copyCount_4 : decode cX9_copyCount 4 = .ok (.iload_n 2, 1) := by decide +kernel
theorem dX9_copyCount_5 : decode cX9_copyCount 5 = .ok (.aload_n 0, 1) := by decide +kernel
theorem dX9_copyCount_6 : decode cX9_copyCount 6 = .ok (.getfield 15, 3) := by decide +kernel
theorem dX9_copyCount_9 : decode cX9_copyCount 9 = .ok (.arraylength, 1) := by decide +kernel
theorem dX9_copyCount_10 : decode cX9_copyCount 10 = .ok (.if_icmp .ge 21, 3) := by decide +kernel
theorem dX9_copyCount_13 : decode cX9_copyCount 13 = .ok (.iload_n 1, 1) := by decide +kernel
theorem dX9_copyCount_14 : decode cX9_copyCount 14 = .ok (.aload_n 0, 1) := by decide +kernel
theorem dX9_copyCount_15 : decode cX9_copyCount 15 = .ok (.getfield 15, 3) := by decide +kernel
theorem dX9_copyCount_18 : decode cX9_copyCount 18 = .ok (.iload_n 2, 1) := by decide +kernel
theorem dX9_copyCount_19 : decode cX9_copyCount 19 = .ok (.laload, 1) := by decide +kernel
theorem dX9_copyCount_20 : decode cX9_copyCount 20 = .ok (.invokestatic 63, 3) := by decide +kernel
theorem dX9_copyCount_23 : decode cX9_copyCount 23 = .ok (.iadd, 1) := by decide +kernel
theorem dX9_copyCount_24 : decode cX9_copyCount 24 = .ok (.istore_n 1, 1) := by decide +kernel
theorem dX9_copyCount_25 : decode cX9_copyCount 25 = .ok (.iinc 2 1, 3) := by decide +kernel
theorem dX9_copyCount_28 : decode cX9_copyCount 28 = .ok (.goto (-24), 3) := by decide +kernel
theorem dX9_copyCount_31 : decode cX9_copyCount 31 = .ok (.iload_n 1, 1) := by decide +kernel
theorem dX9_copyCount_32 : decode cX9_copyCount 32 = .ok (.ireturn, 1) := by decide +kernel
theorem dX10_init_0 : decode cX10_init 0 = .ok (.aload_n 0, 1) := by decide +kernel
theorem dX10_init_1 : decode cX10_init 1 = .ok (.invokespecial 3, 3) := by decide +kernel
theorem dX10_init_4 : decode cX10_init 4 = .ok (.aload_n 0, 1) := by decide +kernel
theorem dX10_init_5 : decode cX10_init 5 = .ok (.sipush 240, 3) := by decide +kernel
theorem dX10_init_8 : decode cX10_init 8 = .ok (.newarray .char, 2) := by decide +kernel
theorem dX10_init_10 : decode cX10_init 10 = .ok (.putfield 9, 3) := by decide +kernel
theorem dX10_init_13 : decode cX10_init 13 = .ok (.return_, 1) := by decide +kernel
theorem dX10_signsIn_0 : decode cX10_signsIn 0 = .ok (.iconst 0, 1) := by decide +kernel
theorem dX10_signsIn_1 : decode cX10_signsIn 1 = .ok (.istore_n 1, 1) := by decide +kernel
theorem dX10_signsIn_2 : decode cX10_signsIn 2 = .ok (.bipush 24, 2) := by decide +kernel
theorem dX10_signsIn_4 : decode cX10_signsIn 4 = .ok (.istore_n 2, 1) := by decide +kernel
theorem dX10_signsIn_5 : decode cX10_signsIn 5 = .ok (.iload_n 2, 1) := by decide +kernel
theorem dX10_signsIn_6 : decode cX10_signsIn 6 = .ok (.ifCond .lt 27, 3) := by decide +kernel
theorem dX10_signsIn_9 : decode cX10_signsIn 9 = .ok (.iload_n 1, 1) := by decide +kernel
theorem dX10_signsIn_10 : decode cX10_signsIn 10 = .ok (.iload_n 0, 1) := by decide +kernel
theorem dX10_signsIn_11 : decode cX10_signsIn 11 = .ok (.iload_n 2, 1) := by decide +kernel
theorem dX10_signsIn_12 : decode cX10_signsIn 12 = .ok (.iushr, 1) := by decide +kernel
theorem dX10_signsIn_13 : decode cX10_signsIn 13 = .ok (.sipush 255, 3) := by decide +kernel
theorem dX10_signsIn_16 : decode cX10_signsIn 16 = .ok (.iand, 1) := by decide +kernel
theorem dX10_signsIn_17 : decode cX10_signsIn 17 = .ok (.ifCond .eq 7, 3) := by decide +kernel
theorem dX10_signsIn_20 : decode cX10_signsIn 20 = .ok (.iconst 1, 1) := by decide +kernel
theorem dX10_signsIn_21 : decode cX10_signsIn 21 = .ok (.goto 4, 3) := by decide +kernel
theorem dX10_signsIn_24 : decode cX10_signsIn 24 = .ok (.iconst 0, 1) := by decide +kernel
theorem dX10_signsIn_25 : decode cX10_signsIn 25 = .ok (.iadd, 1) := by decide +kernel
theorem dX10_signsIn_26 : decode cX10_signsIn 26 = .ok (.istore_n 1, 1) := by decide +kernel
theorem dX10_signsIn_27 : decode cX10_signsIn 27 = .ok (.iinc 2 (-8), 3) := by decide +kernel
theorem dX10_signsIn_30 : decode cX10_signsIn 30 = .ok (.goto (-25), 3) := by decide +kernel
theorem dX10_signsIn_33 : decode cX10_signsIn 33 = .ok (.iload_n 1, 1) := by decide +kernel
theorem dX10_signsIn_34 : decode cX10_signsIn 34 = .ok (.ireturn, 1) := by decide +kernel
theorem dX10_add_0 : decode cX10_add 0 = .ok (.bipush 24, 2) := by decide +kernel
theorem dX10_add_2 : decode cX10_add 2 = .ok (.istore_n 2, 1) := by decide +kernel
theorem dX10_add_3 : decode cX10_add 3 = .ok (.iload_n 2, 1) := by decide +kernel
theorem dX10_add_4 : decode cX10_add 4 = .ok (.ifCond .lt 52, 3) := by decide +kernel
theorem dX10_add_7 : decode cX10_add 7 = .ok (.iload_n 1, 1) := by decide +kernel
theorem dX10_add_8 : decode cX10_add 8 = .ok (.iload_n 2, 1) := by decide +kernel
theorem dX10_add_9 : decode cX10_add 9 = .ok (.iushr, 1) := by decide +kernel
theorem dX10_add_10 : decode cX10_add 10 = .ok (.sipush 255, 3) := by decide +kernel
theorem dX10_add_13 : decode cX10_add 13 = .ok (.iand, 1) := by decide +kernel
theorem dX10_add_14 : decode cX10_add 14 = .ok (.istore_n 3, 1) := by decide +kernel
theorem dX10_add_15 : decode cX10_add 15 = .ok (.iload_n 3, 1) := by decide +kernel
theorem dX10_add_16 : decode cX10_add 16 = .ok (.ifCond .eq 34, 3) := by decide +kernel
theorem dX10_add_19 : decode cX10_add 19 = .ok (.aload_n 0, 1) := by decide +kernel
theorem dX10_add_20 : decode cX10_add 20 = .ok (.getfield 15, 3) := by decide +kernel
theorem dX10_add_23 : decode cX10_add 23 = .ok (.sipush 240, 3) := by decide +kernel
theorem dX10_add_26 : decode cX10_add 26 = .ok (.if_icmp .ge 24, 3) := by decide +kernel
theorem dX10_add_29 : decode cX10_add 29 = .ok (.aload_n 0, 1) := by decide +kernel
theorem dX10_add_30 : decode cX10_add 30 = .ok (.getfield 9, 3) := by decide +kernel
theorem dX10_add_33 : decode cX10_add 33 = .ok (.aload_n 0, 1) := by decide +kernel
theorem dX10_add_34 : decode cX10_add 34 = .ok (.getfield 15, 3) := by decide +kernel
theorem dX10_add_37 : decode cX10_add 37 = .ok (.iload_n 3, 1) := by decide +kernel
theorem dX10_add_38 : decode cX10_add 38 = .ok (.i2c, 1) := by decide +kernel
theorem dX10_add_39 : decode cX10_add 39 = .ok (.castore, 1) := by decide +kernel
theorem dX10_add_40 : decode cX10_add 40 = .ok (.aload_n 0, 1) := by decide +kernel
theorem dX10_add_41 : decode cX10_add 41 = .ok (.dup, 1) := by decide +kernel
theorem dX10_add_42 : decode cX10_add 42 = .ok (.getfield 15, 3) := by decide +kernel
theorem dX10_add_45 : decode cX10_add 45 = .ok (.iconst 1, 1) := by decide +kernel
theorem dX10_add_46 : decode cX10_add 46 = .ok (.iadd, 1) := by decide +kernel
theorem dX10_add_47 : decode cX10_add 47 = .ok (.putfield 15, 3) := by decide +kernel
theorem dX10_add_50 : decode cX10_add 50 = .ok (.iinc 2 (-8), 3) := by decide +kernel
theorem dX10_add_53 : decode cX10_add 53 = .ok (.goto (-50), 3) := by decide +kernel
theorem dX10_add_56 : decode cX10_add 56 = .ok (.return_, 1) := by decide +kernel
theorem dX10_nextSign_0 : decode cX10_nextSign 0 = .ok (.aload_n 0, 1) := by decide +kernel
theorem dX10_nextSign_1 : decode cX10_nextSign 1 = .ok (.getfield 19, 3) := by decide +kernel
theorem dX10_nextSign_4 : decode cX10_nextSign 4 = .ok (.aload_n 0, 1) := by decide +kernel
theorem dX10_nextSign_5 : decode cX10_nextSign 5 = .ok (.getfield 15, 3) := by decide +kernel
theorem dX10_nextSign_8 : decode cX10_nextSign 8 = .ok (.if_icmp .ge 30, 3) := by decide +kernel
theorem dX10_nextSign_11 : decode cX10_nextSign 11 = .ok (.aload_n 0, 1) := by decide +kernel
theorem dX10_nextSign_12 : decode cX10_nextSign 12 = .ok (.getfield 9, 3) := by decide +kernel
theorem dX10_nextSign_15 : decode cX10_nextSign 15 = .ok (.aload_n 0, 1) := by decide +kernel
theorem dX10_nextSign_16 : decode cX10_nextSign 16 = .ok (.getfield 19, 3) := by decide +kernel
theorem dX10_nextSign_19 : decode cX10_nextSign 19 = .ok (.caload, 1) := by decide +kernel
theorem dX10_nextSign_20 : decode cX10_nextSign 20 = .ok (.bipush 32, 2) := by decide +kernel
theorem dX10_nextSign_22 : decode cX10_nextSign 22 = .ok (.if_icmp .ne 16, 3) := by decide +kernel
theorem dX10_nextSign_25 : decode cX10_nextSign 25 = .ok (.aload_n 0, 1) := by decide +kernel
theorem dX10_nextSign_26 : decode cX10_nextSign 26 = .ok (.dup, 1) := by decide +kernel
theorem dX10_nextSign_27 : decode cX10_nextSign 27 = .ok (.getfield 19, 3) := by decide +kernel
theorem dX10_nextSign_30 : decode cX10_nextSign 30 = .ok (.iconst 1, 1) := by decide +kernel
theorem dX10_nextSign_31 : decode cX10_nextSign 31 = .ok (.iadd, 1) := by decide +kernel
theorem dX10_nextSign_32 : decode cX10_nextSign 32 = .ok (.putfield 19, 3) := by decide +kernel
theorem dX10_nextSign_35 : decode cX10_nextSign 35 = .ok (.goto (-35), 3) := by decide +kernel
theorem dX10_nextSign_38 : decode cX10_nextSign 38 = .ok (.aload_n 0, 1) := by decide +kernel
theorem dX10_nextSign_39 : decode cX10_nextSign 39 = .ok (.getfield 19, 3) := by decide +kernel
theorem dX10_nextSign_42 : decode cX10_nextSign 42 = .ok (.aload_n 0, 1) := by decide +kernel
theorem dX10_nextSign_43 : decode cX10_nextSign 43 = .ok (.getfield 15, 3) := by decide +kernel
theorem dX10_nextSign_46 : decode cX10_nextSign 46 = .ok (.if_icmp .ge 15, 3) := by decide +kernel
theorem dX10_nextSign_49 : decode cX10_nextSign 49 = .ok (.aload_n 0, 1) := by decide +kernel
theorem dX10_nextSign_50 : decode cX10_nextSign 50 = .ok (.getfield 9, 3) := by decide +kernel
theorem dX10_nextSign_53 : decode cX10_nextSign 53 = .ok (.aload_n 0, 1) := by decide +kernel
theorem dX10_nextSign_54 : decode cX10_nextSign 54 = .ok (.getfield 19, 3) := by decide +kernel
theorem dX10_nextSign_57 : decode cX10_nextSign 57 = .ok (.caload, 1) := by decide +kernel
theorem dX10_nextSign_58 : decode cX10_nextSign 58 = .ok (.goto 4, 3) := by decide +kernel
theorem dX10_nextSign_61 : decode cX10_nextSign 61 = .ok (.iconst 0, 1) := by decide +kernel
theorem dX10_nextSign_62 : decode cX10_nextSign 62 = .ok (.ireturn, 1) := by decide +kernel
theorem dX10_isDigitHere_0 : decode cX10_isDigitHere 0 = .ok (.aload_n 0, 1) := by decide +kernel
theorem dX10_isDigitHere_1 : decode cX10_isDigitHere 1 = .ok (.getfield 19, 3) := by decide +kernel
theorem dX10_isDigitHere_4 : decode cX10_isDigitHere 4 = .ok (.aload_n 0, 1) := by decide +kernel
theorem dX10_isDigitHere_5 : decode cX10_isDigitHere 5 = .ok (.getfield 15, 3) := by decide +kernel
theorem dX10_isDigitHere_8 : decode cX10_isDigitHere 8 = .ok (.if_icmp .ge 35, 3) := by decide +kernel
theorem dX10_isDigitHere_11 : decode cX10_isDigitHere 11 = .ok (.aload_n 0, 1) := by decide +kernel
theorem dX10_isDigitHere_12 : decode cX10_isDigitHere 12 = .ok (.getfield 9, 3) := by decide +kernel
theorem dX10_isDigitHere_15 : decode cX10_isDigitHere 15 = .ok (.aload_n 0, 1) := by decide +kernel
theorem dX10_isDigitHere_16 : decode cX10_isDigitHere 16 = .ok (.getfield 19, 3) := by decide +kernel
theorem dX10_isDigitHere_19 : decode cX10_isDigitHere 19 = .ok (.caload, 1) := by decide +kernel
theorem dX10_isDigitHere_20 : decode cX10_isDigitHere 20 = .ok (.bipush 48, 2) := by decide +kernel
theorem dX10_isDigitHere_22 : decode cX10_isDigitHere 22 = .ok (.if_icmp .lt 21, 3) := by decide +kernel
theorem dX10_isDigitHere_25 : decode cX10_isDigitHere 25 = .ok (.aload_n 0, 1) := by decide +kernel
theorem dX10_isDigitHere_26 : decode cX10_isDigitHere 26 = .ok (.getfield 9, 3) := by decide +kernel
theorem dX10_isDigitHere_29 : decode cX10_isDigitHere 29 = .ok (.aload_n 0, 1) := by decide +kernel
theorem dX10_isDigitHere_30 : decode cX10_isDigitHere 30 = .ok (.getfield 19, 3) := by decide +kernel
theorem dX10_isDigitHere_33 : decode cX10_isDigitHere 33 = .ok (.caload, 1) := by decide +kernel
theorem dX10_isDigitHere_34 : decode cX10_isDigitHere 34 = .ok (.bipush 57, 2) := by decide +kernel
theorem dX10_isDigitHere_36 : decode cX10_isDigitHere 36 = .ok (.if_icmp .gt 7, 3) := by decide +kernel
theorem dX10_isDigitHere_39 : decode cX10_isDigitHere 39 = .ok (.iconst 1, 1) := by decide +kernel
theorem dX10_isDigitHere_40 : decode cX10_isDigitHere 40 = .ok (.goto 4, 3) := by decide +kernel
theorem dX10_isDigitHere_43 : decode cX10_isDigitHere 43 = .ok (.iconst 0, 1) := by decide +kernel
theorem dX10_isDigitHere_44 : decode cX10_isDigitHere 44 = .ok (.ireturn, 1) := by decide +kernel
theorem dX10_readNumber_0 : decode cX10_readNumber 0 = .ok (.aload_n 0, 1) := by decide +kernel
theorem dX10_readNumber_1 : decode cX10_readNumber 1 = .ok (.invokevirtual 22, 3) := by decide +kernel
theorem dX10_readNumber_4 : decode cX10_readNumber 4 = .ok (.pop, 1) := by decide +kernel
theorem dX10_readNumber_5 : decode cX10_readNumber 5 = .ok (.aload_n 0, 1) := by decide +kernel
theorem dX10_readNumber_6 : decode cX10_readNumber 6 = .ok (.invokevirtual 26, 3) := by decide +kernel
theorem dX10_readNumber_9 : decode cX10_readNumber 9 = .ok (.ifCond .ne 5, 3) := by decide +kernel
theorem dX10_readNumber_12 : decode cX10_readNumber 12 = .ok (.iconst 0, 1) := by decide +kernel
theorem dX10_readNumber_13 : decode cX10_readNumber 13 = .ok (.ireturn, 1) := by decide +kernel
theorem dX10_readNumber_14 : decode cX10_readNumber 14 = .ok (.aload_n 0, 1) := by decide +kernel
theorem dX10_readNumber_15 : decode cX10_readNumber 15 = .ok (.iconst 0, 1) := by decide +kernel
theorem dX10_readNumber_16 : decode cX10_readNumber 16 = .ok (.putfield 30, 3) := by decide +kernel
theorem dX10_readNumber_19 : decode cX10_readNumber 19 = .ok (.iconst 0, 1) := by decide +kernel
theorem dX10_readNumber_20 : decode cX10_readNumber 20 = .ok (.istore_n 3, 1) := by decide +kernel
theorem dX10_readNumber_21 : decode cX10_readNumber 21 = .ok (.iload_n 3, 1) := by decide +kernel
theorem dX10_readNumber_22 : decode cX10_readNumber 22 = .ok (.iconst 4, 1) := by decide +kernel
theorem dX10_readNumber_23 : decode cX10_readNumber 23 = .ok (.if_icmp .gt 57, 3) := by decide +kernel
theorem dX10_readNumber_26 : decode cX10_readNumber 26 = .ok (.aload_n 0, 1) := by decide +kernel
theorem dX10_readNumber_27 : decode cX10_readNumber 27 = .ok (.invokevirtual 26, 3) := by decide +kernel
theorem dX10_readNumber_30 : decode cX10_readNumber 30 = .ok (.ifCond .eq 50, 3) := by decide +kernel
theorem dX10_readNumber_33 : decode cX10_readNumber 33 = .ok (.iload_n 3, 1) := by decide +kernel
theorem dX10_readNumber_34 : decode cX10_readNumber 34 = .ok (.iconst 4, 1) := by decide +kernel
theorem dX10_readNumber_35 : decode cX10_readNumber 35 = .ok (.if_icmp .ne 5, 3) := by decide +kernel
theorem dX10_readNumber_38 : decode cX10_readNumber 38 = .ok (.iconst 0, 1) := by decide +kernel
theorem dX10_readNumber_39 : decode cX10_readNumber 39 = .ok (.ireturn, 1) := by decide +kernel
theorem dX10_readNumber_40 : decode cX10_readNumber 40 = .ok (.aload_n 0, 1) := by decide +kernel
theorem dX10_readNumber_41 : decode cX10_readNumber 41 = .ok (.aload_n 0, 1) := by decide +kernel
theorem dX10_readNumber_42 : decode cX10_readNumber 42 = .ok (.getfield 30, 3) := by decide +kernel
theorem dX10_readNumber_45 : decode cX10_readNumber 45 = .ok (.bipush 10, 2) := by decide +kernel
theorem dX10_readNumber_47 : decode cX10_readNumber 47 = .ok (.imul, 1) := by decide +kernel
theorem dX10_readNumber_48 : decode cX10_readNumber 48 = .ok (.aload_n 0, 1) := by decide +kernel
theorem dX10_readNumber_49 : decode cX10_readNumber 49 = .ok (.getfield 9, 3) := by decide +kernel
theorem dX10_readNumber_52 : decode cX10_readNumber 52 = .ok (.aload_n 0, 1) := by decide +kernel
theorem dX10_readNumber_53 : decode cX10_readNumber 53 = .ok (.getfield 19, 3) := by decide +kernel
theorem dX10_readNumber_56 : decode cX10_readNumber 56 = .ok (.caload, 1) := by decide +kernel
theorem dX10_readNumber_57 : decode cX10_readNumber 57 = .ok (.bipush 48, 2) := by decide +kernel
theorem dX10_readNumber_59 : decode cX10_readNumber 59 = .ok (.isub, 1) := by decide +kernel
theorem dX10_readNumber_60 : decode cX10_readNumber 60 = .ok (.iadd, 1) := by decide +kernel
theorem dX10_readNumber_61 : decode cX10_readNumber 61 = .ok (.putfield 30, 3) := by decide +kernel
theorem dX10_readNumber_64 : decode cX10_readNumber 64 = .ok (.aload_n 0, 1) := by decide +kernel
theorem dX10_readNumber_65 : decode cX10_readNumber 65 = .ok (.dup, 1) := by decide +kernel
theorem dX10_readNumber_66 : decode cX10_readNumber 66 = .ok (.getfield 19, 3) := by decide +kernel
theorem dX10_readNumber_69 : decode cX10_readNumber 69 = .ok (.iconst 1, 1) := by decide +kernel
theorem dX10_readNumber_70 : decode cX10_readNumber 70 = .ok (.iadd, 1) := by decide +kernel
theorem dX10_readNumber_71 : decode cX10_readNumber 71 = .ok (.putfield 19, 3) := by decide +kernel
theorem dX10_readNumber_74 : decode cX10_readNumber 74 = .ok (.iinc 3 1, 3) := by decide +kernel
theorem dX10_readNumber_77 : decode cX10_readNumber 77 = .ok (.goto (-56), 3) := by decide +kernel
theorem dX10_readNumber_80 : decode cX10_readNumber 80 = .ok (.aload_n 0, 1) := by decide +kernel
theorem dX10_readNumber_81 : decode cX10_readNumber 81 = .ok (.getfield 30, 3) := by decide +kernel
theorem dX10_readNumber_84 : decode cX10_readNumber 84 = .ok (.iload_n 1, 1) := by decide +kernel
theorem dX10_readNumber_85 : decode cX10_readNumber 85 = .ok (.if_icmp .lt 11, 3) := by decide +kernel
theorem dX10_readNumber_88 : decode cX10_readNumber 88 = .ok (.aload_n 0, 1) := by decide +kernel
theorem dX10_readNumber_89 : decode cX10_readNumber 89 = .ok (.getfield 30, 3) := by decide +kernel
theorem dX10_readNumber_92 : decode cX10_readNumber 92 = .ok (.iload_n 2, 1) := by decide +kernel
theorem dX10_readNumber_93 : decode cX10_readNumber 93 = .ok (.if_icmp .le 15, 3) := by decide +kernel
theorem dX10_readNumber_96 : decode cX10_readNumber 96 = .ok (.aload_n 0, 1) := by decide +kernel
theorem dX10_readNumber_97 : decode cX10_readNumber 97 = .ok (.dup, 1) := by decide +kernel
theorem dX10_readNumber_98 : decode cX10_readNumber 98 = .ok (.getfield 19, 3) := by decide +kernel
theorem dX10_readNumber_101 : decode cX10_readNumber 101 = .ok (.iconst 1, 1) := by decide +kernel
theorem dX10_readNumber_102 : decode cX10_readNumber 102 = .ok (.isub, 1) := by decide +kernel
theorem dX10_readNumber_103 : decode cX10_readNumber 103 = .ok (.putfield 19, 3) := by decide +kernel
theorem dX10_readNumber_106 : decode cX10_readNumber 106 = .ok (.iconst 0, 1) := by decide +kernel
theorem dX10_readNumber_107 : decode cX10_readNumber 107 = .ok (.ireturn, 1) := by decide +kernel
theorem dX10_readNumber_108 : decode cX10_readNumber 108 = .ok (.iconst 1, 1) := by decide +kernel
theorem dX10_readNumber_109 : decode cX10_readNumber 109 = .ok (.ireturn, 1) := by decide +kernel
theorem dX10_readDigit_0 : decode cX10_readDigit 0 = .ok (.aload_n 0, 1) := by decide +kernel
theorem dX10_readDigit_1 : decode cX10_readDigit 1 = .ok (.invokevirtual 22, 3) := by decide +kernel
theorem dX10_readDigit_4 : decode cX10_readDigit 4 = .ok (.pop, 1) := by decide +kernel
theorem dX10_readDigit_5 : decode cX10_readDigit 5 = .ok (.aload_n 0, 1) := by decide +kernel
theorem dX10_readDigit_6 : decode cX10_readDigit 6 = .ok (.invokevirtual 26, 3) := by decide +kernel
theorem dX10_readDigit_9 : decode cX10_readDigit 9 = .ok (.ifCond .ne 5, 3) := by decide +kernel
theorem dX10_readDigit_12 : decode cX10_readDigit 12 = .ok (.iconst 0, 1) := by decide +kernel
theorem dX10_readDigit_13 : decode cX10_readDigit 13 = .ok (.ireturn, 1) := by decide +kernel
theorem dX10_readDigit_14 : decode cX10_readDigit 14 = .ok (.aload_n 0, 1) := by decide +kernel
theorem dX10_readDigit_15 : decode cX10_readDigit 15 = .ok (.aload_n 0, 1) := by decide +kernel
theorem dX10_readDigit_16 : decode cX10_readDigit 16 = .ok (.getfield 9, 3) := by decide +kernel
theorem dX10_readDigit_19 : decode cX10_readDigit 19 = .ok (.aload_n 0, 1) := by decide +kernel
theorem dX10_readDigit_20 : decode cX10_readDigit 20 = .ok (.getfield 19, 3) := by decide +kernel
theorem dX10_readDigit_23 : decode cX10_readDigit 23 = .ok (.caload, 1) := by decide +kernel
theorem dX10_readDigit_24 : decode cX10_readDigit 24 = .ok (.bipush 48, 2) := by decide +kernel
theorem dX10_readDigit_26 : decode cX10_readDigit 26 = .ok (.isub, 1) := by decide +kernel
theorem dX10_readDigit_27 : decode cX10_readDigit 27 = .ok (.putfield 30, 3) := by decide +kernel
theorem dX10_readDigit_30 : decode cX10_readDigit 30 = .ok (.aload_n 0, 1) := by decide +kernel
theorem dX10_readDigit_31 : decode cX10_readDigit 31 = .ok (.dup, 1) := by decide +kernel
theorem dX10_readDigit_32 : decode cX10_readDigit 32 = .ok (.getfield 19, 3) := by decide +kernel
theorem dX10_readDigit_35 : decode cX10_readDigit 35 = .ok (.iconst 1, 1) := by decide +kernel
theorem dX10_readDigit_36 : decode cX10_readDigit 36 = .ok (.iadd, 1) := by decide +kernel
theorem dX10_readDigit_37 : decode cX10_readDigit 37 = .ok (.putfield 19, 3) := by decide +kernel
theorem dX10_readDigit_40 : decode cX10_readDigit 40 = .ok (.iconst 1, 1) := by decide +kernel
theorem dX10_readDigit_41 : decode cX10_readDigit 41 = .ok (.ireturn, 1) := by decide +kernel
theorem dX11_init_0 : decode cX11_init 0 = .ok (.aload_n 0, 1) := by decide +kernel
theorem dX11_init_1 : decode cX11_init 1 = .ok (.invokespecial 3, 3) := by decide +kernel
theorem dX11_init_4 : decode cX11_init 4 = .ok (.aload_n 0, 1) := by decide +kernel
theorem dX11_init_5 : decode cX11_init 5 = .ok (.new 9, 3) := by decide +kernel
theorem dX11_init_8 : decode cX11_init 8 = .ok (.dup, 1) := by decide +kernel
theorem dX11_init_9 : decode cX11_init 9 = .ok (.invokespecial 11, 3) := by decide +kernel
theorem dX11_init_12 : decode cX11_init 12 = .ok (.putfield 12, 3) := by decide +kernel
theorem dX11_init_15 : decode cX11_init 15 = .ok (.aload_n 0, 1) := by decide +kernel
theorem dX11_init_16 : decode cX11_init 16 = .ok (.new 16, 3) := by decide +kernel
theorem dX11_init_19 : decode cX11_init 19 = .ok (.dup, 1) := by decide +kernel
theorem dX11_init_20 : decode cX11_init 20 = .ok (.invokespecial 18, 3) := by decide +kernel
theorem dX11_init_23 : decode cX11_init 23 = .ok (.putfield 19, 3) := by decide +kernel
theorem dX11_init_26 : decode cX11_init 26 = .ok (.aload_n 0, 1) := by decide +kernel
theorem dX11_init_27 : decode cX11_init 27 = .ok (.new 16, 3) := by decide +kernel
theorem dX11_init_30 : decode cX11_init 30 = .ok (.dup, 1) := by decide +kernel
theorem dX11_init_31 : decode cX11_init 31 = .ok (.invokespecial 18, 3) := by decide +kernel
theorem dX11_init_34 : decode cX11_init 34 = .ok (.putfield 23, 3) := by decide +kernel
theorem dX11_init_37 : decode cX11_init 37 = .ok (.aload_n 0, 1) := by decide +kernel
theorem dX11_init_38 : decode cX11_init 38 = .ok (.new 26, 3) := by decide +kernel
theorem dX11_init_41 : decode cX11_init 41 = .ok (.dup, 1) := by decide +kernel
theorem dX11_init_42 : decode cX11_init 42 = .ok (.invokespecial 28, 3) := by decide +kernel
theorem dX11_init_45 : decode cX11_init 45 = .ok (.putfield 29, 3) := by decide +kernel
theorem dX11_init_48 : decode cX11_init 48 = .ok (.aload_n 0, 1) := by decide +kernel
theorem dX11_init_49 : decode cX11_init 49 = .ok (.iconst 4, 1) := by decide +kernel
theorem dX11_init_50 : decode cX11_init 50 = .ok (.anewarray 26, 3) := by decide +kernel
theorem dX11_init_53 : decode cX11_init 53 = .ok (.putfield 33, 3) := by decide +kernel
theorem dX11_init_56 : decode cX11_init 56 = .ok (.aload_n 0, 1) := by decide +kernel
theorem dX11_init_57 : decode cX11_init 57 = .ok (.new 37, 3) := by decide +kernel
theorem dX11_init_60 : decode cX11_init 60 = .ok (.dup, 1) := by decide +kernel
theorem dX11_init_61 : decode cX11_init 61 = .ok (.invokespecial 39, 3) := by decide +kernel
theorem dX11_init_64 : decode cX11_init 64 = .ok (.putfield 40, 3) := by decide +kernel
theorem dX11_init_67 : decode cX11_init 67 = .ok (.aload_n 0, 1) := by decide +kernel
theorem dX11_init_68 : decode cX11_init 68 = .ok (.new 37, 3) := by decide +kernel
theorem dX11_init_71 : decode cX11_init 71 = .ok (.dup, 1) := by decide +kernel
theorem dX11_init_72 : decode cX11_init 72 = .ok (.invokespecial 39, 3) := by decide +kernel
theorem dX11_init_75 : decode cX11_init 75 = .ok (.putfield 44, 3) := by decide +kernel
theorem dX11_init_78 : decode cX11_init 78 = .ok (.aload_n 0, 1) := by decide +kernel
theorem dX11_init_79 : decode cX11_init 79 = .ok (.new 37, 3) := by decide +kernel
theorem dX11_init_82 : decode cX11_init 82 = .ok (.dup, 1) := by decide +kernel
theorem dX11_init_83 : decode cX11_init 83 = .ok (.invokespecial 39, 3) := by decide +kernel
theorem dX11_init_86 : decode cX11_init 86 = .ok (.putfield 47, 3) := by decide +kernel
theorem dX11_init_89 : decode cX11_init 89 = .ok (.aload_n 0, 1) := by decide +kernel
theorem dX11_init_90 : decode cX11_init 90 = .ok (.new 50, 3) := by decide +kernel
theorem dX11_init_93 : decode cX11_init 93 = .ok (.dup, 1) := by decide +kernel
theorem dX11_init_94 : decode cX11_init 94 = .ok (.invokespecial 52, 3) := by decide +kernel
theorem dX11_init_97 : decode cX11_init 97 = .ok (.putfield 53, 3) := by decide +kernel
theorem dX11_init_100 : decode cX11_init 100 = .ok (.aload_n 0, 1) := by decide +kernel
theorem dX11_init_101 : decode cX11_init 101 = .ok (.new 50, 3) := by decide +kernel
theorem dX11_init_104 : decode cX11_init 104 = .ok (.dup, 1) := by decide +kernel
theorem dX11_init_105 : decode cX11_init 105 = .ok (.invokespecial 52, 3) := by decide +kernel
theorem dX11_init_108 : decode cX11_init 108 = .ok (.putfield 57, 3) := by decide +kernel
theorem dX11_init_111 : decode cX11_init 111 = .ok (.aload_n 0, 1) := by decide +kernel
theorem dX11_init_112 : decode cX11_init 112 = .ok (.new 60, 3) := by decide +kernel
theorem dX11_init_115 : decode cX11_init 115 = .ok (.dup, 1) := by decide +kernel
theorem dX11_init_116 : decode cX11_init 116 = .ok (.invokespecial 62, 3) := by decide +kernel
theorem dX11_init_119 : decode cX11_init 119 = .ok (.putfield 63, 3) := by decide +kernel
theorem dX11_init_122 : decode cX11_init 122 = .ok (.aload_n 0, 1) := by decide +kernel
theorem dX11_init_123 : decode cX11_init 123 = .ok (.iconst 4, 1) := by decide +kernel
theorem dX11_init_124 : decode cX11_init 124 = .ok (.newarray .int, 2) := by decide +kernel
theorem dX11_init_126 : decode cX11_init 126 = .ok (.putfield 67, 3) := by decide +kernel
theorem dX11_init_129 : decode cX11_init 129 = .ok (.aload_n 0, 1) := by decide +kernel
theorem dX11_init_130 : decode cX11_init 130 = .ok (.new 71, 3) := by decide +kernel
theorem dX11_init_133 : decode cX11_init 133 = .ok (.dup, 1) := by decide +kernel
theorem dX11_init_134 : decode cX11_init 134 = .ok (.invokespecial 73, 3) := by decide +kernel
theorem dX11_init_137 : decode cX11_init 137 = .ok (.putfield 74, 3) := by decide +kernel
theorem dX11_init_140 : decode cX11_init 140 = .ok (.aload_n 0, 1) := by decide +kernel
theorem dX11_init_141 : decode cX11_init 141 = .ok (.new 78, 3) := by decide +kernel
theorem dX11_init_144 : decode cX11_init 144 = .ok (.dup, 1) := by decide +kernel
theorem dX11_init_145 : decode cX11_init 145 = .ok (.aload_n 0, 1) := by decide +kernel
theorem dX11_init_146 : decode cX11_init 146 = .ok (.getfield 23, 3) := by decide +kernel
theorem dX11_init_149 : decode cX11_init 149 = .ok (.invokespecial 80, 3) := by decide +kernel
theorem dX11_init_152 : decode cX11_init 152 = .ok (.putfield 83, 3) := by decide +kernel
theorem dX11_init_155 : decode cX11_init 155 = .ok (.aload_n 0, 1) := by decide +kernel
theorem dX11_init_156 : decode cX11_init 156 = .ok (.new 87, 3) := by decide +kernel
theorem dX11_init_159 : decode cX11_init 159 = .ok (.dup, 1) := by decide +kernel
theorem dX11_init_160 : decode cX11_init 160 = .ok (.aload_n 0, 1) := by decide +kernel
theorem dX11_init_161 : decode cX11_init 161 = .ok (.getfield 23, 3) := by decide +kernel
theorem dX11_init_164 : decode cX11_init 164 = .ok (.aload_n 0, 1) := by decide +kernel
theorem dX11_init_165 : decode cX11_init 165 = .ok (.getfield 83, 3) := by decide +kernel
theorem dX11_init_168 : decode cX11_init 168 = .ok (.invokespecial 89, 3) := by decide +kernel
theorem dX11_init_171 : decode cX11_init 171 = .ok (.putfield 92, 3) := by decide +kernel
theorem dX11_init_174 : decode cX11_init 174 = .ok (.aload_n 0, 1) := by decide +kernel
theorem dX11_init_175 : decode cX11_init 175 = .ok (.new 96, 3) := by decide +kernel
theorem dX11_init_178 : decode cX11_init 178 = .ok (.dup, 1) := by decide +kernel
theorem dX11_init_179 : decode cX11_init 179 = .ok (.aload_n 0, 1) := by decide +kernel
theorem dX11_init_180 : decode cX11_init 180 = .ok (.getfield 23, 3) := by decide +kernel
theorem dX11_init_183 : decode cX11_init 183 = .ok (.aload_n 0, 1) := by decide +kernel
theorem dX11_init_184 : decode cX11_init 184 = .ok (.getfield 83, 3) := by decide +kernel
theorem dX11_init_187 : decode cX11_init 187 = .ok (.invokespecial 98, 3) := by decide +kernel
theorem dX11_init_190 : decode cX11_init 190 = .ok (.putfield 99, 3) := by decide +kernel
theorem dX11_init_193 : decode cX11_init 193 = .ok (.aload_n 0, 1) := by decide +kernel
theorem dX11_init_194 : decode cX11_init 194 = .ok (.new 103, 3) := by decide +kernel
theorem dX11_init_197 : decode cX11_init 197 = .ok (.dup, 1) := by decide +kernel
theorem dX11_init_198 : decode cX11_init 198 = .ok (.aload_n 0, 1) := by decide +kernel
theorem dX11_init_199 : decode cX11_init 199 = .ok (.getfield 23, 3) := by decide +kernel
theorem dX11_init_202 : decode cX11_init 202 = .ok (.invokespecial 105, 3) := by decide +kernel
theorem dX11_init_205 : decode cX11_init 205 = .ok (.putfield 106, 3) := by decide +kernel
theorem dX11_init_208 : decode cX11_init 208 = .ok (.iconst 0, 1) := by decide +kernel
theorem dX11_init_209 : decode cX11_init 209 = .ok (.istore_n 1, 1) := by decide +kernel
theorem dX11_init_210 : decode cX11_init 210 = .ok (.iload_n 1, 1) := by decide +kernel
theorem dX11_init_211 : decode cX11_init 211 = .ok (.aload_n 0, 1) := by decide +kernel
theorem dX11_init_212 : decode cX11_init 212 = .ok (.getfield 33, 3) := by decide +kernel
theorem dX11_init_215 : decode cX11_init 215 = .ok (.arraylength, 1) := by decide +kernel
theorem dX11_init_216 : decode cX11_init 216 = .ok (.if_icmp .ge 22, 3) := by decide +kernel
theorem dX11_init_219 : decode cX11_init 219 = .ok (.aload_n 0, 1) := by decide +kernel
theorem dX11_init_220 : decode cX11_init 220 = .ok (.getfield 33, 3) := by decide +kernel
theorem dX11_init_223 : decode cX11_init 223 = .ok (.iload_n 1, 1) := by decide +kernel
theorem dX11_init_224 : decode cX11_init 224 = .ok (.new 26, 3) := by decide +kernel
theorem dX11_init_227 : decode cX11_init 227 = .ok (.dup, 1) := by decide +kernel
theorem dX11_init_228 : decode cX11_init 228 = .ok (.invokespecial 28, 3) := by decide +kernel
theorem dX11_init_231 : decode cX11_init 231 = .ok (.aastore, 1) := by decide +kernel
theorem dX11_init_232 : decode cX11_init 232 = .ok (.iinc 1 1, 3) := by decide +kernel
theorem dX11_init_235 : decode cX11_init 235 = .ok (.goto (-25), 3) := by decide +kernel
theorem dX11_init_238 : decode cX11_init 238 = .ok (.return_, 1) := by decide +kernel
theorem dX11_feed_0 : decode cX11_feed 0 = .ok (.iload_n 1, 1) := by decide +kernel
theorem dX11_feed_1 : decode cX11_feed 1 = .ok (.invokestatic 110, 3) := by decide +kernel
theorem dX11_feed_4 : decode cX11_feed 4 = .ok (.iload_n 2, 1) := by decide +kernel
theorem dX11_feed_5 : decode cX11_feed 5 = .ok (.invokestatic 110, 3) := by decide +kernel
theorem dX11_feed_8 : decode cX11_feed 8 = .ok (.iadd, 1) := by decide +kernel
theorem dX11_feed_9 : decode cX11_feed 9 = .ok (.iload_n 3, 1) := by decide +kernel
theorem dX11_feed_10 : decode cX11_feed 10 = .ok (.invokestatic 110, 3) := by decide +kernel
theorem dX11_feed_13 : decode cX11_feed 13 = .ok (.iadd, 1) := by decide +kernel
theorem dX11_feed_14 : decode cX11_feed 14 = .ok (.iload 4, 2) := by decide +kernel
theorem dX11_feed_16 : decode cX11_feed 16 = .ok (.invokestatic 110, 3) := by decide +kernel
theorem dX11_feed_19 : decode cX11_feed 19 = .ok (.iadd, 1) := by decide +kernel
theorem dX11_feed_20 : decode cX11_feed 20 = .ok (.iload 5, 2) := by decide +kernel
theorem dX11_feed_22 : decode cX11_feed 22 = .ok (.invokestatic 110, 3) := by decide +kernel
theorem dX11_feed_25 : decode cX11_feed 25 = .ok (.iadd, 1) := by decide +kernel
theorem dX11_feed_26 : decode cX11_feed 26 = .ok (.istore 6, 2) := by decide +kernel
theorem dX11_feed_28 : decode cX11_feed 28 = .ok (.aload_n 0, 1) := by decide +kernel
theorem dX11_feed_29 : decode cX11_feed 29 = .ok (.getfield 12, 3) := by decide +kernel
theorem dX11_feed_32 : decode cX11_feed 32 = .ok (.getfield 114, 3) := by decide +kernel
theorem dX11_feed_35 : decode cX11_feed 35 = .ok (.iload 6, 2) := by decide +kernel
theorem dX11_feed_37 : decode cX11_feed 37 = .ok (.iadd, 1) := by decide +kernel
theorem dX11_feed_38 : decode cX11_feed 38 = .ok (.sipush 240, 3) := by decide +kernel
theorem dX11_feed_41 : decode cX11_feed 41 = .ok (.if_icmp .le 5, 3) := by decide +kernel
theorem dX11_feed_44 : decode cX11_feed 44 = .ok (.iconst (-1), 1) := by decide +kernel
theorem dX11_feed_45 : decode cX11_feed 45 = .ok (.ireturn, 1) := by decide +kernel
theorem dX11_feed_46 : decode cX11_feed 46 = .ok (.aload_n 0, 1) := by decide +kernel
theorem dX11_feed_47 : decode cX11_feed 47 = .ok (.getfield 12, 3) := by decide +kernel
theorem dX11_feed_50 : decode cX11_feed 50 = .ok (.iload_n 1, 1) := by decide +kernel
theorem dX11_feed_51 : decode cX11_feed 51 = .ok (.invokevirtual 118, 3) := by decide +kernel
theorem dX11_feed_54 : decode cX11_feed 54 = .ok (.aload_n 0, 1) := by decide +kernel
theorem dX11_feed_55 : decode cX11_feed 55 = .ok (.getfield 12, 3) := by decide +kernel
theorem dX11_feed_58 : decode cX11_feed 58 = .ok (.iload_n 2, 1) := by decide +kernel
theorem dX11_feed_59 : decode cX11_feed 59 = .ok (.invokevirtual 118, 3) := by decide +kernel
theorem dX11_feed_62 : decode cX11_feed 62 = .ok (.aload_n 0, 1) := by decide +kernel
theorem dX11_feed_63 : decode cX11_feed 63 = .ok (.getfield 12, 3) := by decide +kernel
theorem dX11_feed_66 : decode cX11_feed 66 = .ok (.iload_n 3, 1) := by decide +kernel
theorem dX11_feed_67 : decode cX11_feed 67 = .ok (.invokevirtual 118, 3) := by decide +kernel
theorem dX11_feed_70 : decode cX11_feed 70 = .ok (.aload_n 0, 1) := by decide +kernel
theorem dX11_feed_71 : decode cX11_feed 71 = .ok (.getfield 12, 3) := by decide +kernel
theorem dX11_feed_74 : decode cX11_feed 74 = .ok (.iload 4, 2) := by decide +kernel
theorem dX11_feed_76 : decode cX11_feed 76 = .ok (.invokevirtual 118, 3) := by decide +kernel
theorem dX11_feed_79 : decode cX11_feed 79 = .ok (.aload_n 0, 1) := by decide +kernel
theorem dX11_feed_80 : decode cX11_feed 80 = .ok (.getfield 12, 3) := by decide +kernel
theorem dX11_feed_83 : decode cX11_feed 83 = .ok (.iload 5, 2) := by decide +kernel
theorem dX11_feed_85 : decode cX11_feed 85 = .ok (.invokevirtual 118, 3) := by decide +kernel
theorem dX11_feed_88 : decode cX11_feed 88 = .ok (.aload_n 0, 1) := by decide +kernel
theorem dX11_feed_89 : decode cX11_feed 89 = .ok (.getfield 12, 3) := by decide +kernel
theorem dX11_feed_92 : decode cX11_feed 92 = .ok (.getfield 114, 3) := by decide +kernel
theorem dX11_feed_95 : decode cX11_feed 95 = .ok (.ireturn, 1) := by decide +kernel
theorem dX11_end_0 : decode cX11_end 0 = .ok (.iload_n 1, 1) := by decide +kernel
theorem dX11_end_1 : decode cX11_end 1 = .ok (.ifCond .lt 14, 3) := by decide +kernel
theorem dX11_end_4 : decode cX11_end 4 = .ok (.iload_n 1, 1) := by decide +kernel
theorem dX11_end_5 : decode cX11_end 5 = .ok (.aload_n 0, 1) := by decide +kernel
theorem dX11_end_6 : decode cX11_end 6 = .ok (.getfield 12, 3) := by decide +kernel
theorem dX11_end_9 : decode cX11_end 9 = .ok (.getfield 114, 3) := by decide +kernel
theorem dX11_end_12 : decode cX11_end 12 = .ok (.if_icmp .le 5, 3) := by decide +kernel
theorem dX11_end_15 : decode cX11_end 15 = .ok (.iconst 0, 1) := by decide +kernel
theorem dX11_end_16 : decode cX11_end 16 = .ok (.ireturn, 1) := by decide +kernel
theorem dX11_end_17 : decode cX11_end 17 = .ok (.aload_n 0, 1) := by decide +kernel
theorem dX11_end_18 : decode cX11_end 18 = .ok (.getfield 12, 3) := by decide +kernel
theorem dX11_end_21 : decode cX11_end 21 = .ok (.iload_n 1, 1) := by decide +kernel
theorem dX11_end_22 : decode cX11_end 22 = .ok (.putfield 114, 3) := by decide +kernel
theorem dX11_end_25 : decode cX11_end 25 = .ok (.iconst 1, 1) := by decide +kernel
theorem dX11_end_26 : decode cX11_end 26 = .ok (.ireturn, 1) := by decide +kernel
theorem dX11_fault_0 : decode cX11_fault 0 = .ok (.iload_n 1, 1) := by decide +kernel
theorem dX11_fault_1 : decode cX11_fault 1 = .ok (.ifCond .ne 15, 3) := by decide +kernel
theorem dX11_fault_4 : decode cX11_fault 4 = .ok (.aload_n 0, 1) := by decide +kernel
theorem dX11_fault_5 : decode cX11_fault 5 = .ok (.getfield 19, 3) := by decide +kernel
theorem dX11_fault_8 : decode cX11_fault 8 = .ok (.aload_n 0, 1) := by decide +kernel
theorem dX11_fault_9 : decode cX11_fault 9 = .ok (.getfield 12, 3) := by decide +kernel
theorem dX11_fault_12 : decode cX11_fault 12 = .ok (.invokevirtual 122, 3) := by decide +kernel
theorem dX11_fault_15 : decode cX11_fault 15 = .ok (.ireturn, 1) := by decide +kernel
theorem dX11_fault_16 : decode cX11_fault 16 = .ok (.iload_n 1, 1) := by decide +kernel
theorem dX11_fault_17 : decode cX11_fault 17 = .ok (.iconst 1, 1) := by decide +kernel
theorem dX11_fault_18 : decode cX11_fault 18 = .ok (.if_icmp .ne 17, 3) := by decide +kernel
theorem dX11_fault_21 : decode cX11_fault 21 = .ok (.aload_n 0, 1) := by decide +kernel
theorem dX11_fault_22 : decode cX11_fault 22 = .ok (.getfield 29, 3) := by decide +kernel
theorem dX11_fault_25 : decode cX11_fault 25 = .ok (.aload_n 0, 1) := by decide +kernel
theorem dX11_fault_26 : decode cX11_fault 26 = .ok (.getfield 12, 3) := by decide +kernel
theorem dX11_fault_29 : decode cX11_fault 29 = .ok (.invokevirtual 126, 3) := by decide +kernel
theorem dX11_fault_32 : decode cX11_fault 32 = .ok (.goto 5, 3) := by decide +kernel
theorem dX11_fault_35 : decode cX11_fault 35 = .ok (.bipush (-2), 2) := by decide +kernel
theorem dX11_fault_37 : decode cX11_fault 37 = .ok (.ireturn, 1) := by decide +kernel
theorem dX11_text_0 : decode cX11_text 0 = .ok (.iload_n 1, 1) := by decide +kernel
theorem dX11_text_1 : decode cX11_text 1 = .ok (.ifCond .ne 8, 3) := by decide +kernel
theorem dX11_text_4 : decode cX11_text 4 = .ok (.aload_n 0, 1) := by decide +kernel
theorem dX11_text_5 : decode cX11_text 5 = .ok (.invokevirtual 127, 3) := by decide +kernel
theorem dX11_text_8 : decode cX11_text 8 = .ok (.ireturn, 1) := by decide +kernel
theorem dX11_text_9 : decode cX11_text 9 = .ok (.iload_n 1, 1) := by decide +kernel
theorem dX11_text_10 : decode cX11_text 10 = .ok (.iconst 1, 1) := by decide +kernel
theorem dX11_text_11 : decode cX11_text 11 = .ok (.if_icmp .ne 10, 3) := by decide +kernel
theorem dX11_text_14 : decode cX11_text 14 = .ok (.aload_n 0, 1) := by decide +kernel
theorem dX11_text_15 : decode cX11_text 15 = .ok (.invokevirtual 131, 3) := by decide +kernel
theorem dX11_text_18 : decode cX11_text 18 = .ok (.goto 4, 3) := by decide +kernel
theorem dX11_text_21 : decode cX11_text 21 = .ok (.iconst (-1), 1) := by decide +kernel
theorem dX11_text_22 : decode cX11_text 22 = .ok (.ireturn, 1) := by decide +kernel
theorem dX11_takeField_0 : decode cX11_takeField 0 = .ok (.aload_n 0, 1) := by decide +kernel
theorem dX11_takeField_1 : decode cX11_takeField 1 = .ok (.getfield 19, 3) := by decide +kernel
theorem dX11_takeField_4 : decode cX11_takeField 4 = .ok (.aload_n 0, 1) := by decide +kernel
theorem dX11_takeField_5 : decode cX11_takeField 5 = .ok (.getfield 12, 3) := by decide +kernel
theorem dX11_takeField_8 : decode cX11_takeField 8 = .ok (.invokevirtual 122, 3) := by decide +kernel
theorem dX11_takeField_11 : decode cX11_takeField 11 = .ok (.iconst (-1), 1) := by decide +kernel
theorem dX11_takeField_12 : decode cX11_takeField 12 = .ok (.if_icmp .eq 5, 3) := by decide +kernel
theorem dX11_takeField_15 : decode cX11_takeField 15 = .ok (.iconst (-1), 1) := by decide +kernel
theorem dX11_takeField_16 : decode cX11_takeField 16 = .ok (.ireturn, 1) := by decide +kernel
theorem dX11_takeField_17 : decode cX11_takeField 17 = .ok (.aload_n 0, 1) := by decide +kernel
theorem dX11_takeField_18 : decode cX11_takeField 18 = .ok (.getfield 23, 3) := by decide +kernel
theorem dX11_takeField_21 : decode cX11_takeField 21 = .ok (.aload_n 0, 1) := by decide +kernel
theorem dX11_takeField_22 : decode cX11_takeField 22 = .ok (.getfield 12, 3) := by decide +kernel
theorem dX11_takeField_25 : decode cX11_takeField 25 = .ok (.invokevirtual 122, 3) := by decide +kernel
theorem dX11_takeField_28 : decode cX11_takeField 28 = .ok (.pop, 1) := by decide +kernel
theorem dX11_takeField_29 : decode cX11_takeField 29 = .ok (.aload_n 0, 1) := by decide +kernel
theorem dX11_takeField_30 : decode cX11_takeField 30 = .ok (.getfield 12, 3) := by decide +kernel
theorem dX11_takeField_33 : decode cX11_takeField 33 = .ok (.iconst 0, 1) := by decide +kernel
theorem dX11_takeField_34 : decode cX11_takeField 34 = .ok (.putfield 114, 3) := by decide +kernel
theorem dX11_takeField_37 : decode cX11_takeField 37 = .ok (.aload_n 0, 1) := by decide +kernel
theorem dX11_takeField_38 : decode cX11_takeField 38 = .ok (.getfield 40, 3) := by decide +kernel
theorem dX11_takeField_41 : decode cX11_takeField 41 = .ok (.aload_n 0, 1) := by decide +kernel
theorem dX11_takeField_42 : decode cX11_takeField 42 = .ok (.getfield 23, 3) := by decide +kernel
theorem dX11_takeField_45 : decode cX11_takeField 45 = .ok (.invokevirtual 134, 3) := by decide +kernel
theorem dX11_takeField_48 : decode cX11_takeField 48 = .ok (.aload_n 0, 1) := by decide +kernel
theorem dX11_takeField_49 : decode cX11_takeField 49 = .ok (.getfield 83, 3) := by decide +kernel
theorem dX11_takeField_52 : decode cX11_takeField 52 = .ok (.invokevirtual 137, 3) := by decide +kernel
theorem dX11_takeField_55 : decode cX11_takeField 55 = .ok (.aload_n 0, 1) := by decide +kernel
theorem dX11_takeField_56 : decode cX11_takeField 56 = .ok (.getfield 53, 3) := by decide +kernel
theorem dX11_takeField_59 : decode cX11_takeField 59 = .ok (.iconst 0, 1) := by decide +kernel
theorem dX11_takeField_60 : decode cX11_takeField 60 = .ok (.putfield 139, 3) := by decide +kernel
theorem dX11_takeField_63 : decode cX11_takeField 63 = .ok (.aload_n 0, 1) := by decide +kernel
theorem dX11_takeField_64 : decode cX11_takeField 64 = .ok (.getfield 63, 3) := by decide +kernel
theorem dX11_takeField_67 : decode cX11_takeField 67 = .ok (.iconst 0, 1) := by decide +kernel
theorem dX11_takeField_68 : decode cX11_takeField 68 = .ok (.putfield 140, 3) := by decide +kernel
theorem dX11_takeField_71 : decode cX11_takeField 71 = .ok (.aload_n 0, 1) := by decide +kernel
theorem dX11_takeField_72 : decode cX11_takeField 72 = .ok (.iconst 0, 1) := by decide +kernel
theorem dX11_takeField_73 : decode cX11_takeField 73 = .ok (.putfield 143, 3) := by decide +kernel
theorem dX11_takeField_76 : decode cX11_takeField 76 = .ok (.aload_n 0, 1) := by decide +kernel
theorem dX11_takeField_77 : decode cX11_takeField 77 = .ok (.getfield 23, 3) := by decide +kernel
theorem dX11_takeField_80 : decode cX11_takeField 80 = .ok (.getfield 147, 3) := by decide +kernel
theorem dX11_takeField_83 : decode cX11_takeField 83 = .ok (.ireturn, 1) := by decide +kernel
theorem dX11_takeScript_0 : decode cX11_takeScript 0 = .ok (.aload_n 0, 1) := by decide +kernel
theorem dX11_takeScript_1 : decode cX11_takeScript 1 = .ok (.getfield 150, 3) := by decide +kernel
theorem dX11_takeScript_4 : decode cX11_takeScript 4 = .ok (.iconst 4, 1) := by decide +kernel
theorem dX11_takeScript_5 : decode cX11_takeScript 5 = .ok (.if_icmp .ge 18, 3) := by decide +kernel
theorem dX11_takeScript_8 : decode cX11_takeScript 8 = .ok (.aload_n 0, 1) := by decide +kernel
theorem dX11_takeScript_9 : decode cX11_takeScript 9 = .ok (.getfield 29, 3) := by decide +kernel
theorem dX11_takeScript_12 : decode cX11_takeScript 12 = .ok (.aload_n 0, 1) := by decide +kernel
theorem dX11_takeScript_13 : decode cX11_takeScript 13 = .ok (.getfield 12, 3) := by decide +kernel
theorem dX11_takeScript_16 : decode cX11_takeScript 16 = .ok (.invokevirtual 126, 3) := by decide +kernel
theorem dX11_takeScript_19 : decode cX11_takeScript 19 = .ok (.iconst (-1), 1) := by decide +kernel
theorem dX11_takeScript_20 : decode cX11_takeScript 20 = .ok (.if_icmp .eq 5, 3) := by decide +kernel
theorem dX11_takeScript_23 : decode cX11_takeScript 23 = .ok (.iconst (-1), 1) := by decide +kernel
theorem dX11_takeScript_24 : decode cX11_takeScript 24 = .ok (.ireturn, 1) := by decide +kernel
theorem dX11_takeScript_25 : decode cX11_takeScript 25 = .ok (.aload_n 0, 1) := by decide +kernel
theorem dX11_takeScript_26 : decode cX11_takeScript 26 = .ok (.getfield 33, 3) := by decide +kernel
theorem dX11_takeScript_29 : decode cX11_takeScript 29 = .ok (.aload_n 0, 1) := by decide +kernel
theorem dX11_takeScript_30 : decode cX11_takeScript 30 = .ok (.getfield 150, 3) := by decide +kernel
theorem dX11_takeScript_33 : decode cX11_takeScript 33 = .ok (.aaload, 1) := by decide +kernel
theorem dX11_takeScript_34 : decode cX11_takeScript 34 = .ok (.aload_n 0, 1) := by decide +kernel
theorem dX11_takeScript_35 : decode cX11_takeScript 35 = .ok (.getfield 12, 3) := by decide +kernel
theorem dX11_takeScript_38 : decode cX11_takeScript 38 = .ok (.invokevirtual 126, 3) := by decide +kernel
theorem dX11_takeScript_41 : decode cX11_takeScript 41 = .ok (.pop, 1) := by decide +kernel
theorem dX11_takeScript_42 : decode cX11_takeScript 42 = .ok (.aload_n 0, 1) := by decide +kernel
theorem dX11_takeScript_43 : decode cX11_takeScript 43 = .ok (.getfield 12, 3) := by decide +kernel
theorem dX11_takeScript_46 : decode cX11_takeScript 46 = .ok (.iconst 0, 1) := by decide +kernel
theorem dX11_takeScript_47 : decode cX11_takeScript 47 = .ok (.putfield 114, 3) := by decide +kernel
theorem dX11_takeScript_50 : decode cX11_takeScript 50 = .ok (.aload_n 0, 1) := by decide +kernel
theorem dX11_takeScript_51 : decode cX11_takeScript 51 = .ok (.dup, 1) := by decide +kernel
theorem dX11_takeScript_52 : decode cX11_takeScript 52 = .ok (.getfield 150, 3) := by decide +kernel
theorem dX11_takeScript_55 : decode cX11_takeScript 55 = .ok (.iconst 1, 1) := by decide +kernel
theorem dX11_takeScript_56 : decode cX11_takeScript 56 = .ok (.iadd, 1) := by decide +kernel
theorem dX11_takeScript_57 : decode cX11_takeScript 57 = .ok (.putfield 150, 3) := by decide +kernel
theorem dX11_takeScript_60 : decode cX11_takeScript 60 = .ok (.aload_n 0, 1) := by decide +kernel
theorem dX11_takeScript_61 : decode cX11_takeScript 61 = .ok (.getfield 150, 3) := by decide +kernel
theorem dX11_takeScript_64 : decode cX11_takeScript 64 = .ok (.iconst 1, 1) := by decide +kernel
theorem dX11_takeScript_65 : decode cX11_takeScript 65 = .ok (.isub, 1) := by decide +kernel
theorem dX11_takeScript_66 : decode cX11_takeScript 66 = .ok (.ireturn, 1) := by decide +kernel
theorem dX11_noField_0 : decode cX11_noField 0 = .ok (.aload_n 0, 1) := by decide +kernel
theorem dX11_noField_1 : decode cX11_noField 1 = .ok (.getfield 23, 3) := by decide +kernel
theorem dX11_noField_4 : decode cX11_noField 4 = .ok (.getfield 147, 3) := by decide +kernel
theorem dX11_noField_7 : decode cX11_noField 7 = .ok (.ifCond .ne 7, 3) := by decide +kernel
theorem dX11_noField_10 : decode cX11_noField 10 = .ok (.iconst 1, 1) := by decide +kernel
theorem dX11_noField_11 : decode cX11_noField 11 = .ok (.goto 4, 3) := by decide +kernel
theorem dX11_noField_14 : decode cX11_noField 14 = .ok (.iconst 0, 1) := by decide +kernel
theorem dX11_noField_15 : decode cX11_noField 15 = .ok (.ireturn, 1) := by decide +kernel
theorem dX11_noUser_0 : decode cX11_noUser 0 = .ok (.iload_n 1, 1) := by decide +kernel
theorem dX11_noUser_1 : decode cX11_noUser 1 = .ok (.ifCond .lt 14, 3) := by decide +kernel
theorem dX11_noUser_4 : decode cX11_noUser 4 = .ok (.iload_n 1, 1) := by decide +kernel
theorem dX11_noUser_5 : decode cX11_noUser 5 = .ok (.aload_n 0, 1) := by decide +kernel
theorem dX11_noUser_6 : decode cX11_noUser 6 = .ok (.getfield 23, 3) := by decide +kernel
theorem dX11_noUser_9 : decode cX11_noUser 9 = .ok (.getfield 147, 3) := by decide +kernel
theorem dX11_noUser_12 : decode cX11_noUser 12 = .ok (.if_icmp .lt 7, 3) := by decide +kernel
theorem dX11_noUser_15 : decode cX11_noUser 15 = .ok (.iconst 1, 1) := by decide +kernel
theorem dX11_noUser_16 : decode cX11_noUser 16 = .ok (.goto 4, 3) := by decide +kernel
theorem dX11_noUser_19 : decode cX11_noUser 19 = .ok (.iconst 0, 1) := by decide +kernel
theorem dX11_noUser_20 : decode cX11_noUser 20 = .ok (.ireturn, 1) := by decide +kernel
theorem dX11_noSlot_0 : decode cX11_noSlot 0 = .ok (.iload_n 1, 1) := by decide +kernel
theorem dX11_noSlot_1 : decode cX11_noSlot 1 = .ok (.ifCond .lt 14, 3) := by decide +kernel
theorem dX11_noSlot_4 : decode cX11_noSlot 4 = .ok (.iload_n 1, 1) := by decide +kernel
theorem dX11_noSlot_5 : decode cX11_noSlot 5 = .ok (.aload_n 0, 1) := by decide +kernel
theorem dX11_noSlot_6 : decode cX11_noSlot 6 = .ok (.getfield 23, 3) := by decide +kernel
theorem dX11_noSlot_9 : decode cX11_noSlot 9 = .ok (.invokevirtual 153, 3) := by decide +kernel
theorem dX11_noSlot_12 : decode cX11_noSlot 12 = .ok (.if_icmp .lt 7, 3) := by decide +kernel
theorem dX11_noSlot_15 : decode cX11_noSlot 15 = .ok (.iconst 1, 1) := by decide +kernel
theorem dX11_noSlot_16 : decode cX11_noSlot 16 = .ok (.goto 4, 3) := by decide +kernel
theorem dX11_noSlot_19 : decode cX11_noSlot 19 = .ok (.iconst 0, 1) := by decide +kernel
theorem dX11_noSlot_20 : decode cX11_noSlot 20 = .ok (.ireturn, 1) := by decide +kernel
theorem dX11_noFrame_0 : decode cX11_noFrame 0 = .ok (.aload_n 0, 1) := by decide +kernel
theorem dX11_noFrame_1 : decode cX11_noFrame 1 = .ok (.invokevirtual 156, 3) := by decide +kernel
theorem dX11_noFrame_4 : decode cX11_noFrame 4 = .ok (.ifCond .ne 18, 3) := by decide +kernel
theorem dX11_noFrame_7 : decode cX11_noFrame 7 = .ok (.iload_n 1, 1) := by decide +kernel
theorem dX11_noFrame_8 : decode cX11_noFrame 8 = .ok (.ifCond .lt 14, 3) := by decide +kernel
theorem dX11_noFrame_11 : decode cX11_noFrame 11 = .ok (.iload_n 1, 1) := by decide +kernel
theorem dX11_noFrame_12 : decode cX11_noFrame 12 = .ok (.aload_n 0, 1) := by decide +kernel
theorem dX11_noFrame_13 : decode cX11_noFrame 13 = .ok (.getfield 23, 3) := by decide +kernel
theorem dX11_noFrame_16 : decode cX11_noFrame 16 = .ok (.getfield 160, 3) := by decide +kernel
theorem dX11_noFrame_19 : decode cX11_noFrame 19 = .ok (.if_icmp .lt 7, 3) := by decide +kernel
theorem dX11_noFrame_22 : decode cX11_noFrame 22 = .ok (.iconst 1, 1) := by decide +kernel
theorem dX11_noFrame_23 : decode cX11_noFrame 23 = .ok (.goto 4, 3) := by decide +kernel
theorem dX11_noFrame_26 : decode cX11_noFrame 26 = .ok (.iconst 0, 1) := by decide +kernel
theorem dX11_noFrame_27 : decode cX11_noFrame 27 = .ok (.ireturn, 1) := by decide +kernel
theorem dX11_noScript_0 : decode cX11_noScript 0 = .ok (.iload_n 1, 1) := by decide +kernel
theorem dX11_noScript_1 : decode cX11_noScript 1 = .ok (.ifCond .lt 11, 3) := by decide +kernel
theorem dX11_noScript_4 : decode cX11_noScript 4 = .ok (.iload_n 1, 1) := by decide +kernel
theorem dX11_noScript_5 : decode cX11_noScript 5 = .ok (.aload_n 0, 1) := by decide +kernel
theorem dX11_noScript_6 : decode cX11_noScript 6 = .ok (.getfield 150, 3) := by decide +kernel
theorem dX11_noScript_9 : decode cX11_noScript 9 = .ok (.if_icmp .lt 7, 3) := by decide +kernel
theorem dX11_noScript_12 : decode cX11_noScript 12 = .ok (.iconst 1, 1) := by decide +kernel
theorem dX11_noScript_13 : decode cX11_noScript 13 = .ok (.goto 4, 3) := by decide +kernel
theorem dX11_noScript_16 : decode cX11_noScript 16 = .ok (.iconst 0, 1) := by decide +kernel
theorem dX11_noScript_17 : decode cX11_noScript 17 = .ok (.ireturn, 1) := by decide +kernel
theorem dX11_noDegrees_0 : decode cX11_noDegrees 0 = .ok (.aload_n 0, 1) := by decide +kernel
theorem dX11_noDegrees_1 : decode cX11_noDegrees 1 = .ok (.getfield 23, 3) := by decide +kernel
theorem dX11_noDegrees_4 : decode cX11_noDegrees 4 = .ok (.getfield 163, 3) := by decide +kernel
theorem dX11_noDegrees_7 : decode cX11_noDegrees 7 = .ok (.ifCond .ne 7, 3) := by decide +kernel
theorem dX11_noDegrees_10 : decode cX11_noDegrees 10 = .ok (.iconst 1, 1) := by decide +kernel
theorem dX11_noDegrees_11 : decode cX11_noDegrees 11 = .ok (.goto 4, 3) := by decide +kernel
theorem dX11_noDegrees_14 : decode cX11_noDegrees 14 = .ok (.iconst 0, 1) := by decide +kernel
theorem dX11_noDegrees_15 : decode cX11_noDegrees 15 = .ok (.ireturn, 1) := by decide +kernel
theorem dX11_rule_0 : decode cX11_rule 0 = .ok (.aload_n 0, 1) := by decide +kernel
theorem dX11_rule_1 : decode cX11_rule 1 = .ok (.invokevirtual 156, 3) := by decide +kernel
theorem dX11_rule_4 : decode cX11_rule 4 = .ok (.ifCond .eq 5, 3) := by decide +kernel
theorem dX11_rule_7 : decode cX11_rule 7 = .ok (.iconst (-1), 1) := by decide +kernel
theorem dX11_rule_8 : decode cX11_rule 8 = .ok (.ireturn, 1) := by decide +kernel
theorem dX11_rule_9 : decode cX11_rule 9 = .ok (.iload_n 1, 1) := by decide +kernel
theorem dX11_rule_10 : decode cX11_rule 10 = .ok (.tableswitch 74 0 4 #[34, 42, 50, 58, 66], 34) := by decide +kernel
theorem dX11_rule_44 : decode cX11_rule 44 = .ok (.aload_n 0, 1) := by decide +kernel
theorem dX11_rule_45 : decode cX11_rule 45 = .ok (.getfield 23, 3) := by decide +kernel
theorem dX11_rule_48 : decode cX11_rule 48 = .ok (.getfield 166, 3) := by decide +kernel
theorem dX11_rule_51 : decode cX11_rule 51 = .ok (.ireturn, 1) := by decide +kernel
theorem dX11_rule_52 : decode cX11_rule 52 = .ok (.aload_n 0, 1) := by decide +kernel
theorem dX11_rule_53 : decode cX11_rule 53 = .ok (.getfield 23, 3) := by decide +kernel
theorem dX11_rule_56 : decode cX11_rule 56 = .ok (.getfield 160, 3) := by decide +kernel
theorem dX11_rule_59 : decode cX11_rule 59 = .ok (.ireturn, 1) := by decide +kernel
theorem dX11_rule_60 : decode cX11_rule 60 = .ok (.aload_n 0, 1) := by decide +kernel
theorem dX11_rule_61 : decode cX11_rule 61 = .ok (.getfield 40, 3) := by decide +kernel
theorem dX11_rule_64 : decode cX11_rule 64 = .ok (.getfield 169, 3) := by decide +kernel
theorem dX11_rule_67 : decode cX11_rule 67 = .ok (.ireturn, 1) := by decide +kernel
theorem dX11_rule_68 : decode cX11_rule 68 = .ok (.aload_n 0, 1) := by decide +kernel
theorem dX11_rule_69 : decode cX11_rule 69 = .ok (.getfield 23, 3) := by decide +kernel
theorem dX11_rule_72 : decode cX11_rule 72 = .ok (.getfield 172, 3) := by decide +kernel
theorem dX11_rule_75 : decode cX11_rule 75 = .ok (.ireturn, 1) := by decide +kernel
theorem dX11_rule_76 : decode cX11_rule 76 = .ok (.aload_n 0, 1) := by decide +kernel
theorem dX11_rule_77 : decode cX11_rule 77 = .ok (.getfield 23, 3) := by decide +kernel
theorem dX11_rule_80 : decode cX11_rule 80 = .ok (.invokevirtual 153, 3) := by decide +kernel
theorem dX11_rule_83 : decode cX11_rule 83 = .ok (.ireturn, 1) := by decide +kernel
theorem dX11_rule_84 : decode cX11_rule 84 = .ok (.iconst (-1), 1) := by decide +kernel
theorem dX11_rule_85 : decode cX11_rule 85 = .ok (.ireturn, 1) := by decide +kernel
theorem dX11_weight_0 : decode cX11_weight 0 = .ok (.aload_n 0, 1) := by decide +kernel
theorem dX11_weight_1 : decode cX11_weight 1 = .ok (.invokevirtual 156, 3) := by decide +kernel
theorem dX11_weight_4 : decode cX11_weight 4 = .ok (.ifCond .ne 14, 3) := by decide +kernel
theorem dX11_weight_7 : decode cX11_weight 7 = .ok (.iload_n 1, 1) := by decide +kernel
theorem dX11_weight_8 : decode cX11_weight 8 = .ok (.iconst 1, 1) := by decide +kernel
theorem dX11_weight_9 : decode cX11_weight 9 = .ok (.if_icmp .lt 9, 3) := by decide +kernel
theorem dX11_weight_12 : decode cX11_weight 12 = .ok (.iload_n 1, 1) := by decide +kernel
theorem dX11_weight_13 : decode cX11_weight 13 = .ok (.bipush 6, 2) := by decide +kernel
theorem dX11_weight_15 : decode cX11_weight 15 = .ok (.if_icmp .le 7, 3) := by decide +kernel
theorem dX11_weight_18 : decode cX11_weight 18 = .ok (.iconst (-1), 1) := by decide +kernel
theorem dX11_weight_19 : decode cX11_weight 19 = .ok (.goto 12, 3) := by decide +kernel
theorem dX11_weight_22 : decode cX11_weight 22 = .ok (.aload_n 0, 1) := by decide +kernel
theorem dX11_weight_23 : decode cX11_weight 23 = .ok (.getfield 23, 3) := by decide +kernel
theorem dX11_weight_26 : decode cX11_weight 26 = .ok (.getfield 175, 3) := by decide +kernel
theorem dX11_weight_29 : decode cX11_weight 29 = .ok (.iload_n 1, 1) := by decide +kernel
theorem dX11_weight_30 : decode cX11_weight 30 = .ok (.iaload, 1) := by decide +kernel
theorem dX11_weight_31 : decode cX11_weight 31 = .ok (.ireturn, 1) := by decide +kernel
theorem dX11_user_0 : decode cX11_user 0 = .ok (.aload_n 0, 1) := by decide +kernel
theorem dX11_user_1 : decode cX11_user 1 = .ok (.iload_n 1, 1) := by decide +kernel
theorem dX11_user_2 : decode cX11_user 2 = .ok (.invokevirtual 178, 3) := by decide +kernel
theorem dX11_user_5 : decode cX11_user 5 = .ok (.ifCond .ne 12, 3) := by decide +kernel
theorem dX11_user_8 : decode cX11_user 8 = .ok (.iload_n 2, 1) := by decide +kernel
theorem dX11_user_9 : decode cX11_user 9 = .ok (.ifCond .lt 8, 3) := by decide +kernel
theorem dX11_user_12 : decode cX11_user 12 = .ok (.iload_n 2, 1) := by decide +kernel
theorem dX11_user_13 : decode cX11_user 13 = .ok (.iconst 5, 1) := by decide +kernel
theorem dX11_user_14 : decode cX11_user 14 = .ok (.if_icmp .le 11, 3) := by decide +kernel
theorem dX11_user_17 : decode cX11_user 17 = .ok (.new 182, 3) := by decide +kernel
theorem dX11_user_20 : decode cX11_user 20 = .ok (.dup, 1) := by decide +kernel
theorem dX11_user_21 : decode cX11_user 21 = .ok (.invokespecial 184, 3) := by decide +kernel
theorem dX11_user_24 : decode cX11_user 24 = .ok (.athrow, 1) := by decide +kernel
theorem dX11_user_25 : decode cX11_user 25 = .ok (.iload_n 2, 1) := by decide +kernel
theorem dX11_user_26 : decode cX11_user 26 = .ok (.tableswitch 87 0 4 #[34, 44, 54, 64, 77], 34) := by decide +kernel
theorem dX11_user_60 : decode cX11_user 60 = .ok (.aload_n 0, 1) := by decide +kernel
theorem dX11_user_61 : decode cX11_user 61 = .ok (.getfield 23, 3) := by decide +kernel
theorem dX11_user_64 : decode cX11_user 64 = .ok (.getfield 185, 3) := by decide +kernel
theorem dX11_user_67 : decode cX11_user 67 = .ok (.iload_n 1, 1) := by decide +kernel
theorem dX11_user_68 : decode cX11_user 68 = .ok (.iaload, 1) := by decide +kernel
theorem dX11_user_69 : decode cX11_user 69 = .ok (.ireturn, 1) := by decide +kernel
theorem dX11_user_70 : decode cX11_user 70 = .ok (.aload_n 0, 1) := by decide +kernel
theorem dX11_user_71 : decode cX11_user 71 = .ok (.getfield 23, 3) := by decide +kernel
theorem dX11_user_74 : decode cX11_user 74 = .ok (.getfield 188, 3) := by decide +kernel
theorem dX11_user_77 : decode cX11_user 77 = .ok (.iload_n 1, 1) := by decide +kernel
theorem dX11_user_78 : decode cX11_user 78 = .ok (.iaload, 1) := by decide +kernel
theorem dX11_user_79 : decode cX11_user 79 = .ok (.ireturn, 1) := by decide +kernel
theorem dX11_user_80 : decode cX11_user 80 = .ok (.aload_n 0, 1) := by decide +kernel
theorem dX11_user_81 : decode cX11_user 81 = .ok (.getfield 23, 3) := by decide +kernel
theorem dX11_user_84 : decode cX11_user 84 = .ok (.getfield 191, 3) := by decide +kernel
theorem dX11_user_87 : decode cX11_user 87 = .ok (.iload_n 1, 1) := by decide +kernel
theorem dX11_user_88 : decode cX11_user 88 = .ok (.iaload, 1) := by decide +kernel
theorem dX11_user_89 : decode cX11_user 89 = .ok (.ireturn, 1) := by decide +kernel
theorem dX11_user_90 : decode cX11_user 90 = .ok (.aload_n 0, 1) := by decide +kernel
theorem dX11_user_91 : decode cX11_user 91 = .ok (.getfield 40, 3) := by decide +kernel
theorem dX11_user_94 : decode cX11_user 94 = .ok (.getfield 194, 3) := by decide +kernel
theorem dX11_user_97 : decode cX11_user 97 = .ok (.iload_n 1, 1) := by decide +kernel
theorem dX11_user_98 : decode cX11_user 98 = .ok (.laload, 1) := by decide +kernel
theorem dX11_user_99 : decode cX11_user 99 = .ok (.invokestatic 198, 3) := by decide +kernel
theorem dX11_user_102 : decode cX11_user 102 = .ok (.ireturn, 1) := by decide +kernel
theorem dX11_user_103 : decode cX11_user 103 = .ok (.aload_n 0, 1) := by decide +kernel
theorem dX11_user_104 : decode cX11_user 104 = .ok (.getfield 40, 3) := by decide +kernel
theorem dX11_user_107 : decode cX11_user 107 = .ok (.getfield 204, 3) := by decide +kernel
theorem dX11_user_110 : decode cX11_user 110 = .ok (.iload_n 1, 1) := by decide +kernel
theorem dX11_user_111 : decode cX11_user 111 = .ok (.iaload, 1) := by decide +kernel
theorem dX11_user_112 : decode cX11_user 112 = .ok (.ireturn, 1) := by decide +kernel
theorem dX11_user_113 : decode cX11_user 113 = .ok (.aload_n 0, 1) := by decide +kernel
theorem dX11_user_114 : decode cX11_user 114 = .ok (.getfield 83, 3) := by decide +kernel
theorem dX11_user_117 : decode cX11_user 117 = .ok (.aload_n 0, 1) := by decide +kernel
theorem dX11_user_118 : decode cX11_user 118 = .ok (.getfield 40, 3) := by decide +kernel
theorem dX11_user_121 : decode cX11_user 121 = .ok (.invokevirtual 207, 3) := by decide +kernel
theorem dX11_user_124 : decode cX11_user 124 = .ok (.aload_n 0, 1) := by decide +kernel
theorem dX11_user_125 : decode cX11_user 125 = .ok (.getfield 99, 3) := by decide +kernel
theorem dX11_user_128 : decode cX11_user 128 = .ok (.iload_n 1, 1) := by decide +kernel
theorem dX11_user_129 : decode cX11_user 129 = .ok (.invokevirtual 211, 3) := by decide +kernel
theorem dX11_user_132 : decode cX11_user 132 = .ok (.ireturn, 1) := by decide +kernel
theorem dX11_copies_0 : decode cX11_copies 0 = .ok (.aload_n 0, 1) := by decide +kernel
theorem dX11_copies_1 : decode cX11_copies 1 = .ok (.iload_n 1, 1) := by decide +kernel
theorem dX11_copies_2 : decode cX11_copies 2 = .ok (.invokevirtual 178, 3) := by decide +kernel
theorem dX11_copies_5 : decode cX11_copies 5 = .ok (.ifCond .eq 7, 3) := by decide +kernel
theorem dX11_copies_8 : decode cX11_copies 8 = .ok (.lconst 0, 1) := by decide +kernel
theorem dX11_copies_9 : decode cX11_copies 9 = .ok (.goto 12, 3) := by decide +kernel
theorem dX11_copies_12 : decode cX11_copies 12 = .ok (.aload_n 0, 1) := by decide +kernel
theorem dX11_copies_13 : decode cX11_copies 13 = .ok (.getfield 40, 3) := by decide +kernel
theorem dX11_copies_16 : decode cX11_copies 16 = .ok (.getfield 194, 3) := by decide +kernel
theorem dX11_copies_19 : decode cX11_copies 19 = .ok (.iload_n 1, 1) := by decide +kernel
theorem dX11_copies_20 : decode cX11_copies 20 = .ok (.laload, 1) := by decide +kernel
theorem dX11_copies_21 : decode cX11_copies 21 = .ok (.lreturn, 1) := by decide +kernel
theorem dX11_strength_0 : decode cX11_strength 0 = .ok (.aload_n 0, 1) := by decide +kernel
theorem dX11_strength_1 : decode cX11_strength 1 = .ok (.iload_n 1, 1) := by decide +kernel
theorem dX11_strength_2 : decode cX11_strength 2 = .ok (.invokevirtual 178, 3) := by decide +kernel
theorem dX11_strength_5 : decode cX11_strength 5 = .ok (.ifCond .eq 7, 3) := by decide +kernel
theorem dX11_strength_8 : decode cX11_strength 8 = .ok (.iconst (-1), 1) := by decide +kernel
theorem dX11_strength_9 : decode cX11_strength 9 = .ok (.goto 15, 3) := by decide +kernel
theorem dX11_strength_12 : decode cX11_strength 12 = .ok (.aload_n 0, 1) := by decide +kernel
theorem dX11_strength_13 : decode cX11_strength 13 = .ok (.getfield 83, 3) := by decide +kernel
theorem dX11_strength_16 : decode cX11_strength 16 = .ok (.getfield 214, 3) := by decide +kernel
theorem dX11_strength_19 : decode cX11_strength 19 = .ok (.iload_n 1, 1) := by decide +kernel
theorem dX11_strength_20 : decode cX11_strength 20 = .ok (.faload, 1) := by decide +kernel
theorem dX11_strength_21 : decode cX11_strength 21 = .ok (.invokestatic 218, 3) := by decide +kernel
theorem dX11_strength_24 : decode cX11_strength 24 = .ok (.ireturn, 1) := by decide +kernel
theorem dX11_isOpenCopy_0 : decode cX11_isOpenCopy 0 = .ok (.aload_n 0, 1) := by decide +kernel
theorem dX11_isOpenCopy_1 : decode cX11_isOpenCopy 1 = .ok (.iload_n 1, 1) := by decide +kernel
theorem dX11_isOpenCopy_2 : decode cX11_isOpenCopy 2 = .ok (.invokevirtual 178, 3) := by decide +kernel
theorem dX11_isOpenCopy_5 : decode cX11_isOpenCopy 5 = .ok (.ifCond .ne 39, 3) := by decide +kernel
theorem dX11_isOpenCopy_8 : decode cX11_isOpenCopy 8 = .ok (.aload_n 0, 1) := by decide +kernel
theorem dX11_isOpenCopy_9 : decode cX11_isOpenCopy 9 = .ok (.iload_n 2, 1) := by decide +kernel
theorem dX11_isOpenCopy_10 : decode cX11_isOpenCopy 10 = .ok (.invokevirtual 222, 3) := by decide +kernel
theorem dX11_isOpenCopy_13 : decode cX11_isOpenCopy 13 = .ok (.ifCond .ne 31, 3) := by decide +kernel
theorem dX11_isOpenCopy_16 : decode cX11_isOpenCopy 16 = .ok (.aload_n 0, 1) := by decide +kernel
theorem dX11_isOpenCopy_17 : decode cX11_isOpenCopy 17 = .ok (.getfield 40, 3) := by decide +kernel
theorem dX11_isOpenCopy_20 : decode cX11_isOpenCopy 20 = .ok (.iload_n 1, 1) := by decide +kernel
theorem dX11_isOpenCopy_21 : decode cX11_isOpenCopy 21 = .ok (.iload_n 2, 1) := by decide +kernel
theorem dX11_isOpenCopy_22 : decode cX11_isOpenCopy 22 = .ok (.invokevirtual 225, 3) := by decide +kernel
theorem dX11_isOpenCopy_25 : decode cX11_isOpenCopy 25 = .ok (.ifCond .eq 19, 3) := by decide +kernel
theorem dX11_isOpenCopy_28 : decode cX11_isOpenCopy 28 = .ok (.aload_n 0, 1) := by decide +kernel
theorem dX11_isOpenCopy_29 : decode cX11_isOpenCopy 29 = .ok (.getfield 40, 3) := by decide +kernel
theorem dX11_isOpenCopy_32 : decode cX11_isOpenCopy 32 = .ok (.getfield 204, 3) := by decide +kernel
theorem dX11_isOpenCopy_35 : decode cX11_isOpenCopy 35 = .ok (.iload_n 1, 1) := by decide +kernel
theorem dX11_isOpenCopy_36 : decode cX11_isOpenCopy 36 = .ok (.iaload, 1) := by decide +kernel
theorem dX11_isOpenCopy_37 : decode cX11_isOpenCopy 37 = .ok (.ifCond .ne 7, 3) := by decide +kernel
theorem dX11_isOpenCopy_40 : decode cX11_isOpenCopy 40 = .ok (.iconst 1, 1) := by decide +kernel
theorem dX11_isOpenCopy_41 : decode cX11_isOpenCopy 41 = .ok (.goto 4, 3) := by decide +kernel
theorem dX11_isOpenCopy_44 : decode cX11_isOpenCopy 44 = .ok (.iconst 0, 1) := by decide +kernel
theorem dX11_isOpenCopy_45 : decode cX11_isOpenCopy 45 = .ok (.ireturn, 1) := by decide +kernel
theorem dX11_din_0 : decode cX11_din 0 = .ok (.aload_n 0, 1) := by decide +kernel
theorem dX11_din_1 : decode cX11_din 1 = .ok (.iload_n 1, 1) := by decide +kernel
theorem dX11_din_2 : decode cX11_din 2 = .ok (.iload_n 2, 1) := by decide +kernel
theorem dX11_din_3 : decode cX11_din 3 = .ok (.invokevirtual 229, 3) := by decide +kernel
theorem dX11_din_6 : decode cX11_din 6 = .ok (.ifCond .ne 5, 3) := by decide +kernel
theorem dX11_din_9 : decode cX11_din 9 = .ok (.iconst (-1), 1) := by decide +kernel
theorem dX11_din_10 : decode cX11_din 10 = .ok (.ireturn, 1) := by decide +kernel
theorem dX11_din_11 : decode cX11_din 11 = .ok (.aload_n 0, 1) := by decide +kernel
theorem dX11_din_12 : decode cX11_din 12 = .ok (.getfield 83, 3) := by decide +kernel
theorem dX11_din_15 : decode cX11_din 15 = .ok (.aload_n 0, 1) := by decide +kernel
theorem dX11_din_16 : decode cX11_din 16 = .ok (.getfield 40, 3) := by decide +kernel
theorem dX11_din_19 : decode cX11_din 19 = .ok (.invokevirtual 207, 3) := by decide +kernel
theorem dX11_din_22 : decode cX11_din 22 = .ok (.aload_n 0, 1) := by decide +kernel
theorem dX11_din_23 : decode cX11_din 23 = .ok (.getfield 83, 3) := by decide +kernel
theorem dX11_din_26 : decode cX11_din 26 = .ok (.iload_n 1, 1) := by decide +kernel
theorem dX11_din_27 : decode cX11_din 27 = .ok (.iload_n 2, 1) := by decide +kernel
theorem dX11_din_28 : decode cX11_din 28 = .ok (.invokevirtual 232, 3) := by decide +kernel
theorem dX11_din_31 : decode cX11_din 31 = .ok (.invokestatic 218, 3) := by decide +kernel
theorem dX11_din_34 : decode cX11_din 34 = .ok (.ireturn, 1) := by decide +kernel
theorem dX11_margin_0 : decode cX11_margin 0 = .ok (.aload_n 0, 1) := by decide +kernel
theorem dX11_margin_1 : decode cX11_margin 1 = .ok (.iload_n 1, 1) := by decide +kernel
theorem dX11_margin_2 : decode cX11_margin 2 = .ok (.iload_n 2, 1) := by decide +kernel
theorem dX11_margin_3 : decode cX11_margin 3 = .ok (.invokevirtual 229, 3) := by decide +kernel
theorem dX11_margin_6 : decode cX11_margin 6 = .ok (.ifCond .ne 5, 3) := by decide +kernel
theorem dX11_margin_9 : decode cX11_margin 9 = .ok (.iconst (-1), 1) := by decide +kernel
theorem dX11_margin_10 : decode cX11_margin 10 = .ok (.ireturn, 1) := by decide +kernel
theorem dX11_margin_11 : decode cX11_margin 11 = .ok (.aload_n 0, 1) := by decide +kernel
theorem dX11_margin_12 : decode cX11_margin 12 = .ok (.getfield 83, 3) := by decide +kernel
theorem dX11_margin_15 : decode cX11_margin 15 = .ok (.aload_n 0, 1) := by decide +kernel
theorem dX11_margin_16 : decode cX11_margin 16 = .ok (.getfield 40, 3) := by decide +kernel
theorem dX11_margin_19 : decode cX11_margin 19 = .ok (.invokevirtual 207, 3) := by decide +kernel
theorem dX11_margin_22 : decode cX11_margin 22 = .ok (.aload_n 0, 1) := by decide +kernel
theorem dX11_margin_23 : decode cX11_margin 23 = .ok (.getfield 83, 3) := by decide +kernel
theorem dX11_margin_26 : decode cX11_margin 26 = .ok (.iload_n 1, 1) := by decide +kernel
theorem dX11_margin_27 : decode cX11_margin 27 = .ok (.iload_n 2, 1) := by decide +kernel
theorem dX11_margin_28 : decode cX11_margin 28 = .ok (.invokevirtual 236, 3) := by decide +kernel
theorem dX11_margin_31 : decode cX11_margin 31 = .ok (.invokestatic 218, 3) := by decide +kernel
theorem dX11_margin_34 : decode cX11_margin 34 = .ok (.ireturn, 1) := by decide +kernel
theorem dX11_clear_0 : decode cX11_clear 0 = .ok (.aload_n 0, 1) := by decide +kernel
theorem dX11_clear_1 : decode cX11_clear 1 = .ok (.iload_n 1, 1) := by decide +kernel
theorem dX11_clear_2 : decode cX11_clear 2 = .ok (.iload_n 2, 1) := by decide +kernel
theorem dX11_clear_3 : decode cX11_clear 3 = .ok (.invokevirtual 229, 3) := by decide +kernel
theorem dX11_clear_6 : decode cX11_clear 6 = .ok (.ifCond .ne 5, 3) := by decide +kernel
theorem dX11_clear_9 : decode cX11_clear 9 = .ok (.iconst (-1), 1) := by decide +kernel
theorem dX11_clear_10 : decode cX11_clear 10 = .ok (.ireturn, 1) := by decide +kernel
theorem dX11_clear_11 : decode cX11_clear 11 = .ok (.aload_n 0, 1) := by decide +kernel
theorem dX11_clear_12 : decode cX11_clear 12 = .ok (.getfield 83, 3) := by decide +kernel
theorem dX11_clear_15 : decode cX11_clear 15 = .ok (.aload_n 0, 1) := by decide +kernel
theorem dX11_clear_16 : decode cX11_clear 16 = .ok (.getfield 40, 3) := by decide +kernel
theorem dX11_clear_19 : decode cX11_clear 19 = .ok (.invokevirtual 207, 3) := by decide +kernel
theorem dX11_clear_22 : decode cX11_clear 22 = .ok (.aload_n 0, 1) := by decide +kernel
theorem dX11_clear_23 : decode cX11_clear 23 = .ok (.getfield 83, 3) := by decide +kernel
theorem dX11_clear_26 : decode cX11_clear 26 = .ok (.iload_n 2, 1) := by decide +kernel
theorem dX11_clear_27 : decode cX11_clear 27 = .ok (.aload_n 0, 1) := by decide +kernel
theorem dX11_clear_28 : decode cX11_clear 28 = .ok (.getfield 83, 3) := by decide +kernel
theorem dX11_clear_31 : decode cX11_clear 31 = .ok (.getfield 239, 3) := by decide +kernel
theorem dX11_clear_34 : decode cX11_clear 34 = .ok (.invokevirtual 242, 3) := by decide +kernel
theorem dX11_clear_37 : decode cX11_clear 37 = .ok (.iload_n 1, 1) := by decide +kernel
theorem dX11_clear_38 : decode cX11_clear 38 = .ok (.ishr, 1) := by decide +kernel
theorem dX11_clear_39 : decode cX11_clear 39 = .ok (.iconst 1, 1) := by decide +kernel
theorem dX11_clear_40 : decode cX11_clear 40 = .ok (.iand, 1) := by decide +kernel
theorem dX11_clear_41 : decode cX11_clear 41 = .ok (.ireturn, 1) := by decide +kernel
theorem dX11_slot_0 : decode cX11_slot 0 = .ok (.aload_n 0, 1) := by decide +kernel
theorem dX11_slot_1 : decode cX11_slot 1 = .ok (.invokevirtual 156, 3) := by decide +kernel
theorem dX11_slot_4 : decode cX11_slot 4 = .ok (.ifCond .ne 11, 3) := by decide +kernel
theorem dX11_slot_7 : decode cX11_slot 7 = .ok (.aload_n 0, 1) := by decide +kernel
theorem dX11_slot_8 : decode cX11_slot 8 = .ok (.iload_n 1, 1) := by decide +kernel
theorem dX11_slot_9 : decode cX11_slot 9 = .ok (.invokevirtual 222, 3) := by decide +kernel
theorem dX11_slot_12 : decode cX11_slot 12 = .ok (.ifCond .eq 6, 3) := by decide +kernel
theorem dX11_slot_15 : decode cX11_slot 15 = .ok (.ldc 246, 2) := by decide +kernel
theorem dX11_slot_17 : decode cX11_slot 17 = .ok (.ireturn, 1) := by decide +kernel
theorem dX11_slot_18 : decode cX11_slot 18 = .ok (.aload_n 0, 1) := by decide +kernel
theorem dX11_slot_19 : decode cX11_slot 19 = .ok (.getfield 83, 3) := by decide +kernel
theorem dX11_slot_22 : decode cX11_slot 22 = .ok (.aload_n 0, 1) := by decide +kernel
theorem dX11_slot_23 : decode cX11_slot 23 = .ok (.getfield 40, 3) := by decide +kernel
theorem dX11_slot_26 : decode cX11_slot 26 = .ok (.invokevirtual 207, 3) := by decide +kernel
theorem dX11_slot_29 : decode cX11_slot 29 = .ok (.aload_n 0, 1) := by decide +kernel
theorem dX11_slot_30 : decode cX11_slot 30 = .ok (.getfield 83, 3) := by decide +kernel
theorem dX11_slot_33 : decode cX11_slot 33 = .ok (.getfield 247, 3) := by decide +kernel
theorem dX11_slot_36 : decode cX11_slot 36 = .ok (.iload_n 1, 1) := by decide +kernel
theorem dX11_slot_37 : decode cX11_slot 37 = .ok (.iaload, 1) := by decide +kernel
theorem dX11_slot_38 : decode cX11_slot 38 = .ok (.aload_n 0, 1) := by decide +kernel
theorem dX11_slot_39 : decode cX11_slot 39 = .ok (.getfield 83, 3) := by decide +kernel
theorem dX11_slot_42 : decode cX11_slot 42 = .ok (.getfield 239, 3) := by decide +kernel
theorem dX11_slot_45 : decode cX11_slot 45 = .ok (.iand, 1) := by decide +kernel
theorem dX11_slot_46 : decode cX11_slot 46 = .ok (.istore_n 3, 1) := by decide +kernel
theorem dX11_slot_47 : decode cX11_slot 47 = .ok (.iload_n 2, 1) := by decide +kernel
theorem dX11_slot_48 : decode cX11_slot 48 = .ok (.tableswitch 68 0 3 #[32, 45, 50, 52], 32) := by decide +kernel
theorem dX11_slot_80 : decode cX11_slot 80 = .ok (.aload_n 0, 1) := by decide +kernel
theorem dX11_slot_81 : decode cX11_slot 81 = .ok (.getfield 83, 3) := by decide +kernel
theorem dX11_slot_84 : decode cX11_slot 84 = .ok (.getfield 247, 3) := by decide +kernel
theorem dX11_slot_87 : decode cX11_slot 87 = .ok (.iload_n 1, 1) := by decide +kernel
theorem dX11_slot_88 : decode cX11_slot 88 = .ok (.iaload, 1) := by decide +kernel
theorem dX11_slot_89 : decode cX11_slot 89 = .ok (.invokestatic 250, 3) := by decide +kernel
theorem dX11_slot_92 : decode cX11_slot 92 = .ok (.ireturn, 1) := by decide +kernel
theorem dX11_slot_93 : decode cX11_slot 93 = .ok (.iload_n 3, 1) := by decide +kernel
theorem dX11_slot_94 : decode cX11_slot 94 = .ok (.invokestatic 250, 3) := by decide +kernel
theorem dX11_slot_97 : decode cX11_slot 97 = .ok (.ireturn, 1) := by decide +kernel
theorem dX11_slot_98 : decode cX11_slot 98 = .ok (.iload_n 3, 1) := by decide +kernel
theorem dX11_slot_99 : decode cX11_slot 99 = .ok (.ireturn, 1) := by decide +kernel
theorem dX11_slot_100 : decode cX11_slot 100 = .ok (.aload_n 0, 1) := by decide +kernel
theorem dX11_slot_101 : decode cX11_slot 101 = .ok (.getfield 83, 3) := by decide +kernel
theorem dX11_slot_104 : decode cX11_slot 104 = .ok (.iload_n 1, 1) := by decide +kernel
theorem dX11_slot_105 : decode cX11_slot 105 = .ok (.aload_n 0, 1) := by decide +kernel
theorem dX11_slot_106 : decode cX11_slot 106 = .ok (.getfield 83, 3) := by decide +kernel
theorem dX11_slot_109 : decode cX11_slot 109 = .ok (.getfield 239, 3) := by decide +kernel
theorem dX11_slot_112 : decode cX11_slot 112 = .ok (.invokevirtual 242, 3) := by decide +kernel
theorem dX11_slot_115 : decode cX11_slot 115 = .ok (.ireturn, 1) := by decide +kernel
theorem dX11_slot_116 : decode cX11_slot 116 = .ok (.ldc 246, 2) := by decide +kernel
theorem dX11_slot_118 : decode cX11_slot 118 = .ok (.ireturn, 1) := by decide +kernel
theorem dX11_attempt_0 : decode cX11_attempt 0 = .ok (.aload_n 0, 1) := by decide +kernel
theorem dX11_attempt_1 : decode cX11_attempt 1 = .ok (.getfield 92, 3) := by decide +kernel
theorem dX11_attempt_4 : decode cX11_attempt 4 = .ok (.aload_n 0, 1) := by decide +kernel
theorem dX11_attempt_5 : decode cX11_attempt 5 = .ok (.getfield 40, 3) := by decide +kernel
theorem dX11_attempt_8 : decode cX11_attempt 8 = .ok (.iload_n 1, 1) := by decide +kernel
theorem dX11_attempt_9 : decode cX11_attempt 9 = .ok (.iload_n 2, 1) := by decide +kernel
theorem dX11_attempt_10 : decode cX11_attempt 10 = .ok (.iload_n 3, 1) := by decide +kernel
theorem dX11_attempt_11 : decode cX11_attempt 11 = .ok (.invokevirtual 254, 3) := by decide +kernel
theorem dX11_attempt_14 : decode cX11_attempt 14 = .ok (.istore 6, 2) := by decide +kernel
theorem dX11_attempt_16 : decode cX11_attempt 16 = .ok (.iload 6, 2) := by decide +kernel
theorem dX11_attempt_18 : decode cX11_attempt 18 = .ok (.iconst (-1), 1) := by decide +kernel
theorem dX11_attempt_19 : decode cX11_attempt 19 = .ok (.if_icmp .eq 8, 3) := by decide +kernel
theorem dX11_attempt_22 : decode cX11_attempt 22 = .ok (.iconst (-1), 1) := by decide +kernel
theorem dX11_attempt_23 : decode cX11_attempt 23 = .ok (.iload 6, 2) := by decide +kernel
theorem dX11_attempt_25 : decode cX11_attempt 25 = .ok (.isub, 1) := by decide +kernel
theorem dX11_attempt_26 : decode cX11_attempt 26 = .ok (.ireturn, 1) := by decide +kernel
theorem dX11_attempt_27 : decode cX11_attempt 27 = .ok (.aload_n 0, 1) := by decide +kernel
theorem dX11_attempt_28 : decode cX11_attempt 28 = .ok (.getfield 63, 3) := by decide +kernel
theorem dX11_attempt_31 : decode cX11_attempt 31 = .ok (.aload_n 0, 1) := by decide +kernel
theorem dX11_attempt_32 : decode cX11_attempt 32 = .ok (.getfield 40, 3) := by decide +kernel
theorem dX11_attempt_35 : decode cX11_attempt 35 = .ok (.invokevirtual 258, 3) := by decide +kernel
theorem dX11_attempt_38 : decode cX11_attempt 38 = .ok (.aload_n 0, 1) := by decide +kernel
theorem dX11_attempt_39 : decode cX11_attempt 39 = .ok (.getfield 92, 3) := by decide +kernel
theorem dX11_attempt_42 : decode cX11_attempt 42 = .ok (.aload_n 0, 1) := by decide +kernel
theorem dX11_attempt_43 : decode cX11_attempt 43 = .ok (.getfield 40, 3) := by decide +kernel
theorem dX11_attempt_46 : decode cX11_attempt 46 = .ok (.iload_n 1, 1) := by decide +kernel
theorem dX11_attempt_47 : decode cX11_attempt 47 = .ok (.iload_n 2, 1) := by decide +kernel
theorem dX11_attempt_48 : decode cX11_attempt 48 = .ok (.iload_n 3, 1) := by decide +kernel
theorem dX11_attempt_49 : decode cX11_attempt 49 = .ok (.lload 4, 2) := by decide +kernel
theorem dX11_attempt_51 : decode cX11_attempt 51 = .ok (.invokevirtual 261, 3) := by decide +kernel
theorem dX11_attempt_54 : decode cX11_attempt 54 = .ok (.istore 7, 2) := by decide +kernel
theorem dX11_attempt_56 : decode cX11_attempt 56 = .ok (.aload_n 0, 1) := by decide +kernel
theorem dX11_attempt_57 : decode cX11_attempt 57 = .ok (.getfield 53, 3) := by decide +kernel
theorem dX11_attempt_60 : decode cX11_attempt 60 = .ok (.iload_n 1, 1) := by decide +kernel
theorem dX11_attempt_61 : decode cX11_attempt 61 = .ok (.iload_n 1, 1) := by decide +kernel
theorem dX11_attempt_62 : decode cX11_attempt 62 = .ok (.iload_n 2, 1) := by decide +kernel
theorem dX11_attempt_63 : decode cX11_attempt 63 = .ok (.iload_n 3, 1) := by decide +kernel
theorem dX11_attempt_64 : decode cX11_attempt 64 = .ok (.iload 7, 2) := by decide +kernel
theorem dX11_attempt_66 : decode cX11_attempt 66 = .ok (.invokestatic 265, 3) := by decide +kernel
theorem dX11_attempt_69 : decode cX11_attempt 69 = .ok (.aload_n 0, 1) := by decide +kernel
theorem dX11_attempt_70 : decode cX11_attempt 70 = .ok (.getfield 40, 3) := by decide +kernel
theorem dX11_attempt_73 : decode cX11_attempt 73 = .ok (.invokevirtual 269, 3) := by decide +kernel
theorem dX11_attempt_76 : decode cX11_attempt 76 = .ok (.invokevirtual 272, 3) := by decide +kernel
theorem dX11_attempt_79 : decode cX11_attempt 79 = .ok (.iload 7, 2) := by decide +kernel
theorem dX11_attempt_81 : decode cX11_attempt 81 = .ok (.ireturn, 1) := by decide +kernel
theorem dX11_act_0 : decode cX11_act 0 = .ok (.aload_n 0, 1) := by decide +kernel
theorem dX11_act_1 : decode cX11_act 1 = .ok (.iload_n 1, 1) := by decide +kernel
theorem dX11_act_2 : decode cX11_act 2 = .ok (.iload_n 2, 1) := by decide +kernel
theorem dX11_act_3 : decode cX11_act 3 = .ok (.iload_n 3, 1) := by decide +kernel
theorem dX11_act_4 : decode cX11_act 4 = .ok (.lload 4, 2) := by decide +kernel
theorem dX11_act_6 : decode cX11_act 6 = .ok (.invokevirtual 276, 3) := by decide +kernel
theorem dX11_act_9 : decode cX11_act 9 = .ok (.istore 6, 2) := by decide +kernel
theorem dX11_act_11 : decode cX11_act 11 = .ok (.iload 6, 2) := by decide +kernel
theorem dX11_act_13 : decode cX11_act 13 = .ok (.ifCond .lt 6, 3) := by decide +kernel
theorem dX11_act_16 : decode cX11_act 16 = .ok (.iload 6, 2) := by decide +kernel
theorem dX11_act_18 : decode cX11_act 18 = .ok (.ireturn, 1) := by decide +kernel
theorem dX11_act_19 : decode cX11_act 19 = .ok (.iconst (-1), 1) := by decide +kernel
theorem dX11_act_20 : decode cX11_act 20 = .ok (.iload 6, 2) := by decide +kernel
theorem dX11_act_22 : decode cX11_act 22 = .ok (.isub, 1) := by decide +kernel
theorem dX11_act_23 : decode cX11_act 23 = .ok (.istore 7, 2) := by decide +kernel
theorem dX11_act_25 : decode cX11_act 25 = .ok (.iload 7, 2) := by decide +kernel
theorem dX11_act_27 : decode cX11_act 27 = .ok (.iconst 4, 1) := by decide +kernel
theorem dX11_act_28 : decode cX11_act 28 = .ok (.if_icmp .ge 14, 3) := by decide +kernel
theorem dX11_act_31 : decode cX11_act 31 = .ok (.aload_n 0, 1) := by decide +kernel
theorem dX11_act_32 : decode cX11_act 32 = .ok (.getfield 67, 3) := by decide +kernel
theorem dX11_act_35 : decode cX11_act 35 = .ok (.iload 7, 2) := by decide +kernel
theorem dX11_act_37 : decode cX11_act 37 = .ok (.dup2, 1) := by decide +kernel
theorem dX11_act_38 : decode cX11_act 38 = .ok (.iaload, 1) := by decide +kernel
theorem dX11_act_39 : decode cX11_act 39 = .ok (.iconst 1, 1) := by decide +kernel
theorem dX11_act_40 : decode cX11_act 40 = .ok (.iadd, 1) := by decide +kernel
theorem dX11_act_41 : decode cX11_act 41 = .ok (.iastore, 1) := by decide +kernel
theorem dX11_act_42 : decode cX11_act 42 = .ok (.iconst (-1), 1) := by decide +kernel
theorem dX11_act_43 : decode cX11_act 43 = .ok (.ireturn, 1) := by decide +kernel
theorem dX11_peel_0 : decode cX11_peel 0 = .ok (.aload_n 0, 1) := by decide +kernel
theorem dX11_peel_1 : decode cX11_peel 1 = .ok (.iconst 0, 1) := by decide +kernel
theorem dX11_peel_2 : decode cX11_peel 2 = .ok (.iconst (-1), 1) := by decide +kernel
theorem dX11_peel_3 : decode cX11_peel 3 = .ok (.iconst (-1), 1) := by decide +kernel
theorem dX11_peel_4 : decode cX11_peel 4 = .ok (.lconst 0, 1) := by decide +kernel
theorem dX11_peel_5 : decode cX11_peel 5 = .ok (.invokevirtual 280, 3) := by decide +kernel
theorem dX11_peel_8 : decode cX11_peel 8 = .ok (.ireturn, 1) := by decide +kernel
theorem dX11_round_0 : decode cX11_round 0 = .ok (.aload_n 0, 1) := by decide +kernel
theorem dX11_round_1 : decode cX11_round 1 = .ok (.iconst 1, 1) := by decide +kernel
theorem dX11_round_2 : decode cX11_round 2 = .ok (.iconst (-1), 1) := by decide +kernel
theorem dX11_round_3 : decode cX11_round 3 = .ok (.iconst (-1), 1) := by decide +kernel
theorem dX11_round_4 : decode cX11_round 4 = .ok (.lconst 0, 1) := by decide +kernel
theorem dX11_round_5 : decode cX11_round 5 = .ok (.invokevirtual 280, 3) := by decide +kernel
theorem dX11_round_8 : decode cX11_round 8 = .ok (.ireturn, 1) := by decide +kernel
theorem dX11_tell_0 : decode cX11_tell 0 = .ok (.aload_n 0, 1) := by decide +kernel
theorem dX11_tell_1 : decode cX11_tell 1 = .ok (.iconst 2, 1) := by decide +kernel
theorem dX11_tell_2 : decode cX11_tell 2 = .ok (.iload_n 1, 1) := by decide +kernel
theorem dX11_tell_3 : decode cX11_tell 3 = .ok (.iconst (-1), 1) := by decide +kernel
theorem dX11_tell_4 : decode cX11_tell 4 = .ok (.lconst 0, 1) := by decide +kernel
theorem dX11_tell_5 : decode cX11_tell 5 = .ok (.invokevirtual 280, 3) := by decide +kernel
theorem dX11_tell_8 : decode cX11_tell 8 = .ok (.ireturn, 1) := by decide +kernel
theorem dX11_forget_0 : decode cX11_forget 0 = .ok (.aload_n 0, 1) := by decide +kernel
theorem dX11_forget_1 : decode cX11_forget 1 = .ok (.iconst 3, 1) := by decide +kernel
theorem dX11_forget_2 : decode cX11_forget 2 = .ok (.iload_n 1, 1) := by decide +kernel
theorem dX11_forget_3 : decode cX11_forget 3 = .ok (.iconst (-1), 1) := by decide +kernel
theorem dX11_forget_4 : decode cX11_forget 4 = .ok (.lconst 0, 1) := by decide +kernel
theorem dX11_forget_5 : decode cX11_forget 5 = .ok (.invokevirtual 280, 3) := by decide +kernel
theorem dX11_forget_8 : decode cX11_forget 8 = .ok (.ireturn, 1) := by decide +kernel
theorem dX11_turn_0 : decode cX11_turn 0 = .ok (.aload_n 0, 1) := by decide +kernel
theorem dX11_turn_1 : decode cX11_turn 1 = .ok (.iconst 4, 1) := by decide +kernel
theorem dX11_turn_2 : decode cX11_turn 2 = .ok (.iload_n 1, 1) := by decide +kernel
theorem dX11_turn_3 : decode cX11_turn 3 = .ok (.iload_n 2, 1) := by decide +kernel
theorem dX11_turn_4 : decode cX11_turn 4 = .ok (.lconst 0, 1) := by decide +kernel
theorem dX11_turn_5 : decode cX11_turn 5 = .ok (.invokevirtual 280, 3) := by decide +kernel
theorem dX11_turn_8 : decode cX11_turn 8 = .ok (.ireturn, 1) := by decide +kernel
theorem dX11_capture_0 : decode cX11_capture 0 = .ok (.aload_n 0, 1) := by decide +kernel
theorem dX11_capture_1 : decode cX11_capture 1 = .ok (.iconst 5, 1) := by decide +kernel
theorem dX11_capture_2 : decode cX11_capture 2 = .ok (.iload_n 1, 1) := by decide +kernel
theorem dX11_capture_3 : decode cX11_capture 3 = .ok (.iconst (-1), 1) := by decide +kernel
theorem dX11_capture_4 : decode cX11_capture 4 = .ok (.lconst 0, 1) := by decide +kernel
theorem dX11_capture_5 : decode cX11_capture 5 = .ok (.invokevirtual 280, 3) := by decide +kernel
theorem dX11_capture_8 : decode cX11_capture 8 = .ok (.ireturn, 1) := by decide +kernel
theorem dX11_draw_0 : decode cX11_draw 0 = .ok (.aload_n 0, 1) := by decide +kernel
theorem dX11_draw_1 : decode cX11_draw 1 = .ok (.bipush 6, 2) := by decide +kernel
theorem dX11_draw_3 : decode cX11_draw 3 = .ok (.iload_n 1, 1) := by decide +kernel
theorem dX11_draw_4 : decode cX11_draw 4 = .ok (.iconst (-1), 1) := by decide +kernel
theorem dX11_draw_5 : decode cX11_draw 5 = .ok (.lload_n 2, 1) := by decide +kernel
theorem dX11_draw_6 : decode cX11_draw 6 = .ok (.invokevirtual 280, 3) := by decide +kernel
theorem dX11_draw_9 : decode cX11_draw 9 = .ok (.ireturn, 1) := by decide +kernel
theorem dX11_swap_0 : decode cX11_swap 0 = .ok (.aload_n 0, 1) := by decide +kernel
theorem dX11_swap_1 : decode cX11_swap 1 = .ok (.bipush 8, 2) := by decide +kernel
theorem dX11_swap_3 : decode cX11_swap 3 = .ok (.iload_n 1, 1) := by decide +kernel
theorem dX11_swap_4 : decode cX11_swap 4 = .ok (.iload_n 2, 1) := by decide +kernel
theorem dX11_swap_5 : decode cX11_swap 5 = .ok (.lconst 0, 1) := by decide +kernel
theorem dX11_swap_6 : decode cX11_swap 6 = .ok (.invokevirtual 280, 3) := by decide +kernel
theorem dX11_swap_9 : decode cX11_swap 9 = .ok (.ireturn, 1) := by decide +kernel
theorem dX11_file_0 : decode cX11_file 0 = .ok (.aload_n 0, 1) := by decide +kernel
theorem dX11_file_1 : decode cX11_file 1 = .ok (.bipush 7, 2) := by decide +kernel
theorem dX11_file_3 : decode cX11_file 3 = .ok (.iload_n 1, 1) := by decide +kernel
theorem dX11_file_4 : decode cX11_file 4 = .ok (.iload_n 2, 1) := by decide +kernel
theorem dX11_file_5 : decode cX11_file 5 = .ok (.lconst 0, 1) := by decide +kernel
theorem dX11_file_6 : decode cX11_file 6 = .ok (.invokevirtual 280, 3) := by decide +kernel
theorem dX11_file_9 : decode cX11_file 9 = .ok (.ireturn, 1) := by decide +kernel
theorem dX11_shelf_0 : decode cX11_shelf 0 = .ok (.iload_n 1, 1) := by decide +kernel
theorem dX11_shelf_1 : decode cX11_shelf 1 = .ok (.ifCond .lt 25, 3) := by decide +kernel
theorem dX11_shelf_4 : decode cX11_shelf 4 = .ok (.iload_n 1, 1) := by decide +kernel
theorem dX11_shelf_5 : decode cX11_shelf 5 = .ok (.iconst 3, 1) := by decide +kernel
theorem dX11_shelf_6 : decode cX11_shelf 6 = .ok (.if_icmp .ge 20, 3) := by decide +kernel
theorem dX11_shelf_9 : decode cX11_shelf 9 = .ok (.iload_n 2, 1) := by decide +kernel
theorem dX11_shelf_10 : decode cX11_shelf 10 = .ok (.ifCond .lt 16, 3) := by decide +kernel
theorem dX11_shelf_13 : decode cX11_shelf 13 = .ok (.iload_n 2, 1) := by decide +kernel
theorem dX11_shelf_14 : decode cX11_shelf 14 = .ok (.aload_n 0, 1) := by decide +kernel
theorem dX11_shelf_15 : decode cX11_shelf 15 = .ok (.getfield 40, 3) := by decide +kernel
theorem dX11_shelf_18 : decode cX11_shelf 18 = .ok (.getfield 283, 3) := by decide +kernel
theorem dX11_shelf_21 : decode cX11_shelf 21 = .ok (.iload_n 1, 1) := by decide +kernel
theorem dX11_shelf_22 : decode cX11_shelf 22 = .ok (.iaload, 1) := by decide +kernel
theorem dX11_shelf_23 : decode cX11_shelf 23 = .ok (.if_icmp .lt 5, 3) := by decide +kernel
theorem dX11_shelf_26 : decode cX11_shelf 26 = .ok (.iconst (-1), 1) := by decide +kernel
theorem dX11_shelf_27 : decode cX11_shelf 27 = .ok (.ireturn, 1) := by decide +kernel
theorem dX11_shelf_28 : decode cX11_shelf 28 = .ok (.aload_n 0, 1) := by decide +kernel
theorem dX11_shelf_29 : decode cX11_shelf 29 = .ok (.getfield 40, 3) := by decide +kernel
theorem dX11_shelf_32 : decode cX11_shelf 32 = .ok (.getfield 286, 3) := by decide +kernel
theorem dX11_shelf_35 : decode cX11_shelf 35 = .ok (.iload_n 1, 1) := by decide +kernel
theorem dX11_shelf_36 : decode cX11_shelf 36 = .ok (.bipush 10, 2) := by decide +kernel
theorem dX11_shelf_38 : decode cX11_shelf 38 = .ok (.imul, 1) := by decide +kernel
theorem dX11_shelf_39 : decode cX11_shelf 39 = .ok (.iload_n 2, 1) := by decide +kernel
theorem dX11_shelf_40 : decode cX11_shelf 40 = .ok (.iadd, 1) := by decide +kernel
theorem dX11_shelf_41 : decode cX11_shelf 41 = .ok (.iaload, 1) := by decide +kernel
theorem dX11_shelf_42 : decode cX11_shelf 42 = .ok (.ireturn, 1) := by decide +kernel
theorem dX11_years_0 : decode cX11_years 0 = .ok (.aload_n 0, 1) := by decide +kernel
theorem dX11_years_1 : decode cX11_years 1 = .ok (.invokevirtual 156, 3) := by decide +kernel
theorem dX11_years_4 : decode cX11_years 4 = .ok (.ifCond .ne 14, 3) := by decide +kernel
theorem dX11_years_7 : decode cX11_years 7 = .ok (.iload_n 1, 1) := by decide +kernel
theorem dX11_years_8 : decode cX11_years 8 = .ok (.iconst 1, 1) := by decide +kernel
theorem dX11_years_9 : decode cX11_years 9 = .ok (.if_icmp .lt 9, 3) := by decide +kernel
theorem dX11_years_12 : decode cX11_years 12 = .ok (.iload_n 1, 1) := by decide +kernel
theorem dX11_years_13 : decode cX11_years 13 = .ok (.bipush 40, 2) := by decide +kernel
theorem dX11_years_15 : decode cX11_years 15 = .ok (.if_icmp .le 5, 3) := by decide +kernel
theorem dX11_years_18 : decode cX11_years 18 = .ok (.iconst (-1), 1) := by decide +kernel
theorem dX11_years_19 : decode cX11_years 19 = .ok (.ireturn, 1) := by decide +kernel
theorem dX11_years_20 : decode cX11_years 20 = .ok (.aload_n 0, 1) := by decide +kernel
theorem dX11_years_21 : decode cX11_years 21 = .ok (.getfield 74, 3) := by decide +kernel
theorem dX11_years_24 : decode cX11_years 24 = .ok (.lload_n 2, 1) := by decide +kernel
theorem dX11_years_25 : decode cX11_years 25 = .ok (.invokevirtual 289, 3) := by decide +kernel
theorem dX11_years_28 : decode cX11_years 28 = .ok (.iconst 0, 1) := by decide +kernel
theorem dX11_years_29 : decode cX11_years 29 = .ok (.istore 4, 2) := by decide +kernel
theorem dX11_years_31 : decode cX11_years 31 = .ok (.iload 4, 2) := by decide +kernel
theorem dX11_years_33 : decode cX11_years 33 = .ok (.iload_n 1, 1) := by decide +kernel
theorem dX11_years_34 : decode cX11_years 34 = .ok (.if_icmp .ge 13, 3) := by decide +kernel
theorem dX11_years_37 : decode cX11_years 37 = .ok (.aload_n 0, 1) := by decide +kernel
theorem dX11_years_38 : decode cX11_years 38 = .ok (.invokevirtual 292, 3) := by decide +kernel
theorem dX11_years_41 : decode cX11_years 41 = .ok (.iinc 4 1, 3) := by decide +kernel
theorem dX11_years_44 : decode cX11_years 44 = .ok (.goto (-13), 3) := by decide +kernel
theorem dX11_years_47 : decode cX11_years 47 = .ok (.aload_n 0, 1) := by decide +kernel
theorem dX11_years_48 : decode cX11_years 48 = .ok (.getfield 40, 3) := by decide +kernel
theorem dX11_years_51 : decode cX11_years 51 = .ok (.invokevirtual 269, 3) := by decide +kernel
theorem dX11_years_54 : decode cX11_years 54 = .ok (.ireturn, 1) := by decide +kernel
theorem dX11_liveOneYear_0 : decode cX11_liveOneYear 0 = .ok (.aload_n 0, 1) := by decide +kernel
theorem dX11_liveOneYear_1 : decode cX11_liveOneYear 1 = .ok (.getfield 74, 3) := by decide +kernel
theorem dX11_liveOneYear_4 : decode cX11_liveOneYear 4 = .ok (.bipush 8, 2) := by decide +kernel
theorem dX11_liveOneYear_6 : decode cX11_liveOneYear 6 = .ok (.invokevirtual 295, 3) := by decide +kernel
theorem dX11_liveOneYear_9 : decode cX11_liveOneYear 9 = .ok (.istore_n 1, 1) := by decide +kernel
theorem dX11_liveOneYear_10 : decode cX11_liveOneYear 10 = .ok (.iload_n 1, 1) := by decide +kernel
theorem dX11_liveOneYear_11 : decode cX11_liveOneYear 11 = .ok (.iconst 2, 1) := by decide +kernel
theorem dX11_liveOneYear_12 : decode cX11_liveOneYear 12 = .ok (.if_icmp .ge 15, 3) := by decide +kernel
theorem dX11_liveOneYear_15 : decode cX11_liveOneYear 15 = .ok (.aload_n 0, 1) := by decide +kernel
theorem dX11_liveOneYear_16 : decode cX11_liveOneYear 16 = .ok (.iconst 0, 1) := by decide +kernel
theorem dX11_liveOneYear_17 : decode cX11_liveOneYear 17 = .ok (.iconst (-1), 1) := by decide +kernel
theorem dX11_liveOneYear_18 : decode cX11_liveOneYear 18 = .ok (.iconst (-1), 1) := by decide +kernel
theorem dX11_liveOneYear_19 : decode cX11_liveOneYear 19 = .ok (.lconst 0, 1) := by decide +kernel
theorem dX11_liveOneYear_20 : decode cX11_liveOneYear 20 = .ok (.invokevirtual 276, 3) := by decide +kernel
theorem dX11_liveOneYear_23 : decode cX11_liveOneYear 23 = .ok (.pop, 1) := by decide +kernel
theorem dX11_liveOneYear_24 : decode cX11_liveOneYear 24 = .ok (.goto 123, 3) := by decide +kernel
theorem dX11_liveOneYear_27 : decode cX11_liveOneYear 27 = .ok (.iload_n 1, 1) := by decide +kernel
theorem dX11_liveOneYear_28 : decode cX11_liveOneYear 28 = .ok (.iconst 2, 1) := by decide +kernel
theorem dX11_liveOneYear_29 : decode cX11_liveOneYear 29 = .ok (.if_icmp .ne 15, 3) := by decide +kernel
theorem dX11_liveOneYear_32 : decode cX11_liveOneYear 32 = .ok (.aload_n 0, 1) := by decide +kernel
theorem dX11_liveOneYear_33 : decode cX11_liveOneYear 33 = .ok (.iconst 1, 1) := by decide +kernel
theorem dX11_liveOneYear_34 : decode cX11_liveOneYear 34 = .ok (.iconst (-1), 1) := by decide +kernel
theorem dX11_liveOneYear_35 : decode cX11_liveOneYear 35 = .ok (.iconst (-1), 1) := by decide +kernel
theorem dX11_liveOneYear_36 : decode cX11_liveOneYear 36 = .ok (.lconst 0, 1) := by decide +kernel
theorem dX11_liveOneYear_37 : decode cX11_liveOneYear 37 = .ok (.invokevirtual 276, 3) := by decide +kernel
theorem dX11_liveOneYear_40 : decode cX11_liveOneYear 40 = .ok (.pop, 1) := by decide +kernel
theorem dX11_liveOneYear_41 : decode cX11_liveOneYear 41 = .ok (.goto 106, 3) := by decide +kernel
theorem dX11_liveOneYear_44 : decode cX11_liveOneYear 44 = .ok (.iload_n 1, 1) := by decide +kernel
theorem dX11_liveOneYear_45 : decode cX11_liveOneYear 45 = .ok (.bipush 7, 2) := by decide +kernel
theorem dX11_liveOneYear_47 : decode cX11_liveOneYear 47 = .ok (.if_icmp .ne 23, 3) := by decide +kernel
theorem dX11_liveOneYear_50 : decode cX11_liveOneYear 50 = .ok (.aload_n 0, 1) := by decide +kernel
theorem dX11_liveOneYear_51 : decode cX11_liveOneYear 51 = .ok (.iconst 5, 1) := by decide +kernel
theorem dX11_liveOneYear_52 : decode cX11_liveOneYear 52 = .ok (.aload_n 0, 1) := by decide +kernel
theorem dX11_liveOneYear_53 : decode cX11_liveOneYear 53 = .ok (.getfield 74, 3) := by decide +kernel
theorem dX11_liveOneYear_56 : decode cX11_liveOneYear 56 = .ok (.bipush 30, 2) := by decide +kernel
theorem dX11_liveOneYear_58 : decode cX11_liveOneYear 58 = .ok (.invokevirtual 295, 3) := by decide +kernel
theorem dX11_liveOneYear_61 : decode cX11_liveOneYear 61 = .ok (.iconst (-1), 1) := by decide +kernel
theorem dX11_liveOneYear_62 : decode cX11_liveOneYear 62 = .ok (.lconst 0, 1) := by decide +kernel
theorem dX11_liveOneYear_63 : decode cX11_liveOneYear 63 = .ok (.invokevirtual 276, 3) := by decide +kernel
theorem dX11_liveOneYear_66 : decode cX11_liveOneYear 66 = .ok (.pop, 1) := by decide +kernel
theorem dX11_liveOneYear_67 : decode cX11_liveOneYear 67 = .ok (.goto 80, 3) := by decide +kernel
theorem dX11_liveOneYear_70 : decode cX11_liveOneYear 70 = .ok (.aload_n 0, 1) := by decide +kernel
theorem dX11_liveOneYear_71 : decode cX11_liveOneYear 71 = .ok (.getfield 74, 3) := by decide +kernel
theorem dX11_liveOneYear_74 : decode cX11_liveOneYear 74 = .ok (.aload_n 0, 1) := by decide +kernel
theorem dX11_liveOneYear_75 : decode cX11_liveOneYear 75 = .ok (.getfield 23, 3) := by decide +kernel
