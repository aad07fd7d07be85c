/-! decode rows (printed by the kit) -/
theorem dX0_init_0 : decode cX0_init 0 = .ok (.aload_n 0, 1) := by decide +kernel
theorem dX0_init_1 : decode cX0_init 1 = .ok (.invokespecial 3, 3) := by decide +kernel
theorem dX0_init_4 : decode cX0_init 4 = .ok (.return_, 1) := by decide +kernel
theorem dX0_begin_0 : decode cX0_begin 0 = .ok (.aload_n 0, 1) := by decide +kernel
theorem dX0_begin_1 : decode cX0_begin 1 = .ok (.lload_n 1, 1) := by decide +kernel
theorem dX0_begin_2 : decode cX0_begin 2 = .ok (.putfield 9, 3) := by decide +kernel
theorem dX0_begin_5 : decode cX0_begin 5 = .ok (.return_, 1) := by decide +kernel
theorem dX0_cast_0 : decode cX0_cast 0 = .ok (.aload_n 0, 1) := by decide +kernel
theorem dX0_cast_1 : decode cX0_cast 1 = .ok (.aload_n 0, 1) := by decide +kernel
theorem dX0_cast_2 : decode cX0_cast 2 = .ok (.getfield 9, 3) := by decide +kernel
theorem dX0_cast_5 : decode cX0_cast 5 = .ok (.ldc2_w 15, 3) := by decide +kernel
theorem dX0_cast_8 : decode cX0_cast 8 = .ok (.lmul, 1) := by decide +kernel
theorem dX0_cast_9 : decode cX0_cast 9 = .ok (.ldc2_w 17, 3) := by decide +kernel
theorem dX0_cast_12 : decode cX0_cast 12 = .ok (.ladd, 1) := by decide +kernel
theorem dX0_cast_13 : decode cX0_cast 13 = .ok (.putfield 9, 3) := by decide +kernel
theorem dX0_cast_16 : decode cX0_cast 16 = .ok (.iload_n 1, 1) := by decide +kernel
theorem dX0_cast_17 : decode cX0_cast 17 = .ok (.ifCond .gt 7, 3) := by decide +kernel
theorem dX0_cast_20 : decode cX0_cast 20 = .ok (.iconst 0, 1) := by decide +kernel
theorem dX0_cast_21 : decode cX0_cast 21 = .ok (.goto 14, 3) := by decide +kernel
theorem dX0_cast_24 : decode cX0_cast 24 = .ok (.aload_n 0, 1) := by decide +kernel
theorem dX0_cast_25 : decode cX0_cast 25 = .ok (.getfield 9, 3) := by decide +kernel
theorem dX0_cast_28 : decode cX0_cast 28 = .ok (.bipush 33, 2) := by decide +kernel
theorem dX0_cast_30 : decode cX0_cast 30 = .ok (.lushr, 1) := by decide +kernel
theorem dX0_cast_31 : decode cX0_cast 31 = .ok (.iload_n 1, 1) := by decide +kernel
theorem dX0_cast_32 : decode cX0_cast 32 = .ok (.i2l, 1) := by decide +kernel
theorem dX0_cast_33 : decode cX0_cast 33 = .ok (.lrem, 1) := by decide +kernel
theorem dX0_cast_34 : decode cX0_cast 34 = .ok (.l2i, 1) := by decide +kernel
theorem dX0_cast_35 : decode cX0_cast 35 = .ok (.ireturn, 1) := by decide +kernel
theorem dX0_castDegree_0 : decode cX0_castDegree 0 = .ok (.aload_n 0, 1) := by decide +kernel
theorem dX0_castDegree_1 : decode cX0_castDegree 1 = .ok (.aload_n 1, 1) := by decide +kernel
theorem dX0_castDegree_2 : decode cX0_castDegree 2 = .ok (.getfield 19, 3) := by decide +kernel
theorem dX0_castDegree_5 : decode cX0_castDegree 5 = .ok (.invokevirtual 25, 3) := by decide +kernel
theorem dX0_castDegree_8 : decode cX0_castDegree 8 = .ok (.istore_n 2, 1) := by decide +kernel
theorem dX0_castDegree_9 : decode cX0_castDegree 9 = .ok (.iconst 1, 1) := by decide +kernel
theorem dX0_castDegree_10 : decode cX0_castDegree 10 = .ok (.istore_n 3, 1) := by decide +kernel
theorem dX0_castDegree_11 : decode cX0_castDegree 11 = .ok (.iload_n 3, 1) := by decide +kernel
theorem dX0_castDegree_12 : decode cX0_castDegree 12 = .ok (.bipush 6, 2) := by decide +kernel
theorem dX0_castDegree_14 : decode cX0_castDegree 14 = .ok (.if_icmp .gt 30, 3) := by decide +kernel
theorem dX0_castDegree_17 : decode cX0_castDegree 17 = .ok (.iload_n 2, 1) := by decide +kernel
theorem dX0_castDegree_18 : decode cX0_castDegree 18 = .ok (.aload_n 1, 1) := by decide +kernel
theorem dX0_castDegree_19 : decode cX0_castDegree 19 = .ok (.getfield 29, 3) := by decide +kernel
theorem dX0_castDegree_22 : decode cX0_castDegree 22 = .ok (.iload_n 3, 1) := by decide +kernel
theorem dX0_castDegree_23 : decode cX0_castDegree 23 = .ok (.iaload, 1) := by decide +kernel
theorem dX0_castDegree_24 : decode cX0_castDegree 24 = .ok (.if_icmp .ge 5, 3) := by decide +kernel
theorem dX0_castDegree_27 : decode cX0_castDegree 27 = .ok (.iload_n 3, 1) := by decide +kernel
theorem dX0_castDegree_28 : decode cX0_castDegree 28 = .ok (.ireturn, 1) := by decide +kernel
theorem dX0_castDegree_29 : decode cX0_castDegree 29 = .ok (.iload_n 2, 1) := by decide +kernel
theorem dX0_castDegree_30 : decode cX0_castDegree 30 = .ok (.aload_n 1, 1) := by decide +kernel
theorem dX0_castDegree_31 : decode cX0_castDegree 31 = .ok (.getfield 29, 3) := by decide +kernel
theorem dX0_castDegree_34 : decode cX0_castDegree 34 = .ok (.iload_n 3, 1) := by decide +kernel
theorem dX0_castDegree_35 : decode cX0_castDegree 35 = .ok (.iaload, 1) := by decide +kernel
theorem dX0_castDegree_36 : decode cX0_castDegree 36 = .ok (.isub, 1) := by decide +kernel
theorem dX0_castDegree_37 : decode cX0_castDegree 37 = .ok (.istore_n 2, 1) := by decide +kernel
theorem dX0_castDegree_38 : decode cX0_castDegree 38 = .ok (.iinc 3 1, 3) := by decide +kernel
theorem dX0_castDegree_41 : decode cX0_castDegree 41 = .ok (.goto (-30), 3) := by decide +kernel
theorem dX0_castDegree_44 : decode cX0_castDegree 44 = .ok (.iconst 0, 1) := by decide +kernel
theorem dX0_castDegree_45 : decode cX0_castDegree 45 = .ok (.ireturn, 1) := by decide +kernel
theorem dX1_init_0 : decode cX1_init 0 = .ok (.aload_n 0, 1) := by decide +kernel
theorem dX1_init_1 : decode cX1_init 1 = .ok (.invokespecial 3, 3) := by decide +kernel
theorem dX1_init_4 : decode cX1_init 4 = .ok (.aload_n 0, 1) := by decide +kernel
theorem dX1_init_5 : decode cX1_init 5 = .ok (.iconst 5, 1) := by decide +kernel
theorem dX1_init_6 : decode cX1_init 6 = .ok (.newarray .int, 2) := by decide +kernel
theorem dX1_init_8 : decode cX1_init 8 = .ok (.putfield 9, 3) := by decide +kernel
theorem dX1_init_11 : decode cX1_init 11 = .ok (.aload_n 0, 1) := by decide +kernel
theorem dX1_init_12 : decode cX1_init 12 = .ok (.bipush 10, 2) := by decide +kernel
theorem dX1_init_14 : decode cX1_init 14 = .ok (.newarray .int, 2) := by decide +kernel
theorem dX1_init_16 : decode cX1_init 16 = .ok (.putfield 15, 3) := by decide +kernel
theorem dX1_init_19 : decode cX1_init 19 = .ok (.aload_n 0, 1) := by decide +kernel
theorem dX1_init_20 : decode cX1_init 20 = .ok (.bipush 10, 2) := by decide +kernel
theorem dX1_init_22 : decode cX1_init 22 = .ok (.newarray .int, 2) := by decide +kernel
theorem dX1_init_24 : decode cX1_init 24 = .ok (.putfield 18, 3) := by decide +kernel
theorem dX1_init_27 : decode cX1_init 27 = .ok (.aload_n 0, 1) := by decide +kernel
theorem dX1_init_28 : decode cX1_init 28 = .ok (.bipush 10, 2) := by decide +kernel
theorem dX1_init_30 : decode cX1_init 30 = .ok (.newarray .int, 2) := by decide +kernel
theorem dX1_init_32 : decode cX1_init 32 = .ok (.putfield 21, 3) := by decide +kernel
theorem dX1_init_35 : decode cX1_init 35 = .ok (.aload_n 0, 1) := by decide +kernel
theorem dX1_init_36 : decode cX1_init 36 = .ok (.bipush 10, 2) := by decide +kernel
theorem dX1_init_38 : decode cX1_init 38 = .ok (.newarray .int, 2) := by decide +kernel
theorem dX1_init_40 : decode cX1_init 40 = .ok (.putfield 24, 3) := by decide +kernel
theorem dX1_init_43 : decode cX1_init 43 = .ok (.aload_n 0, 1) := by decide +kernel
theorem dX1_init_44 : decode cX1_init 44 = .ok (.bipush 10, 2) := by decide +kernel
theorem dX1_init_46 : decode cX1_init 46 = .ok (.newarray .int, 2) := by decide +kernel
theorem dX1_init_48 : decode cX1_init 48 = .ok (.putfield 27, 3) := by decide +kernel
theorem dX1_init_51 : decode cX1_init 51 = .ok (.aload_n 0, 1) := by decide +kernel
theorem dX1_init_52 : decode cX1_init 52 = .ok (.bipush 7, 2) := by decide +kernel
theorem dX1_init_54 : decode cX1_init 54 = .ok (.newarray .int, 2) := by decide +kernel
theorem dX1_init_56 : decode cX1_init 56 = .ok (.putfield 30, 3) := by decide +kernel
theorem dX1_init_59 : decode cX1_init 59 = .ok (.return_, 1) := by decide +kernel
theorem dX1_allSlots_0 : decode cX1_allSlots 0 = .ok (.aload_n 0, 1) := by decide +kernel
theorem dX1_allSlots_1 : decode cX1_allSlots 1 = .ok (.getfield 33, 3) := by decide +kernel
theorem dX1_allSlots_4 : decode cX1_allSlots 4 = .ok (.aload_n 0, 1) := by decide +kernel
theorem dX1_allSlots_5 : decode cX1_allSlots 5 = .ok (.getfield 37, 3) := by decide +kernel
theorem dX1_allSlots_8 : decode cX1_allSlots 8 = .ok (.imul, 1) := by decide +kernel
theorem dX1_allSlots_9 : decode cX1_allSlots 9 = .ok (.ireturn, 1) := by decide +kernel
theorem dX1_everyone_0 : decode cX1_everyone 0 = .ok (.iconst 1, 1) := by decide +kernel
theorem dX1_everyone_1 : decode cX1_everyone 1 = .ok (.aload_n 0, 1) := by decide +kernel
theorem dX1_everyone_2 : decode cX1_everyone 2 = .ok (.getfield 40, 3) := by decide +kernel
theorem dX1_everyone_5 : decode cX1_everyone 5 = .ok (.ishl, 1) := by decide +kernel
theorem dX1_everyone_6 : decode cX1_everyone 6 = .ok (.iconst 1, 1) := by decide +kernel
theorem dX1_everyone_7 : decode cX1_everyone 7 = .ok (.isub, 1) := by decide +kernel
theorem dX1_everyone_8 : decode cX1_everyone 8 = .ok (.ireturn, 1) := by decide +kernel
theorem dX1_reachFrom_0 : decode cX1_reachFrom 0 = .ok (.aload_n 0, 1) := by decide +kernel
theorem dX1_reachFrom_1 : decode cX1_reachFrom 1 = .ok (.getfield 21, 3) := by decide +kernel
theorem dX1_reachFrom_4 : decode cX1_reachFrom 4 = .ok (.iload_n 1, 1) := by decide +kernel
theorem dX1_reachFrom_5 : decode cX1_reachFrom 5 = .ok (.iaload, 1) := by decide +kernel
theorem dX1_reachFrom_6 : decode cX1_reachFrom 6 = .ok (.aload_n 0, 1) := by decide +kernel
theorem dX1_reachFrom_7 : decode cX1_reachFrom 7 = .ok (.getfield 33, 3) := by decide +kernel
theorem dX1_reachFrom_10 : decode cX1_reachFrom 10 = .ok (.imul, 1) := by decide +kernel
theorem dX1_reachFrom_11 : decode cX1_reachFrom 11 = .ok (.ireturn, 1) := by decide +kernel
theorem dX1_reachTo_0 : decode cX1_reachTo 0 = .ok (.aload_n 0, 1) := by decide +kernel
theorem dX1_reachTo_1 : decode cX1_reachTo 1 = .ok (.getfield 21, 3) := by decide +kernel
theorem dX1_reachTo_4 : decode cX1_reachTo 4 = .ok (.iload_n 1, 1) := by decide +kernel
theorem dX1_reachTo_5 : decode cX1_reachTo 5 = .ok (.iaload, 1) := by decide +kernel
theorem dX1_reachTo_6 : decode cX1_reachTo 6 = .ok (.iconst 2, 1) := by decide +kernel
theorem dX1_reachTo_7 : decode cX1_reachTo 7 = .ok (.iadd, 1) := by decide +kernel
theorem dX1_reachTo_8 : decode cX1_reachTo 8 = .ok (.istore_n 2, 1) := by decide +kernel
theorem dX1_reachTo_9 : decode cX1_reachTo 9 = .ok (.iload_n 2, 1) := by decide +kernel
theorem dX1_reachTo_10 : decode cX1_reachTo 10 = .ok (.aload_n 0, 1) := by decide +kernel
theorem dX1_reachTo_11 : decode cX1_reachTo 11 = .ok (.getfield 37, 3) := by decide +kernel
theorem dX1_reachTo_14 : decode cX1_reachTo 14 = .ok (.if_icmp .ge 7, 3) := by decide +kernel
theorem dX1_reachTo_17 : decode cX1_reachTo 17 = .ok (.iload_n 2, 1) := by decide +kernel
theorem dX1_reachTo_18 : decode cX1_reachTo 18 = .ok (.goto 7, 3) := by decide +kernel
theorem dX1_reachTo_21 : decode cX1_reachTo 21 = .ok (.aload_n 0, 1) := by decide +kernel
theorem dX1_reachTo_22 : decode cX1_reachTo 22 = .ok (.getfield 37, 3) := by decide +kernel
theorem dX1_reachTo_25 : decode cX1_reachTo 25 = .ok (.aload_n 0, 1) := by decide +kernel
theorem dX1_reachTo_26 : decode cX1_reachTo 26 = .ok (.getfield 33, 3) := by decide +kernel
theorem dX1_reachTo_29 : decode cX1_reachTo 29 = .ok (.imul, 1) := by decide +kernel
theorem dX1_reachTo_30 : decode cX1_reachTo 30 = .ok (.ireturn, 1) := by decide +kernel
theorem dX1_membersOf_0 : decode cX1_membersOf 0 = .ok (.iconst 0, 1) := by decide +kernel
theorem dX1_membersOf_1 : decode cX1_membersOf 1 = .ok (.istore_n 2, 1) := by decide +kernel
theorem dX1_membersOf_2 : decode cX1_membersOf 2 = .ok (.iconst 0, 1) := by decide +kernel
theorem dX1_membersOf_3 : decode cX1_membersOf 3 = .ok (.istore_n 3, 1) := by decide +kernel
theorem dX1_membersOf_4 : decode cX1_membersOf 4 = .ok (.iload_n 3, 1) := by decide +kernel
theorem dX1_membersOf_5 : decode cX1_membersOf 5 = .ok (.aload_n 0, 1) := by decide +kernel
theorem dX1_membersOf_6 : decode cX1_membersOf 6 = .ok (.getfield 40, 3) := by decide +kernel
theorem dX1_membersOf_9 : decode cX1_membersOf 9 = .ok (.if_icmp .ge 29, 3) := by decide +kernel
theorem dX1_membersOf_12 : decode cX1_membersOf 12 = .ok (.iload_n 2, 1) := by decide +kernel
theorem dX1_membersOf_13 : decode cX1_membersOf 13 = .ok (.aload_n 0, 1) := by decide +kernel
theorem dX1_membersOf_14 : decode cX1_membersOf 14 = .ok (.getfield 21, 3) := by decide +kernel
theorem dX1_membersOf_17 : decode cX1_membersOf 17 = .ok (.iload_n 3, 1) := by decide +kernel
theorem dX1_membersOf_18 : decode cX1_membersOf 18 = .ok (.iaload, 1) := by decide +kernel
theorem dX1_membersOf_19 : decode cX1_membersOf 19 = .ok (.iload_n 1, 1) := by decide +kernel
theorem dX1_membersOf_20 : decode cX1_membersOf 20 = .ok (.if_icmp .ne 9, 3) := by decide +kernel
theorem dX1_membersOf_23 : decode cX1_membersOf 23 = .ok (.iconst 1, 1) := by decide +kernel
theorem dX1_membersOf_24 : decode cX1_membersOf 24 = .ok (.iload_n 3, 1) := by decide +kernel
theorem dX1_membersOf_25 : decode cX1_membersOf 25 = .ok (.ishl, 1) := by decide +kernel
theorem dX1_membersOf_26 : decode cX1_membersOf 26 = .ok (.goto 4, 3) := by decide +kernel
theorem dX1_membersOf_29 : decode cX1_membersOf 29 = .ok (.iconst 0, 1) := by decide +kernel
theorem dX1_membersOf_30 : decode cX1_membersOf 30 = .ok (.ior, 1) := by decide +kernel
theorem dX1_membersOf_31 : decode cX1_membersOf 31 = .ok (.istore_n 2, 1) := by decide +kernel
theorem dX1_membersOf_32 : decode cX1_membersOf 32 = .ok (.iinc 3 1, 3) := by decide +kernel
theorem dX1_membersOf_35 : decode cX1_membersOf 35 = .ok (.goto (-31), 3) := by decide +kernel
theorem dX1_membersOf_38 : decode cX1_membersOf 38 = .ok (.iload_n 2, 1) := by decide +kernel
theorem dX1_membersOf_39 : decode cX1_membersOf 39 = .ok (.ireturn, 1) := by decide +kernel
theorem dX1_readFrom_0 : decode cX1_readFrom 0 = .ok (.aload_n 0, 1) := by decide +kernel
theorem dX1_readFrom_1 : decode cX1_readFrom 1 = .ok (.invokevirtual 43, 3) := by decide +kernel
theorem dX1_readFrom_4 : decode cX1_readFrom 4 = .ok (.aload_n 1, 1) := by decide +kernel
theorem dX1_readFrom_5 : decode cX1_readFrom 5 = .ok (.iconst 0, 1) := by decide +kernel
theorem dX1_readFrom_6 : decode cX1_readFrom 6 = .ok (.putfield 46, 3) := by decide +kernel
theorem dX1_readFrom_9 : decode cX1_readFrom 9 = .ok (.iconst 0, 1) := by decide +kernel
theorem dX1_readFrom_10 : decode cX1_readFrom 10 = .ok (.istore_n 2, 1) := by decide +kernel
theorem dX1_readFrom_11 : decode cX1_readFrom 11 = .ok (.iload_n 2, 1) := by decide +kernel
theorem dX1_readFrom_12 : decode cX1_readFrom 12 = .ok (.sipush 240, 3) := by decide +kernel
theorem dX1_readFrom_15 : decode cX1_readFrom 15 = .ok (.if_icmp .gt 55, 3) := by decide +kernel
theorem dX1_readFrom_18 : decode cX1_readFrom 18 = .ok (.aload_n 0, 1) := by decide +kernel
theorem dX1_readFrom_19 : decode cX1_readFrom 19 = .ok (.aload_n 1, 1) := by decide +kernel
theorem dX1_readFrom_20 : decode cX1_readFrom 20 = .ok (.invokevirtual 51, 3) := by decide +kernel
theorem dX1_readFrom_23 : decode cX1_readFrom 23 = .ok (.ifCond .ne 8, 3) := by decide +kernel
theorem dX1_readFrom_26 : decode cX1_readFrom 26 = .ok (.aload_n 1, 1) := by decide +kernel
theorem dX1_readFrom_27 : decode cX1_readFrom 27 = .ok (.getfield 46, 3) := by decide +kernel
theorem dX1_readFrom_30 : decode cX1_readFrom 30 = .ok (.ireturn, 1) := by decide +kernel
theorem dX1_readFrom_31 : decode cX1_readFrom 31 = .ok (.aload_n 1, 1) := by decide +kernel
theorem dX1_readFrom_32 : decode cX1_readFrom 32 = .ok (.invokevirtual 55, 3) := by decide +kernel
theorem dX1_readFrom_35 : decode cX1_readFrom 35 = .ok (.ifCond .ne 19, 3) := by decide +kernel
theorem dX1_readFrom_38 : decode cX1_readFrom 38 = .ok (.aload_n 0, 1) := by decide +kernel
theorem dX1_readFrom_39 : decode cX1_readFrom 39 = .ok (.invokevirtual 59, 3) := by decide +kernel
theorem dX1_readFrom_42 : decode cX1_readFrom 42 = .ok (.ifCond .eq 7, 3) := by decide +kernel
theorem dX1_readFrom_45 : decode cX1_readFrom 45 = .ok (.iconst (-1), 1) := by decide +kernel
theorem dX1_readFrom_46 : decode cX1_readFrom 46 = .ok (.goto 7, 3) := by decide +kernel
theorem dX1_readFrom_49 : decode cX1_readFrom 49 = .ok (.aload_n 1, 1) := by decide +kernel
theorem dX1_readFrom_50 : decode cX1_readFrom 50 = .ok (.getfield 63, 3) := by decide +kernel
theorem dX1_readFrom_53 : decode cX1_readFrom 53 = .ok (.ireturn, 1) := by decide +kernel
theorem dX1_readFrom_54 : decode cX1_readFrom 54 = .ok (.aload_n 1, 1) := by decide +kernel
theorem dX1_readFrom_55 : decode cX1_readFrom 55 = .ok (.dup, 1) := by decide +kernel
theorem dX1_readFrom_56 : decode cX1_readFrom 56 = .ok (.getfield 46, 3) := by decide +kernel
theorem dX1_readFrom_59 : decode cX1_readFrom 59 = .ok (.iconst 1, 1) := by decide +kernel
theorem dX1_readFrom_60 : decode cX1_readFrom 60 = .ok (.iadd, 1) := by decide +kernel
theorem dX1_readFrom_61 : decode cX1_readFrom 61 = .ok (.putfield 46, 3) := by decide +kernel
theorem dX1_readFrom_64 : decode cX1_readFrom 64 = .ok (.iinc 2 1, 3) := by decide +kernel
theorem dX1_readFrom_67 : decode cX1_readFrom 67 = .ok (.goto (-56), 3) := by decide +kernel
theorem dX1_readFrom_70 : decode cX1_readFrom 70 = .ok (.aload_n 1, 1) := by decide +kernel
theorem dX1_readFrom_71 : decode cX1_readFrom 71 = .ok (.getfield 46, 3) := by decide +kernel
theorem dX1_readFrom_74 : decode cX1_readFrom 74 = .ok (.ireturn, 1) := by decide +kernel
theorem dX1_begin_0 : decode cX1_begin 0 = .ok (.aload_n 0, 1) := by decide +kernel
theorem dX1_begin_1 : decode cX1_begin 1 = .ok (.getstatic 66, 3) := by decide +kernel
theorem dX1_begin_4 : decode cX1_begin 4 = .ok (.invokevirtual 69, 3) := by decide +kernel
theorem dX1_begin_7 : decode cX1_begin 7 = .ok (.aload_n 0, 1) := by decide +kernel
theorem dX1_begin_8 : decode cX1_begin 8 = .ok (.iconst 0, 1) := by decide +kernel
theorem dX1_begin_9 : decode cX1_begin 9 = .ok (.putfield 40, 3) := by decide +kernel
theorem dX1_begin_12 : decode cX1_begin 12 = .ok (.aload_n 0, 1) := by decide +kernel
theorem dX1_begin_13 : decode cX1_begin 13 = .ok (.iconst 0, 1) := by decide +kernel
theorem dX1_begin_14 : decode cX1_begin 14 = .ok (.putfield 73, 3) := by decide +kernel
theorem dX1_begin_17 : decode cX1_begin 17 = .ok (.aload_n 0, 1) := by decide +kernel
theorem dX1_begin_18 : decode cX1_begin 18 = .ok (.iconst 0, 1) := by decide +kernel
theorem dX1_begin_19 : decode cX1_begin 19 = .ok (.putfield 76, 3) := by decide +kernel
theorem dX1_begin_22 : decode cX1_begin 22 = .ok (.aload_n 0, 1) := by decide +kernel
theorem dX1_begin_23 : decode cX1_begin 23 = .ok (.iconst 0, 1) := by decide +kernel
theorem dX1_begin_24 : decode cX1_begin 24 = .ok (.putfield 79, 3) := by decide +kernel
theorem dX1_begin_27 : decode cX1_begin 27 = .ok (.aload_n 0, 1) := by decide +kernel
theorem dX1_begin_28 : decode cX1_begin 28 = .ok (.getfield 30, 3) := by decide +kernel
theorem dX1_begin_31 : decode cX1_begin 31 = .ok (.iconst 0, 1) := by decide +kernel
theorem dX1_begin_32 : decode cX1_begin 32 = .ok (.invokestatic 83, 3) := by decide +kernel
theorem dX1_begin_35 : decode cX1_begin 35 = .ok (.return_, 1) := by decide +kernel
theorem dX1_readClause_0 : decode cX1_readClause 0 = .ok (.aload_n 1, 1) := by decide +kernel
theorem dX1_readClause_1 : decode cX1_readClause 1 = .ok (.invokevirtual 55, 3) := by decide +kernel
theorem dX1_readClause_4 : decode cX1_readClause 4 = .ok (.istore_n 2, 1) := by decide +kernel
theorem dX1_readClause_5 : decode cX1_readClause 5 = .ok (.iload_n 2, 1) := by decide +kernel
theorem dX1_readClause_6 : decode cX1_readClause 6 = .ok (.bipush 115, 2) := by decide +kernel
theorem dX1_readClause_8 : decode cX1_readClause 8 = .ok (.if_icmp .ne 47, 3) := by decide +kernel
theorem dX1_readClause_11 : decode cX1_readClause 11 = .ok (.aload_n 0, 1) := by decide +kernel
theorem dX1_readClause_12 : decode cX1_readClause 12 = .ok (.getfield 79, 3) := by decide +kernel
theorem dX1_readClause_15 : decode cX1_readClause 15 = .ok (.ifCond .ne 40, 3) := by decide +kernel
theorem dX1_readClause_18 : decode cX1_readClause 18 = .ok (.aload_n 0, 1) := by decide +kernel
theorem dX1_readClause_19 : decode cX1_readClause 19 = .ok (.aload_n 1, 1) := by decide +kernel
theorem dX1_readClause_20 : decode cX1_readClause 20 = .ok (.ldc 89, 2) := by decide +kernel
theorem dX1_readClause_22 : decode cX1_readClause 22 = .ok (.getstatic 91, 3) := by decide +kernel
theorem dX1_readClause_25 : decode cX1_readClause 25 = .ok (.getstatic 94, 3) := by decide +kernel
theorem dX1_readClause_28 : decode cX1_readClause 28 = .ok (.getstatic 66, 3) := by decide +kernel
theorem dX1_readClause_31 : decode cX1_readClause 31 = .ok (.invokevirtual 97, 3) := by decide +kernel
theorem dX1_readClause_34 : decode cX1_readClause 34 = .ok (.ifCond .ne 5, 3) := by decide +kernel
theorem dX1_readClause_37 : decode cX1_readClause 37 = .ok (.iconst 0, 1) := by decide +kernel
theorem dX1_readClause_38 : decode cX1_readClause 38 = .ok (.ireturn, 1) := by decide +kernel
theorem dX1_readClause_39 : decode cX1_readClause 39 = .ok (.aload_n 0, 1) := by decide +kernel
theorem dX1_readClause_40 : decode cX1_readClause 40 = .ok (.aload_n 0, 1) := by decide +kernel
theorem dX1_readClause_41 : decode cX1_readClause 41 = .ok (.getfield 9, 3) := by decide +kernel
theorem dX1_readClause_44 : decode cX1_readClause 44 = .ok (.invokevirtual 69, 3) := by decide +kernel
theorem dX1_readClause_47 : decode cX1_readClause 47 = .ok (.aload_n 0, 1) := by decide +kernel
theorem dX1_readClause_48 : decode cX1_readClause 48 = .ok (.iconst 1, 1) := by decide +kernel
theorem dX1_readClause_49 : decode cX1_readClause 49 = .ok (.putfield 79, 3) := by decide +kernel
theorem dX1_readClause_52 : decode cX1_readClause 52 = .ok (.goto 91, 3) := by decide +kernel
theorem dX1_readClause_55 : decode cX1_readClause 55 = .ok (.iload_n 2, 1) := by decide +kernel
theorem dX1_readClause_56 : decode cX1_readClause 56 = .ok (.bipush 117, 2) := by decide +kernel
theorem dX1_readClause_58 : decode cX1_readClause 58 = .ok (.if_icmp .ne 40, 3) := by decide +kernel
theorem dX1_readClause_61 : decode cX1_readClause 61 = .ok (.aload_n 0, 1) := by decide +kernel
theorem dX1_readClause_62 : decode cX1_readClause 62 = .ok (.getfield 40, 3) := by decide +kernel
theorem dX1_readClause_65 : decode cX1_readClause 65 = .ok (.bipush 10, 2) := by decide +kernel
theorem dX1_readClause_67 : decode cX1_readClause 67 = .ok (.if_icmp .ge 31, 3) := by decide +kernel
theorem dX1_readClause_70 : decode cX1_readClause 70 = .ok (.aload_n 0, 1) := by decide +kernel
theorem dX1_readClause_71 : decode cX1_readClause 71 = .ok (.aload_n 1, 1) := by decide +kernel
theorem dX1_readClause_72 : decode cX1_readClause 72 = .ok (.ldc 101, 2) := by decide +kernel
theorem dX1_readClause_74 : decode cX1_readClause 74 = .ok (.getstatic 103, 3) := by decide +kernel
theorem dX1_readClause_77 : decode cX1_readClause 77 = .ok (.getstatic 106, 3) := by decide +kernel
theorem dX1_readClause_80 : decode cX1_readClause 80 = .ok (.getstatic 109, 3) := by decide +kernel
theorem dX1_readClause_83 : decode cX1_readClause 83 = .ok (.invokevirtual 97, 3) := by decide +kernel
theorem dX1_readClause_86 : decode cX1_readClause 86 = .ok (.ifCond .ne 5, 3) := by decide +kernel
theorem dX1_readClause_89 : decode cX1_readClause 89 = .ok (.iconst 0, 1) := by decide +kernel
theorem dX1_readClause_90 : decode cX1_readClause 90 = .ok (.ireturn, 1) := by decide +kernel
theorem dX1_readClause_91 : decode cX1_readClause 91 = .ok (.aload_n 0, 1) := by decide +kernel
theorem dX1_readClause_92 : decode cX1_readClause 92 = .ok (.invokevirtual 112, 3) := by decide +kernel
theorem dX1_readClause_95 : decode cX1_readClause 95 = .ok (.goto 48, 3) := by decide +kernel
theorem dX1_readClause_98 : decode cX1_readClause 98 = .ok (.iload_n 2, 1) := by decide +kernel
theorem dX1_readClause_99 : decode cX1_readClause 99 = .ok (.bipush 100, 2) := by decide +kernel
theorem dX1_readClause_101 : decode cX1_readClause 101 = .ok (.if_icmp .ne 40, 3) := by decide +kernel
theorem dX1_readClause_104 : decode cX1_readClause 104 = .ok (.aload_n 0, 1) := by decide +kernel
theorem dX1_readClause_105 : decode cX1_readClause 105 = .ok (.getfield 73, 3) := by decide +kernel
theorem dX1_readClause_108 : decode cX1_readClause 108 = .ok (.bipush 6, 2) := by decide +kernel
theorem dX1_readClause_110 : decode cX1_readClause 110 = .ok (.if_icmp .ge 31, 3) := by decide +kernel
theorem dX1_readClause_113 : decode cX1_readClause 113 = .ok (.aload_n 0, 1) := by decide +kernel
theorem dX1_readClause_114 : decode cX1_readClause 114 = .ok (.aload_n 1, 1) := by decide +kernel
theorem dX1_readClause_115 : decode cX1_readClause 115 = .ok (.ldc 115, 2) := by decide +kernel
theorem dX1_readClause_117 : decode cX1_readClause 117 = .ok (.getstatic 117, 3) := by decide +kernel
theorem dX1_readClause_120 : decode cX1_readClause 120 = .ok (.getstatic 120, 3) := by decide +kernel
theorem dX1_readClause_123 : decode cX1_readClause 123 = .ok (.getstatic 123, 3) := by decide +kernel
theorem dX1_readClause_126 : decode cX1_readClause 126 = .ok (.invokevirtual 97, 3) := by decide +kernel
theorem dX1_readClause_129 : decode cX1_readClause 129 = .ok (.ifCond .ne 5, 3) := by decide +kernel
theorem dX1_readClause_132 : decode cX1_readClause 132 = .ok (.iconst 0, 1) := by decide +kernel
theorem dX1_readClause_133 : decode cX1_readClause 133 = .ok (.ireturn, 1) := by decide +kernel
theorem dX1_readClause_134 : decode cX1_readClause 134 = .ok (.aload_n 0, 1) := by decide +kernel
theorem dX1_readClause_135 : decode cX1_readClause 135 = .ok (.invokevirtual 126, 3) := by decide +kernel
theorem dX1_readClause_138 : decode cX1_readClause 138 = .ok (.goto 5, 3) := by decide +kernel
theorem dX1_readClause_141 : decode cX1_readClause 141 = .ok (.iconst 0, 1) := by decide +kernel
theorem dX1_readClause_142 : decode cX1_readClause 142 = .ok (.ireturn, 1) := by decide +kernel
theorem dX1_readClause_143 : decode cX1_readClause 143 = .ok (.iconst 1, 1) := by decide +kernel
theorem dX1_readClause_144 : decode cX1_readClause 144 = .ok (.ireturn, 1) := by decide +kernel
theorem dX1_readItems_0 : decode cX1_readItems 0 = .ok (.aload 5, 2) := by decide +kernel
theorem dX1_readItems_2 : decode cX1_readItems 2 = .ok (.iconst 0, 1) := by decide +kernel
theorem dX1_readItems_3 : decode cX1_readItems 3 = .ok (.aload_n 0, 1) := by decide +kernel
theorem dX1_readItems_4 : decode cX1_readItems 4 = .ok (.getfield 9, 3) := by decide +kernel
theorem dX1_readItems_7 : decode cX1_readItems 7 = .ok (.iconst 0, 1) := by decide +kernel
theorem dX1_readItems_8 : decode cX1_readItems 8 = .ok (.aload 5, 2) := by decide +kernel
theorem dX1_readItems_10 : decode cX1_readItems 10 = .ok (.arraylength, 1) := by decide +kernel
theorem dX1_readItems_11 : decode cX1_readItems 11 = .ok (.invokestatic 129, 3) := by decide +kernel
theorem dX1_readItems_14 : decode cX1_readItems 14 = .ok (.aload_n 1, 1) := by decide +kernel
theorem dX1_readItems_15 : decode cX1_readItems 15 = .ok (.dup, 1) := by decide +kernel
theorem dX1_readItems_16 : decode cX1_readItems 16 = .ok (.getfield 46, 3) := by decide +kernel
theorem dX1_readItems_19 : decode cX1_readItems 19 = .ok (.iconst 1, 1) := by decide +kernel
theorem dX1_readItems_20 : decode cX1_readItems 20 = .ok (.iadd, 1) := by decide +kernel
theorem dX1_readItems_21 : decode cX1_readItems 21 = .ok (.putfield 46, 3) := by decide +kernel
theorem dX1_readItems_24 : decode cX1_readItems 24 = .ok (.iconst 0, 1) := by decide +kernel
theorem dX1_readItems_25 : decode cX1_readItems 25 = .ok (.istore 6, 2) := by decide +kernel
theorem dX1_readItems_27 : decode cX1_readItems 27 = .ok (.iconst 0, 1) := by decide +kernel
theorem dX1_readItems_28 : decode cX1_readItems 28 = .ok (.istore 7, 2) := by decide +kernel
theorem dX1_readItems_30 : decode cX1_readItems 30 = .ok (.iload 7, 2) := by decide +kernel
theorem dX1_readItems_32 : decode cX1_readItems 32 = .ok (.aload_n 2, 1) := by decide +kernel
theorem dX1_readItems_33 : decode cX1_readItems 33 = .ok (.invokevirtual 135, 3) := by decide +kernel
theorem dX1_readItems_36 : decode cX1_readItems 36 = .ok (.if_icmp .gt 102, 3) := by decide +kernel
theorem dX1_readItems_39 : decode cX1_readItems 39 = .ok (.aload_n 1, 1) := by decide +kernel
theorem dX1_readItems_40 : decode cX1_readItems 40 = .ok (.invokevirtual 55, 3) := by decide +kernel
theorem dX1_readItems_43 : decode cX1_readItems 43 = .ok (.istore 8, 2) := by decide +kernel
theorem dX1_readItems_45 : decode cX1_readItems 45 = .ok (.iload 8, 2) := by decide +kernel
theorem dX1_readItems_47 : decode cX1_readItems 47 = .ok (.ifCond .eq 10, 3) := by decide +kernel
theorem dX1_readItems_50 : decode cX1_readItems 50 = .ok (.iload 8, 2) := by decide +kernel
theorem dX1_readItems_52 : decode cX1_readItems 52 = .ok (.bipush 59, 2) := by decide +kernel
theorem dX1_readItems_54 : decode cX1_readItems 54 = .ok (.if_icmp .ne 5, 3) := by decide +kernel
theorem dX1_readItems_57 : decode cX1_readItems 57 = .ok (.iconst 1, 1) := by decide +kernel
theorem dX1_readItems_58 : decode cX1_readItems 58 = .ok (.ireturn, 1) := by decide +kernel
theorem dX1_readItems_59 : decode cX1_readItems 59 = .ok (.aload_n 2, 1) := by decide +kernel
theorem dX1_readItems_60 : decode cX1_readItems 60 = .ok (.iload 8, 2) := by decide +kernel
theorem dX1_readItems_62 : decode cX1_readItems 62 = .ok (.invokevirtual 140, 3) := by decide +kernel
theorem dX1_readItems_65 : decode cX1_readItems 65 = .ok (.istore 9, 2) := by decide +kernel
theorem dX1_readItems_67 : decode cX1_readItems 67 = .ok (.iload 9, 2) := by decide +kernel
theorem dX1_readItems_69 : decode cX1_readItems 69 = .ok (.ifCond .lt 13, 3) := by decide +kernel
theorem dX1_readItems_72 : decode cX1_readItems 72 = .ok (.iload 6, 2) := by decide +kernel
theorem dX1_readItems_74 : decode cX1_readItems 74 = .ok (.iload 9, 2) := by decide +kernel
theorem dX1_readItems_76 : decode cX1_readItems 76 = .ok (.ishr, 1) := by decide +kernel
theorem dX1_readItems_77 : decode cX1_readItems 77 = .ok (.iconst 1, 1) := by decide +kernel
theorem dX1_readItems_78 : decode cX1_readItems 78 = .ok (.iand, 1) := by decide +kernel
theorem dX1_readItems_79 : decode cX1_readItems 79 = .ok (.ifCond .eq 5, 3) := by decide +kernel
theorem dX1_readItems_82 : decode cX1_readItems 82 = .ok (.iconst 0, 1) := by decide +kernel
theorem dX1_readItems_83 : decode cX1_readItems 83 = .ok (.ireturn, 1) := by decide +kernel
theorem dX1_readItems_84 : decode cX1_readItems 84 = .ok (.aload_n 1, 1) := by decide +kernel
theorem dX1_readItems_85 : decode cX1_readItems 85 = .ok (.dup, 1) := by decide +kernel
theorem dX1_readItems_86 : decode cX1_readItems 86 = .ok (.getfield 46, 3) := by decide +kernel
theorem dX1_readItems_89 : decode cX1_readItems 89 = .ok (.iconst 1, 1) := by decide +kernel
theorem dX1_readItems_90 : decode cX1_readItems 90 = .ok (.iadd, 1) := by decide +kernel
theorem dX1_readItems_91 : decode cX1_readItems 91 = .ok (.putfield 46, 3) := by decide +kernel
theorem dX1_readItems_94 : decode cX1_readItems 94 = .ok (.aload_n 1, 1) := by decide +kernel
theorem dX1_readItems_95 : decode cX1_readItems 95 = .ok (.aload_n 3, 1) := by decide +kernel
theorem dX1_readItems_96 : decode cX1_readItems 96 = .ok (.iload 9, 2) := by decide +kernel
theorem dX1_readItems_98 : decode cX1_readItems 98 = .ok (.iaload, 1) := by decide +kernel
theorem dX1_readItems_99 : decode cX1_readItems 99 = .ok (.aload 4, 2) := by decide +kernel
theorem dX1_readItems_101 : decode cX1_readItems 101 = .ok (.iload 9, 2) := by decide +kernel
theorem dX1_readItems_103 : decode cX1_readItems 103 = .ok (.iaload, 1) := by decide +kernel
theorem dX1_readItems_104 : decode cX1_readItems 104 = .ok (.invokevirtual 144, 3) := by decide +kernel
theorem dX1_readItems_107 : decode cX1_readItems 107 = .ok (.ifCond .ne 5, 3) := by decide +kernel
theorem dX1_readItems_110 : decode cX1_readItems 110 = .ok (.iconst 0, 1) := by decide +kernel
theorem dX1_readItems_111 : decode cX1_readItems 111 = .ok (.ireturn, 1) := by decide +kernel
theorem dX1_readItems_112 : decode cX1_readItems 112 = .ok (.aload_n 0, 1) := by decide +kernel
theorem dX1_readItems_113 : decode cX1_readItems 113 = .ok (.getfield 9, 3) := by decide +kernel
theorem dX1_readItems_116 : decode cX1_readItems 116 = .ok (.iload 9, 2) := by decide +kernel
theorem dX1_readItems_118 : decode cX1_readItems 118 = .ok (.aload_n 1, 1) := by decide +kernel
theorem dX1_readItems_119 : decode cX1_readItems 119 = .ok (.getfield 148, 3) := by decide +kernel
theorem dX1_readItems_122 : decode cX1_readItems 122 = .ok (.iastore, 1) := by decide +kernel
theorem dX1_readItems_123 : decode cX1_readItems 123 = .ok (.iload 6, 2) := by decide +kernel
theorem dX1_readItems_125 : decode cX1_readItems 125 = .ok (.iconst 1, 1) := by decide +kernel
theorem dX1_readItems_126 : decode cX1_readItems 126 = .ok (.iload 9, 2) := by decide +kernel
theorem dX1_readItems_128 : decode cX1_readItems 128 = .ok (.ishl, 1) := by decide +kernel
theorem dX1_readItems_129 : decode cX1_readItems 129 = .ok (.ior, 1) := by decide +kernel
theorem dX1_readItems_130 : decode cX1_readItems 130 = .ok (.istore 6, 2) := by decide +kernel
theorem dX1_readItems_132 : decode cX1_readItems 132 = .ok (.iinc 7 1, 3) := by decide +kernel
theorem dX1_readItems_135 : decode cX1_readItems 135 = .ok (.goto (-105), 3) := by decide +kernel
theorem dX1_readItems_138 : decode cX1_readItems 138 = .ok (.iconst 0, 1) := by decide +kernel
theorem dX1_readItems_139 : decode cX1_readItems 139 = .ok (.ireturn, 1) := by decide +kernel
theorem dX1_keepRules_0 : decode cX1_keepRules 0 = .ok (.aload_n 0, 1) := by decide +kernel
theorem dX1_keepRules_1 : decode cX1_keepRules 1 = .ok (.aload_n 1, 1) := by decide +kernel
theorem dX1_keepRules_2 : decode cX1_keepRules 2 = .ok (.iconst 0, 1) := by decide +kernel
theorem dX1_keepRules_3 : decode cX1_keepRules 3 = .ok (.iaload, 1) := by decide +kernel
theorem dX1_keepRules_4 : decode cX1_keepRules 4 = .ok (.putfield 33, 3) := by decide +kernel
theorem dX1_keepRules_7 : decode cX1_keepRules 7 = .ok (.aload_n 0, 1) := by decide +kernel
theorem dX1_keepRules_8 : decode cX1_keepRules 8 = .ok (.aload_n 1, 1) := by decide +kernel
theorem dX1_keepRules_9 : decode cX1_keepRules 9 = .ok (.iconst 1, 1) := by decide +kernel
theorem dX1_keepRules_10 : decode cX1_keepRules 10 = .ok (.iaload, 1) := by decide +kernel
theorem dX1_keepRules_11 : decode cX1_keepRules 11 = .ok (.putfield 37, 3) := by decide +kernel
theorem dX1_keepRules_14 : decode cX1_keepRules 14 = .ok (.aload_n 0, 1) := by decide +kernel
theorem dX1_keepRules_15 : decode cX1_keepRules 15 = .ok (.aload_n 1, 1) := by decide +kernel
theorem dX1_keepRules_16 : decode cX1_keepRules 16 = .ok (.iconst 2, 1) := by decide +kernel
theorem dX1_keepRules_17 : decode cX1_keepRules 17 = .ok (.iaload, 1) := by decide +kernel
theorem dX1_keepRules_18 : decode cX1_keepRules 18 = .ok (.putfield 151, 3) := by decide +kernel
theorem dX1_keepRules_21 : decode cX1_keepRules 21 = .ok (.aload_n 0, 1) := by decide +kernel
theorem dX1_keepRules_22 : decode cX1_keepRules 22 = .ok (.aload_n 1, 1) := by decide +kernel
theorem dX1_keepRules_23 : decode cX1_keepRules 23 = .ok (.iconst 3, 1) := by decide +kernel
theorem dX1_keepRules_24 : decode cX1_keepRules 24 = .ok (.iaload, 1) := by decide +kernel
theorem dX1_keepRules_25 : decode cX1_keepRules 25 = .ok (.putfield 154, 3) := by decide +kernel
theorem dX1_keepRules_28 : decode cX1_keepRules 28 = .ok (.return_, 1) := by decide +kernel
theorem dX1_keepUser_0 : decode cX1_keepUser 0 = .ok (.aload_n 0, 1) := by decide +kernel
theorem dX1_keepUser_1 : decode cX1_keepUser 1 = .ok (.getfield 15, 3) := by decide +kernel
theorem dX1_keepUser_4 : decode cX1_keepUser 4 = .ok (.aload_n 0, 1) := by decide +kernel
theorem dX1_keepUser_5 : decode cX1_keepUser 5 = .ok (.getfield 40, 3) := by decide +kernel
theorem dX1_keepUser_8 : decode cX1_keepUser 8 = .ok (.aload_n 0, 1) := by decide +kernel
theorem dX1_keepUser_9 : decode cX1_keepUser 9 = .ok (.getfield 9, 3) := by decide +kernel
theorem dX1_keepUser_12 : decode cX1_keepUser 12 = .ok (.iconst 0, 1) := by decide +kernel
theorem dX1_keepUser_13 : decode cX1_keepUser 13 = .ok (.iaload, 1) := by decide +kernel
theorem dX1_keepUser_14 : decode cX1_keepUser 14 = .ok (.iastore, 1) := by decide +kernel
theorem dX1_keepUser_15 : decode cX1_keepUser 15 = .ok (.aload_n 0, 1) := by decide +kernel
theorem dX1_keepUser_16 : decode cX1_keepUser 16 = .ok (.getfield 18, 3) := by decide +kernel
theorem dX1_keepUser_19 : decode cX1_keepUser 19 = .ok (.aload_n 0, 1) := by decide +kernel
theorem dX1_keepUser_20 : decode cX1_keepUser 20 = .ok (.getfield 40, 3) := by decide +kernel
theorem dX1_keepUser_23 : decode cX1_keepUser 23 = .ok (.aload_n 0, 1) := by decide +kernel
theorem dX1_keepUser_24 : decode cX1_keepUser 24 = .ok (.getfield 9, 3) := by decide +kernel
theorem dX1_keepUser_27 : decode cX1_keepUser 27 = .ok (.iconst 1, 1) := by decide +kernel
theorem dX1_keepUser_28 : decode cX1_keepUser 28 = .ok (.iaload, 1) := by decide +kernel
theorem dX1_keepUser_29 : decode cX1_keepUser 29 = .ok (.iastore, 1) := by decide +kernel
theorem dX1_keepUser_30 : decode cX1_keepUser 30 = .ok (.aload_n 0, 1) := by decide +kernel
theorem dX1_keepUser_31 : decode cX1_keepUser 31 = .ok (.getfield 21, 3) := by decide +kernel
theorem dX1_keepUser_34 : decode cX1_keepUser 34 = .ok (.aload_n 0, 1) := by decide +kernel
theorem dX1_keepUser_35 : decode cX1_keepUser 35 = .ok (.getfield 40, 3) := by decide +kernel
theorem dX1_keepUser_38 : decode cX1_keepUser 38 = .ok (.aload_n 0, 1) := by decide +kernel
theorem dX1_keepUser_39 : decode cX1_keepUser 39 = .ok (.getfield 9, 3) := by decide +kernel
theorem dX1_keepUser_42 : decode cX1_keepUser 42 = .ok (.iconst 2, 1) := by decide +kernel
theorem dX1_keepUser_43 : decode cX1_keepUser 43 = .ok (.iaload, 1) := by decide +kernel
theorem dX1_keepUser_44 : decode cX1_keepUser 44 = .ok (.iastore, 1) := by decide +kernel
theorem dX1_keepUser_45 : decode cX1_keepUser 45 = .ok (.aload_n 0, 1) := by decide +kernel
theorem dX1_keepUser_46 : decode cX1_keepUser 46 = .ok (.getfield 24, 3) := by decide +kernel
theorem dX1_keepUser_49 : decode cX1_keepUser 49 = .ok (.aload_n 0, 1) := by decide +kernel
theorem dX1_keepUser_50 : decode cX1_keepUser 50 = .ok (.getfield 40, 3) := by decide +kernel
theorem dX1_keepUser_53 : decode cX1_keepUser 53 = .ok (.aload_n 0, 1) := by decide +kernel
theorem dX1_keepUser_54 : decode cX1_keepUser 54 = .ok (.getfield 9, 3) := by decide +kernel
theorem dX1_keepUser_57 : decode cX1_keepUser 57 = .ok (.iconst 3, 1) := by decide +kernel
theorem dX1_keepUser_58 : decode cX1_keepUser 58 = .ok (.iaload, 1) := by decide +kernel
theorem dX1_keepUser_59 : decode cX1_keepUser 59 = .ok (.iastore, 1) := by decide +kernel
theorem dX1_keepUser_60 : decode cX1_keepUser 60 = .ok (.aload_n 0, 1) := by decide +kernel
theorem dX1_keepUser_61 : decode cX1_keepUser 61 = .ok (.getfield 27, 3) := by decide +kernel
theorem dX1_keepUser_64 : decode cX1_keepUser 64 = .ok (.aload_n 0, 1) := by decide +kernel
theorem dX1_keepUser_65 : decode cX1_keepUser 65 = .ok (.getfield 40, 3) := by decide +kernel
theorem dX1_keepUser_68 : decode cX1_keepUser 68 = .ok (.aload_n 0, 1) := by decide +kernel
theorem dX1_keepUser_69 : decode cX1_keepUser 69 = .ok (.getfield 9, 3) := by decide +kernel
theorem dX1_keepUser_72 : decode cX1_keepUser 72 = .ok (.iconst 4, 1) := by decide +kernel
theorem dX1_keepUser_73 : decode cX1_keepUser 73 = .ok (.iaload, 1) := by decide +kernel
theorem dX1_keepUser_74 : decode cX1_keepUser 74 = .ok (.iastore, 1) := by decide +kernel
theorem dX1_keepUser_75 : decode cX1_keepUser 75 = .ok (.aload_n 0, 1) := by decide +kernel
theorem dX1_keepUser_76 : decode cX1_keepUser 76 = .ok (.dup, 1) := by decide +kernel
theorem dX1_keepUser_77 : decode cX1_keepUser 77 = .ok (.getfield 40, 3) := by decide +kernel
theorem dX1_keepUser_80 : decode cX1_keepUser 80 = .ok (.iconst 1, 1) := by decide +kernel
theorem dX1_keepUser_81 : decode cX1_keepUser 81 = .ok (.iadd, 1) := by decide +kernel
theorem dX1_keepUser_82 : decode cX1_keepUser 82 = .ok (.putfield 40, 3) := by decide +kernel
theorem dX1_keepUser_85 : decode cX1_keepUser 85 = .ok (.return_, 1) := by decide +kernel
theorem dX1_keepDegree_0 : decode cX1_keepDegree 0 = .ok (.aload_n 0, 1) := by decide +kernel
theorem dX1_keepDegree_1 : decode cX1_keepDegree 1 = .ok (.getfield 30, 3) := by decide +kernel
theorem dX1_keepDegree_4 : decode cX1_keepDegree 4 = .ok (.aload_n 0, 1) := by decide +kernel
theorem dX1_keepDegree_5 : decode cX1_keepDegree 5 = .ok (.getfield 9, 3) := by decide +kernel
theorem dX1_keepDegree_8 : decode cX1_keepDegree 8 = .ok (.iconst 0, 1) := by decide +kernel
theorem dX1_keepDegree_9 : decode cX1_keepDegree 9 = .ok (.iaload, 1) := by decide +kernel
theorem dX1_keepDegree_10 : decode cX1_keepDegree 10 = .ok (.dup2, 1) := by decide +kernel
theorem dX1_keepDegree_11 : decode cX1_keepDegree 11 = .ok (.iaload, 1) := by decide +kernel
theorem dX1_keepDegree_12 : decode cX1_keepDegree 12 = .ok (.aload_n 0, 1) := by decide +kernel
theorem dX1_keepDegree_13 : decode cX1_keepDegree 13 = .ok (.getfield 9, 3) := by decide +kernel
theorem dX1_keepDegree_16 : decode cX1_keepDegree 16 = .ok (.iconst 1, 1) := by decide +kernel
theorem dX1_keepDegree_17 : decode cX1_keepDegree 17 = .ok (.iaload, 1) := by decide +kernel
theorem dX1_keepDegree_18 : decode cX1_keepDegree 18 = .ok (.iadd, 1) := by decide +kernel
theorem dX1_keepDegree_19 : decode cX1_keepDegree 19 = .ok (.iastore, 1) := by decide +kernel
theorem dX1_keepDegree_20 : decode cX1_keepDegree 20 = .ok (.aload_n 0, 1) := by decide +kernel
theorem dX1_keepDegree_21 : decode cX1_keepDegree 21 = .ok (.dup, 1) := by decide +kernel
theorem dX1_keepDegree_22 : decode cX1_keepDegree 22 = .ok (.getfield 76, 3) := by decide +kernel
theorem dX1_keepDegree_25 : decode cX1_keepDegree 25 = .ok (.aload_n 0, 1) := by decide +kernel
theorem dX1_keepDegree_26 : decode cX1_keepDegree 26 = .ok (.getfield 9, 3) := by decide +kernel
theorem dX1_keepDegree_29 : decode cX1_keepDegree 29 = .ok (.iconst 1, 1) := by decide +kernel
theorem dX1_keepDegree_30 : decode cX1_keepDegree 30 = .ok (.iaload, 1) := by decide +kernel
theorem dX1_keepDegree_31 : decode cX1_keepDegree 31 = .ok (.iadd, 1) := by decide +kernel
theorem dX1_keepDegree_32 : decode cX1_keepDegree 32 = .ok (.putfield 76, 3) := by decide +kernel
theorem dX1_keepDegree_35 : decode cX1_keepDegree 35 = .ok (.aload_n 0, 1) := by decide +kernel
theorem dX1_keepDegree_36 : decode cX1_keepDegree 36 = .ok (.dup, 1) := by decide +kernel
theorem dX1_keepDegree_37 : decode cX1_keepDegree 37 = .ok (.getfield 73, 3) := by decide +kernel
theorem dX1_keepDegree_40 : decode cX1_keepDegree 40 = .ok (.iconst 1, 1) := by decide +kernel
theorem dX1_keepDegree_41 : decode cX1_keepDegree 41 = .ok (.iadd, 1) := by decide +kernel
theorem dX1_keepDegree_42 : decode cX1_keepDegree 42 = .ok (.putfield 73, 3) := by decide +kernel
theorem dX1_keepDegree_45 : decode cX1_keepDegree 45 = .ok (.return_, 1) := by decide +kernel
theorem dX1_fitsTogether_0 : decode cX1_fitsTogether 0 = .ok (.iconst 0, 1) := by decide +kernel
theorem dX1_fitsTogether_1 : decode cX1_fitsTogether 1 = .ok (.istore_n 1, 1) := by decide +kernel
theorem dX1_fitsTogether_2 : decode cX1_fitsTogether 2 = .ok (.iload_n 1, 1) := by decide +kernel
theorem dX1_fitsTogether_3 : decode cX1_fitsTogether 3 = .ok (.aload_n 0, 1) := by decide +kernel
theorem dX1_fitsTogether_4 : decode cX1_fitsTogether 4 = .ok (.getfield 40, 3) := by decide +kernel
theorem dX1_fitsTogether_7 : decode cX1_fitsTogether 7 = .ok (.if_icmp .ge 91, 3) := by decide +kernel
theorem dX1_fitsTogether_10 : decode cX1_fitsTogether 10 = .ok (.aload_n 0, 1) := by decide +kernel
theorem dX1_fitsTogether_11 : decode cX1_fitsTogether 11 = .ok (.getfield 21, 3) := by decide +kernel
theorem dX1_fitsTogether_14 : decode cX1_fitsTogether 14 = .ok (.iload_n 1, 1) := by decide +kernel
theorem dX1_fitsTogether_15 : decode cX1_fitsTogether 15 = .ok (.iaload, 1) := by decide +kernel
theorem dX1_fitsTogether_16 : decode cX1_fitsTogether 16 = .ok (.iconst 1, 1) := by decide +kernel
theorem dX1_fitsTogether_17 : decode cX1_fitsTogether 17 = .ok (.iadd, 1) := by decide +kernel
theorem dX1_fitsTogether_18 : decode cX1_fitsTogether 18 = .ok (.aload_n 0, 1) := by decide +kernel
theorem dX1_fitsTogether_19 : decode cX1_fitsTogether 19 = .ok (.getfield 37, 3) := by decide +kernel
theorem dX1_fitsTogether_22 : decode cX1_fitsTogether 22 = .ok (.if_icmp .ge 7, 3) := by decide +kernel
theorem dX1_fitsTogether_25 : decode cX1_fitsTogether 25 = .ok (.iconst 1, 1) := by decide +kernel
theorem dX1_fitsTogether_26 : decode cX1_fitsTogether 26 = .ok (.goto 4, 3) := by decide +kernel
theorem dX1_fitsTogether_29 : decode cX1_fitsTogether 29 = .ok (.iconst 0, 1) := by decide +kernel
theorem dX1_fitsTogether_30 : decode cX1_fitsTogether 30 = .ok (.istore_n 2, 1) := by decide +kernel
theorem dX1_fitsTogether_31 : decode cX1_fitsTogether 31 = .ok (.aload_n 0, 1) := by decide +kernel
theorem dX1_fitsTogether_32 : decode cX1_fitsTogether 32 = .ok (.getfield 21, 3) := by decide +kernel
theorem dX1_fitsTogether_35 : decode cX1_fitsTogether 35 = .ok (.iload_n 1, 1) := by decide +kernel
theorem dX1_fitsTogether_36 : decode cX1_fitsTogether 36 = .ok (.iaload, 1) := by decide +kernel
theorem dX1_fitsTogether_37 : decode cX1_fitsTogether 37 = .ok (.aload_n 0, 1) := by decide +kernel
theorem dX1_fitsTogether_38 : decode cX1_fitsTogether 38 = .ok (.getfield 37, 3) := by decide +kernel
theorem dX1_fitsTogether_41 : decode cX1_fitsTogether 41 = .ok (.if_icmp .ge 17, 3) := by decide +kernel
theorem dX1_fitsTogether_44 : decode cX1_fitsTogether 44 = .ok (.aload_n 0, 1) := by decide +kernel
theorem dX1_fitsTogether_45 : decode cX1_fitsTogether 45 = .ok (.getfield 24, 3) := by decide +kernel
theorem dX1_fitsTogether_48 : decode cX1_fitsTogether 48 = .ok (.iload_n 1, 1) := by decide +kernel
theorem dX1_fitsTogether_49 : decode cX1_fitsTogether 49 = .ok (.iaload, 1) := by decide +kernel
theorem dX1_fitsTogether_50 : decode cX1_fitsTogether 50 = .ok (.aload_n 0, 1) := by decide +kernel
theorem dX1_fitsTogether_51 : decode cX1_fitsTogether 51 = .ok (.getfield 33, 3) := by decide +kernel
theorem dX1_fitsTogether_54 : decode cX1_fitsTogether 54 = .ok (.ishr, 1) := by decide +kernel
theorem dX1_fitsTogether_55 : decode cX1_fitsTogether 55 = .ok (.ifCond .eq 5, 3) := by decide +kernel
theorem dX1_fitsTogether_58 : decode cX1_fitsTogether 58 = .ok (.iconst 0, 1) := by decide +kernel
theorem dX1_fitsTogether_59 : decode cX1_fitsTogether 59 = .ok (.ireturn, 1) := by decide +kernel
theorem dX1_fitsTogether_60 : decode cX1_fitsTogether 60 = .ok (.iload_n 2, 1) := by decide +kernel
theorem dX1_fitsTogether_61 : decode cX1_fitsTogether 61 = .ok (.ifCond .eq 20, 3) := by decide +kernel
theorem dX1_fitsTogether_64 : decode cX1_fitsTogether 64 = .ok (.aload_n 0, 1) := by decide +kernel
theorem dX1_fitsTogether_65 : decode cX1_fitsTogether 65 = .ok (.getfield 27, 3) := by decide +kernel
theorem dX1_fitsTogether_68 : decode cX1_fitsTogether 68 = .ok (.iload_n 1, 1) := by decide +kernel
theorem dX1_fitsTogether_69 : decode cX1_fitsTogether 69 = .ok (.iaload, 1) := by decide +kernel
theorem dX1_fitsTogether_70 : decode cX1_fitsTogether 70 = .ok (.aload_n 0, 1) := by decide +kernel
theorem dX1_fitsTogether_71 : decode cX1_fitsTogether 71 = .ok (.getfield 33, 3) := by decide +kernel
theorem dX1_fitsTogether_74 : decode cX1_fitsTogether 74 = .ok (.ishr, 1) := by decide +kernel
theorem dX1_fitsTogether_75 : decode cX1_fitsTogether 75 = .ok (.ifCond .eq 17, 3) := by decide +kernel
theorem dX1_fitsTogether_78 : decode cX1_fitsTogether 78 = .ok (.goto 12, 3) := by decide +kernel
theorem dX1_fitsTogether_81 : decode cX1_fitsTogether 81 = .ok (.aload_n 0, 1) := by decide +kernel
theorem dX1_fitsTogether_82 : decode cX1_fitsTogether 82 = .ok (.getfield 27, 3) := by decide +kernel
theorem dX1_fitsTogether_85 : decode cX1_fitsTogether 85 = .ok (.iload_n 1, 1) := by decide +kernel
theorem dX1_fitsTogether_86 : decode cX1_fitsTogether 86 = .ok (.iaload, 1) := by decide +kernel
theorem dX1_fitsTogether_87 : decode cX1_fitsTogether 87 = .ok (.ifCond .eq 5, 3) := by decide +kernel
theorem dX1_fitsTogether_90 : decode cX1_fitsTogether 90 = .ok (.iconst 0, 1) := by decide +kernel
theorem dX1_fitsTogether_91 : decode cX1_fitsTogether 91 = .ok (.ireturn, 1) := by decide +kernel
theorem dX1_fitsTogether_92 : decode cX1_fitsTogether 92 = .ok (.iinc 1 1, 3) := by decide +kernel
theorem dX1_fitsTogether_95 : decode cX1_fitsTogether 95 = .ok (.goto (-93), 3) := by decide +kernel
theorem dX1_fitsTogether_98 : decode cX1_fitsTogether 98 = .ok (.aload_n 0, 1) := by decide +kernel
theorem dX1_fitsTogether_99 : decode cX1_fitsTogether 99 = .ok (.getfield 40, 3) := by decide +kernel
theorem dX1_fitsTogether_102 : decode cX1_fitsTogether 102 = .ok (.ifCond .le 7, 3) := by decide +kernel
theorem dX1_fitsTogether_105 : decode cX1_fitsTogether 105 = .ok (.iconst 1, 1) := by decide +kernel
theorem dX1_fitsTogether_106 : decode cX1_fitsTogether 106 = .ok (.goto 4, 3) := by decide +kernel
theorem dX1_fitsTogether_109 : decode cX1_fitsTogether 109 = .ok (.iconst 0, 1) := by decide +kernel
theorem dX1_fitsTogether_110 : decode cX1_fitsTogether 110 = .ok (.ireturn, 1) := by decide +kernel
theorem dX2_init_0 : decode cX2_init 0 = .ok (.aload_n 0, 1) := by decide +kernel
theorem dX2_init_1 : decode cX2_init 1 = .ok (.invokespecial 3, 3) := by decide +kernel
theorem dX2_init_4 : decode cX2_init 4 = .ok (.aload_n 0, 1) := by decide +kernel
theorem dX2_init_5 : decode cX2_init 5 = .ok (.new 9, 3) := by decide +kernel
theorem dX2_init_8 : decode cX2_init 8 = .ok (.dup, 1) := by decide +kernel
theorem dX2_init_9 : decode cX2_init 9 = .ok (.invokespecial 11, 3) := by decide +kernel
theorem dX2_init_12 : decode cX2_init 12 = .ok (.putfield 12, 3) := by decide +kernel
theorem dX2_init_15 : decode cX2_init 15 = .ok (.aload_n 0, 1) := by decide +kernel
theorem dX2_init_16 : decode cX2_init 16 = .ok (.aload_n 1, 1) := by decide +kernel
theorem dX2_init_17 : decode cX2_init 17 = .ok (.putfield 18, 3) := by decide +kernel
theorem dX2_init_20 : decode cX2_init 20 = .ok (.aload_n 0, 1) := by decide +kernel
theorem dX2_init_21 : decode cX2_init 21 = .ok (.aload_n 2, 1) := by decide +kernel
theorem dX2_init_22 : decode cX2_init 22 = .ok (.putfield 22, 3) := by decide +kernel
theorem dX2_init_25 : decode cX2_init 25 = .ok (.return_, 1) := by decide +kernel
theorem dX2_loggedUser_0 : decode cX2_loggedUser 0 = .ok (.iload_n 0, 1) := by decide +kernel
theorem dX2_loggedUser_1 : decode cX2_loggedUser 1 = .ok (.tableswitch 55 0 7 #[47, 49, 55, 55, 55, 51, 55, 53], 47) := by decide +kernel
theorem dX2_loggedUser_48 : decode cX2_loggedUser 48 = .ok (.iload_n 3, 1) := by decide +kernel
theorem dX2_loggedUser_49 : decode cX2_loggedUser 49 = .ok (.ireturn, 1) := by decide +kernel
theorem dX2_loggedUser_50 : decode cX2_loggedUser 50 = .ok (.iconst (-1), 1) := by decide +kernel
theorem dX2_loggedUser_51 : decode cX2_loggedUser 51 = .ok (.ireturn, 1) := by decide +kernel
theorem dX2_loggedUser_52 : decode cX2_loggedUser 52 = .ok (.iconst (-1), 1) := by decide +kernel
theorem dX2_loggedUser_53 : decode cX2_loggedUser 53 = .ok (.ireturn, 1) := by decide +kernel
theorem dX2_loggedUser_54 : decode cX2_loggedUser 54 = .ok (.iload_n 2, 1) := by decide +kernel
theorem dX2_loggedUser_55 : decode cX2_loggedUser 55 = .ok (.ireturn, 1) := by decide +kernel
theorem dX2_loggedUser_56 : decode cX2_loggedUser 56 = .ok (.iload_n 1, 1) := by decide +kernel
theorem dX2_loggedUser_57 : decode cX2_loggedUser 57 = .ok (.ireturn, 1) := by decide +kernel
theorem dX2_refusalOf_0 : decode cX2_refusalOf 0 = .ok (.aload_n 0, 1) := by decide +kernel
theorem dX2_refusalOf_1 : decode cX2_refusalOf 1 = .ok (.getfield 18, 3) := by decide +kernel
theorem dX2_refusalOf_4 : decode cX2_refusalOf 4 = .ok (.getfield 26, 3) := by decide +kernel
theorem dX2_refusalOf_7 : decode cX2_refusalOf 7 = .ok (.ifCond .ne 5, 3) := by decide +kernel
theorem dX2_refusalOf_10 : decode cX2_refusalOf 10 = .ok (.iconst 0, 1) := by decide +kernel
theorem dX2_refusalOf_11 : decode cX2_refusalOf 11 = .ok (.ireturn, 1) := by decide +kernel
theorem dX2_refusalOf_12 : decode cX2_refusalOf 12 = .ok (.iload_n 2, 1) := by decide +kernel
theorem dX2_refusalOf_13 : decode cX2_refusalOf 13 = .ok (.tableswitch 94 0 7 #[47, 47, 94, 94, 94, 78, 94, 85], 47) := by decide +kernel
theorem dX2_refusalOf_60 : decode cX2_refusalOf 60 = .ok (.aload_n 0, 1) := by decide +kernel
theorem dX2_refusalOf_61 : decode cX2_refusalOf 61 = .ok (.getfield 22, 3) := by decide +kernel
theorem dX2_refusalOf_64 : decode cX2_refusalOf 64 = .ok (.aload_n 1, 1) := by decide +kernel
theorem dX2_refusalOf_65 : decode cX2_refusalOf 65 = .ok (.invokevirtual 32, 3) := by decide +kernel
theorem dX2_refusalOf_68 : decode cX2_refusalOf 68 = .ok (.aload_n 0, 1) := by decide +kernel
theorem dX2_refusalOf_69 : decode cX2_refusalOf 69 = .ok (.getfield 22, 3) := by decide +kernel
theorem dX2_refusalOf_72 : decode cX2_refusalOf 72 = .ok (.aload_n 0, 1) := by decide +kernel
theorem dX2_refusalOf_73 : decode cX2_refusalOf 73 = .ok (.getfield 22, 3) := by decide +kernel
theorem dX2_refusalOf_76 : decode cX2_refusalOf 76 = .ok (.getfield 38, 3) := by decide +kernel
theorem dX2_refusalOf_79 : decode cX2_refusalOf 79 = .ok (.invokevirtual 41, 3) := by decide +kernel
theorem dX2_refusalOf_82 : decode cX2_refusalOf 82 = .ok (.ifCond .ne 7, 3) := by decide +kernel
theorem dX2_refusalOf_85 : decode cX2_refusalOf 85 = .ok (.iconst 2, 1) := by decide +kernel
theorem dX2_refusalOf_86 : decode cX2_refusalOf 86 = .ok (.goto 4, 3) := by decide +kernel
theorem dX2_refusalOf_89 : decode cX2_refusalOf 89 = .ok (.iconst (-1), 1) := by decide +kernel
theorem dX2_refusalOf_90 : decode cX2_refusalOf 90 = .ok (.ireturn, 1) := by decide +kernel
theorem dX2_refusalOf_91 : decode cX2_refusalOf 91 = .ok (.aload_n 0, 1) := by decide +kernel
theorem dX2_refusalOf_92 : decode cX2_refusalOf 92 = .ok (.aload_n 1, 1) := by decide +kernel
theorem dX2_refusalOf_93 : decode cX2_refusalOf 93 = .ok (.iload_n 3, 1) := by decide +kernel
theorem dX2_refusalOf_94 : decode cX2_refusalOf 94 = .ok (.invokevirtual 45, 3) := by decide +kernel
theorem dX2_refusalOf_97 : decode cX2_refusalOf 97 = .ok (.ireturn, 1) := by decide +kernel
theorem dX2_refusalOf_98 : decode cX2_refusalOf 98 = .ok (.aload_n 0, 1) := by decide +kernel
theorem dX2_refusalOf_99 : decode cX2_refusalOf 99 = .ok (.aload_n 1, 1) := by decide +kernel
theorem dX2_refusalOf_100 : decode cX2_refusalOf 100 = .ok (.iload_n 3, 1) := by decide +kernel
theorem dX2_refusalOf_101 : decode cX2_refusalOf 101 = .ok (.iload 4, 2) := by decide +kernel
theorem dX2_refusalOf_103 : decode cX2_refusalOf 103 = .ok (.invokevirtual 49, 3) := by decide +kernel
theorem dX2_refusalOf_106 : decode cX2_refusalOf 106 = .ok (.ireturn, 1) := by decide +kernel
theorem dX2_refusalOf_107 : decode cX2_refusalOf 107 = .ok (.aload_n 0, 1) := by decide +kernel
theorem dX2_refusalOf_108 : decode cX2_refusalOf 108 = .ok (.aload_n 1, 1) := by decide +kernel
theorem dX2_refusalOf_109 : decode cX2_refusalOf 109 = .ok (.iload_n 2, 1) := by decide +kernel
theorem dX2_refusalOf_110 : decode cX2_refusalOf 110 = .ok (.iload_n 3, 1) := by decide +kernel
theorem dX2_refusalOf_111 : decode cX2_refusalOf 111 = .ok (.iload 4, 2) := by decide +kernel
theorem dX2_refusalOf_113 : decode cX2_refusalOf 113 = .ok (.invokevirtual 53, 3) := by decide +kernel
theorem dX2_refusalOf_116 : decode cX2_refusalOf 116 = .ok (.ireturn, 1) := by decide +kernel
theorem dX2_refusalOfUserAct_0 : decode cX2_refusalOfUserAct 0 = .ok (.aload_n 0, 1) := by decide +kernel
theorem dX2_refusalOfUserAct_1 : decode cX2_refusalOfUserAct 1 = .ok (.iload_n 3, 1) := by decide +kernel
theorem dX2_refusalOfUserAct_2 : decode cX2_refusalOfUserAct 2 = .ok (.invokevirtual 57, 3) := by decide +kernel
theorem dX2_refusalOfUserAct_5 : decode cX2_refusalOfUserAct 5 = .ok (.ifCond .eq 5, 3) := by decide +kernel
theorem dX2_refusalOfUserAct_8 : decode cX2_refusalOfUserAct 8 = .ok (.iconst 0, 1) := by decide +kernel
theorem dX2_refusalOfUserAct_9 : decode cX2_refusalOfUserAct 9 = .ok (.ireturn, 1) := by decide +kernel
theorem dX2_refusalOfUserAct_10 : decode cX2_refusalOfUserAct 10 = .ok (.iload_n 2, 1) := by decide +kernel
theorem dX2_refusalOfUserAct_11 : decode cX2_refusalOfUserAct 11 = .ok (.tableswitch 87 2 6 #[33, 48, 63, 87, 71], 33) := by decide +kernel
theorem dX2_refusalOfUserAct_44 : decode cX2_refusalOfUserAct 44 = .ok (.aload_n 1, 1) := by decide +kernel
theorem dX2_refusalOfUserAct_45 : decode cX2_refusalOfUserAct 45 = .ok (.getfield 61, 3) := by decide +kernel
theorem dX2_refusalOfUserAct_48 : decode cX2_refusalOfUserAct 48 = .ok (.iload_n 3, 1) := by decide +kernel
theorem dX2_refusalOfUserAct_49 : decode cX2_refusalOfUserAct 49 = .ok (.iaload, 1) := by decide +kernel
theorem dX2_refusalOfUserAct_50 : decode cX2_refusalOfUserAct 50 = .ok (.ifCond .ne 7, 3) := by decide +kernel
theorem dX2_refusalOfUserAct_53 : decode cX2_refusalOfUserAct 53 = .ok (.iconst (-1), 1) := by decide +kernel
theorem dX2_refusalOfUserAct_54 : decode cX2_refusalOfUserAct 54 = .ok (.goto 4, 3) := by decide +kernel
theorem dX2_refusalOfUserAct_57 : decode cX2_refusalOfUserAct 57 = .ok (.iconst 2, 1) := by decide +kernel
theorem dX2_refusalOfUserAct_58 : decode cX2_refusalOfUserAct 58 = .ok (.ireturn, 1) := by decide +kernel
theorem dX2_refusalOfUserAct_59 : decode cX2_refusalOfUserAct 59 = .ok (.aload_n 1, 1) := by decide +kernel
theorem dX2_refusalOfUserAct_60 : decode cX2_refusalOfUserAct 60 = .ok (.getfield 61, 3) := by decide +kernel
theorem dX2_refusalOfUserAct_63 : decode cX2_refusalOfUserAct 63 = .ok (.iload_n 3, 1) := by decide +kernel
theorem dX2_refusalOfUserAct_64 : decode cX2_refusalOfUserAct 64 = .ok (.iaload, 1) := by decide +kernel
theorem dX2_refusalOfUserAct_65 : decode cX2_refusalOfUserAct 65 = .ok (.ifCond .ne 7, 3) := by decide +kernel
theorem dX2_refusalOfUserAct_68 : decode cX2_refusalOfUserAct 68 = .ok (.iconst 2, 1) := by decide +kernel
theorem dX2_refusalOfUserAct_69 : decode cX2_refusalOfUserAct 69 = .ok (.goto 4, 3) := by decide +kernel
theorem dX2_refusalOfUserAct_72 : decode cX2_refusalOfUserAct 72 = .ok (.iconst (-1), 1) := by decide +kernel
theorem dX2_refusalOfUserAct_73 : decode cX2_refusalOfUserAct 73 = .ok (.ireturn, 1) := by decide +kernel
theorem dX2_refusalOfUserAct_74 : decode cX2_refusalOfUserAct 74 = .ok (.aload_n 0, 1) := by decide +kernel
theorem dX2_refusalOfUserAct_75 : decode cX2_refusalOfUserAct 75 = .ok (.iload_n 3, 1) := by decide +kernel
theorem dX2_refusalOfUserAct_76 : decode cX2_refusalOfUserAct 76 = .ok (.iload 4, 2) := by decide +kernel
theorem dX2_refusalOfUserAct_78 : decode cX2_refusalOfUserAct 78 = .ok (.invokevirtual 67, 3) := by decide +kernel
theorem dX2_refusalOfUserAct_81 : decode cX2_refusalOfUserAct 81 = .ok (.ireturn, 1) := by decide +kernel
theorem dX2_refusalOfUserAct_82 : decode cX2_refusalOfUserAct 82 = .ok (.aload_n 0, 1) := by decide +kernel
theorem dX2_refusalOfUserAct_83 : decode cX2_refusalOfUserAct 83 = .ok (.getfield 18, 3) := by decide +kernel
theorem dX2_refusalOfUserAct_86 : decode cX2_refusalOfUserAct 86 = .ok (.getfield 71, 3) := by decide +kernel
theorem dX2_refusalOfUserAct_89 : decode cX2_refusalOfUserAct 89 = .ok (.ifCond .ne 7, 3) := by decide +kernel
theorem dX2_refusalOfUserAct_92 : decode cX2_refusalOfUserAct 92 = .ok (.iconst 2, 1) := by decide +kernel
theorem dX2_refusalOfUserAct_93 : decode cX2_refusalOfUserAct 93 = .ok (.goto 4, 3) := by decide +kernel
theorem dX2_refusalOfUserAct_96 : decode cX2_refusalOfUserAct 96 = .ok (.iconst (-1), 1) := by decide +kernel
theorem dX2_refusalOfUserAct_97 : decode cX2_refusalOfUserAct 97 = .ok (.ireturn, 1) := by decide +kernel
theorem dX2_refusalOfUserAct_98 : decode cX2_refusalOfUserAct 98 = .ok (.aload_n 0, 1) := by decide +kernel
theorem dX2_refusalOfUserAct_99 : decode cX2_refusalOfUserAct 99 = .ok (.aload_n 1, 1) := by decide +kernel
theorem dX2_refusalOfUserAct_100 : decode cX2_refusalOfUserAct 100 = .ok (.iload_n 3, 1) := by decide +kernel
theorem dX2_refusalOfUserAct_101 : decode cX2_refusalOfUserAct 101 = .ok (.iload 4, 2) := by decide +kernel
theorem dX2_refusalOfUserAct_103 : decode cX2_refusalOfUserAct 103 = .ok (.invokevirtual 74, 3) := by decide +kernel
theorem dX2_refusalOfUserAct_106 : decode cX2_refusalOfUserAct 106 = .ok (.ireturn, 1) := by decide +kernel
theorem dX2_noUser_0 : decode cX2_noUser 0 = .ok (.iload_n 1, 1) := by decide +kernel
theorem dX2_noUser_1 : decode cX2_noUser 1 = .ok (.ifCond .lt 14, 3) := by decide +kernel
theorem dX2_noUser_4 : decode cX2_noUser 4 = .ok (.iload_n 1, 1) := by decide +kernel
theorem dX2_noUser_5 : decode cX2_noUser 5 = .ok (.aload_n 0, 1) := by decide +kernel
theorem dX2_noUser_6 : decode cX2_noUser 6 = .ok (.getfield 18, 3) := by decide +kernel
theorem dX2_noUser_9 : decode cX2_noUser 9 = .ok (.getfield 26, 3) := by decide +kernel
theorem dX2_noUser_12 : decode cX2_noUser 12 = .ok (.if_icmp .lt 7, 3) := by decide +kernel
theorem dX2_noUser_15 : decode cX2_noUser 15 = .ok (.iconst 1, 1) := by decide +kernel
theorem dX2_noUser_16 : decode cX2_noUser 16 = .ok (.goto 4, 3) := by decide +kernel
theorem dX2_noUser_19 : decode cX2_noUser 19 = .ok (.iconst 0, 1) := by decide +kernel
theorem dX2_noUser_20 : decode cX2_noUser 20 = .ok (.ireturn, 1) := by decide +kernel
theorem dX2_refusalOfCapture_0 : decode cX2_refusalOfCapture 0 = .ok (.iload_n 2, 1) := by decide +kernel
theorem dX2_refusalOfCapture_1 : decode cX2_refusalOfCapture 1 = .ok (.ifCond .lt 9, 3) := by decide +kernel
theorem dX2_refusalOfCapture_4 : decode cX2_refusalOfCapture 4 = .ok (.iload_n 2, 1) := by decide +kernel
theorem dX2_refusalOfCapture_5 : decode cX2_refusalOfCapture 5 = .ok (.bipush 99, 2) := by decide +kernel
theorem dX2_refusalOfCapture_7 : decode cX2_refusalOfCapture 7 = .ok (.if_icmp .le 5, 3) := by decide +kernel
theorem dX2_refusalOfCapture_10 : decode cX2_refusalOfCapture 10 = .ok (.iconst 1, 1) := by decide +kernel
theorem dX2_refusalOfCapture_11 : decode cX2_refusalOfCapture 11 = .ok (.ireturn, 1) := by decide +kernel
theorem dX2_refusalOfCapture_12 : decode cX2_refusalOfCapture 12 = .ok (.aload_n 1, 1) := by decide +kernel
theorem dX2_refusalOfCapture_13 : decode cX2_refusalOfCapture 13 = .ok (.getfield 77, 3) := by decide +kernel
theorem dX2_refusalOfCapture_16 : decode cX2_refusalOfCapture 16 = .ok (.iload_n 2, 1) := by decide +kernel
theorem dX2_refusalOfCapture_17 : decode cX2_refusalOfCapture 17 = .ok (.if_icmp .ne 7, 3) := by decide +kernel
theorem dX2_refusalOfCapture_20 : decode cX2_refusalOfCapture 20 = .ok (.iconst 2, 1) := by decide +kernel
theorem dX2_refusalOfCapture_21 : decode cX2_refusalOfCapture 21 = .ok (.goto 4, 3) := by decide +kernel
theorem dX2_refusalOfCapture_24 : decode cX2_refusalOfCapture 24 = .ok (.iconst (-1), 1) := by decide +kernel
theorem dX2_refusalOfCapture_25 : decode cX2_refusalOfCapture 25 = .ok (.ireturn, 1) := by decide +kernel
theorem dX2_refusalOfTurn_0 : decode cX2_refusalOfTurn 0 = .ok (.iload_n 2, 1) := by decide +kernel
theorem dX2_refusalOfTurn_1 : decode cX2_refusalOfTurn 1 = .ok (.ifCond .lt 14, 3) := by decide +kernel
theorem dX2_refusalOfTurn_4 : decode cX2_refusalOfTurn 4 = .ok (.iload_n 2, 1) := by decide +kernel
theorem dX2_refusalOfTurn_5 : decode cX2_refusalOfTurn 5 = .ok (.aload_n 0, 1) := by decide +kernel
theorem dX2_refusalOfTurn_6 : decode cX2_refusalOfTurn 6 = .ok (.getfield 18, 3) := by decide +kernel
theorem dX2_refusalOfTurn_9 : decode cX2_refusalOfTurn 9 = .ok (.invokevirtual 80, 3) := by decide +kernel
theorem dX2_refusalOfTurn_12 : decode cX2_refusalOfTurn 12 = .ok (.if_icmp .lt 5, 3) := by decide +kernel
theorem dX2_refusalOfTurn_15 : decode cX2_refusalOfTurn 15 = .ok (.iconst 0, 1) := by decide +kernel
theorem dX2_refusalOfTurn_16 : decode cX2_refusalOfTurn 16 = .ok (.ireturn, 1) := by decide +kernel
theorem dX2_refusalOfTurn_17 : decode cX2_refusalOfTurn 17 = .ok (.iload_n 2, 1) := by decide +kernel
theorem dX2_refusalOfTurn_18 : decode cX2_refusalOfTurn 18 = .ok (.aload_n 0, 1) := by decide +kernel
theorem dX2_refusalOfTurn_19 : decode cX2_refusalOfTurn 19 = .ok (.getfield 18, 3) := by decide +kernel
theorem dX2_refusalOfTurn_22 : decode cX2_refusalOfTurn 22 = .ok (.iload_n 1, 1) := by decide +kernel
theorem dX2_refusalOfTurn_23 : decode cX2_refusalOfTurn 23 = .ok (.invokevirtual 84, 3) := by decide +kernel
theorem dX2_refusalOfTurn_26 : decode cX2_refusalOfTurn 26 = .ok (.if_icmp .lt 15, 3) := by decide +kernel
theorem dX2_refusalOfTurn_29 : decode cX2_refusalOfTurn 29 = .ok (.iload_n 2, 1) := by decide +kernel
theorem dX2_refusalOfTurn_30 : decode cX2_refusalOfTurn 30 = .ok (.aload_n 0, 1) := by decide +kernel
theorem dX2_refusalOfTurn_31 : decode cX2_refusalOfTurn 31 = .ok (.getfield 18, 3) := by decide +kernel
theorem dX2_refusalOfTurn_34 : decode cX2_refusalOfTurn 34 = .ok (.iload_n 1, 1) := by decide +kernel
theorem dX2_refusalOfTurn_35 : decode cX2_refusalOfTurn 35 = .ok (.invokevirtual 87, 3) := by decide +kernel
theorem dX2_refusalOfTurn_38 : decode cX2_refusalOfTurn 38 = .ok (.if_icmp .lt 7, 3) := by decide +kernel
theorem dX2_refusalOfTurn_41 : decode cX2_refusalOfTurn 41 = .ok (.iconst 1, 1) := by decide +kernel
theorem dX2_refusalOfTurn_42 : decode cX2_refusalOfTurn 42 = .ok (.goto 4, 3) := by decide +kernel
theorem dX2_refusalOfTurn_45 : decode cX2_refusalOfTurn 45 = .ok (.iconst (-1), 1) := by decide +kernel
theorem dX2_refusalOfTurn_46 : decode cX2_refusalOfTurn 46 = .ok (.ireturn, 1) := by decide +kernel
theorem dX2_refusalOfFile_0 : decode cX2_refusalOfFile 0 = .ok (.iload_n 2, 1) := by decide +kernel
theorem dX2_refusalOfFile_1 : decode cX2_refusalOfFile 1 = .ok (.ifCond .lt 16, 3) := by decide +kernel
theorem dX2_refusalOfFile_4 : decode cX2_refusalOfFile 4 = .ok (.iload_n 2, 1) := by decide +kernel
theorem dX2_refusalOfFile_5 : decode cX2_refusalOfFile 5 = .ok (.iconst 3, 1) := by decide +kernel
theorem dX2_refusalOfFile_6 : decode cX2_refusalOfFile 6 = .ok (.if_icmp .ge 11, 3) := by decide +kernel
theorem dX2_refusalOfFile_9 : decode cX2_refusalOfFile 9 = .ok (.aload_n 0, 1) := by decide +kernel
theorem dX2_refusalOfFile_10 : decode cX2_refusalOfFile 10 = .ok (.iload_n 3, 1) := by decide +kernel
theorem dX2_refusalOfFile_11 : decode cX2_refusalOfFile 11 = .ok (.invokevirtual 57, 3) := by decide +kernel
theorem dX2_refusalOfFile_14 : decode cX2_refusalOfFile 14 = .ok (.ifCond .eq 5, 3) := by decide +kernel
theorem dX2_refusalOfFile_17 : decode cX2_refusalOfFile 17 = .ok (.iconst 0, 1) := by decide +kernel
theorem dX2_refusalOfFile_18 : decode cX2_refusalOfFile 18 = .ok (.ireturn, 1) := by decide +kernel
theorem dX2_refusalOfFile_19 : decode cX2_refusalOfFile 19 = .ok (.aload_n 1, 1) := by decide +kernel
theorem dX2_refusalOfFile_20 : decode cX2_refusalOfFile 20 = .ok (.getfield 61, 3) := by decide +kernel
theorem dX2_refusalOfFile_23 : decode cX2_refusalOfFile 23 = .ok (.iload_n 3, 1) := by decide +kernel
theorem dX2_refusalOfFile_24 : decode cX2_refusalOfFile 24 = .ok (.iaload, 1) := by decide +kernel
theorem dX2_refusalOfFile_25 : decode cX2_refusalOfFile 25 = .ok (.ifCond .ne 5, 3) := by decide +kernel
theorem dX2_refusalOfFile_28 : decode cX2_refusalOfFile 28 = .ok (.iconst 2, 1) := by decide +kernel
theorem dX2_refusalOfFile_29 : decode cX2_refusalOfFile 29 = .ok (.ireturn, 1) := by decide +kernel
theorem dX2_refusalOfFile_30 : decode cX2_refusalOfFile 30 = .ok (.aload_n 1, 1) := by decide +kernel
theorem dX2_refusalOfFile_31 : decode cX2_refusalOfFile 31 = .ok (.getfield 61, 3) := by decide +kernel
theorem dX2_refusalOfFile_34 : decode cX2_refusalOfFile 34 = .ok (.iload_n 3, 1) := by decide +kernel
theorem dX2_refusalOfFile_35 : decode cX2_refusalOfFile 35 = .ok (.iaload, 1) := by decide +kernel
theorem dX2_refusalOfFile_36 : decode cX2_refusalOfFile 36 = .ok (.iload_n 2, 1) := by decide +kernel
theorem dX2_refusalOfFile_37 : decode cX2_refusalOfFile 37 = .ok (.iconst 1, 1) := by decide +kernel
theorem dX2_refusalOfFile_38 : decode cX2_refusalOfFile 38 = .ok (.iadd, 1) := by decide +kernel
theorem dX2_refusalOfFile_39 : decode cX2_refusalOfFile 39 = .ok (.if_icmp .ne 14, 3) := by decide +kernel
theorem dX2_refusalOfFile_42 : decode cX2_refusalOfFile 42 = .ok (.aload_n 1, 1) := by decide +kernel
theorem dX2_refusalOfFile_43 : decode cX2_refusalOfFile 43 = .ok (.getfield 90, 3) := by decide +kernel
theorem dX2_refusalOfFile_46 : decode cX2_refusalOfFile 46 = .ok (.iload_n 2, 1) := by decide +kernel
theorem dX2_refusalOfFile_47 : decode cX2_refusalOfFile 47 = .ok (.iaload, 1) := by decide +kernel
theorem dX2_refusalOfFile_48 : decode cX2_refusalOfFile 48 = .ok (.bipush 10, 2) := by decide +kernel
theorem dX2_refusalOfFile_50 : decode cX2_refusalOfFile 50 = .ok (.if_icmp .lt 7, 3) := by decide +kernel
theorem dX2_refusalOfFile_53 : decode cX2_refusalOfFile 53 = .ok (.iconst 3, 1) := by decide +kernel
theorem dX2_refusalOfFile_54 : decode cX2_refusalOfFile 54 = .ok (.goto 4, 3) := by decide +kernel
theorem dX2_refusalOfFile_57 : decode cX2_refusalOfFile 57 = .ok (.iconst (-1), 1) := by decide +kernel
theorem dX2_refusalOfFile_58 : decode cX2_refusalOfFile 58 = .ok (.ireturn, 1) := by decide +kernel
theorem dX2_refusalOfSwap_0 : decode cX2_refusalOfSwap 0 = .ok (.aload_n 0, 1) := by decide +kernel
theorem dX2_refusalOfSwap_1 : decode cX2_refusalOfSwap 1 = .ok (.iload_n 3, 1) := by decide +kernel
theorem dX2_refusalOfSwap_2 : decode cX2_refusalOfSwap 2 = .ok (.invokevirtual 57, 3) := by decide +kernel
theorem dX2_refusalOfSwap_5 : decode cX2_refusalOfSwap 5 = .ok (.ifCond .eq 5, 3) := by decide +kernel
theorem dX2_refusalOfSwap_8 : decode cX2_refusalOfSwap 8 = .ok (.iconst 0, 1) := by decide +kernel
theorem dX2_refusalOfSwap_9 : decode cX2_refusalOfSwap 9 = .ok (.ireturn, 1) := by decide +kernel
theorem dX2_refusalOfSwap_10 : decode cX2_refusalOfSwap 10 = .ok (.aload_n 0, 1) := by decide +kernel
theorem dX2_refusalOfSwap_11 : decode cX2_refusalOfSwap 11 = .ok (.getfield 18, 3) := by decide +kernel
theorem dX2_refusalOfSwap_14 : decode cX2_refusalOfSwap 14 = .ok (.getfield 93, 3) := by decide +kernel
theorem dX2_refusalOfSwap_17 : decode cX2_refusalOfSwap 17 = .ok (.iload_n 2, 1) := by decide +kernel
theorem dX2_refusalOfSwap_18 : decode cX2_refusalOfSwap 18 = .ok (.iaload, 1) := by decide +kernel
theorem dX2_refusalOfSwap_19 : decode cX2_refusalOfSwap 19 = .ok (.aload_n 0, 1) := by decide +kernel
theorem dX2_refusalOfSwap_20 : decode cX2_refusalOfSwap 20 = .ok (.getfield 18, 3) := by decide +kernel
theorem dX2_refusalOfSwap_23 : decode cX2_refusalOfSwap 23 = .ok (.getfield 93, 3) := by decide +kernel
theorem dX2_refusalOfSwap_26 : decode cX2_refusalOfSwap 26 = .ok (.iload_n 3, 1) := by decide +kernel
theorem dX2_refusalOfSwap_27 : decode cX2_refusalOfSwap 27 = .ok (.iaload, 1) := by decide +kernel
theorem dX2_refusalOfSwap_28 : decode cX2_refusalOfSwap 28 = .ok (.if_icmp .eq 5, 3) := by decide +kernel
theorem dX2_refusalOfSwap_31 : decode cX2_refusalOfSwap 31 = .ok (.iconst 1, 1) := by decide +kernel
theorem dX2_refusalOfSwap_32 : decode cX2_refusalOfSwap 32 = .ok (.ireturn, 1) := by decide +kernel
theorem dX2_refusalOfSwap_33 : decode cX2_refusalOfSwap 33 = .ok (.aload_n 1, 1) := by decide +kernel
theorem dX2_refusalOfSwap_34 : decode cX2_refusalOfSwap 34 = .ok (.getfield 96, 3) := by decide +kernel
theorem dX2_refusalOfSwap_37 : decode cX2_refusalOfSwap 37 = .ok (.iload_n 2, 1) := by decide +kernel
theorem dX2_refusalOfSwap_38 : decode cX2_refusalOfSwap 38 = .ok (.laload, 1) := by decide +kernel
theorem dX2_refusalOfSwap_39 : decode cX2_refusalOfSwap 39 = .ok (.aload_n 1, 1) := by decide +kernel
theorem dX2_refusalOfSwap_40 : decode cX2_refusalOfSwap 40 = .ok (.getfield 96, 3) := by decide +kernel
theorem dX2_refusalOfSwap_43 : decode cX2_refusalOfSwap 43 = .ok (.iload_n 3, 1) := by decide +kernel
theorem dX2_refusalOfSwap_44 : decode cX2_refusalOfSwap 44 = .ok (.laload, 1) := by decide +kernel
theorem dX2_refusalOfSwap_45 : decode cX2_refusalOfSwap 45 = .ok (.lcmp, 1) := by decide +kernel
theorem dX2_refusalOfSwap_46 : decode cX2_refusalOfSwap 46 = .ok (.ifCond .ne 7, 3) := by decide +kernel
theorem dX2_refusalOfSwap_49 : decode cX2_refusalOfSwap 49 = .ok (.iconst 2, 1) := by decide +kernel
theorem dX2_refusalOfSwap_50 : decode cX2_refusalOfSwap 50 = .ok (.goto 4, 3) := by decide +kernel
theorem dX2_refusalOfSwap_53 : decode cX2_refusalOfSwap 53 = .ok (.iconst (-1), 1) := by decide +kernel
theorem dX2_refusalOfSwap_54 : decode cX2_refusalOfSwap 54 = .ok (.ireturn, 1) := by decide +kernel
theorem dX2_carryOut_0 : decode cX2_carryOut 0 = .ok (.iload_n 2, 1) := by decide +kernel
theorem dX2_carryOut_1 : decode cX2_carryOut 1 = .ok (.tableswitch 116 0 7 #[47, 53, 59, 66, 89, 73, 105, 80], 47) := by decide +kernel
theorem dX2_carryOut_48 : decode cX2_carryOut 48 = .ok (.aload_n 0, 1) := by decide +kernel
theorem dX2_carryOut_49 : decode cX2_carryOut 49 = .ok (.aload_n 1, 1) := by decide +kernel
theorem dX2_carryOut_50 : decode cX2_carryOut 50 = .ok (.invokevirtual 100, 3) := by decide +kernel
theorem dX2_carryOut_53 : decode cX2_carryOut 53 = .ok (.ireturn, 1) := by decide +kernel
theorem dX2_carryOut_54 : decode cX2_carryOut 54 = .ok (.aload_n 0, 1) := by decide +kernel
theorem dX2_carryOut_55 : decode cX2_carryOut 55 = .ok (.aload_n 1, 1) := by decide +kernel
theorem dX2_carryOut_56 : decode cX2_carryOut 56 = .ok (.invokevirtual 104, 3) := by decide +kernel
theorem dX2_carryOut_59 : decode cX2_carryOut 59 = .ok (.ireturn, 1) := by decide +kernel
theorem dX2_carryOut_60 : decode cX2_carryOut 60 = .ok (.aload_n 0, 1) := by decide +kernel
theorem dX2_carryOut_61 : decode cX2_carryOut 61 = .ok (.aload_n 1, 1) := by decide +kernel
theorem dX2_carryOut_62 : decode cX2_carryOut 62 = .ok (.iload_n 3, 1) := by decide +kernel
theorem dX2_carryOut_63 : decode cX2_carryOut 63 = .ok (.invokevirtual 107, 3) := by decide +kernel
theorem dX2_carryOut_66 : decode cX2_carryOut 66 = .ok (.ireturn, 1) := by decide +kernel
theorem dX2_carryOut_67 : decode cX2_carryOut 67 = .ok (.aload_n 0, 1) := by decide +kernel
theorem dX2_carryOut_68 : decode cX2_carryOut 68 = .ok (.aload_n 1, 1) := by decide +kernel
theorem dX2_carryOut_69 : decode cX2_carryOut 69 = .ok (.iload_n 3, 1) := by decide +kernel
theorem dX2_carryOut_70 : decode cX2_carryOut 70 = .ok (.invokevirtual 110, 3) := by decide +kernel
theorem dX2_carryOut_73 : decode cX2_carryOut 73 = .ok (.ireturn, 1) := by decide +kernel
theorem dX2_carryOut_74 : decode cX2_carryOut 74 = .ok (.aload_n 0, 1) := by decide +kernel
theorem dX2_carryOut_75 : decode cX2_carryOut 75 = .ok (.aload_n 1, 1) := by decide +kernel
theorem dX2_carryOut_76 : decode cX2_carryOut 76 = .ok (.iload_n 3, 1) := by decide +kernel
theorem dX2_carryOut_77 : decode cX2_carryOut 77 = .ok (.invokevirtual 113, 3) := by decide +kernel
theorem dX2_carryOut_80 : decode cX2_carryOut 80 = .ok (.ireturn, 1) := by decide +kernel
theorem dX2_carryOut_81 : decode cX2_carryOut 81 = .ok (.aload_n 0, 1) := by decide +kernel
theorem dX2_carryOut_82 : decode cX2_carryOut 82 = .ok (.aload_n 1, 1) := by decide +kernel
theorem dX2_carryOut_83 : decode cX2_carryOut 83 = .ok (.iload_n 3, 1) := by decide +kernel
theorem dX2_carryOut_84 : decode cX2_carryOut 84 = .ok (.iload 4, 2) := by decide +kernel
theorem dX2_carryOut_86 : decode cX2_carryOut 86 = .ok (.invokevirtual 116, 3) := by decide +kernel
theorem dX2_carryOut_89 : decode cX2_carryOut 89 = .ok (.ireturn, 1) := by decide +kernel
theorem dX2_carryOut_90 : decode cX2_carryOut 90 = .ok (.aload_n 1, 1) := by decide +kernel
theorem dX2_carryOut_91 : decode cX2_carryOut 91 = .ok (.getfield 96, 3) := by decide +kernel
theorem dX2_carryOut_94 : decode cX2_carryOut 94 = .ok (.iload_n 3, 1) := by decide +kernel
theorem dX2_carryOut_95 : decode cX2_carryOut 95 = .ok (.dup2, 1) := by decide +kernel
theorem dX2_carryOut_96 : decode cX2_carryOut 96 = .ok (.laload, 1) := by decide +kernel
theorem dX2_carryOut_97 : decode cX2_carryOut 97 = .ok (.lconst 1, 1) := by decide +kernel
theorem dX2_carryOut_98 : decode cX2_carryOut 98 = .ok (.iload 4, 2) := by decide +kernel
theorem dX2_carryOut_100 : decode cX2_carryOut 100 = .ok (.lshl, 1) := by decide +kernel
theorem dX2_carryOut_101 : decode cX2_carryOut 101 = .ok (.lxor, 1) := by decide +kernel
theorem dX2_carryOut_102 : decode cX2_carryOut 102 = .ok (.lastore, 1) := by decide +kernel
theorem dX2_carryOut_103 : decode cX2_carryOut 103 = .ok (.goto 22, 3) := by decide +kernel
theorem dX2_carryOut_106 : decode cX2_carryOut 106 = .ok (.aload_n 0, 1) := by decide +kernel
theorem dX2_carryOut_107 : decode cX2_carryOut 107 = .ok (.aload_n 1, 1) := by decide +kernel
theorem dX2_carryOut_108 : decode cX2_carryOut 108 = .ok (.iload_n 3, 1) := by decide +kernel
theorem dX2_carryOut_109 : decode cX2_carryOut 109 = .ok (.lload 5, 2) := by decide +kernel
theorem dX2_carryOut_111 : decode cX2_carryOut 111 = .ok (.invokevirtual 119, 3) := by decide +kernel
theorem dX2_carryOut_114 : decode cX2_carryOut 114 = .ok (.goto 11, 3) := by decide +kernel
theorem dX2_carryOut_117 : decode cX2_carryOut 117 = .ok (.aload_n 0, 1) := by decide +kernel
theorem dX2_carryOut_118 : decode cX2_carryOut 118 = .ok (.aload_n 1, 1) := by decide +kernel
theorem dX2_carryOut_119 : decode cX2_carryOut 119 = .ok (.iload_n 3, 1) := by decide +kernel
theorem dX2_carryOut_120 : decode cX2_carryOut 120 = .ok (.iload 4, 2) := by decide +kernel
theorem dX2_carryOut_122 : decode cX2_carryOut 122 = .ok (.invokevirtual 123, 3) := by decide +kernel
theorem dX2_carryOut_125 : decode cX2_carryOut 125 = .ok (.aload_n 1, 1) := by decide +kernel
theorem dX2_carryOut_126 : decode cX2_carryOut 126 = .ok (.getfield 96, 3) := by decide +kernel
theorem dX2_carryOut_129 : decode cX2_carryOut 129 = .ok (.iload_n 3, 1) := by decide +kernel
theorem dX2_carryOut_130 : decode cX2_carryOut 130 = .ok (.laload, 1) := by decide +kernel
theorem dX2_carryOut_131 : decode cX2_carryOut 131 = .ok (.invokestatic 127, 3) := by decide +kernel
theorem dX2_carryOut_134 : decode cX2_carryOut 134 = .ok (.ireturn, 1) := by decide +kernel
theorem dX2_stepOn_0 : decode cX2_stepOn 0 = .ok (.aload_n 0, 1) := by decide +kernel
theorem dX2_stepOn_1 : decode cX2_stepOn 1 = .ok (.getfield 22, 3) := by decide +kernel
theorem dX2_stepOn_4 : decode cX2_stepOn 4 = .ok (.aload_n 1, 1) := by decide +kernel
theorem dX2_stepOn_5 : decode cX2_stepOn 5 = .ok (.invokevirtual 32, 3) := by decide +kernel
theorem dX2_stepOn_8 : decode cX2_stepOn 8 = .ok (.iconst 0, 1) := by decide +kernel
theorem dX2_stepOn_9 : decode cX2_stepOn 9 = .ok (.istore_n 2, 1) := by decide +kernel
theorem dX2_stepOn_10 : decode cX2_stepOn 10 = .ok (.iload_n 2, 1) := by decide +kernel
theorem dX2_stepOn_11 : decode cX2_stepOn 11 = .ok (.aload_n 0, 1) := by decide +kernel
theorem dX2_stepOn_12 : decode cX2_stepOn 12 = .ok (.getfield 18, 3) := by decide +kernel
theorem dX2_stepOn_15 : decode cX2_stepOn 15 = .ok (.invokevirtual 80, 3) := by decide +kernel
theorem dX2_stepOn_18 : decode cX2_stepOn 18 = .ok (.if_icmp .ge 50, 3) := by decide +kernel
theorem dX2_stepOn_21 : decode cX2_stepOn 21 = .ok (.aload_n 0, 1) := by decide +kernel
theorem dX2_stepOn_22 : decode cX2_stepOn 22 = .ok (.getfield 22, 3) := by decide +kernel
theorem dX2_stepOn_25 : decode cX2_stepOn 25 = .ok (.iload_n 2, 1) := by decide +kernel
theorem dX2_stepOn_26 : decode cX2_stepOn 26 = .ok (.aload_n 0, 1) := by decide +kernel
theorem dX2_stepOn_27 : decode cX2_stepOn 27 = .ok (.getfield 22, 3) := by decide +kernel
theorem dX2_stepOn_30 : decode cX2_stepOn 30 = .ok (.getfield 38, 3) := by decide +kernel
theorem dX2_stepOn_33 : decode cX2_stepOn 33 = .ok (.invokevirtual 133, 3) := by decide +kernel
theorem dX2_stepOn_36 : decode cX2_stepOn 36 = .ok (.istore_n 3, 1) := by decide +kernel
theorem dX2_stepOn_37 : decode cX2_stepOn 37 = .ok (.iload_n 3, 1) := by decide +kernel
theorem dX2_stepOn_38 : decode cX2_stepOn 38 = .ok (.ifCond .eq 24, 3) := by decide +kernel
theorem dX2_stepOn_41 : decode cX2_stepOn 41 = .ok (.iload_n 3, 1) := by decide +kernel
theorem dX2_stepOn_42 : decode cX2_stepOn 42 = .ok (.invokestatic 136, 3) := by decide +kernel
theorem dX2_stepOn_45 : decode cX2_stepOn 45 = .ok (.istore 4, 2) := by decide +kernel
theorem dX2_stepOn_47 : decode cX2_stepOn 47 = .ok (.aload_n 1, 1) := by decide +kernel
theorem dX2_stepOn_48 : decode cX2_stepOn 48 = .ok (.getfield 61, 3) := by decide +kernel
theorem dX2_stepOn_51 : decode cX2_stepOn 51 = .ok (.iload 4, 2) := by decide +kernel
theorem dX2_stepOn_53 : decode cX2_stepOn 53 = .ok (.aload_n 0, 1) := by decide +kernel
theorem dX2_stepOn_54 : decode cX2_stepOn 54 = .ok (.iload_n 2, 1) := by decide +kernel
theorem dX2_stepOn_55 : decode cX2_stepOn 55 = .ok (.invokevirtual 141, 3) := by decide +kernel
theorem dX2_stepOn_58 : decode cX2_stepOn 58 = .ok (.iastore, 1) := by decide +kernel
theorem dX2_stepOn_59 : decode cX2_stepOn 59 = .ok (.iload 4, 2) := by decide +kernel
theorem dX2_stepOn_61 : decode cX2_stepOn 61 = .ok (.ireturn, 1) := by decide +kernel
theorem dX2_stepOn_62 : decode cX2_stepOn 62 = .ok (.iinc 2 1, 3) := by decide +kernel
theorem dX2_stepOn_65 : decode cX2_stepOn 65 = .ok (.goto (-55), 3) := by decide +kernel
theorem dX2_stepOn_68 : decode cX2_stepOn 68 = .ok (.iconst 0, 1) := by decide +kernel
theorem dX2_stepOn_69 : decode cX2_stepOn 69 = .ok (.ireturn, 1) := by decide +kernel
theorem dX2_wayIn_0 : decode cX2_wayIn 0 = .ok (.aload_n 0, 1) := by decide +kernel
theorem dX2_wayIn_1 : decode cX2_wayIn 1 = .ok (.getfield 22, 3) := by decide +kernel
theorem dX2_wayIn_4 : decode cX2_wayIn 4 = .ok (.getfield 144, 3) := by decide +kernel
theorem dX2_wayIn_7 : decode cX2_wayIn 7 = .ok (.iload_n 1, 1) := by decide +kernel
theorem dX2_wayIn_8 : decode cX2_wayIn 8 = .ok (.iaload, 1) := by decide +kernel
theorem dX2_wayIn_9 : decode cX2_wayIn 9 = .ok (.aload_n 0, 1) := by decide +kernel
theorem dX2_wayIn_10 : decode cX2_wayIn 10 = .ok (.getfield 22, 3) := by decide +kernel
theorem dX2_wayIn_13 : decode cX2_wayIn 13 = .ok (.getfield 38, 3) := by decide +kernel
theorem dX2_wayIn_16 : decode cX2_wayIn 16 = .ok (.iand, 1) := by decide +kernel
theorem dX2_wayIn_17 : decode cX2_wayIn 17 = .ok (.invokestatic 147, 3) := by decide +kernel
theorem dX2_wayIn_20 : decode cX2_wayIn 20 = .ok (.iconst 1, 1) := by decide +kernel
theorem dX2_wayIn_21 : decode cX2_wayIn 21 = .ok (.if_icmp .ne 7, 3) := by decide +kernel
theorem dX2_wayIn_24 : decode cX2_wayIn 24 = .ok (.iconst 1, 1) := by decide +kernel
theorem dX2_wayIn_25 : decode cX2_wayIn 25 = .ok (.goto 4, 3) := by decide +kernel
theorem dX2_wayIn_28 : decode cX2_wayIn 28 = .ok (.iconst 2, 1) := by decide +kernel
theorem dX2_wayIn_29 : decode cX2_wayIn 29 = .ok (.ireturn, 1) := by decide +kernel
theorem dX2_goRound_0 : decode cX2_goRound 0 = .ok (.aload_n 0, 1) := by decide +kernel
theorem dX2_goRound_1 : decode cX2_goRound 1 = .ok (.getfield 22, 3) := by decide +kernel
theorem dX2_goRound_4 : decode cX2_goRound 4 = .ok (.aload_n 1, 1) := by decide +kernel
theorem dX2_goRound_5 : decode cX2_goRound 5 = .ok (.invokevirtual 32, 3) := by decide +kernel
theorem dX2_goRound_8 : decode cX2_goRound 8 = .ok (.iconst 0, 1) := by decide +kernel
theorem dX2_goRound_9 : decode cX2_goRound 9 = .ok (.istore_n 2, 1) := by decide +kernel
theorem dX2_goRound_10 : decode cX2_goRound 10 = .ok (.iconst 0, 1) := by decide +kernel
theorem dX2_goRound_11 : decode cX2_goRound 11 = .ok (.istore_n 3, 1) := by decide +kernel
theorem dX2_goRound_12 : decode cX2_goRound 12 = .ok (.iload_n 3, 1) := by decide +kernel
theorem dX2_goRound_13 : decode cX2_goRound 13 = .ok (.aload_n 0, 1) := by decide +kernel
theorem dX2_goRound_14 : decode cX2_goRound 14 = .ok (.getfield 18, 3) := by decide +kernel
theorem dX2_goRound_17 : decode cX2_goRound 17 = .ok (.invokevirtual 80, 3) := by decide +kernel
theorem dX2_goRound_20 : decode cX2_goRound 20 = .ok (.if_icmp .ge 78, 3) := by decide +kernel
theorem dX2_goRound_23 : decode cX2_goRound 23 = .ok (.aload_n 0, 1) := by decide +kernel
theorem dX2_goRound_24 : decode cX2_goRound 24 = .ok (.getfield 22, 3) := by decide +kernel
theorem dX2_goRound_27 : decode cX2_goRound 27 = .ok (.iload_n 3, 1) := by decide +kernel
theorem dX2_goRound_28 : decode cX2_goRound 28 = .ok (.aload_n 0, 1) := by decide +kernel
theorem dX2_goRound_29 : decode cX2_goRound 29 = .ok (.getfield 22, 3) := by decide +kernel
theorem dX2_goRound_32 : decode cX2_goRound 32 = .ok (.getfield 38, 3) := by decide +kernel
theorem dX2_goRound_35 : decode cX2_goRound 35 = .ok (.invokevirtual 133, 3) := by decide +kernel
theorem dX2_goRound_38 : decode cX2_goRound 38 = .ok (.iload_n 2, 1) := by decide +kernel
theorem dX2_goRound_39 : decode cX2_goRound 39 = .ok (.iconst (-1), 1) := by decide +kernel
theorem dX2_goRound_40 : decode cX2_goRound 40 = .ok (.ixor, 1) := by decide +kernel
theorem dX2_goRound_41 : decode cX2_goRound 41 = .ok (.iand, 1) := by decide +kernel
theorem dX2_goRound_42 : decode cX2_goRound 42 = .ok (.istore 4, 2) := by decide +kernel
theorem dX2_goRound_44 : decode cX2_goRound 44 = .ok (.iconst 0, 1) := by decide +kernel
theorem dX2_goRound_45 : decode cX2_goRound 45 = .ok (.istore 5, 2) := by decide +kernel
theorem dX2_goRound_47 : decode cX2_goRound 47 = .ok (.iload 5, 2) := by decide +kernel
theorem dX2_goRound_49 : decode cX2_goRound 49 = .ok (.aload_n 0, 1) := by decide +kernel
theorem dX2_goRound_50 : decode cX2_goRound 50 = .ok (.getfield 18, 3) := by decide +kernel
theorem dX2_goRound_53 : decode cX2_goRound 53 = .ok (.getfield 26, 3) := by decide +kernel
theorem dX2_goRound_56 : decode cX2_goRound 56 = .ok (.if_icmp .ge 31, 3) := by decide +kernel
theorem dX2_goRound_59 : decode cX2_goRound 59 = .ok (.iload 4, 2) := by decide +kernel
theorem dX2_goRound_61 : decode cX2_goRound 61 = .ok (.iload 5, 2) := by decide +kernel
theorem dX2_goRound_63 : decode cX2_goRound 63 = .ok (.ishr, 1) := by decide +kernel
theorem dX2_goRound_64 : decode cX2_goRound 64 = .ok (.iconst 1, 1) := by decide +kernel
theorem dX2_goRound_65 : decode cX2_goRound 65 = .ok (.iand, 1) := by decide +kernel
theorem dX2_goRound_66 : decode cX2_goRound 66 = .ok (.ifCond .eq 15, 3) := by decide +kernel
theorem dX2_goRound_69 : decode cX2_goRound 69 = .ok (.aload_n 1, 1) := by decide +kernel
theorem dX2_goRound_70 : decode cX2_goRound 70 = .ok (.getfield 61, 3) := by decide +kernel
theorem dX2_goRound_73 : decode cX2_goRound 73 = .ok (.iload 5, 2) := by decide +kernel
theorem dX2_goRound_75 : decode cX2_goRound 75 = .ok (.aload_n 0, 1) := by decide +kernel
theorem dX2_goRound_76 : decode cX2_goRound 76 = .ok (.iload_n 3, 1) := by decide +kernel
theorem dX2_goRound_77 : decode cX2_goRound 77 = .ok (.invokevirtual 141, 3) := by decide +kernel
theorem dX2_goRound_80 : decode cX2_goRound 80 = .ok (.iastore, 1) := by decide +kernel
theorem dX2_goRound_81 : decode cX2_goRound 81 = .ok (.iinc 5 1, 3) := by decide +kernel
theorem dX2_goRound_84 : decode cX2_goRound 84 = .ok (.goto (-37), 3) := by decide +kernel
theorem dX2_goRound_87 : decode cX2_goRound 87 = .ok (.iload_n 2, 1) := by decide +kernel
theorem dX2_goRound_88 : decode cX2_goRound 88 = .ok (.iload 4, 2) := by decide +kernel
theorem dX2_goRound_90 : decode cX2_goRound 90 = .ok (.ior, 1) := by decide +kernel
theorem dX2_goRound_91 : decode cX2_goRound 91 = .ok (.istore_n 2, 1) := by decide +kernel
theorem dX2_goRound_92 : decode cX2_goRound 92 = .ok (.iinc 3 1, 3) := by decide +kernel
theorem dX2_goRound_95 : decode cX2_goRound 95 = .ok (.goto (-83), 3) := by decide +kernel
theorem dX2_goRound_98 : decode cX2_goRound 98 = .ok (.iload_n 2, 1) := by decide +kernel
theorem dX2_goRound_99 : decode cX2_goRound 99 = .ok (.invokestatic 147, 3) := by decide +kernel
theorem dX2_goRound_102 : decode cX2_goRound 102 = .ok (.ireturn, 1) := by decide +kernel
theorem dX2_makeKnown_0 : decode cX2_makeKnown 0 = .ok (.aload_n 1, 1) := by decide +kernel
theorem dX2_makeKnown_1 : decode cX2_makeKnown 1 = .ok (.getfield 61, 3) := by decide +kernel
theorem dX2_makeKnown_4 : decode cX2_makeKnown 4 = .ok (.iload_n 2, 1) := by decide +kernel
theorem dX2_makeKnown_5 : decode cX2_makeKnown 5 = .ok (.iconst 3, 1) := by decide +kernel
theorem dX2_makeKnown_6 : decode cX2_makeKnown 6 = .ok (.iastore, 1) := by decide +kernel
theorem dX2_makeKnown_7 : decode cX2_makeKnown 7 = .ok (.aload_n 1, 1) := by decide +kernel
theorem dX2_makeKnown_8 : decode cX2_makeKnown 8 = .ok (.invokevirtual 149, 3) := by decide +kernel
theorem dX2_makeKnown_11 : decode cX2_makeKnown 11 = .ok (.ireturn, 1) := by decide +kernel
theorem dX2_makeUnknown_0 : decode cX2_makeUnknown 0 = .ok (.aload_n 1, 1) := by decide +kernel
theorem dX2_makeUnknown_1 : decode cX2_makeUnknown 1 = .ok (.getfield 61, 3) := by decide +kernel
theorem dX2_makeUnknown_4 : decode cX2_makeUnknown 4 = .ok (.iload_n 2, 1) := by decide +kernel
theorem dX2_makeUnknown_5 : decode cX2_makeUnknown 5 = .ok (.iaload, 1) := by decide +kernel
theorem dX2_makeUnknown_6 : decode cX2_makeUnknown 6 = .ok (.istore_n 3, 1) := by decide +kernel
theorem dX2_makeUnknown_7 : decode cX2_makeUnknown 7 = .ok (.aload_n 1, 1) := by decide +kernel
theorem dX2_makeUnknown_8 : decode cX2_makeUnknown 8 = .ok (.getfield 61, 3) := by decide +kernel
theorem dX2_makeUnknown_11 : decode cX2_makeUnknown 11 = .ok (.iload_n 2, 1) := by decide +kernel
theorem dX2_makeUnknown_12 : decode cX2_makeUnknown 12 = .ok (.iconst 0, 1) := by decide +kernel
theorem dX2_makeUnknown_13 : decode cX2_makeUnknown 13 = .ok (.iastore, 1) := by decide +kernel
theorem dX2_makeUnknown_14 : decode cX2_makeUnknown 14 = .ok (.iload_n 3, 1) := by decide +kernel
theorem dX2_makeUnknown_15 : decode cX2_makeUnknown 15 = .ok (.ireturn, 1) := by decide +kernel
theorem dX2_setCapture_0 : decode cX2_setCapture 0 = .ok (.aload_n 1, 1) := by decide +kernel
theorem dX2_setCapture_1 : decode cX2_setCapture 1 = .ok (.getfield 77, 3) := by decide +kernel
theorem dX2_setCapture_4 : decode cX2_setCapture 4 = .ok (.istore_n 3, 1) := by decide +kernel
theorem dX2_setCapture_5 : decode cX2_setCapture 5 = .ok (.aload_n 1, 1) := by decide +kernel
theorem dX2_setCapture_6 : decode cX2_setCapture 6 = .ok (.iload_n 2, 1) := by decide +kernel
theorem dX2_setCapture_7 : decode cX2_setCapture 7 = .ok (.putfield 77, 3) := by decide +kernel
theorem dX2_setCapture_10 : decode cX2_setCapture 10 = .ok (.iload_n 3, 1) := by decide +kernel
theorem dX2_setCapture_11 : decode cX2_setCapture 11 = .ok (.ireturn, 1) := by decide +kernel
theorem dX2_putOnShelf_0 : decode cX2_putOnShelf 0 = .ok (.aload_n 1, 1) := by decide +kernel
theorem dX2_putOnShelf_1 : decode cX2_putOnShelf 1 = .ok (.getfield 90, 3) := by decide +kernel
theorem dX2_putOnShelf_4 : decode cX2_putOnShelf 4 = .ok (.iload_n 2, 1) := by decide +kernel
theorem dX2_putOnShelf_5 : decode cX2_putOnShelf 5 = .ok (.iaload, 1) := by decide +kernel
theorem dX2_putOnShelf_6 : decode cX2_putOnShelf 6 = .ok (.istore 4, 2) := by decide +kernel
theorem dX2_putOnShelf_8 : decode cX2_putOnShelf 8 = .ok (.aload_n 1, 1) := by decide +kernel
theorem dX2_putOnShelf_9 : decode cX2_putOnShelf 9 = .ok (.getfield 152, 3) := by decide +kernel
theorem dX2_putOnShelf_12 : decode cX2_putOnShelf 12 = .ok (.iload_n 2, 1) := by decide +kernel
theorem dX2_putOnShelf_13 : decode cX2_putOnShelf 13 = .ok (.bipush 10, 2) := by decide +kernel
theorem dX2_putOnShelf_15 : decode cX2_putOnShelf 15 = .ok (.imul, 1) := by decide +kernel
theorem dX2_putOnShelf_16 : decode cX2_putOnShelf 16 = .ok (.iload 4, 2) := by decide +kernel
theorem dX2_putOnShelf_18 : decode cX2_putOnShelf 18 = .ok (.iadd, 1) := by decide +kernel
theorem dX2_putOnShelf_19 : decode cX2_putOnShelf 19 = .ok (.iload_n 3, 1) := by decide +kernel
theorem dX2_putOnShelf_20 : decode cX2_putOnShelf 20 = .ok (.iastore, 1) := by decide +kernel
theorem dX2_putOnShelf_21 : decode cX2_putOnShelf 21 = .ok (.aload_n 1, 1) := by decide +kernel
theorem dX2_putOnShelf_22 : decode cX2_putOnShelf 22 = .ok (.getfield 90, 3) := by decide +kernel
theorem dX2_putOnShelf_25 : decode cX2_putOnShelf 25 = .ok (.iload_n 2, 1) := by decide +kernel
theorem dX2_putOnShelf_26 : decode cX2_putOnShelf 26 = .ok (.iload 4, 2) := by decide +kernel
theorem dX2_putOnShelf_28 : decode cX2_putOnShelf 28 = .ok (.iconst 1, 1) := by decide +kernel
theorem dX2_putOnShelf_29 : decode cX2_putOnShelf 29 = .ok (.iadd, 1) := by decide +kernel
theorem dX2_putOnShelf_30 : decode cX2_putOnShelf 30 = .ok (.iastore, 1) := by decide +kernel
theorem dX2_putOnShelf_31 : decode cX2_putOnShelf 31 = .ok (.iload 4, 2) := by decide +kernel
theorem dX2_putOnShelf_33 : decode cX2_putOnShelf 33 = .ok (.ireturn, 1) := by decide +kernel
theorem dX2_exchange_0 : decode cX2_exchange 0 = .ok (.aload_n 1, 1) := by decide +kernel
theorem dX2_exchange_1 : decode cX2_exchange 1 = .ok (.getfield 96, 3) := by decide +kernel
theorem dX2_exchange_4 : decode cX2_exchange 4 = .ok (.iload_n 2, 1) := by decide +kernel
theorem dX2_exchange_5 : decode cX2_exchange 5 = .ok (.laload, 1) := by decide +kernel
theorem dX2_exchange_6 : decode cX2_exchange 6 = .ok (.lstore 4, 2) := by decide +kernel
theorem dX2_exchange_8 : decode cX2_exchange 8 = .ok (.aload_n 1, 1) := by decide +kernel
theorem dX2_exchange_9 : decode cX2_exchange 9 = .ok (.getfield 96, 3) := by decide +kernel
theorem dX2_exchange_12 : decode cX2_exchange 12 = .ok (.iload_n 2, 1) := by decide +kernel
theorem dX2_exchange_13 : decode cX2_exchange 13 = .ok (.aload_n 1, 1) := by decide +kernel
theorem dX2_exchange_14 : decode cX2_exchange 14 = .ok (.getfield 96, 3) := by decide +kernel
theorem dX2_exchange_17 : decode cX2_exchange 17 = .ok (.iload_n 3, 1) := by decide +kernel
theorem dX2_exchange_18 : decode cX2_exchange 18 = .ok (.laload, 1) := by decide +kernel
theorem dX2_exchange_19 : decode cX2_exchange 19 = .ok (.lastore, 1) := by decide +kernel
theorem dX2_exchange_20 : decode cX2_exchange 20 = .ok (.aload_n 1, 1) := by decide +kernel
theorem dX2_exchange_21 : decode cX2_exchange 21 = .ok (.getfield 96, 3) := by decide +kernel
theorem dX2_exchange_24 : decode cX2_exchange 24 = .ok (.iload_n 3, 1) := by decide +kernel
theorem dX2_exchange_25 : decode cX2_exchange 25 = .ok (.lload 4, 2) := by decide +kernel
theorem dX2_exchange_27 : decode cX2_exchange 27 = .ok (.lastore, 1) := by decide +kernel
theorem dX2_exchange_28 : decode cX2_exchange 28 = .ok (.return_, 1) := by decide +kernel
theorem dX2_drawAnew_0 : decode cX2_drawAnew 0 = .ok (.aload_n 0, 1) := by decide +kernel
theorem dX2_drawAnew_1 : decode cX2_drawAnew 1 = .ok (.getfield 18, 3) := by decide +kernel
theorem dX2_drawAnew_4 : decode cX2_drawAnew 4 = .ok (.iload_n 2, 1) := by decide +kernel
theorem dX2_drawAnew_5 : decode cX2_drawAnew 5 = .ok (.invokevirtual 84, 3) := by decide +kernel
theorem dX2_drawAnew_8 : decode cX2_drawAnew 8 = .ok (.istore 5, 2) := by decide +kernel
theorem dX2_drawAnew_10 : decode cX2_drawAnew 10 = .ok (.aload_n 0, 1) := by decide +kernel
theorem dX2_drawAnew_11 : decode cX2_drawAnew 11 = .ok (.getfield 18, 3) := by decide +kernel
theorem dX2_drawAnew_14 : decode cX2_drawAnew 14 = .ok (.iload_n 2, 1) := by decide +kernel
theorem dX2_drawAnew_15 : decode cX2_drawAnew 15 = .ok (.invokevirtual 87, 3) := by decide +kernel
theorem dX2_drawAnew_18 : decode cX2_drawAnew 18 = .ok (.iload 5, 2) := by decide +kernel
theorem dX2_drawAnew_20 : decode cX2_drawAnew 20 = .ok (.isub, 1) := by decide +kernel
theorem dX2_drawAnew_21 : decode cX2_drawAnew 21 = .ok (.istore 6, 2) := by decide +kernel
theorem dX2_drawAnew_23 : decode cX2_drawAnew 23 = .ok (.aload_n 0, 1) := by decide +kernel
theorem dX2_drawAnew_24 : decode cX2_drawAnew 24 = .ok (.getfield 12, 3) := by decide +kernel
theorem dX2_drawAnew_27 : decode cX2_drawAnew 27 = .ok (.lload_n 3, 1) := by decide +kernel
theorem dX2_drawAnew_28 : decode cX2_drawAnew 28 = .ok (.invokevirtual 155, 3) := by decide +kernel
theorem dX2_drawAnew_31 : decode cX2_drawAnew 31 = .ok (.aload_n 0, 1) := by decide +kernel
theorem dX2_drawAnew_32 : decode cX2_drawAnew 32 = .ok (.getfield 12, 3) := by decide +kernel
theorem dX2_drawAnew_35 : decode cX2_drawAnew 35 = .ok (.aload_n 0, 1) := by decide +kernel
theorem dX2_drawAnew_36 : decode cX2_drawAnew 36 = .ok (.getfield 18, 3) := by decide +kernel
theorem dX2_drawAnew_39 : decode cX2_drawAnew 39 = .ok (.invokevirtual 159, 3) := by decide +kernel
theorem dX2_drawAnew_42 : decode cX2_drawAnew 42 = .ok (.iload 6, 2) := by decide +kernel
theorem dX2_drawAnew_44 : decode cX2_drawAnew 44 = .ok (.invokestatic 163, 3) := by decide +kernel
theorem dX2_drawAnew_47 : decode cX2_drawAnew 47 = .ok (.istore 7, 2) := by decide +kernel
theorem dX2_drawAnew_49 : decode cX2_drawAnew 49 = .ok (.lconst 0, 1) := by decide +kernel
theorem dX2_drawAnew_50 : decode cX2_drawAnew 50 = .ok (.lstore 8, 2) := by decide +kernel
theorem dX2_drawAnew_52 : decode cX2_drawAnew 52 = .ok (.iconst 0, 1) := by decide +kernel
theorem dX2_drawAnew_53 : decode cX2_drawAnew 53 = .ok (.istore 10, 2) := by decide +kernel
theorem dX2_drawAnew_55 : decode cX2_drawAnew 55 = .ok (.iload 10, 2) := by decide +kernel
theorem dX2_drawAnew_57 : decode cX2_drawAnew 57 = .ok (.iload 7, 2) := by decide +kernel
theorem dX2_drawAnew_59 : decode cX2_drawAnew 59 = .ok (.if_icmp .ge 35, 3) := by decide +kernel
theorem dX2_drawAnew_62 : decode cX2_drawAnew 62 = .ok (.lload 8, 2) := by decide +kernel
theorem dX2_drawAnew_64 : decode cX2_drawAnew 64 = .ok (.lconst 1, 1) := by decide +kernel
theorem dX2_drawAnew_65 : decode cX2_drawAnew 65 = .ok (.lload 8, 2) := by decide +kernel
theorem dX2_drawAnew_67 : decode cX2_drawAnew 67 = .ok (.iload 6, 2) := by decide +kernel
theorem dX2_drawAnew_69 : decode cX2_drawAnew 69 = .ok (.aload_n 0, 1) := by decide +kernel
theorem dX2_drawAnew_70 : decode cX2_drawAnew 70 = .ok (.getfield 12, 3) := by decide +kernel
theorem dX2_drawAnew_73 : decode cX2_drawAnew 73 = .ok (.iload 6, 2) := by decide +kernel
theorem dX2_drawAnew_75 : decode cX2_drawAnew 75 = .ok (.iload 10, 2) := by decide +kernel
theorem dX2_drawAnew_77 : decode cX2_drawAnew 77 = .ok (.isub, 1) := by decide +kernel
theorem dX2_drawAnew_78 : decode cX2_drawAnew 78 = .ok (.invokevirtual 168, 3) := by decide +kernel
theorem dX2_drawAnew_81 : decode cX2_drawAnew 81 = .ok (.invokestatic 171, 3) := by decide +kernel
theorem dX2_drawAnew_84 : decode cX2_drawAnew 84 = .ok (.lshl, 1) := by decide +kernel
theorem dX2_drawAnew_85 : decode cX2_drawAnew 85 = .ok (.lor, 1) := by decide +kernel
theorem dX2_drawAnew_86 : decode cX2_drawAnew 86 = .ok (.lstore 8, 2) := by decide +kernel
theorem dX2_drawAnew_88 : decode cX2_drawAnew 88 = .ok (.iinc 10 1, 3) := by decide +kernel
theorem dX2_drawAnew_91 : decode cX2_drawAnew 91 = .ok (.goto (-36), 3) := by decide +kernel
theorem dX2_drawAnew_94 : decode cX2_drawAnew 94 = .ok (.aload_n 1, 1) := by decide +kernel
theorem dX2_drawAnew_95 : decode cX2_drawAnew 95 = .ok (.getfield 96, 3) := by decide +kernel
theorem dX2_drawAnew_98 : decode cX2_drawAnew 98 = .ok (.iload_n 2, 1) := by decide +kernel
theorem dX2_drawAnew_99 : decode cX2_drawAnew 99 = .ok (.lload 8, 2) := by decide +kernel
theorem dX2_drawAnew_101 : decode cX2_drawAnew 101 = .ok (.iload 5, 2) := by decide +kernel
theorem dX2_drawAnew_103 : decode cX2_drawAnew 103 = .ok (.lshl, 1) := by decide +kernel
theorem dX2_drawAnew_104 : decode cX2_drawAnew 104 = .ok (.lastore, 1) := by decide +kernel
theorem dX2_drawAnew_105 : decode cX2_drawAnew 105 = .ok (.return_, 1) := by decide +kernel
theorem dX2_freePlace_0 : decode cX2_freePlace 0 = .ok (.iload_n 3, 1) := by decide +kernel
theorem dX2_freePlace_1 : decode cX2_freePlace 1 = .ok (.istore 4, 2) := by decide +kernel
theorem dX2_freePlace_3 : decode cX2_freePlace 3 = .ok (.iconst 0, 1) := by decide +kernel
theorem dX2_freePlace_4 : decode cX2_freePlace 4 = .ok (.istore 5, 2) := by decide +kernel
theorem dX2_freePlace_6 : decode cX2_freePlace 6 = .ok (.iload 5, 2) := by decide +kernel
theorem dX2_freePlace_8 : decode cX2_freePlace 8 = .ok (.iload_n 2, 1) := by decide +kernel
theorem dX2_freePlace_9 : decode cX2_freePlace 9 = .ok (.if_icmp .ge 31, 3) := by decide +kernel
theorem dX2_freePlace_12 : decode cX2_freePlace 12 = .ok (.lload_n 0, 1) := by decide +kernel
theorem dX2_freePlace_13 : decode cX2_freePlace 13 = .ok (.iload 5, 2) := by decide +kernel
theorem dX2_freePlace_15 : decode cX2_freePlace 15 = .ok (.lshr, 1) := by decide +kernel
theorem dX2_freePlace_16 : decode cX2_freePlace 16 = .ok (.lconst 1, 1) := by decide +kernel
theorem dX2_freePlace_17 : decode cX2_freePlace 17 = .ok (.land, 1) := by decide +kernel
theorem dX2_freePlace_18 : decode cX2_freePlace 18 = .ok (.lconst 0, 1) := by decide +kernel
theorem dX2_freePlace_19 : decode cX2_freePlace 19 = .ok (.lcmp, 1) := by decide +kernel
theorem dX2_freePlace_20 : decode cX2_freePlace 20 = .ok (.ifCond .ne 14, 3) := by decide +kernel
theorem dX2_freePlace_23 : decode cX2_freePlace 23 = .ok (.iload 4, 2) := by decide +kernel
theorem dX2_freePlace_25 : decode cX2_freePlace 25 = .ok (.ifCond .ne 6, 3) := by decide +kernel
theorem dX2_freePlace_28 : decode cX2_freePlace 28 = .ok (.iload 5, 2) := by decide +kernel
theorem dX2_freePlace_30 : decode cX2_freePlace 30 = .ok (.ireturn, 1) := by decide +kernel
theorem dX2_freePlace_31 : decode cX2_freePlace 31 = .ok (.iinc 4 (-1), 3) := by decide +kernel
theorem dX2_freePlace_34 : decode cX2_freePlace 34 = .ok (.iinc 5 1, 3) := by decide +kernel
theorem dX2_freePlace_37 : decode cX2_freePlace 37 = .ok (.goto (-31), 3) := by decide +kernel
theorem dX2_freePlace_40 : decode cX2_freePlace 40 = .ok (.iconst 0, 1) := by decide +kernel
theorem dX2_freePlace_41 : decode cX2_freePlace 41 = .ok (.ireturn, 1) := by decide +kernel
theorem dX3_init_0 : decode cX3_init 0 = .ok (.aload_n 0, 1) := by decide +kernel
theorem dX3_init_1 : decode cX3_init 1 = .ok (.invokespecial 1, 3) := by decide +kernel
theorem dX3_init_4 : decode cX3_init 4 = .ok (.aload_n 0, 1) := by decide +kernel
theorem dX3_init_5 : decode cX3_init 5 = .ok (.bipush 40, 2) := by decide +kernel
theorem dX3_init_7 : decode cX3_init 7 = .ok (.anewarray 9, 3) := by decide +kernel
theorem dX3_init_10 : decode cX3_init 10 = .ok (.putfield 11, 3) := by decide +kernel
theorem dX3_init_13 : decode cX3_init 13 = .ok (.iconst 0, 1) := by decide +kernel
theorem dX3_init_14 : decode cX3_init 14 = .ok (.istore_n 1, 1) := by decide +kernel
theorem dX3_init_15 : decode cX3_init 15 = .ok (.iload_n 1, 1) := by decide +kernel
theorem dX3_init_16 : decode cX3_init 16 = .ok (.bipush 40, 2) := by decide +kernel
theorem dX3_init_18 : decode cX3_init 18 = .ok (.if_icmp .ge 22, 3) := by decide +kernel
theorem dX3_init_21 : decode cX3_init 21 = .ok (.aload_n 0, 1) := by decide +kernel
theorem dX3_init_22 : decode cX3_init 22 = .ok (.getfield 11, 3) := by decide +kernel
theorem dX3_init_25 : decode cX3_init 25 = .ok (.iload_n 1, 1) := by decide +kernel
theorem dX3_init_26 : decode cX3_init 26 = .ok (.new 9, 3) := by decide +kernel
theorem dX3_init_29 : decode cX3_init 29 = .ok (.dup, 1) := by decide +kernel
theorem dX3_init_30 : decode cX3_init 30 = .ok (.invokespecial 15, 3) := by decide +kernel
theorem dX3_init_33 : decode cX3_init 33 = .ok (.aastore, 1) := by decide +kernel
theorem dX3_init_34 : decode cX3_init 34 = .ok (.iinc 1 1, 3) := by decide +kernel
theorem dX3_init_37 : decode cX3_init 37 = .ok (.goto (-22), 3) := by decide +kernel
theorem dX3_init_40 : decode cX3_init 40 = .ok (.return_, 1) := by decide +kernel
theorem dX3_keep_0 : decode cX3_keep 0 = .ok (.aload_n 0, 1) := by decide +kernel
theorem dX3_keep_1 : decode cX3_keep 1 = .ok (.getfield 11, 3) := by decide +kernel
theorem dX3_keep_4 : decode cX3_keep 4 = .ok (.aload_n 0, 1) := by decide +kernel
theorem dX3_keep_5 : decode cX3_keep 5 = .ok (.getfield 16, 3) := by decide +kernel
theorem dX3_keep_8 : decode cX3_keep 8 = .ok (.aaload, 1) := by decide +kernel
theorem dX3_keep_9 : decode cX3_keep 9 = .ok (.aload_n 1, 1) := by decide +kernel
theorem dX3_keep_10 : decode cX3_keep 10 = .ok (.invokevirtual 20, 3) := by decide +kernel
theorem dX3_keep_13 : decode cX3_keep 13 = .ok (.aload_n 0, 1) := by decide +kernel
theorem dX3_keep_14 : decode cX3_keep 14 = .ok (.aload_n 0, 1) := by decide +kernel
theorem dX3_keep_15 : decode cX3_keep 15 = .ok (.getfield 16, 3) := by decide +kernel
theorem dX3_keep_18 : decode cX3_keep 18 = .ok (.iconst 1, 1) := by decide +kernel
theorem dX3_keep_19 : decode cX3_keep 19 = .ok (.iadd, 1) := by decide +kernel
theorem dX3_keep_20 : decode cX3_keep 20 = .ok (.bipush 40, 2) := by decide +kernel
theorem dX3_keep_22 : decode cX3_keep 22 = .ok (.irem, 1) := by decide +kernel
theorem dX3_keep_23 : decode cX3_keep 23 = .ok (.putfield 16, 3) := by decide +kernel
theorem dX3_keep_26 : decode cX3_keep 26 = .ok (.aload_n 0, 1) := by decide +kernel
theorem dX3_keep_27 : decode cX3_keep 27 = .ok (.aload_n 0, 1) := by decide +kernel
theorem dX3_keep_28 : decode cX3_keep 28 = .ok (.getfield 24, 3) := by decide +kernel
theorem dX3_keep_31 : decode cX3_keep 31 = .ok (.iconst 1, 1) := by decide +kernel
theorem dX3_keep_32 : decode cX3_keep 32 = .ok (.iadd, 1) := by decide +kernel
theorem dX3_keep_33 : decode cX3_keep 33 = .ok (.bipush 40, 2) := by decide +kernel
theorem dX3_keep_35 : decode cX3_keep 35 = .ok (.invokestatic 27, 3) := by decide +kernel
theorem dX3_keep_38 : decode cX3_keep 38 = .ok (.putfield 24, 3) := by decide +kernel
theorem dX3_keep_41 : decode cX3_keep 41 = .ok (.return_, 1) := by decide +kernel
theorem dX3_giveBack_0 : decode cX3_giveBack 0 = .ok (.aload_n 0, 1) := by decide +kernel
theorem dX3_giveBack_1 : decode cX3_giveBack 1 = .ok (.aload_n 0, 1) := by decide +kernel
theorem dX3_giveBack_2 : decode cX3_giveBack 2 = .ok (.getfield 16, 3) := by decide +kernel
theorem dX3_giveBack_5 : decode cX3_giveBack 5 = .ok (.bipush 40, 2) := by decide +kernel
theorem dX3_giveBack_7 : decode cX3_giveBack 7 = .ok (.iadd, 1) := by decide +kernel
theorem dX3_giveBack_8 : decode cX3_giveBack 8 = .ok (.iconst 1, 1) := by decide +kernel
theorem dX3_giveBack_9 : decode cX3_giveBack 9 = .ok (.isub, 1) := by decide +kernel
theorem dX3_giveBack_10 : decode cX3_giveBack 10 = .ok (.bipush 40, 2) := by decide +kernel
theorem dX3_giveBack_12 : decode cX3_giveBack 12 = .ok (.irem, 1) := by decide +kernel
theorem dX3_giveBack_13 : decode cX3_giveBack 13 = .ok (.putfield 16, 3) := by decide +kernel
theorem dX3_giveBack_16 : decode cX3_giveBack 16 = .ok (.aload_n 0, 1) := by decide +kernel
theorem dX3_giveBack_17 : decode cX3_giveBack 17 = .ok (.dup, 1) := by decide +kernel
theorem dX3_giveBack_18 : decode cX3_giveBack 18 = .ok (.getfield 24, 3) := by decide +kernel
theorem dX3_giveBack_21 : decode cX3_giveBack 21 = .ok (.iconst 1, 1) := by decide +kernel
theorem dX3_giveBack_22 : decode cX3_giveBack 22 = .ok (.isub, 1) := by decide +kernel
theorem dX3_giveBack_23 : decode cX3_giveBack 23 = .ok (.putfield 24, 3) := by decide +kernel
theorem dX3_giveBack_26 : decode cX3_giveBack 26 = .ok (.aload_n 1, 1) := by decide +kernel
theorem dX3_giveBack_27 : decode cX3_giveBack 27 = .ok (.aload_n 0, 1) := by decide +kernel
theorem dX3_giveBack_28 : decode cX3_giveBack 28 = .ok (.getfield 11, 3) := by decide +kernel
theorem dX3_giveBack_31 : decode cX3_giveBack 31 = .ok (.aload_n 0, 1) := by decide +kernel
theorem dX3_giveBack_32 : decode cX3_giveBack 32 = .ok (.getfield 16, 3) := by decide +kernel
theorem dX3_giveBack_35 : decode cX3_giveBack 35 = .ok (.aaload, 1) := by decide +kernel
theorem dX3_giveBack_36 : decode cX3_giveBack 36 = .ok (.invokevirtual 20, 3) := by decide +kernel
theorem dX3_giveBack_39 : decode cX3_giveBack 39 = .ok (.return_, 1) := by decide +kernel
theorem dX4_init_0 : decode cX4_init 0 = .ok (.aload_n 0, 1) := by decide +kernel
theorem dX4_init_1 : decode cX4_init 1 = .ok (.invokespecial 5, 3) := by decide +kernel
theorem dX4_init_4 : decode cX4_init 4 = .ok (.aload_n 0, 1) := by decide +kernel
theorem dX4_init_5 : decode cX4_init 5 = .ok (.bipush 100, 2) := by decide +kernel
theorem dX4_init_7 : decode cX4_init 7 = .ok (.newarray .int, 2) := by decide +kernel
theorem dX4_init_9 : decode cX4_init 9 = .ok (.putfield 11, 3) := by decide +kernel
theorem dX4_init_12 : decode cX4_init 12 = .ok (.aload_n 0, 1) := by decide +kernel
theorem dX4_init_13 : decode cX4_init 13 = .ok (.bipush 100, 2) := by decide +kernel
theorem dX4_init_15 : decode cX4_init 15 = .ok (.newarray .int, 2) := by decide +kernel
theorem dX4_init_17 : decode cX4_init 17 = .ok (.putfield 15, 3) := by decide +kernel
theorem dX4_init_20 : decode cX4_init 20 = .ok (.aload_n 0, 1) := by decide +kernel
theorem dX4_init_21 : decode cX4_init 21 = .ok (.bipush 100, 2) := by decide +kernel
theorem dX4_init_23 : decode cX4_init 23 = .ok (.newarray .int, 2) := by decide +kernel
theorem dX4_init_25 : decode cX4_init 25 = .ok (.putfield 18, 3) := by decide +kernel
theorem dX4_init_28 : decode cX4_init 28 = .ok (.return_, 1) := by decide +kernel
theorem dX4_seen_0 : decode cX4_seen 0 = .ok (.aload_n 0, 1) := by decide +kernel
theorem dX4_seen_1 : decode cX4_seen 1 = .ok (.getfield 21, 3) := by decide +kernel
theorem dX4_seen_4 : decode cX4_seen 4 = .ok (.bipush 60, 2) := by decide +kernel
theorem dX4_seen_6 : decode cX4_seen 6 = .ok (.invokestatic 25, 3) := by decide +kernel
theorem dX4_seen_9 : decode cX4_seen 9 = .ok (.ireturn, 1) := by decide +kernel
theorem dX4_note_0 : decode cX4_note 0 = .ok (.aload_n 0, 1) := by decide +kernel
theorem dX4_note_1 : decode cX4_note 1 = .ok (.getfield 21, 3) := by decide +kernel
theorem dX4_note_4 : decode cX4_note 4 = .ok (.bipush 100, 2) := by decide +kernel
theorem dX4_note_6 : decode cX4_note 6 = .ok (.irem, 1) := by decide +kernel
theorem dX4_note_7 : decode cX4_note 7 = .ok (.istore 4, 2) := by decide +kernel
theorem dX4_note_9 : decode cX4_note 9 = .ok (.aload_n 0, 1) := by decide +kernel
theorem dX4_note_10 : decode cX4_note 10 = .ok (.getfield 11, 3) := by decide +kernel
theorem dX4_note_13 : decode cX4_note 13 = .ok (.iload 4, 2) := by decide +kernel
theorem dX4_note_15 : decode cX4_note 15 = .ok (.iload_n 1, 1) := by decide +kernel
theorem dX4_note_16 : decode cX4_note 16 = .ok (.iastore, 1) := by decide +kernel
theorem dX4_note_17 : decode cX4_note 17 = .ok (.aload_n 0, 1) := by decide +kernel
theorem dX4_note_18 : decode cX4_note 18 = .ok (.getfield 15, 3) := by decide +kernel
theorem dX4_note_21 : decode cX4_note 21 = .ok (.iload 4, 2) := by decide +kernel
theorem dX4_note_23 : decode cX4_note 23 = .ok (.iload_n 2, 1) := by decide +kernel
theorem dX4_note_24 : decode cX4_note 24 = .ok (.iastore, 1) := by decide +kernel
theorem dX4_note_25 : decode cX4_note 25 = .ok (.aload_n 0, 1) := by decide +kernel
theorem dX4_note_26 : decode cX4_note 26 = .ok (.getfield 18, 3) := by decide +kernel
theorem dX4_note_29 : decode cX4_note 29 = .ok (.iload 4, 2) := by decide +kernel
theorem dX4_note_31 : decode cX4_note 31 = .ok (.iload_n 3, 1) := by decide +kernel
theorem dX4_note_32 : decode cX4_note 32 = .ok (.iastore, 1) := by decide +kernel
theorem dX4_note_33 : decode cX4_note 33 = .ok (.aload_n 0, 1) := by decide +kernel
theorem dX4_note_34 : decode cX4_note 34 = .ok (.dup, 1) := by decide +kernel
theorem dX4_note_35 : decode cX4_note 35 = .ok (.getfield 21, 3) := by decide +kernel
theorem dX4_note_38 : decode cX4_note 38 = .ok (.iconst 1, 1) := by decide +kernel
theorem dX4_note_39 : decode cX4_note 39 = .ok (.iadd, 1) := by decide +kernel
theorem dX4_note_40 : decode cX4_note 40 = .ok (.putfield 21, 3) := by decide +kernel
theorem dX4_note_43 : decode cX4_note 43 = .ok (.return_, 1) := by decide +kernel
theorem dX4_entry_0 : decode cX4_entry 0 = .ok (.aload_n 0, 1) := by decide +kernel
theorem dX4_entry_1 : decode cX4_entry 1 = .ok (.getfield 21, 3) := by decide +kernel
theorem dX4_entry_4 : decode cX4_entry 4 = .ok (.iconst 1, 1) := by decide +kernel
theorem dX4_entry_5 : decode cX4_entry 5 = .ok (.isub, 1) := by decide +kernel
theorem dX4_entry_6 : decode cX4_entry 6 = .ok (.iload_n 1, 1) := by decide +kernel
theorem dX4_entry_7 : decode cX4_entry 7 = .ok (.isub, 1) := by decide +kernel
theorem dX4_entry_8 : decode cX4_entry 8 = .ok (.bipush 100, 2) := by decide +kernel
theorem dX4_entry_10 : decode cX4_entry 10 = .ok (.invokestatic 31, 3) := by decide +kernel
theorem dX4_entry_13 : decode cX4_entry 13 = .ok (.istore_n 3, 1) := by decide +kernel
theorem dX4_entry_14 : decode cX4_entry 14 = .ok (.iload_n 2, 1) := by decide +kernel
theorem dX4_entry_15 : decode cX4_entry 15 = .ok (.ifCond .ne 10, 3) := by decide +kernel
theorem dX4_entry_18 : decode cX4_entry 18 = .ok (.aload_n 0, 1) := by decide +kernel
theorem dX4_entry_19 : decode cX4_entry 19 = .ok (.getfield 11, 3) := by decide +kernel
theorem dX4_entry_22 : decode cX4_entry 22 = .ok (.iload_n 3, 1) := by decide +kernel
theorem dX4_entry_23 : decode cX4_entry 23 = .ok (.iaload, 1) := by decide +kernel
theorem dX4_entry_24 : decode cX4_entry 24 = .ok (.ireturn, 1) := by decide +kernel
theorem dX4_entry_25 : decode cX4_entry 25 = .ok (.iload_n 2, 1) := by decide +kernel
theorem dX4_entry_26 : decode cX4_entry 26 = .ok (.iconst 1, 1) := by decide +kernel
theorem dX4_entry_27 : decode cX4_entry 27 = .ok (.if_icmp .ne 12, 3) := by decide +kernel
theorem dX4_entry_30 : decode cX4_entry 30 = .ok (.aload_n 0, 1) := by decide +kernel
theorem dX4_entry_31 : decode cX4_entry 31 = .ok (.getfield 15, 3) := by decide +kernel
theorem dX4_entry_34 : decode cX4_entry 34 = .ok (.iload_n 3, 1) := by decide +kernel
theorem dX4_entry_35 : decode cX4_entry 35 = .ok (.iaload, 1) := by decide +kernel
theorem dX4_entry_36 : decode cX4_entry 36 = .ok (.goto 9, 3) := by decide +kernel
theorem dX4_entry_39 : decode cX4_entry 39 = .ok (.aload_n 0, 1) := by decide +kernel
theorem dX4_entry_40 : decode cX4_entry 40 = .ok (.getfield 18, 3) := by decide +kernel
theorem dX4_entry_43 : decode cX4_entry 43 = .ok (.iload_n 3, 1) := by decide +kernel
theorem dX4_entry_44 : decode cX4_entry 44 = .ok (.iaload, 1) := by decide +kernel
theorem dX4_entry_45 : decode cX4_entry 45 = .ok (.ireturn, 1) := by decide +kernel
theorem dX4_takeFrom_0 : decode cX4_takeFrom 0 = .ok (.aload_n 1, 1) := by decide +kernel
theorem dX4_takeFrom_1 : decode cX4_takeFrom 1 = .ok (.getfield 11, 3) := by decide +kernel
theorem dX4_takeFrom_4 : decode cX4_takeFrom 4 = .ok (.iconst 0, 1) := by decide +kernel
theorem dX4_takeFrom_5 : decode cX4_takeFrom 5 = .ok (.aload_n 0, 1) := by decide +kernel
theorem dX4_takeFrom_6 : decode cX4_takeFrom 6 = .ok (.getfield 11, 3) := by decide +kernel
theorem dX4_takeFrom_9 : decode cX4_takeFrom 9 = .ok (.iconst 0, 1) := by decide +kernel
theorem dX4_takeFrom_10 : decode cX4_takeFrom 10 = .ok (.bipush 100, 2) := by decide +kernel
theorem dX4_takeFrom_12 : decode cX4_takeFrom 12 = .ok (.invokestatic 34, 3) := by decide +kernel
theorem dX4_takeFrom_15 : decode cX4_takeFrom 15 = .ok (.aload_n 1, 1) := by decide +kernel
theorem dX4_takeFrom_16 : decode cX4_takeFrom 16 = .ok (.getfield 15, 3) := by decide +kernel
theorem dX4_takeFrom_19 : decode cX4_takeFrom 19 = .ok (.iconst 0, 1) := by decide +kernel
theorem dX4_takeFrom_20 : decode cX4_takeFrom 20 = .ok (.aload_n 0, 1) := by decide +kernel
theorem dX4_takeFrom_21 : decode cX4_takeFrom 21 = .ok (.getfield 15, 3) := by decide +kernel
theorem dX4_takeFrom_24 : decode cX4_takeFrom 24 = .ok (.iconst 0, 1) := by decide +kernel
theorem dX4_takeFrom_25 : decode cX4_takeFrom 25 = .ok (.bipush 100, 2) := by decide +kernel
theorem dX4_takeFrom_27 : decode cX4_takeFrom 27 = .ok (.invokestatic 34, 3) := by decide +kernel
theorem dX4_takeFrom_30 : decode cX4_takeFrom 30 = .ok (.aload_n 1, 1) := by decide +kernel
theorem dX4_takeFrom_31 : decode cX4_takeFrom 31 = .ok (.getfield 18, 3) := by decide +kernel
theorem dX4_takeFrom_34 : decode cX4_takeFrom 34 = .ok (.iconst 0, 1) := by decide +kernel
theorem dX4_takeFrom_35 : decode cX4_takeFrom 35 = .ok (.aload_n 0, 1) := by decide +kernel
theorem dX4_takeFrom_36 : decode cX4_takeFrom 36 = .ok (.getfield 18, 3) := by decide +kernel
theorem dX4_takeFrom_39 : decode cX4_takeFrom 39 = .ok (.iconst 0, 1) := by decide +kernel
theorem dX4_takeFrom_40 : decode cX4_takeFrom 40 = .ok (.bipush 100, 2) := by decide +kernel
theorem dX4_takeFrom_42 : decode cX4_takeFrom 42 = .ok (.invokestatic 34, 3) := by decide +kernel
theorem dX4_takeFrom_45 : decode cX4_takeFrom 45 = .ok (.aload_n 0, 1) := by decide +kernel
theorem dX4_takeFrom_46 : decode cX4_takeFrom 46 = .ok (.aload_n 1, 1) := by decide +kernel
theorem dX4_takeFrom_47 : decode cX4_takeFrom 47 = .ok (.getfield 21, 3) := by decide +kernel
theorem dX4_takeFrom_50 : decode cX4_takeFrom 50 = .ok (.putfield 21, 3) := by decide +kernel
theorem dX4_takeFrom_53 : decode cX4_takeFrom 53 = .ok (.return_, 1) := by decide +kernel
theorem dX5_init_0 : decode cX5_init 0 = .ok (.aload_n 0, 1) := by decide +kernel
theorem dX5_init_1 : decode cX5_init 1 = .ok (.invokespecial 3, 3) := by decide +kernel
theorem dX5_init_4 : decode cX5_init 4 = .ok (.aload_n 0, 1) := by decide +kernel
theorem dX5_init_5 : decode cX5_init 5 = .ok (.aload_n 1, 1) := by decide +kernel
theorem dX5_init_6 : decode cX5_init 6 = .ok (.putfield 9, 3) := by decide +kernel
theorem dX5_init_9 : decode cX5_init 9 = .ok (.return_, 1) := by decide +kernel
theorem dX5_allCopies_0 : decode cX5_allCopies 0 = .ok (.iconst 0, 1) := by decide +kernel
theorem dX5_allCopies_1 : decode cX5_allCopies 1 = .ok (.istore_n 1, 1) := by decide +kernel
theorem dX5_allCopies_2 : decode cX5_allCopies 2 = .ok (.iconst 1, 1) := by decide +kernel
theorem dX5_allCopies_3 : decode cX5_allCopies 3 = .ok (.istore_n 2, 1) := by decide +kernel
theorem dX5_allCopies_4 : decode cX5_allCopies 4 = .ok (.iload_n 2, 1) := by decide +kernel
theorem dX5_allCopies_5 : decode cX5_allCopies 5 = .ok (.bipush 6, 2) := by decide +kernel
theorem dX5_allCopies_7 : decode cX5_allCopies 7 = .ok (.if_icmp .gt 23, 3) := by decide +kernel
theorem dX5_allCopies_10 : decode cX5_allCopies 10 = .ok (.iload_n 1, 1) := by decide +kernel
theorem dX5_allCopies_11 : decode cX5_allCopies 11 = .ok (.iload_n 2, 1) := by decide +kernel
theorem dX5_allCopies_12 : decode cX5_allCopies 12 = .ok (.aload_n 0, 1) := by decide +kernel
theorem dX5_allCopies_13 : decode cX5_allCopies 13 = .ok (.getfield 9, 3) := by decide +kernel
theorem dX5_allCopies_16 : decode cX5_allCopies 16 = .ok (.getfield 15, 3) := by decide +kernel
theorem dX5_allCopies_19 : decode cX5_allCopies 19 = .ok (.iload_n 2, 1) := by decide +kernel
theorem dX5_allCopies_20 : decode cX5_allCopies 20 = .ok (.iaload, 1) := by decide +kernel
theorem dX5_allCopies_21 : decode cX5_allCopies 21 = .ok (.imul, 1) := by decide +kernel
theorem dX5_allCopies_22 : decode cX5_allCopies 22 = .ok (.iadd, 1) := by decide +kernel
theorem dX5_allCopies_23 : decode cX5_allCopies 23 = .ok (.istore_n 1, 1) := by decide +kernel
theorem dX5_allCopies_24 : decode cX5_allCopies 24 = .ok (.iinc 2 1, 3) := by decide +kernel
theorem dX5_allCopies_27 : decode cX5_allCopies 27 = .ok (.goto (-23), 3) := by decide +kernel
theorem dX5_allCopies_30 : decode cX5_allCopies 30 = .ok (.iload_n 1, 1) := by decide +kernel
theorem dX5_allCopies_31 : decode cX5_allCopies 31 = .ok (.ireturn, 1) := by decide +kernel
theorem dX5_reach_0 : decode cX5_reach 0 = .ok (.aload_n 0, 1) := by decide +kernel
theorem dX5_reach_1 : decode cX5_reach 1 = .ok (.getfield 9, 3) := by decide +kernel
theorem dX5_reach_4 : decode cX5_reach 4 = .ok (.getfield 21, 3) := by decide +kernel
theorem dX5_reach_7 : decode cX5_reach 7 = .ok (.ifCond .eq 13, 3) := by decide +kernel
theorem dX5_reach_10 : decode cX5_reach 10 = .ok (.aload_n 0, 1) := by decide +kernel
theorem dX5_reach_11 : decode cX5_reach 11 = .ok (.getfield 9, 3) := by decide +kernel
theorem dX5_reach_14 : decode cX5_reach 14 = .ok (.getfield 25, 3) := by decide +kernel
theorem dX5_reach_17 : decode cX5_reach 17 = .ok (.ifCond .ne 5, 3) := by decide +kernel
theorem dX5_reach_20 : decode cX5_reach 20 = .ok (.dconst 0, 1) := by decide +kernel
theorem dX5_reach_21 : decode cX5_reach 21 = .ok (.dreturn, 1) := by decide +kernel
theorem dX5_reach_22 : decode cX5_reach 22 = .ok (.aload_n 0, 1) := by decide +kernel
theorem dX5_reach_23 : decode cX5_reach 23 = .ok (.invokevirtual 28, 3) := by decide +kernel
theorem dX5_reach_26 : decode cX5_reach 26 = .ok (.i2d, 1) := by decide +kernel
theorem dX5_reach_27 : decode cX5_reach 27 = .ok (.aload_n 0, 1) := by decide +kernel
theorem dX5_reach_28 : decode cX5_reach 28 = .ok (.getfield 9, 3) := by decide +kernel
theorem dX5_reach_31 : decode cX5_reach 31 = .ok (.getfield 21, 3) := by decide +kernel
theorem dX5_reach_34 : decode cX5_reach 34 = .ok (.i2d, 1) := by decide +kernel
theorem dX5_reach_35 : decode cX5_reach 35 = .ok (.ddiv, 1) := by decide +kernel
theorem dX5_reach_36 : decode cX5_reach 36 = .ok (.dstore_n 1, 1) := by decide +kernel
theorem dX5_reach_37 : decode cX5_reach 37 = .ok (.dload_n 1, 1) := by decide +kernel
theorem dX5_reach_38 : decode cX5_reach 38 = .ok (.aload_n 0, 1) := by decide +kernel
theorem dX5_reach_39 : decode cX5_reach 39 = .ok (.getfield 9, 3) := by decide +kernel
theorem dX5_reach_42 : decode cX5_reach 42 = .ok (.getfield 25, 3) := by decide +kernel
theorem dX5_reach_45 : decode cX5_reach 45 = .ok (.i2d, 1) := by decide +kernel
theorem dX5_reach_46 : decode cX5_reach 46 = .ok (.ddiv, 1) := by decide +kernel
theorem dX5_reach_47 : decode cX5_reach 47 = .ok (.dstore_n 3, 1) := by decide +kernel
theorem dX5_reach_48 : decode cX5_reach 48 = .ok (.dload_n 3, 1) := by decide +kernel
theorem dX5_reach_49 : decode cX5_reach 49 = .ok (.dconst 1, 1) := by decide +kernel
theorem dX5_reach_50 : decode cX5_reach 50 = .ok (.dcmp .l, 1) := by decide +kernel
theorem dX5_reach_51 : decode cX5_reach 51 = .ok (.ifCond .le 7, 3) := by decide +kernel
theorem dX5_reach_54 : decode cX5_reach 54 = .ok (.dconst 1, 1) := by decide +kernel
theorem dX5_reach_55 : decode cX5_reach 55 = .ok (.goto 4, 3) := by decide +kernel
theorem dX5_reach_58 : decode cX5_reach 58 = .ok (.dload_n 3, 1) := by decide +kernel
theorem dX5_reach_59 : decode cX5_reach 59 = .ok (.dreturn, 1) := by decide +kernel
theorem dX5_shareOf_0 : decode cX5_shareOf 0 = .ok (.aload_n 0, 1) := by decide +kernel
theorem dX5_shareOf_1 : decode cX5_shareOf 1 = .ok (.invokevirtual 32, 3) := by decide +kernel
theorem dX5_shareOf_4 : decode cX5_shareOf 4 = .ok (.dstore_n 3, 1) := by decide +kernel
theorem dX5_shareOf_5 : decode cX5_shareOf 5 = .ok (.dconst 1, 1) := by decide +kernel
theorem dX5_shareOf_6 : decode cX5_shareOf 6 = .ok (.dstore 5, 2) := by decide +kernel
theorem dX5_shareOf_8 : decode cX5_shareOf 8 = .ok (.iconst 0, 1) := by decide +kernel
theorem dX5_shareOf_9 : decode cX5_shareOf 9 = .ok (.istore 7, 2) := by decide +kernel
theorem dX5_shareOf_11 : decode cX5_shareOf 11 = .ok (.iload 7, 2) := by decide +kernel
theorem dX5_shareOf_13 : decode cX5_shareOf 13 = .ok (.iload_n 2, 1) := by decide +kernel
theorem dX5_shareOf_14 : decode cX5_shareOf 14 = .ok (.if_icmp .ge 45, 3) := by decide +kernel
theorem dX5_shareOf_17 : decode cX5_shareOf 17 = .ok (.aload_n 0, 1) := by decide +kernel
theorem dX5_shareOf_18 : decode cX5_shareOf 18 = .ok (.dconst 1, 1) := by decide +kernel
theorem dX5_shareOf_19 : decode cX5_shareOf 19 = .ok (.dconst 1, 1) := by decide +kernel
theorem dX5_shareOf_20 : decode cX5_shareOf 20 = .ok (.dconst 1, 1) := by decide +kernel
theorem dX5_shareOf_21 : decode cX5_shareOf 21 = .ok (.dload_n 3, 1) := by decide +kernel
theorem dX5_shareOf_22 : decode cX5_shareOf 22 = .ok (.dload 5, 2) := by decide +kernel
theorem dX5_shareOf_24 : decode cX5_shareOf 24 = .ok (.dmul, 1) := by decide +kernel
theorem dX5_shareOf_25 : decode cX5_shareOf 25 = .ok (.dsub, 1) := by decide +kernel
theorem dX5_shareOf_26 : decode cX5_shareOf 26 = .ok (.iload_n 1, 1) := by decide +kernel
theorem dX5_shareOf_27 : decode cX5_shareOf 27 = .ok (.iconst 1, 1) := by decide +kernel
theorem dX5_shareOf_28 : decode cX5_shareOf 28 = .ok (.isub, 1) := by decide +kernel
theorem dX5_shareOf_29 : decode cX5_shareOf 29 = .ok (.invokestatic 36, 3) := by decide +kernel
theorem dX5_shareOf_32 : decode cX5_shareOf 32 = .ok (.dsub, 1) := by decide +kernel
theorem dX5_shareOf_33 : decode cX5_shareOf 33 = .ok (.invokevirtual 40, 3) := by decide +kernel
theorem dX5_shareOf_36 : decode cX5_shareOf 36 = .ok (.dstore 8, 2) := by decide +kernel
theorem dX5_shareOf_38 : decode cX5_shareOf 38 = .ok (.dload 8, 2) := by decide +kernel
theorem dX5_shareOf_40 : decode cX5_shareOf 40 = .ok (.dload 5, 2) := by decide +kernel
theorem dX5_shareOf_42 : decode cX5_shareOf 42 = .ok (.dcmp .l, 1) := by decide +kernel
theorem dX5_shareOf_43 : decode cX5_shareOf 43 = .ok (.ifCond .ne 6, 3) := by decide +kernel
theorem dX5_shareOf_46 : decode cX5_shareOf 46 = .ok (.dload 5, 2) := by decide +kernel
theorem dX5_shareOf_48 : decode cX5_shareOf 48 = .ok (.dreturn, 1) := by decide +kernel
theorem dX5_shareOf_49 : decode cX5_shareOf 49 = .ok (.dload 8, 2) := by decide +kernel
theorem dX5_shareOf_51 : decode cX5_shareOf 51 = .ok (.dstore 5, 2) := by decide +kernel
theorem dX5_shareOf_53 : decode cX5_shareOf 53 = .ok (.iinc 7 1, 3) := by decide +kernel
theorem dX5_shareOf_56 : decode cX5_shareOf 56 = .ok (.goto (-45), 3) := by decide +kernel
theorem dX5_shareOf_59 : decode cX5_shareOf 59 = .ok (.dload 5, 2) := by decide +kernel
theorem dX5_shareOf_61 : decode cX5_shareOf 61 = .ok (.dreturn, 1) := by decide +kernel
theorem dX5_shareByHold_0 : decode cX5_shareByHold 0 = .ok (.aload_n 0, 1) := by decide +kernel
theorem dX5_shareByHold_1 : decode cX5_shareByHold 1 = .ok (.invokevirtual 28, 3) := by decide +kernel
theorem dX5_shareByHold_4 : decode cX5_shareByHold 4 = .ok (.istore_n 3, 1) := by decide +kernel
theorem dX5_shareByHold_5 : decode cX5_shareByHold 5 = .ok (.dconst 0, 1) := by decide +kernel
theorem dX5_shareByHold_6 : decode cX5_shareByHold 6 = .ok (.dstore 4, 2) := by decide +kernel
theorem dX5_shareByHold_8 : decode cX5_shareByHold 8 = .ok (.iconst 1, 1) := by decide +kernel
theorem dX5_shareByHold_9 : decode cX5_shareByHold 9 = .ok (.istore 6, 2) := by decide +kernel
theorem dX5_shareByHold_11 : decode cX5_shareByHold 11 = .ok (.iload 6, 2) := by decide +kernel
theorem dX5_shareByHold_13 : decode cX5_shareByHold 13 = .ok (.bipush 6, 2) := by decide +kernel
theorem dX5_shareByHold_15 : decode cX5_shareByHold 15 = .ok (.if_icmp .gt 49, 3) := by decide +kernel
theorem dX5_shareByHold_18 : decode cX5_shareByHold 18 = .ok (.aload_n 0, 1) := by decide +kernel
theorem dX5_shareByHold_19 : decode cX5_shareByHold 19 = .ok (.getfield 9, 3) := by decide +kernel
theorem dX5_shareByHold_22 : decode cX5_shareByHold 22 = .ok (.getfield 15, 3) := by decide +kernel
theorem dX5_shareByHold_25 : decode cX5_shareByHold 25 = .ok (.iload 6, 2) := by decide +kernel
theorem dX5_shareByHold_27 : decode cX5_shareByHold 27 = .ok (.iaload, 1) := by decide +kernel
theorem dX5_shareByHold_28 : decode cX5_shareByHold 28 = .ok (.ifCond .eq 30, 3) := by decide +kernel
theorem dX5_shareByHold_31 : decode cX5_shareByHold 31 = .ok (.dload 4, 2) := by decide +kernel
theorem dX5_shareByHold_33 : decode cX5_shareByHold 33 = .ok (.iload 6, 2) := by decide +kernel
theorem dX5_shareByHold_35 : decode cX5_shareByHold 35 = .ok (.aload_n 0, 1) := by decide +kernel
theorem dX5_shareByHold_36 : decode cX5_shareByHold 36 = .ok (.getfield 9, 3) := by decide +kernel
theorem dX5_shareByHold_39 : decode cX5_shareByHold 39 = .ok (.getfield 15, 3) := by decide +kernel
theorem dX5_shareByHold_42 : decode cX5_shareByHold 42 = .ok (.iload 6, 2) := by decide +kernel
theorem dX5_shareByHold_44 : decode cX5_shareByHold 44 = .ok (.iaload, 1) := by decide +kernel
theorem dX5_shareByHold_45 : decode cX5_shareByHold 45 = .ok (.imul, 1) := by decide +kernel
theorem dX5_shareByHold_46 : decode cX5_shareByHold 46 = .ok (.i2d, 1) := by decide +kernel
theorem dX5_shareByHold_47 : decode cX5_shareByHold 47 = .ok (.dload_n 1, 1) := by decide +kernel
theorem dX5_shareByHold_48 : decode cX5_shareByHold 48 = .ok (.iload 6, 2) := by decide +kernel
theorem dX5_shareByHold_50 : decode cX5_shareByHold 50 = .ok (.iconst 1, 1) := by decide +kernel
theorem dX5_shareByHold_51 : decode cX5_shareByHold 51 = .ok (.isub, 1) := by decide +kernel
theorem dX5_shareByHold_52 : decode cX5_shareByHold 52 = .ok (.invokestatic 36, 3) := by decide +kernel
theorem dX5_shareByHold_55 : decode cX5_shareByHold 55 = .ok (.dadd, 1) := by decide +kernel
theorem dX5_shareByHold_56 : decode cX5_shareByHold 56 = .ok (.dstore 4, 2) := by decide +kernel
theorem dX5_shareByHold_58 : decode cX5_shareByHold 58 = .ok (.iinc 6 1, 3) := by decide +kernel
theorem dX5_shareByHold_61 : decode cX5_shareByHold 61 = .ok (.goto (-50), 3) := by decide +kernel
theorem dX5_shareByHold_64 : decode cX5_shareByHold 64 = .ok (.iload_n 3, 1) := by decide +kernel
theorem dX5_shareByHold_65 : decode cX5_shareByHold 65 = .ok (.ifCond .ne 7, 3) := by decide +kernel
theorem dX5_shareByHold_68 : decode cX5_shareByHold 68 = .ok (.dconst 0, 1) := by decide +kernel
theorem dX5_shareByHold_69 : decode cX5_shareByHold 69 = .ok (.goto 8, 3) := by decide +kernel
theorem dX5_shareByHold_72 : decode cX5_shareByHold 72 = .ok (.dload 4, 2) := by decide +kernel
theorem dX5_shareByHold_74 : decode cX5_shareByHold 74 = .ok (.iload_n 3, 1) := by decide +kernel
theorem dX5_shareByHold_75 : decode cX5_shareByHold 75 = .ok (.i2d, 1) := by decide +kernel
theorem dX5_shareByHold_76 : decode cX5_shareByHold 76 = .ok (.ddiv, 1) := by decide +kernel
theorem dX5_shareByHold_77 : decode cX5_shareByHold 77 = .ok (.dreturn, 1) := by decide +kernel
theorem dX5_multiplied_0 : decode cX5_multiplied 0 = .ok (.dload_n 0, 1) := by decide +kernel
theorem dX5_multiplied_1 : decode cX5_multiplied 1 = .ok (.dstore 5, 2) := by decide +kernel
theorem dX5_multiplied_3 : decode cX5_multiplied 3 = .ok (.iconst 0, 1) := by decide +kernel
theorem dX5_multiplied_4 : decode cX5_multiplied 4 = .ok (.istore 7, 2) := by decide +kernel
theorem dX5_multiplied_6 : decode cX5_multiplied 6 = .ok (.iload 7, 2) := by decide +kernel
theorem dX5_multiplied_8 : decode cX5_multiplied 8 = .ok (.iload 4, 2) := by decide +kernel
theorem dX5_multiplied_10 : decode cX5_multiplied 10 = .ok (.if_icmp .ge 15, 3) := by decide +kernel
theorem dX5_multiplied_13 : decode cX5_multiplied 13 = .ok (.dload 5, 2) := by decide +kernel
theorem dX5_multiplied_15 : decode cX5_multiplied 15 = .ok (.dload_n 2, 1) := by decide +kernel
theorem dX5_multiplied_16 : decode cX5_multiplied 16 = .ok (.dmul, 1) := by decide +kernel
theorem dX5_multiplied_17 : decode cX5_multiplied 17 = .ok (.dstore 5, 2) := by decide +kernel
theorem dX5_multiplied_19 : decode cX5_multiplied 19 = .ok (.iinc 7 1, 3) := by decide +kernel
theorem dX5_multiplied_22 : decode cX5_multiplied 22 = .ok (.goto (-16), 3) := by decide +kernel
theorem dX5_multiplied_25 : decode cX5_multiplied 25 = .ok (.dload 5, 2) := by decide +kernel
theorem dX5_multiplied_27 : decode cX5_multiplied 27 = .ok (.dreturn, 1) := by decide +kernel
theorem dX6_init_0 : decode cX6_init 0 = .ok (.aload_n 0, 1) := by decide +kernel
theorem dX6_init_1 : decode cX6_init 1 = .ok (.invokespecial 3, 3) := by decide +kernel
theorem dX6_init_4 : decode cX6_init 4 = .ok (.aload_n 0, 1) := by decide +kernel
theorem dX6_init_5 : decode cX6_init 5 = .ok (.aload_n 1, 1) := by decide +kernel
theorem dX6_init_6 : decode cX6_init 6 = .ok (.putfield 9, 3) := by decide +kernel
theorem dX6_init_9 : decode cX6_init 9 = .ok (.aload_n 0, 1) := by decide +kernel
theorem dX6_init_10 : decode cX6_init 10 = .ok (.aload_n 2, 1) := by decide +kernel
theorem dX6_init_11 : decode cX6_init 11 = .ok (.putfield 15, 3) := by decide +kernel
theorem dX6_init_14 : decode cX6_init 14 = .ok (.return_, 1) := by decide +kernel
theorem dX6_haste_0 : decode cX6_haste 0 = .ok (.aload_n 0, 1) := by decide +kernel
theorem dX6_haste_1 : decode cX6_haste 1 = .ok (.getfield 15, 3) := by decide +kernel
theorem dX6_haste_4 : decode cX6_haste 4 = .ok (.getfield 19, 3) := by decide +kernel
theorem dX6_haste_7 : decode cX6_haste 7 = .ok (.istore_n 2, 1) := by decide +kernel
theorem dX6_haste_8 : decode cX6_haste 8 = .ok (.iconst 0, 1) := by decide +kernel
theorem dX6_haste_9 : decode cX6_haste 9 = .ok (.istore_n 3, 1) := by decide +kernel
theorem dX6_haste_10 : decode cX6_haste 10 = .ok (.iload_n 3, 1) := by decide +kernel
theorem dX6_haste_11 : decode cX6_haste 11 = .ok (.bipush 10, 2) := by decide +kernel
theorem dX6_haste_13 : decode cX6_haste 13 = .ok (.if_icmp .gt 32, 3) := by decide +kernel
theorem dX6_haste_16 : decode cX6_haste 16 = .ok (.iload_n 2, 1) := by decide +kernel
theorem dX6_haste_17 : decode cX6_haste 17 = .ok (.iload_n 1, 1) := by decide +kernel
theorem dX6_haste_18 : decode cX6_haste 18 = .ok (.ishr, 1) := by decide +kernel
theorem dX6_haste_19 : decode cX6_haste 19 = .ok (.iconst 1, 1) := by decide +kernel
theorem dX6_haste_20 : decode cX6_haste 20 = .ok (.iand, 1) := by decide +kernel
theorem dX6_haste_21 : decode cX6_haste 21 = .ok (.ifCond .ne 5, 3) := by decide +kernel
theorem dX6_haste_24 : decode cX6_haste 24 = .ok (.iload_n 3, 1) := by decide +kernel
theorem dX6_haste_25 : decode cX6_haste 25 = .ok (.ireturn, 1) := by decide +kernel
theorem dX6_haste_26 : decode cX6_haste 26 = .ok (.iload_n 2, 1) := by decide +kernel
theorem dX6_haste_27 : decode cX6_haste 27 = .ok (.aload_n 0, 1) := by decide +kernel
theorem dX6_haste_28 : decode cX6_haste 28 = .ok (.getfield 15, 3) := by decide +kernel
theorem dX6_haste_31 : decode cX6_haste 31 = .ok (.iload_n 2, 1) := by decide +kernel
theorem dX6_haste_32 : decode cX6_haste 32 = .ok (.invokevirtual 25, 3) := by decide +kernel
theorem dX6_haste_35 : decode cX6_haste 35 = .ok (.iconst (-1), 1) := by decide +kernel
theorem dX6_haste_36 : decode cX6_haste 36 = .ok (.ixor, 1) := by decide +kernel
theorem dX6_haste_37 : decode cX6_haste 37 = .ok (.iand, 1) := by decide +kernel
theorem dX6_haste_38 : decode cX6_haste 38 = .ok (.istore_n 2, 1) := by decide +kernel
theorem dX6_haste_39 : decode cX6_haste 39 = .ok (.iinc 3 1, 3) := by decide +kernel
theorem dX6_haste_42 : decode cX6_haste 42 = .ok (.goto (-32), 3) := by decide +kernel
theorem dX6_haste_45 : decode cX6_haste 45 = .ok (.iconst (-1), 1) := by decide +kernel
theorem dX6_haste_46 : decode cX6_haste 46 = .ok (.ireturn, 1) := by decide +kernel
theorem dX6_roundsTillStuck_0 : decode cX6_roundsTillStuck 0 = .ok (.aload_n 0, 1) := by decide +kernel
theorem dX6_roundsTillStuck_1 : decode cX6_roundsTillStuck 1 = .ok (.getfield 15, 3) := by decide +kernel
theorem dX6_roundsTillStuck_4 : decode cX6_roundsTillStuck 4 = .ok (.getfield 19, 3) := by decide +kernel
theorem dX6_roundsTillStuck_7 : decode cX6_roundsTillStuck 7 = .ok (.istore_n 1, 1) := by decide +kernel
theorem dX6_roundsTillStuck_8 : decode cX6_roundsTillStuck 8 = .ok (.iconst 0, 1) := by decide +kernel
theorem dX6_roundsTillStuck_9 : decode cX6_roundsTillStuck 9 = .ok (.istore_n 2, 1) := by decide +kernel
theorem dX6_roundsTillStuck_10 : decode cX6_roundsTillStuck 10 = .ok (.iload_n 2, 1) := by decide +kernel
theorem dX6_roundsTillStuck_11 : decode cX6_roundsTillStuck 11 = .ok (.bipush 10, 2) := by decide +kernel
theorem dX6_roundsTillStuck_13 : decode cX6_roundsTillStuck 13 = .ok (.if_icmp .gt 30, 3) := by decide +kernel
theorem dX6_roundsTillStuck_16 : decode cX6_roundsTillStuck 16 = .ok (.aload_n 0, 1) := by decide +kernel
theorem dX6_roundsTillStuck_17 : decode cX6_roundsTillStuck 17 = .ok (.getfield 15, 3) := by decide +kernel
theorem dX6_roundsTillStuck_20 : decode cX6_roundsTillStuck 20 = .ok (.iload_n 1, 1) := by decide +kernel
theorem dX6_roundsTillStuck_21 : decode cX6_roundsTillStuck 21 = .ok (.invokevirtual 25, 3) := by decide +kernel
theorem dX6_roundsTillStuck_24 : decode cX6_roundsTillStuck 24 = .ok (.istore_n 3, 1) := by decide +kernel
theorem dX6_roundsTillStuck_25 : decode cX6_roundsTillStuck 25 = .ok (.iload_n 3, 1) := by decide +kernel
theorem dX6_roundsTillStuck_26 : decode cX6_roundsTillStuck 26 = .ok (.ifCond .ne 5, 3) := by decide +kernel
theorem dX6_roundsTillStuck_29 : decode cX6_roundsTillStuck 29 = .ok (.iload_n 2, 1) := by decide +kernel
theorem dX6_roundsTillStuck_30 : decode cX6_roundsTillStuck 30 = .ok (.ireturn, 1) := by decide +kernel
theorem dX6_roundsTillStuck_31 : decode cX6_roundsTillStuck 31 = .ok (.iload_n 1, 1) := by decide +kernel
theorem dX6_roundsTillStuck_32 : decode cX6_roundsTillStuck 32 = .ok (.iload_n 3, 1) := by decide +kernel
theorem dX6_roundsTillStuck_33 : decode cX6_roundsTillStuck 33 = .ok (.iconst (-1), 1) := by decide +kernel
theorem dX6_roundsTillStuck_34 : decode cX6_roundsTillStuck 34 = .ok (.ixor, 1) := by decide +kernel
theorem dX6_roundsTillStuck_35 : decode cX6_roundsTillStuck 35 = .ok (.iand, 1) := by decide +kernel
theorem dX6_roundsTillStuck_36 : decode cX6_roundsTillStuck 36 = .ok (.istore_n 1, 1) := by decide +kernel
theorem dX6_roundsTillStuck_37 : decode cX6_roundsTillStuck 37 = .ok (.iinc 2 1, 3) := by decide +kernel
theorem dX6_roundsTillStuck_40 : decode cX6_roundsTillStuck 40 = .ok (.goto (-30), 3) := by decide +kernel
theorem dX6_roundsTillStuck_43 : decode cX6_roundsTillStuck 43 = .ok (.bipush 10, 2) := by decide +kernel
theorem dX6_roundsTillStuck_45 : decode cX6_roundsTillStuck 45 = .ok (.ireturn, 1) := by decide +kernel
theorem dX6_unknownBehind_0 : decode cX6_unknownBehind 0 = .ok (.aload_n 0, 1) := by decide +kernel
theorem dX6_unknownBehind_1 : decode cX6_unknownBehind 1 = .ok (.getfield 15, 3) := by decide +kernel
theorem dX6_unknownBehind_4 : decode cX6_unknownBehind 4 = .ok (.getfield 19, 3) := by decide +kernel
theorem dX6_unknownBehind_7 : decode cX6_unknownBehind 7 = .ok (.istore_n 2, 1) := by decide +kernel
theorem dX6_unknownBehind_8 : decode cX6_unknownBehind 8 = .ok (.iconst 0, 1) := by decide +kernel
theorem dX6_unknownBehind_9 : decode cX6_unknownBehind 9 = .ok (.istore_n 3, 1) := by decide +kernel
theorem dX6_unknownBehind_10 : decode cX6_unknownBehind 10 = .ok (.iload_n 3, 1) := by decide +kernel
theorem dX6_unknownBehind_11 : decode cX6_unknownBehind 11 = .ok (.iload_n 1, 1) := by decide +kernel
theorem dX6_unknownBehind_12 : decode cX6_unknownBehind 12 = .ok (.if_icmp .ge 22, 3) := by decide +kernel
theorem dX6_unknownBehind_15 : decode cX6_unknownBehind 15 = .ok (.iload_n 2, 1) := by decide +kernel
theorem dX6_unknownBehind_16 : decode cX6_unknownBehind 16 = .ok (.aload_n 0, 1) := by decide +kernel
theorem dX6_unknownBehind_17 : decode cX6_unknownBehind 17 = .ok (.getfield 15, 3) := by decide +kernel
theorem dX6_unknownBehind_20 : decode cX6_unknownBehind 20 = .ok (.iload_n 2, 1) := by decide +kernel
theorem dX6_unknownBehind_21 : decode cX6_unknownBehind 21 = .ok (.invokevirtual 25, 3) := by decide +kernel
theorem dX6_unknownBehind_24 : decode cX6_unknownBehind 24 = .ok (.iconst (-1), 1) := by decide +kernel
theorem dX6_unknownBehind_25 : decode cX6_unknownBehind 25 = .ok (.ixor, 1) := by decide +kernel
theorem dX6_unknownBehind_26 : decode cX6_unknownBehind 26 = .ok (.iand, 1) := by decide +kernel
theorem dX6_unknownBehind_27 : decode cX6_unknownBehind 27 = .ok (.istore_n 2, 1) := by decide +kernel
theorem dX6_unknownBehind_28 : decode cX6_unknownBehind 28 = .ok (.iinc 3 1, 3) := by decide +kernel
theorem dX6_unknownBehind_31 : decode cX6_unknownBehind 31 = .ok (.goto (-21), 3) := by decide +kernel
theorem dX6_unknownBehind_34 : decode cX6_unknownBehind 34 = .ok (.iload_n 2, 1) := by decide +kernel
theorem dX6_unknownBehind_35 : decode cX6_unknownBehind 35 = .ok (.ireturn, 1) := by decide +kernel
theorem dX6_fewestHelpers_0 : decode cX6_fewestHelpers 0 = .ok (.aload_n 0, 1) := by decide +kernel
theorem dX6_fewestHelpers_1 : decode cX6_fewestHelpers 1 = .ok (.getfield 15, 3) := by decide +kernel
theorem dX6_fewestHelpers_4 : decode cX6_fewestHelpers 4 = .ok (.aload_n 0, 1) := by decide +kernel
theorem dX6_fewestHelpers_5 : decode cX6_fewestHelpers 5 = .ok (.getfield 15, 3) := by decide +kernel
theorem dX6_fewestHelpers_8 : decode cX6_fewestHelpers 8 = .ok (.getfield 19, 3) := by decide +kernel
theorem dX6_fewestHelpers_11 : decode cX6_fewestHelpers 11 = .ok (.invokevirtual 29, 3) := by decide +kernel
theorem dX6_fewestHelpers_14 : decode cX6_fewestHelpers 14 = .ok (.istore_n 1, 1) := by decide +kernel
theorem dX6_fewestHelpers_15 : decode cX6_fewestHelpers 15 = .ok (.iload_n 1, 1) := by decide +kernel
theorem dX6_fewestHelpers_16 : decode cX6_fewestHelpers 16 = .ok (.istore_n 2, 1) := by decide +kernel
theorem dX6_fewestHelpers_17 : decode cX6_fewestHelpers 17 = .ok (.iconst 0, 1) := by decide +kernel
theorem dX6_fewestHelpers_18 : decode cX6_fewestHelpers 18 = .ok (.istore_n 3, 1) := by decide +kernel
theorem dX6_fewestHelpers_19 : decode cX6_fewestHelpers 19 = .ok (.iload_n 3, 1) := by decide +kernel
theorem dX6_fewestHelpers_20 : decode cX6_fewestHelpers 20 = .ok (.iload_n 1, 1) := by decide +kernel
theorem dX6_fewestHelpers_21 : decode cX6_fewestHelpers 21 = .ok (.if_icmp .ge 57, 3) := by decide +kernel
theorem dX6_fewestHelpers_24 : decode cX6_fewestHelpers 24 = .ok (.iload_n 3, 1) := by decide +kernel
theorem dX6_fewestHelpers_25 : decode cX6_fewestHelpers 25 = .ok (.invokestatic 32, 3) := by decide +kernel
theorem dX6_fewestHelpers_28 : decode cX6_fewestHelpers 28 = .ok (.iload_n 2, 1) := by decide +kernel
theorem dX6_fewestHelpers_29 : decode cX6_fewestHelpers 29 = .ok (.invokestatic 32, 3) := by decide +kernel
theorem dX6_fewestHelpers_32 : decode cX6_fewestHelpers 32 = .ok (.if_icmp .ge 7, 3) := by decide +kernel
theorem dX6_fewestHelpers_35 : decode cX6_fewestHelpers 35 = .ok (.iconst 1, 1) := by decide +kernel
theorem dX6_fewestHelpers_36 : decode cX6_fewestHelpers 36 = .ok (.goto 4, 3) := by decide +kernel
theorem dX6_fewestHelpers_39 : decode cX6_fewestHelpers 39 = .ok (.iconst 0, 1) := by decide +kernel
theorem dX6_fewestHelpers_40 : decode cX6_fewestHelpers 40 = .ok (.istore 4, 2) := by decide +kernel
theorem dX6_fewestHelpers_42 : decode cX6_fewestHelpers 42 = .ok (.iload_n 3, 1) := by decide +kernel
theorem dX6_fewestHelpers_43 : decode cX6_fewestHelpers 43 = .ok (.iload_n 1, 1) := by decide +kernel
theorem dX6_fewestHelpers_44 : decode cX6_fewestHelpers 44 = .ok (.iconst (-1), 1) := by decide +kernel
theorem dX6_fewestHelpers_45 : decode cX6_fewestHelpers 45 = .ok (.ixor, 1) := by decide +kernel
theorem dX6_fewestHelpers_46 : decode cX6_fewestHelpers 46 = .ok (.iand, 1) := by decide +kernel
theorem dX6_fewestHelpers_47 : decode cX6_fewestHelpers 47 = .ok (.ifCond .ne 25, 3) := by decide +kernel
theorem dX6_fewestHelpers_50 : decode cX6_fewestHelpers 50 = .ok (.iload 4, 2) := by decide +kernel
theorem dX6_fewestHelpers_52 : decode cX6_fewestHelpers 52 = .ok (.ifCond .eq 20, 3) := by decide +kernel
theorem dX6_fewestHelpers_55 : decode cX6_fewestHelpers 55 = .ok (.aload_n 0, 1) := by decide +kernel
theorem dX6_fewestHelpers_56 : decode cX6_fewestHelpers 56 = .ok (.getfield 15, 3) := by decide +kernel
theorem dX6_fewestHelpers_59 : decode cX6_fewestHelpers 59 = .ok (.iload_n 1, 1) := by decide +kernel
theorem dX6_fewestHelpers_60 : decode cX6_fewestHelpers 60 = .ok (.iload_n 3, 1) := by decide +kernel
theorem dX6_fewestHelpers_61 : decode cX6_fewestHelpers 61 = .ok (.iconst (-1), 1) := by decide +kernel
theorem dX6_fewestHelpers_62 : decode cX6_fewestHelpers 62 = .ok (.ixor, 1) := by decide +kernel
theorem dX6_fewestHelpers_63 : decode cX6_fewestHelpers 63 = .ok (.iand, 1) := by decide +kernel
theorem dX6_fewestHelpers_64 : decode cX6_fewestHelpers 64 = .ok (.invokevirtual 29, 3) := by decide +kernel
theorem dX6_fewestHelpers_67 : decode cX6_fewestHelpers 67 = .ok (.ifCond .ne 5, 3) := by decide +kernel
theorem dX6_fewestHelpers_70 : decode cX6_fewestHelpers 70 = .ok (.iload_n 3, 1) := by decide +kernel
theorem dX6_fewestHelpers_71 : decode cX6_fewestHelpers 71 = .ok (.istore_n 2, 1) := by decide +kernel
theorem dX6_fewestHelpers_72 : decode cX6_fewestHelpers 72 = .ok (.iinc 3 1, 3) := by decide +kernel
theorem dX6_fewestHelpers_75 : decode cX6_fewestHelpers 75 = .ok (.goto (-56), 3) := by decide +kernel
theorem dX6_fewestHelpers_78 : decode cX6_fewestHelpers 78 = .ok (.iload_n 2, 1) := by decide +kernel
theorem dX6_fewestHelpers_79 : decode cX6_fewestHelpers 79 = .ok (.ireturn, 1) := by decide +kernel
theorem dX6_greatestCapture_0 : decode cX6_greatestCapture 0 = .ok (.iconst 0, 1) := by decide +kernel
theorem dX6_greatestCapture_1 : decode cX6_greatestCapture 1 = .ok (.istore_n 1, 1) := by decide +kernel
theorem dX6_greatestCapture_2 : decode cX6_greatestCapture 2 = .ok (.bipush 99, 2) := by decide +kernel
theorem dX6_greatestCapture_4 : decode cX6_greatestCapture 4 = .ok (.istore_n 2, 1) := by decide +kernel
theorem dX6_greatestCapture_5 : decode cX6_greatestCapture 5 = .ok (.iconst 0, 1) := by decide +kernel
theorem dX6_greatestCapture_6 : decode cX6_greatestCapture 6 = .ok (.istore_n 3, 1) := by decide +kernel
theorem dX6_greatestCapture_7 : decode cX6_greatestCapture 7 = .ok (.iload_n 3, 1) := by decide +kernel
theorem dX6_greatestCapture_8 : decode cX6_greatestCapture 8 = .ok (.bipush 10, 2) := by decide +kernel
theorem dX6_greatestCapture_10 : decode cX6_greatestCapture 10 = .ok (.if_icmp .ge 60, 3) := by decide +kernel
theorem dX6_greatestCapture_13 : decode cX6_greatestCapture 13 = .ok (.iload_n 1, 1) := by decide +kernel
theorem dX6_greatestCapture_14 : decode cX6_greatestCapture 14 = .ok (.iload_n 2, 1) := by decide +kernel
theorem dX6_greatestCapture_15 : decode cX6_greatestCapture 15 = .ok (.if_icmp .ge 55, 3) := by decide +kernel
theorem dX6_greatestCapture_18 : decode cX6_greatestCapture 18 = .ok (.iload_n 1, 1) := by decide +kernel
theorem dX6_greatestCapture_19 : decode cX6_greatestCapture 19 = .ok (.iload_n 2, 1) := by decide +kernel
theorem dX6_greatestCapture_20 : decode cX6_greatestCapture 20 = .ok (.iadd, 1) := by decide +kernel
theorem dX6_greatestCapture_21 : decode cX6_greatestCapture 21 = .ok (.iconst 1, 1) := by decide +kernel
theorem dX6_greatestCapture_22 : decode cX6_greatestCapture 22 = .ok (.iadd, 1) := by decide +kernel
theorem dX6_greatestCapture_23 : decode cX6_greatestCapture 23 = .ok (.iconst 2, 1) := by decide +kernel
theorem dX6_greatestCapture_24 : decode cX6_greatestCapture 24 = .ok (.idiv, 1) := by decide +kernel
theorem dX6_greatestCapture_25 : decode cX6_greatestCapture 25 = .ok (.istore 4, 2) := by decide +kernel
theorem dX6_greatestCapture_27 : decode cX6_greatestCapture 27 = .ok (.aload_n 0, 1) := by decide +kernel
theorem dX6_greatestCapture_28 : decode cX6_greatestCapture 28 = .ok (.getfield 15, 3) := by decide +kernel
theorem dX6_greatestCapture_31 : decode cX6_greatestCapture 31 = .ok (.iload 4, 2) := by decide +kernel
theorem dX6_greatestCapture_33 : decode cX6_greatestCapture 33 = .ok (.invokevirtual 37, 3) := by decide +kernel
theorem dX6_greatestCapture_36 : decode cX6_greatestCapture 36 = .ok (.aload_n 0, 1) := by decide +kernel
theorem dX6_greatestCapture_37 : decode cX6_greatestCapture 37 = .ok (.getfield 15, 3) := by decide +kernel
theorem dX6_greatestCapture_40 : decode cX6_greatestCapture 40 = .ok (.aload_n 0, 1) := by decide +kernel
theorem dX6_greatestCapture_41 : decode cX6_greatestCapture 41 = .ok (.getfield 15, 3) := by decide +kernel
theorem dX6_greatestCapture_44 : decode cX6_greatestCapture 44 = .ok (.getfield 19, 3) := by decide +kernel
theorem dX6_greatestCapture_47 : decode cX6_greatestCapture 47 = .ok (.invokevirtual 29, 3) := by decide +kernel
theorem dX6_greatestCapture_50 : decode cX6_greatestCapture 50 = .ok (.ifCond .ne 9, 3) := by decide +kernel
theorem dX6_greatestCapture_53 : decode cX6_greatestCapture 53 = .ok (.iload 4, 2) := by decide +kernel
theorem dX6_greatestCapture_55 : decode cX6_greatestCapture 55 = .ok (.istore_n 1, 1) := by decide +kernel
theorem dX6_greatestCapture_56 : decode cX6_greatestCapture 56 = .ok (.goto 8, 3) := by decide +kernel
theorem dX6_greatestCapture_59 : decode cX6_greatestCapture 59 = .ok (.iload 4, 2) := by decide +kernel
theorem dX6_greatestCapture_61 : decode cX6_greatestCapture 61 = .ok (.iconst 1, 1) := by decide +kernel
theorem dX6_greatestCapture_62 : decode cX6_greatestCapture 62 = .ok (.isub, 1) := by decide +kernel
theorem dX6_greatestCapture_63 : decode cX6_greatestCapture 63 = .ok (.istore_n 2, 1) := by decide +kernel
theorem dX6_greatestCapture_64 : decode cX6_greatestCapture 64 = .ok (.iinc 3 1, 3) := by decide +kernel
theorem dX6_greatestCapture_67 : decode cX6_greatestCapture 67 = .ok (.goto (-60), 3) := by decide +kernel
theorem dX6_greatestCapture_70 : decode cX6_greatestCapture 70 = .ok (.iload_n 1, 1) := by decide +kernel
theorem dX6_greatestCapture_71 : decode cX6_greatestCapture 71 = .ok (.ifCond .ne 7, 3) := by decide +kernel
theorem dX6_greatestCapture_74 : decode cX6_greatestCapture 74 = .ok (.iconst (-1), 1) := by decide +kernel
theorem dX6_greatestCapture_75 : decode cX6_greatestCapture 75 = .ok (.goto 4, 3) := by decide +kernel
theorem dX6_greatestCapture_78 : decode cX6_greatestCapture 78 = .ok (.iload_n 1, 1) := by decide +kernel
theorem dX6_greatestCapture_79 : decode cX6_greatestCapture 79 = .ok (.ireturn, 1) := by decide +kernel
theorem dX6_copiesIn_0 : decode cX6_copiesIn 0 = .ok (.iconst 0, 1) := by decide +kernel
theorem dX6_copiesIn_1 : decode cX6_copiesIn 1 = .ok (.istore_n 2, 1) := by decide +kernel
theorem dX6_copiesIn_2 : decode cX6_copiesIn 2 = .ok (.iconst 0, 1) := by decide +kernel
theorem dX6_copiesIn_3 : decode cX6_copiesIn 3 = .ok (.istore_n 3, 1) := by decide +kernel
theorem dX6_copiesIn_4 : decode cX6_copiesIn 4 = .ok (.iload_n 3, 1) := by decide +kernel
theorem dX6_copiesIn_5 : decode cX6_copiesIn 5 = .ok (.aload_n 0, 1) := by decide +kernel
theorem dX6_copiesIn_6 : decode cX6_copiesIn 6 = .ok (.getfield 9, 3) := by decide +kernel
theorem dX6_copiesIn_9 : decode cX6_copiesIn 9 = .ok (.getfield 41, 3) := by decide +kernel
theorem dX6_copiesIn_12 : decode cX6_copiesIn 12 = .ok (.if_icmp .ge 34, 3) := by decide +kernel
theorem dX6_copiesIn_15 : decode cX6_copiesIn 15 = .ok (.iload_n 2, 1) := by decide +kernel
theorem dX6_copiesIn_16 : decode cX6_copiesIn 16 = .ok (.aload_n 0, 1) := by decide +kernel
theorem dX6_copiesIn_17 : decode cX6_copiesIn 17 = .ok (.getfield 15, 3) := by decide +kernel
theorem dX6_copiesIn_20 : decode cX6_copiesIn 20 = .ok (.getfield 46, 3) := by decide +kernel
theorem dX6_copiesIn_23 : decode cX6_copiesIn 23 = .ok (.iload_n 1, 1) := by decide +kernel
theorem dX6_copiesIn_24 : decode cX6_copiesIn 24 = .ok (.aload_n 0, 1) := by decide +kernel
theorem dX6_copiesIn_25 : decode cX6_copiesIn 25 = .ok (.getfield 9, 3) := by decide +kernel
theorem dX6_copiesIn_28 : decode cX6_copiesIn 28 = .ok (.getfield 41, 3) := by decide +kernel
theorem dX6_copiesIn_31 : decode cX6_copiesIn 31 = .ok (.imul, 1) := by decide +kernel
theorem dX6_copiesIn_32 : decode cX6_copiesIn 32 = .ok (.iload_n 3, 1) := by decide +kernel
theorem dX6_copiesIn_33 : decode cX6_copiesIn 33 = .ok (.iadd, 1) := by decide +kernel
theorem dX6_copiesIn_34 : decode cX6_copiesIn 34 = .ok (.iaload, 1) := by decide +kernel
theorem dX6_copiesIn_35 : decode cX6_copiesIn 35 = .ok (.invokestatic 32, 3) := by decide +kernel
theorem dX6_copiesIn_38 : decode cX6_copiesIn 38 = .ok (.iadd, 1) := by decide +kernel
theorem dX6_copiesIn_39 : decode cX6_copiesIn 39 = .ok (.istore_n 2, 1) := by decide +kernel
theorem dX6_copiesIn_40 : decode cX6_copiesIn 40 = .ok (.iinc 3 1, 3) := by decide +kernel
theorem dX6_copiesIn_43 : decode cX6_copiesIn 43 = .ok (.goto (-39), 3) := by decide +kernel
theorem dX6_copiesIn_46 : decode cX6_copiesIn 46 = .ok (.iload_n 2, 1) := by decide +kernel
theorem dX6_copiesIn_47 : decode cX6_copiesIn 47 = .ok (.ireturn, 1) := by decide +kernel
theorem dX6_clearSlotsIn_0 : decode cX6_clearSlotsIn 0 = .ok (.iconst 0, 1) := by decide +kernel
theorem dX6_clearSlotsIn_1 : decode cX6_clearSlotsIn 1 = .ok (.istore_n 2, 1) := by decide +kernel
theorem dX6_clearSlotsIn_2 : decode cX6_clearSlotsIn 2 = .ok (.iconst 0, 1) := by decide +kernel
theorem dX6_clearSlotsIn_3 : decode cX6_clearSlotsIn 3 = .ok (.istore_n 3, 1) := by decide +kernel
theorem dX6_clearSlotsIn_4 : decode cX6_clearSlotsIn 4 = .ok (.iload_n 3, 1) := by decide +kernel
theorem dX6_clearSlotsIn_5 : decode cX6_clearSlotsIn 5 = .ok (.aload_n 0, 1) := by decide +kernel
theorem dX6_clearSlotsIn_6 : decode cX6_clearSlotsIn 6 = .ok (.getfield 9, 3) := by decide +kernel
theorem dX6_clearSlotsIn_9 : decode cX6_clearSlotsIn 9 = .ok (.getfield 41, 3) := by decide +kernel
theorem dX6_clearSlotsIn_12 : decode cX6_clearSlotsIn 12 = .ok (.if_icmp .ge 45, 3) := by decide +kernel
theorem dX6_clearSlotsIn_15 : decode cX6_clearSlotsIn 15 = .ok (.iload_n 2, 1) := by decide +kernel
theorem dX6_clearSlotsIn_16 : decode cX6_clearSlotsIn 16 = .ok (.aload_n 0, 1) := by decide +kernel
theorem dX6_clearSlotsIn_17 : decode cX6_clearSlotsIn 17 = .ok (.getfield 15, 3) := by decide +kernel
theorem dX6_clearSlotsIn_20 : decode cX6_clearSlotsIn 20 = .ok (.iload_n 1, 1) := by decide +kernel
theorem dX6_clearSlotsIn_21 : decode cX6_clearSlotsIn 21 = .ok (.aload_n 0, 1) := by decide +kernel
theorem dX6_clearSlotsIn_22 : decode cX6_clearSlotsIn 22 = .ok (.getfield 9, 3) := by decide +kernel
theorem dX6_clearSlotsIn_25 : decode cX6_clearSlotsIn 25 = .ok (.getfield 41, 3) := by decide +kernel
theorem dX6_clearSlotsIn_28 : decode cX6_clearSlotsIn 28 = .ok (.imul, 1) := by decide +kernel
theorem dX6_clearSlotsIn_29 : decode cX6_clearSlotsIn 29 = .ok (.iload_n 3, 1) := by decide +kernel
theorem dX6_clearSlotsIn_30 : decode cX6_clearSlotsIn 30 = .ok (.iadd, 1) := by decide +kernel
theorem dX6_clearSlotsIn_31 : decode cX6_clearSlotsIn 31 = .ok (.aload_n 0, 1) := by decide +kernel
theorem dX6_clearSlotsIn_32 : decode cX6_clearSlotsIn 32 = .ok (.getfield 15, 3) := by decide +kernel
theorem dX6_clearSlotsIn_35 : decode cX6_clearSlotsIn 35 = .ok (.getfield 19, 3) := by decide +kernel
theorem dX6_clearSlotsIn_38 : decode cX6_clearSlotsIn 38 = .ok (.invokevirtual 50, 3) := by decide +kernel
theorem dX6_clearSlotsIn_41 : decode cX6_clearSlotsIn 41 = .ok (.ifCond .eq 7, 3) := by decide +kernel
theorem dX6_clearSlotsIn_44 : decode cX6_clearSlotsIn 44 = .ok (.iconst 1, 1) := by decide +kernel
theorem dX6_clearSlotsIn_45 : decode cX6_clearSlotsIn 45 = .ok (.goto 4, 3) := by decide +kernel
theorem dX6_clearSlotsIn_48 : decode cX6_clearSlotsIn 48 = .ok (.iconst 0, 1) := by decide +kernel
theorem dX6_clearSlotsIn_49 : decode cX6_clearSlotsIn 49 = .ok (.iadd, 1) := by decide +kernel
theorem dX6_clearSlotsIn_50 : decode cX6_clearSlotsIn 50 = .ok (.istore_n 2, 1) := by decide +kernel
theorem dX6_clearSlotsIn_51 : decode cX6_clearSlotsIn 51 = .ok (.iinc 3 1, 3) := by decide +kernel
theorem dX6_clearSlotsIn_54 : decode cX6_clearSlotsIn 54 = .ok (.goto (-50), 3) := by decide +kernel
theorem dX6_clearSlotsIn_57 : decode cX6_clearSlotsIn 57 = .ok (.iload_n 2, 1) := by decide +kernel
theorem dX6_clearSlotsIn_58 : decode cX6_clearSlotsIn 58 = .ok (.ireturn, 1) := by decide +kernel
theorem dX6_isStuckSet_0 : decode cX6_isStuckSet 0 = .ok (.iload_n 1, 1) := by decide +kernel
theorem dX6_isStuckSet_1 : decode cX6_isStuckSet 1 = .ok (.ifCond .eq 32, 3) := by decide +kernel
theorem dX6_isStuckSet_4 : decode cX6_isStuckSet 4 = .ok (.iload_n 1, 1) := by decide +kernel
theorem dX6_isStuckSet_5 : decode cX6_isStuckSet 5 = .ok (.aload_n 0, 1) := by decide +kernel
theorem dX6_isStuckSet_6 : decode cX6_isStuckSet 6 = .ok (.getfield 15, 3) := by decide +kernel
theorem dX6_isStuckSet_9 : decode cX6_isStuckSet 9 = .ok (.getfield 19, 3) := by decide +kernel
theorem dX6_isStuckSet_12 : decode cX6_isStuckSet 12 = .ok (.iconst (-1), 1) := by decide +kernel
theorem dX6_isStuckSet_13 : decode cX6_isStuckSet 13 = .ok (.ixor, 1) := by decide +kernel
theorem dX6_isStuckSet_14 : decode cX6_isStuckSet 14 = .ok (.iand, 1) := by decide +kernel
theorem dX6_isStuckSet_15 : decode cX6_isStuckSet 15 = .ok (.ifCond .ne 18, 3) := by decide +kernel
theorem dX6_isStuckSet_18 : decode cX6_isStuckSet 18 = .ok (.aload_n 0, 1) := by decide +kernel
theorem dX6_isStuckSet_19 : decode cX6_isStuckSet 19 = .ok (.getfield 15, 3) := by decide +kernel
theorem dX6_isStuckSet_22 : decode cX6_isStuckSet 22 = .ok (.iload_n 1, 1) := by decide +kernel
theorem dX6_isStuckSet_23 : decode cX6_isStuckSet 23 = .ok (.invokevirtual 25, 3) := by decide +kernel
theorem dX6_isStuckSet_26 : decode cX6_isStuckSet 26 = .ok (.ifCond .ne 7, 3) := by decide +kernel
theorem dX6_isStuckSet_29 : decode cX6_isStuckSet 29 = .ok (.iconst 1, 1) := by decide +kernel
theorem dX6_isStuckSet_30 : decode cX6_isStuckSet 30 = .ok (.goto 4, 3) := by decide +kernel
theorem dX6_isStuckSet_33 : decode cX6_isStuckSet 33 = .ok (.iconst 0, 1) := by decide +kernel
theorem dX6_isStuckSet_34 : decode cX6_isStuckSet 34 = .ok (.ireturn, 1) := by decide +kernel
theorem dX6_stuckSets_0 : decode cX6_stuckSets 0 = .ok (.iconst 0, 1) := by decide +kernel
theorem dX6_stuckSets_1 : decode cX6_stuckSets 1 = .ok (.istore_n 1, 1) := by decide +kernel
theorem dX6_stuckSets_2 : decode cX6_stuckSets 2 = .ok (.iconst 1, 1) := by decide +kernel
theorem dX6_stuckSets_3 : decode cX6_stuckSets 3 = .ok (.istore_n 2, 1) := by decide +kernel
theorem dX6_stuckSets_4 : decode cX6_stuckSets 4 = .ok (.iload_n 2, 1) := by decide +kernel
theorem dX6_stuckSets_5 : decode cX6_stuckSets 5 = .ok (.aload_n 0, 1) := by decide +kernel
theorem dX6_stuckSets_6 : decode cX6_stuckSets 6 = .ok (.getfield 15, 3) := by decide +kernel
theorem dX6_stuckSets_9 : decode cX6_stuckSets 9 = .ok (.getfield 19, 3) := by decide +kernel
theorem dX6_stuckSets_12 : decode cX6_stuckSets 12 = .ok (.if_icmp .gt 25, 3) := by decide +kernel
theorem dX6_stuckSets_15 : decode cX6_stuckSets 15 = .ok (.iload_n 1, 1) := by decide +kernel
theorem dX6_stuckSets_16 : decode cX6_stuckSets 16 = .ok (.aload_n 0, 1) := by decide +kernel
theorem dX6_stuckSets_17 : decode cX6_stuckSets 17 = .ok (.iload_n 2, 1) := by decide +kernel
theorem dX6_stuckSets_18 : decode cX6_stuckSets 18 = .ok (.invokevirtual 54, 3) := by decide +kernel
theorem dX6_stuckSets_21 : decode cX6_stuckSets 21 = .ok (.ifCond .eq 7, 3) := by decide +kernel
theorem dX6_stuckSets_24 : decode cX6_stuckSets 24 = .ok (.iconst 1, 1) := by decide +kernel
theorem dX6_stuckSets_25 : decode cX6_stuckSets 25 = .ok (.goto 4, 3) := by decide +kernel
theorem dX6_stuckSets_28 : decode cX6_stuckSets 28 = .ok (.iconst 0, 1) := by decide +kernel
theorem dX6_stuckSets_29 : decode cX6_stuckSets 29 = .ok (.iadd, 1) := by decide +kernel
theorem dX6_stuckSets_30 : decode cX6_stuckSets 30 = .ok (.istore_n 1, 1) := by decide +kernel
theorem dX6_stuckSets_31 : decode cX6_stuckSets 31 = .ok (.iinc 2 1, 3) := by decide +kernel
theorem dX6_stuckSets_34 : decode cX6_stuckSets 34 = .ok (.goto (-30), 3) := by decide +kernel
theorem dX6_stuckSets_37 : decode cX6_stuckSets 37 = .ok (.iload_n 1, 1) := by decide +kernel
theorem dX6_stuckSets_38 : decode cX6_stuckSets 38 = .ok (.ireturn, 1) := by decide +kernel
theorem dX6_leastStuckSet_0 : decode cX6_leastStuckSet 0 = .ok (.iconst 0, 1) := by decide +kernel
theorem dX6_leastStuckSet_1 : decode cX6_leastStuckSet 1 = .ok (.istore_n 1, 1) := by decide +kernel
theorem dX6_leastStuckSet_2 : decode cX6_leastStuckSet 2 = .ok (.iconst 1, 1) := by decide +kernel
theorem dX6_leastStuckSet_3 : decode cX6_leastStuckSet 3 = .ok (.istore_n 2, 1) := by decide +kernel
theorem dX6_leastStuckSet_4 : decode cX6_leastStuckSet 4 = .ok (.iload_n 2, 1) := by decide +kernel
theorem dX6_leastStuckSet_5 : decode cX6_leastStuckSet 5 = .ok (.aload_n 0, 1) := by decide +kernel
theorem dX6_leastStuckSet_6 : decode cX6_leastStuckSet 6 = .ok (.getfield 15, 3) := by decide +kernel
theorem dX6_leastStuckSet_9 : decode cX6_leastStuckSet 9 = .ok (.getfield 19, 3) := by decide +kernel
theorem dX6_leastStuckSet_12 : decode cX6_leastStuckSet 12 = .ok (.if_icmp .gt 44, 3) := by decide +kernel
theorem dX6_leastStuckSet_15 : decode cX6_leastStuckSet 15 = .ok (.iload_n 1, 1) := by decide +kernel
theorem dX6_leastStuckSet_16 : decode cX6_leastStuckSet 16 = .ok (.ifCond .eq 14, 3) := by decide +kernel
theorem dX6_leastStuckSet_19 : decode cX6_leastStuckSet 19 = .ok (.iload_n 2, 1) := by decide +kernel
theorem dX6_leastStuckSet_20 : decode cX6_leastStuckSet 20 = .ok (.invokestatic 32, 3) := by decide +kernel
theorem dX6_leastStuckSet_23 : decode cX6_leastStuckSet 23 = .ok (.iload_n 1, 1) := by decide +kernel
theorem dX6_leastStuckSet_24 : decode cX6_leastStuckSet 24 = .ok (.invokestatic 32, 3) := by decide +kernel
theorem dX6_leastStuckSet_27 : decode cX6_leastStuckSet 27 = .ok (.if_icmp .ge 7, 3) := by decide +kernel
theorem dX6_leastStuckSet_30 : decode cX6_leastStuckSet 30 = .ok (.iconst 1, 1) := by decide +kernel
theorem dX6_leastStuckSet_31 : decode cX6_leastStuckSet 31 = .ok (.goto 4, 3) := by decide +kernel
theorem dX6_leastStuckSet_34 : decode cX6_leastStuckSet 34 = .ok (.iconst 0, 1) := by decide +kernel
theorem dX6_leastStuckSet_35 : decode cX6_leastStuckSet 35 = .ok (.istore_n 3, 1) := by decide +kernel
theorem dX6_leastStuckSet_36 : decode cX6_leastStuckSet 36 = .ok (.iload_n 3, 1) := by decide +kernel
theorem dX6_leastStuckSet_37 : decode cX6_leastStuckSet 37 = .ok (.ifCond .eq 13, 3) := by decide +kernel
theorem dX6_leastStuckSet_40 : decode cX6_leastStuckSet 40 = .ok (.aload_n 0, 1) := by decide +kernel
theorem dX6_leastStuckSet_41 : decode cX6_leastStuckSet 41 = .ok (.iload_n 2, 1) := by decide +kernel
theorem dX6_leastStuckSet_42 : decode cX6_leastStuckSet 42 = .ok (.invokevirtual 54, 3) := by decide +kernel
theorem dX6_leastStuckSet_45 : decode cX6_leastStuckSet 45 = .ok (.ifCond .eq 5, 3) := by decide +kernel
theorem dX6_leastStuckSet_48 : decode cX6_leastStuckSet 48 = .ok (.iload_n 2, 1) := by decide +kernel
theorem dX6_leastStuckSet_49 : decode cX6_leastStuckSet 49 = .ok (.istore_n 1, 1) := by decide +kernel
theorem dX6_leastStuckSet_50 : decode cX6_leastStuckSet 50 = .ok (.iinc 2 1, 3) := by decide +kernel
theorem dX6_leastStuckSet_53 : decode cX6_leastStuckSet 53 = .ok (.goto (-49), 3) := by decide +kernel
theorem dX6_leastStuckSet_56 : decode cX6_leastStuckSet 56 = .ok (.iload_n 1, 1) := by decide +kernel
theorem dX6_leastStuckSet_57 : decode cX6_leastStuckSet 57 = .ok (.ireturn, 1) := by decide +kernel
theorem dX6_settleInWindow_0 : decode cX6_settleInWindow 0 = .ok (.aload_n 0, 1) := by decide +kernel
theorem dX6_settleInWindow_1 : decode cX6_settleInWindow 1 = .ok (.getfield 15, 3) := by decide +kernel
theorem dX6_settleInWindow_4 : decode cX6_settleInWindow 4 = .ok (.iload_n 1, 1) := by decide +kernel
theorem dX6_settleInWindow_5 : decode cX6_settleInWindow 5 = .ok (.iload_n 2, 1) := by decide +kernel
theorem dX6_settleInWindow_6 : decode cX6_settleInWindow 6 = .ok (.aload_n 0, 1) := by decide +kernel
theorem dX6_settleInWindow_7 : decode cX6_settleInWindow 7 = .ok (.getfield 9, 3) := by decide +kernel
theorem dX6_settleInWindow_10 : decode cX6_settleInWindow 10 = .ok (.getfield 41, 3) := by decide +kernel
theorem dX6_settleInWindow_13 : decode cX6_settleInWindow 13 = .ok (.imul, 1) := by decide +kernel
theorem dX6_settleInWindow_14 : decode cX6_settleInWindow 14 = .ok (.iload_n 2, 1) := by decide +kernel
theorem dX6_settleInWindow_15 : decode cX6_settleInWindow 15 = .ok (.iload_n 3, 1) := by decide +kernel
theorem dX6_settleInWindow_16 : decode cX6_settleInWindow 16 = .ok (.iadd, 1) := by decide +kernel
theorem dX6_settleInWindow_17 : decode cX6_settleInWindow 17 = .ok (.aload_n 0, 1) := by decide +kernel
theorem dX6_settleInWindow_18 : decode cX6_settleInWindow 18 = .ok (.getfield 9, 3) := by decide +kernel
theorem dX6_settleInWindow_21 : decode cX6_settleInWindow 21 = .ok (.getfield 41, 3) := by decide +kernel
theorem dX6_settleInWindow_24 : decode cX6_settleInWindow 24 = .ok (.imul, 1) := by decide +kernel
theorem dX6_settleInWindow_25 : decode cX6_settleInWindow 25 = .ok (.lconst 0, 1) := by decide +kernel
theorem dX6_settleInWindow_26 : decode cX6_settleInWindow 26 = .ok (.invokevirtual 58, 3) := by decide +kernel
theorem dX6_settleInWindow_29 : decode cX6_settleInWindow 29 = .ok (.ireturn, 1) := by decide +kernel
theorem dX6_unknownBehindSlide_0 : decode cX6_unknownBehindSlide 0 = .ok (.aload_n 0, 1) := by decide +kernel
theorem dX6_unknownBehindSlide_1 : decode cX6_unknownBehindSlide 1 = .ok (.getfield 15, 3) := by decide +kernel
theorem dX6_unknownBehindSlide_4 : decode cX6_unknownBehindSlide 4 = .ok (.getfield 19, 3) := by decide +kernel
theorem dX6_unknownBehindSlide_7 : decode cX6_unknownBehindSlide 7 = .ok (.istore_n 2, 1) := by decide +kernel
theorem dX6_unknownBehindSlide_8 : decode cX6_unknownBehindSlide 8 = .ok (.iconst 0, 1) := by decide +kernel
theorem dX6_unknownBehindSlide_9 : decode cX6_unknownBehindSlide 9 = .ok (.istore_n 3, 1) := by decide +kernel
theorem dX6_unknownBehindSlide_10 : decode cX6_unknownBehindSlide 10 = .ok (.iload_n 3, 1) := by decide +kernel
theorem dX6_unknownBehindSlide_11 : decode cX6_unknownBehindSlide 11 = .ok (.iload_n 1, 1) := by decide +kernel
theorem dX6_unknownBehindSlide_12 : decode cX6_unknownBehindSlide 12 = .ok (.iadd, 1) := by decide +kernel
theorem dX6_unknownBehindSlide_13 : decode cX6_unknownBehindSlide 13 = .ok (.aload_n 0, 1) := by decide +kernel
theorem dX6_unknownBehindSlide_14 : decode cX6_unknownBehindSlide 14 = .ok (.getfield 9, 3) := by decide +kernel
theorem dX6_unknownBehindSlide_17 : decode cX6_unknownBehindSlide 17 = .ok (.getfield 62, 3) := by decide +kernel
theorem dX6_unknownBehindSlide_20 : decode cX6_unknownBehindSlide 20 = .ok (.if_icmp .gt 17, 3) := by decide +kernel
theorem dX6_unknownBehindSlide_23 : decode cX6_unknownBehindSlide 23 = .ok (.aload_n 0, 1) := by decide +kernel
theorem dX6_unknownBehindSlide_24 : decode cX6_unknownBehindSlide 24 = .ok (.iload_n 2, 1) := by decide +kernel
theorem dX6_unknownBehindSlide_25 : decode cX6_unknownBehindSlide 25 = .ok (.iload_n 3, 1) := by decide +kernel
theorem dX6_unknownBehindSlide_26 : decode cX6_unknownBehindSlide 26 = .ok (.iload_n 1, 1) := by decide +kernel
theorem dX6_unknownBehindSlide_27 : decode cX6_unknownBehindSlide 27 = .ok (.invokevirtual 65, 3) := by decide +kernel
theorem dX6_unknownBehindSlide_30 : decode cX6_unknownBehindSlide 30 = .ok (.istore_n 2, 1) := by decide +kernel
theorem dX6_unknownBehindSlide_31 : decode cX6_unknownBehindSlide 31 = .ok (.iinc 3 1, 3) := by decide +kernel
theorem dX6_unknownBehindSlide_34 : decode cX6_unknownBehindSlide 34 = .ok (.goto (-24), 3) := by decide +kernel
theorem dX6_unknownBehindSlide_37 : decode cX6_unknownBehindSlide 37 = .ok (.iload_n 2, 1) := by decide +kernel
theorem dX6_unknownBehindSlide_38 : decode cX6_unknownBehindSlide 38 = .ok (.ireturn, 1) := by decide +kernel
theorem dX6_placeOnSlide_0 : decode cX6_placeOnSlide 0 = .ok (.aload_n 0, 1) := by decide +kernel
theorem dX6_placeOnSlide_1 : decode cX6_placeOnSlide 1 = .ok (.getfield 15, 3) := by decide +kernel
theorem dX6_placeOnSlide_4 : decode cX6_placeOnSlide 4 = .ok (.getfield 19, 3) := by decide +kernel
theorem dX6_placeOnSlide_7 : decode cX6_placeOnSlide 7 = .ok (.istore_n 3, 1) := by decide +kernel
theorem dX6_placeOnSlide_8 : decode cX6_placeOnSlide 8 = .ok (.iconst 0, 1) := by decide +kernel
theorem dX6_placeOnSlide_9 : decode cX6_placeOnSlide 9 = .ok (.istore 4, 2) := by decide +kernel
theorem dX6_placeOnSlide_11 : decode cX6_placeOnSlide 11 = .ok (.iload 4, 2) := by decide +kernel
theorem dX6_placeOnSlide_13 : decode cX6_placeOnSlide 13 = .ok (.iload_n 2, 1) := by decide +kernel
theorem dX6_placeOnSlide_14 : decode cX6_placeOnSlide 14 = .ok (.iadd, 1) := by decide +kernel
theorem dX6_placeOnSlide_15 : decode cX6_placeOnSlide 15 = .ok (.aload_n 0, 1) := by decide +kernel
theorem dX6_placeOnSlide_16 : decode cX6_placeOnSlide 16 = .ok (.getfield 9, 3) := by decide +kernel
theorem dX6_placeOnSlide_19 : decode cX6_placeOnSlide 19 = .ok (.getfield 62, 3) := by decide +kernel
theorem dX6_placeOnSlide_22 : decode cX6_placeOnSlide 22 = .ok (.if_icmp .gt 29, 3) := by decide +kernel
theorem dX6_placeOnSlide_25 : decode cX6_placeOnSlide 25 = .ok (.aload_n 0, 1) := by decide +kernel
theorem dX6_placeOnSlide_26 : decode cX6_placeOnSlide 26 = .ok (.iload_n 3, 1) := by decide +kernel
theorem dX6_placeOnSlide_27 : decode cX6_placeOnSlide 27 = .ok (.iload 4, 2) := by decide +kernel
theorem dX6_placeOnSlide_29 : decode cX6_placeOnSlide 29 = .ok (.iload_n 2, 1) := by decide +kernel
theorem dX6_placeOnSlide_30 : decode cX6_placeOnSlide 30 = .ok (.invokevirtual 65, 3) := by decide +kernel
theorem dX6_placeOnSlide_33 : decode cX6_placeOnSlide 33 = .ok (.istore_n 3, 1) := by decide +kernel
theorem dX6_placeOnSlide_34 : decode cX6_placeOnSlide 34 = .ok (.iload_n 3, 1) := by decide +kernel
theorem dX6_placeOnSlide_35 : decode cX6_placeOnSlide 35 = .ok (.iload_n 1, 1) := by decide +kernel
theorem dX6_placeOnSlide_36 : decode cX6_placeOnSlide 36 = .ok (.ishr, 1) := by decide +kernel
theorem dX6_placeOnSlide_37 : decode cX6_placeOnSlide 37 = .ok (.iconst 1, 1) := by decide +kernel
theorem dX6_placeOnSlide_38 : decode cX6_placeOnSlide 38 = .ok (.iand, 1) := by decide +kernel
theorem dX6_placeOnSlide_39 : decode cX6_placeOnSlide 39 = .ok (.ifCond .ne 6, 3) := by decide +kernel
theorem dX6_placeOnSlide_42 : decode cX6_placeOnSlide 42 = .ok (.iload 4, 2) := by decide +kernel
theorem dX6_placeOnSlide_44 : decode cX6_placeOnSlide 44 = .ok (.ireturn, 1) := by decide +kernel
theorem dX6_placeOnSlide_45 : decode cX6_placeOnSlide 45 = .ok (.iinc 4 1, 3) := by decide +kernel
theorem dX6_placeOnSlide_48 : decode cX6_placeOnSlide 48 = .ok (.goto (-37), 3) := by decide +kernel
theorem dX6_placeOnSlide_51 : decode cX6_placeOnSlide 51 = .ok (.iconst (-1), 1) := by decide +kernel
theorem dX6_placeOnSlide_52 : decode cX6_placeOnSlide 52 = .ok (.ireturn, 1) := by decide +kernel
theorem dX6_helpersOf_0 : decode cX6_helpersOf 0 = .ok (.iconst 0, 1) := by decide +kernel
theorem dX6_helpersOf_1 : decode cX6_helpersOf 1 = .ok (.istore_n 2, 1) := by decide +kernel
theorem dX6_helpersOf_2 : decode cX6_helpersOf 2 = .ok (.iconst 0, 1) := by decide +kernel
theorem dX6_helpersOf_3 : decode cX6_helpersOf 3 = .ok (.istore_n 3, 1) := by decide +kernel
theorem dX6_helpersOf_4 : decode cX6_helpersOf 4 = .ok (.iload_n 3, 1) := by decide +kernel
theorem dX6_helpersOf_5 : decode cX6_helpersOf 5 = .ok (.aload_n 0, 1) := by decide +kernel
theorem dX6_helpersOf_6 : decode cX6_helpersOf 6 = .ok (.getfield 9, 3) := by decide +kernel
theorem dX6_helpersOf_9 : decode cX6_helpersOf 9 = .ok (.getfield 69, 3) := by decide +kernel
theorem dX6_helpersOf_12 : decode cX6_helpersOf 12 = .ok (.if_icmp .ge 75, 3) := by decide +kernel
theorem dX6_helpersOf_15 : decode cX6_helpersOf 15 = .ok (.iconst 1, 1) := by decide +kernel
theorem dX6_helpersOf_16 : decode cX6_helpersOf 16 = .ok (.iload_n 3, 1) := by decide +kernel
theorem dX6_helpersOf_17 : decode cX6_helpersOf 17 = .ok (.ishl, 1) := by decide +kernel
theorem dX6_helpersOf_18 : decode cX6_helpersOf 18 = .ok (.istore 4, 2) := by decide +kernel
theorem dX6_helpersOf_20 : decode cX6_helpersOf 20 = .ok (.iload_n 3, 1) := by decide +kernel
theorem dX6_helpersOf_21 : decode cX6_helpersOf 21 = .ok (.iload_n 1, 1) := by decide +kernel
theorem dX6_helpersOf_22 : decode cX6_helpersOf 22 = .ok (.if_icmp .eq 20, 3) := by decide +kernel
theorem dX6_helpersOf_25 : decode cX6_helpersOf 25 = .ok (.aload_n 0, 1) := by decide +kernel
theorem dX6_helpersOf_26 : decode cX6_helpersOf 26 = .ok (.getfield 15, 3) := by decide +kernel
theorem dX6_helpersOf_29 : decode cX6_helpersOf 29 = .ok (.getfield 19, 3) := by decide +kernel
theorem dX6_helpersOf_32 : decode cX6_helpersOf 32 = .ok (.iload 4, 2) := by decide +kernel
theorem dX6_helpersOf_34 : decode cX6_helpersOf 34 = .ok (.iand, 1) := by decide +kernel
theorem dX6_helpersOf_35 : decode cX6_helpersOf 35 = .ok (.ifCond .eq 7, 3) := by decide +kernel
theorem dX6_helpersOf_38 : decode cX6_helpersOf 38 = .ok (.iconst 1, 1) := by decide +kernel
theorem dX6_helpersOf_39 : decode cX6_helpersOf 39 = .ok (.goto 4, 3) := by decide +kernel
theorem dX6_helpersOf_42 : decode cX6_helpersOf 42 = .ok (.iconst 0, 1) := by decide +kernel
theorem dX6_helpersOf_43 : decode cX6_helpersOf 43 = .ok (.istore 5, 2) := by decide +kernel
theorem dX6_helpersOf_45 : decode cX6_helpersOf 45 = .ok (.iload 5, 2) := by decide +kernel
theorem dX6_helpersOf_47 : decode cX6_helpersOf 47 = .ok (.ifCond .eq 34, 3) := by decide +kernel
theorem dX6_helpersOf_50 : decode cX6_helpersOf 50 = .ok (.aload_n 0, 1) := by decide +kernel
theorem dX6_helpersOf_51 : decode cX6_helpersOf 51 = .ok (.getfield 15, 3) := by decide +kernel
theorem dX6_helpersOf_54 : decode cX6_helpersOf 54 = .ok (.aload_n 0, 1) := by decide +kernel
theorem dX6_helpersOf_55 : decode cX6_helpersOf 55 = .ok (.getfield 15, 3) := by decide +kernel
theorem dX6_helpersOf_58 : decode cX6_helpersOf 58 = .ok (.getfield 19, 3) := by decide +kernel
theorem dX6_helpersOf_61 : decode cX6_helpersOf 61 = .ok (.iload 4, 2) := by decide +kernel
theorem dX6_helpersOf_63 : decode cX6_helpersOf 63 = .ok (.iconst (-1), 1) := by decide +kernel
theorem dX6_helpersOf_64 : decode cX6_helpersOf 64 = .ok (.ixor, 1) := by decide +kernel
theorem dX6_helpersOf_65 : decode cX6_helpersOf 65 = .ok (.iand, 1) := by decide +kernel
theorem dX6_helpersOf_66 : decode cX6_helpersOf 66 = .ok (.invokevirtual 29, 3) := by decide +kernel
theorem dX6_helpersOf_69 : decode cX6_helpersOf 69 = .ok (.iload_n 1, 1) := by decide +kernel
theorem dX6_helpersOf_70 : decode cX6_helpersOf 70 = .ok (.ishr, 1) := by decide +kernel
theorem dX6_helpersOf_71 : decode cX6_helpersOf 71 = .ok (.iconst 1, 1) := by decide +kernel
theorem dX6_helpersOf_72 : decode cX6_helpersOf 72 = .ok (.iand, 1) := by decide +kernel
theorem dX6_helpersOf_73 : decode cX6_helpersOf 73 = .ok (.ifCond .ne 8, 3) := by decide +kernel
theorem dX6_helpersOf_76 : decode cX6_helpersOf 76 = .ok (.iload_n 2, 1) := by decide +kernel
theorem dX6_helpersOf_77 : decode cX6_helpersOf 77 = .ok (.iload 4, 2) := by decide +kernel
theorem dX6_helpersOf_79 : decode cX6_helpersOf 79 = .ok (.ior, 1) := by decide +kernel
theorem dX6_helpersOf_80 : decode cX6_helpersOf 80 = .ok (.istore_n 2, 1) := by decide +kernel
theorem dX6_helpersOf_81 : decode cX6_helpersOf 81 = .ok (.iinc 3 1, 3) := by decide +kernel
theorem dX6_helpersOf_84 : decode cX6_helpersOf 84 = .ok (.goto (-80), 3) := by decide +kernel
theorem dX6_helpersOf_87 : decode cX6_helpersOf 87 = .ok (.iload_n 2, 1) := by decide +kernel
theorem dX6_helpersOf_88 : decode cX6_helpersOf 88 = .ok (.ireturn, 1) := by decide +kernel
theorem dX6_othersKnownWithout_0 : decode cX6_othersKnownWithout 0 = .ok (.aload_n 0, 1) := by decide +kernel
theorem dX6_othersKnownWithout_1 : decode cX6_othersKnownWithout 1 = .ok (.getfield 9, 3) := by decide +kernel
theorem dX6_othersKnownWithout_4 : decode cX6_othersKnownWithout 4 = .ok (.getfield 69, 3) := by decide +kernel
theorem dX6_othersKnownWithout_7 : decode cX6_othersKnownWithout 7 = .ok (.iconst 1, 1) := by decide +kernel
theorem dX6_othersKnownWithout_8 : decode cX6_othersKnownWithout 8 = .ok (.isub, 1) := by decide +kernel
theorem dX6_othersKnownWithout_9 : decode cX6_othersKnownWithout 9 = .ok (.aload_n 0, 1) := by decide +kernel
theorem dX6_othersKnownWithout_10 : decode cX6_othersKnownWithout 10 = .ok (.getfield 15, 3) := by decide +kernel
theorem dX6_othersKnownWithout_13 : decode cX6_othersKnownWithout 13 = .ok (.aload_n 0, 1) := by decide +kernel
theorem dX6_othersKnownWithout_14 : decode cX6_othersKnownWithout 14 = .ok (.getfield 15, 3) := by decide +kernel
theorem dX6_othersKnownWithout_17 : decode cX6_othersKnownWithout 17 = .ok (.getfield 19, 3) := by decide +kernel
theorem dX6_othersKnownWithout_20 : decode cX6_othersKnownWithout 20 = .ok (.iconst 1, 1) := by decide +kernel
theorem dX6_othersKnownWithout_21 : decode cX6_othersKnownWithout 21 = .ok (.iload_n 1, 1) := by decide +kernel
theorem dX6_othersKnownWithout_22 : decode cX6_othersKnownWithout 22 = .ok (.ishl, 1) := by decide +kernel
theorem dX6_othersKnownWithout_23 : decode cX6_othersKnownWithout 23 = .ok (.iconst (-1), 1) := by decide +kernel
theorem dX6_othersKnownWithout_24 : decode cX6_othersKnownWithout 24 = .ok (.ixor, 1) := by decide +kernel
theorem dX6_othersKnownWithout_25 : decode cX6_othersKnownWithout 25 = .ok (.iand, 1) := by decide +kernel
theorem dX6_othersKnownWithout_26 : decode cX6_othersKnownWithout 26 = .ok (.invokevirtual 29, 3) := by decide +kernel
theorem dX6_othersKnownWithout_29 : decode cX6_othersKnownWithout 29 = .ok (.invokestatic 32, 3) := by decide +kernel
theorem dX6_othersKnownWithout_32 : decode cX6_othersKnownWithout 32 = .ok (.isub, 1) := by decide +kernel
theorem dX6_othersKnownWithout_33 : decode cX6_othersKnownWithout 33 = .ok (.ireturn, 1) := by decide +kernel
theorem dX6_helperOfMost_0 : decode cX6_helperOfMost 0 = .ok (.iconst (-1), 1) := by decide +kernel
theorem dX6_helperOfMost_1 : decode cX6_helperOfMost 1 = .ok (.istore_n 1, 1) := by decide +kernel
theorem dX6_helperOfMost_2 : decode cX6_helperOfMost 2 = .ok (.iconst (-1), 1) := by decide +kernel
theorem dX6_helperOfMost_3 : decode cX6_helperOfMost 3 = .ok (.istore_n 2, 1) := by decide +kernel
theorem dX6_helperOfMost_4 : decode cX6_helperOfMost 4 = .ok (.iconst 0, 1) := by decide +kernel
theorem dX6_helperOfMost_5 : decode cX6_helperOfMost 5 = .ok (.istore_n 3, 1) := by decide +kernel
theorem dX6_helperOfMost_6 : decode cX6_helperOfMost 6 = .ok (.iload_n 3, 1) := by decide +kernel
theorem dX6_helperOfMost_7 : decode cX6_helperOfMost 7 = .ok (.aload_n 0, 1) := by decide +kernel
theorem dX6_helperOfMost_8 : decode cX6_helperOfMost 8 = .ok (.getfield 9, 3) := by decide +kernel
theorem dX6_helperOfMost_11 : decode cX6_helperOfMost 11 = .ok (.getfield 69, 3) := by decide +kernel
theorem dX6_helperOfMost_14 : decode cX6_helperOfMost 14 = .ok (.if_icmp .ge 57, 3) := by decide +kernel
theorem dX6_helperOfMost_17 : decode cX6_helperOfMost 17 = .ok (.aload_n 0, 1) := by decide +kernel
theorem dX6_helperOfMost_18 : decode cX6_helperOfMost 18 = .ok (.getfield 15, 3) := by decide +kernel
theorem dX6_helperOfMost_21 : decode cX6_helperOfMost 21 = .ok (.getfield 19, 3) := by decide +kernel
theorem dX6_helperOfMost_24 : decode cX6_helperOfMost 24 = .ok (.iload_n 3, 1) := by decide +kernel
theorem dX6_helperOfMost_25 : decode cX6_helperOfMost 25 = .ok (.ishr, 1) := by decide +kernel
theorem dX6_helperOfMost_26 : decode cX6_helperOfMost 26 = .ok (.iconst 1, 1) := by decide +kernel
theorem dX6_helperOfMost_27 : decode cX6_helperOfMost 27 = .ok (.iand, 1) := by decide +kernel
theorem dX6_helperOfMost_28 : decode cX6_helperOfMost 28 = .ok (.ifCond .eq 7, 3) := by decide +kernel
theorem dX6_helperOfMost_31 : decode cX6_helperOfMost 31 = .ok (.iconst 1, 1) := by decide +kernel
theorem dX6_helperOfMost_32 : decode cX6_helperOfMost 32 = .ok (.goto 4, 3) := by decide +kernel
theorem dX6_helperOfMost_35 : decode cX6_helperOfMost 35 = .ok (.iconst 0, 1) := by decide +kernel
theorem dX6_helperOfMost_36 : decode cX6_helperOfMost 36 = .ok (.istore 4, 2) := by decide +kernel
theorem dX6_helperOfMost_38 : decode cX6_helperOfMost 38 = .ok (.iload 4, 2) := by decide +kernel
theorem dX6_helperOfMost_40 : decode cX6_helperOfMost 40 = .ok (.ifCond .eq 11, 3) := by decide +kernel
theorem dX6_helperOfMost_43 : decode cX6_helperOfMost 43 = .ok (.aload_n 0, 1) := by decide +kernel
theorem dX6_helperOfMost_44 : decode cX6_helperOfMost 44 = .ok (.iload_n 3, 1) := by decide +kernel
theorem dX6_helperOfMost_45 : decode cX6_helperOfMost 45 = .ok (.invokevirtual 72, 3) := by decide +kernel
theorem dX6_helperOfMost_48 : decode cX6_helperOfMost 48 = .ok (.goto 4, 3) := by decide +kernel
theorem dX6_helperOfMost_51 : decode cX6_helperOfMost 51 = .ok (.iconst (-1), 1) := by decide +kernel
theorem dX6_helperOfMost_52 : decode cX6_helperOfMost 52 = .ok (.istore 5, 2) := by decide +kernel
theorem dX6_helperOfMost_54 : decode cX6_helperOfMost 54 = .ok (.iload 5, 2) := by decide +kernel
theorem dX6_helperOfMost_56 : decode cX6_helperOfMost 56 = .ok (.iload_n 2, 1) := by decide +kernel
theorem dX6_helperOfMost_57 : decode cX6_helperOfMost 57 = .ok (.if_icmp .le 8, 3) := by decide +kernel
theorem dX6_helperOfMost_60 : decode cX6_helperOfMost 60 = .ok (.iload_n 3, 1) := by decide +kernel
theorem dX6_helperOfMost_61 : decode cX6_helperOfMost 61 = .ok (.istore_n 1, 1) := by decide +kernel
theorem dX6_helperOfMost_62 : decode cX6_helperOfMost 62 = .ok (.iload 5, 2) := by decide +kernel
theorem dX6_helperOfMost_64 : decode cX6_helperOfMost 64 = .ok (.istore_n 2, 1) := by decide +kernel
theorem dX6_helperOfMost_65 : decode cX6_helperOfMost 65 = .ok (.iinc 3 1, 3) := by decide +kernel
theorem dX6_helperOfMost_68 : decode cX6_helperOfMost 68 = .ok (.goto (-62), 3) := by decide +kernel
theorem dX6_helperOfMost_71 : decode cX6_helperOfMost 71 = .ok (.iload_n 1, 1) := by decide +kernel
theorem dX6_helperOfMost_72 : decode cX6_helperOfMost 72 = .ok (.ireturn, 1) := by decide +kernel
theorem dX6_knownWithCopy_0 : decode cX6_knownWithCopy 0 = .ok (.aload_n 0, 1) := by decide +kernel
theorem dX6_knownWithCopy_1 : decode cX6_knownWithCopy 1 = .ok (.getfield 15, 3) := by decide +kernel
theorem dX6_knownWithCopy_4 : decode cX6_knownWithCopy 4 = .ok (.getfield 46, 3) := by decide +kernel
theorem dX6_knownWithCopy_7 : decode cX6_knownWithCopy 7 = .ok (.iload_n 2, 1) := by decide +kernel
theorem dX6_knownWithCopy_8 : decode cX6_knownWithCopy 8 = .ok (.iaload, 1) := by decide +kernel
theorem dX6_knownWithCopy_9 : decode cX6_knownWithCopy 9 = .ok (.istore_n 3, 1) := by decide +kernel
theorem dX6_knownWithCopy_10 : decode cX6_knownWithCopy 10 = .ok (.aload_n 0, 1) := by decide +kernel
theorem dX6_knownWithCopy_11 : decode cX6_knownWithCopy 11 = .ok (.getfield 15, 3) := by decide +kernel
theorem dX6_knownWithCopy_14 : decode cX6_knownWithCopy 14 = .ok (.getfield 46, 3) := by decide +kernel
theorem dX6_knownWithCopy_17 : decode cX6_knownWithCopy 17 = .ok (.iload_n 2, 1) := by decide +kernel
theorem dX6_knownWithCopy_18 : decode cX6_knownWithCopy 18 = .ok (.iload_n 3, 1) := by decide +kernel
theorem dX6_knownWithCopy_19 : decode cX6_knownWithCopy 19 = .ok (.iconst 1, 1) := by decide +kernel
theorem dX6_knownWithCopy_20 : decode cX6_knownWithCopy 20 = .ok (.iload_n 1, 1) := by decide +kernel
theorem dX6_knownWithCopy_21 : decode cX6_knownWithCopy 21 = .ok (.ishl, 1) := by decide +kernel
theorem dX6_knownWithCopy_22 : decode cX6_knownWithCopy 22 = .ok (.ior, 1) := by decide +kernel
theorem dX6_knownWithCopy_23 : decode cX6_knownWithCopy 23 = .ok (.iastore, 1) := by decide +kernel
theorem dX6_knownWithCopy_24 : decode cX6_knownWithCopy 24 = .ok (.aload_n 0, 1) := by decide +kernel
theorem dX6_knownWithCopy_25 : decode cX6_knownWithCopy 25 = .ok (.getfield 15, 3) := by decide +kernel
theorem dX6_knownWithCopy_28 : decode cX6_knownWithCopy 28 = .ok (.aload_n 0, 1) := by decide +kernel
theorem dX6_knownWithCopy_29 : decode cX6_knownWithCopy 29 = .ok (.getfield 15, 3) := by decide +kernel
theorem dX6_knownWithCopy_32 : decode cX6_knownWithCopy 32 = .ok (.getfield 19, 3) := by decide +kernel
theorem dX6_knownWithCopy_35 : decode cX6_knownWithCopy 35 = .ok (.invokevirtual 29, 3) := by decide +kernel
theorem dX6_knownWithCopy_38 : decode cX6_knownWithCopy 38 = .ok (.istore 4, 2) := by decide +kernel
theorem dX6_knownWithCopy_40 : decode cX6_knownWithCopy 40 = .ok (.aload_n 0, 1) := by decide +kernel
theorem dX6_knownWithCopy_41 : decode cX6_knownWithCopy 41 = .ok (.getfield 15, 3) := by decide +kernel
theorem dX6_knownWithCopy_44 : decode cX6_knownWithCopy 44 = .ok (.getfield 46, 3) := by decide +kernel
theorem dX6_knownWithCopy_47 : decode cX6_knownWithCopy 47 = .ok (.iload_n 2, 1) := by decide +kernel
theorem dX6_knownWithCopy_48 : decode cX6_knownWithCopy 48 = .ok (.iload_n 3, 1) := by decide +kernel
theorem dX6_knownWithCopy_49 : decode cX6_knownWithCopy 49 = .ok (.iastore, 1) := by decide +kernel
theorem dX6_knownWithCopy_50 : decode cX6_knownWithCopy 50 = .ok (.aload_n 0, 1) := by decide +kernel
theorem dX6_knownWithCopy_51 : decode cX6_knownWithCopy 51 = .ok (.getfield 9, 3) := by decide +kernel
theorem dX6_knownWithCopy_54 : decode cX6_knownWithCopy 54 = .ok (.getfield 69, 3) := by decide +kernel
theorem dX6_knownWithCopy_57 : decode cX6_knownWithCopy 57 = .ok (.iload 4, 2) := by decide +kernel
theorem dX6_knownWithCopy_59 : decode cX6_knownWithCopy 59 = .ok (.invokestatic 32, 3) := by decide +kernel
theorem dX6_knownWithCopy_62 : decode cX6_knownWithCopy 62 = .ok (.isub, 1) := by decide +kernel
theorem dX6_knownWithCopy_63 : decode cX6_knownWithCopy 63 = .ok (.ireturn, 1) := by decide +kernel
theorem dX6_bestNewSlot_0 : decode cX6_bestNewSlot 0 = .ok (.iconst (-1), 1) := by decide +kernel
theorem dX6_bestNewSlot_1 : decode cX6_bestNewSlot 1 = .ok (.istore_n 2, 1) := by decide +kernel
theorem dX6_bestNewSlot_2 : decode cX6_bestNewSlot 2 = .ok (.iconst (-1), 1) := by decide +kernel
theorem dX6_bestNewSlot_3 : decode cX6_bestNewSlot 3 = .ok (.istore_n 3, 1) := by decide +kernel
theorem dX6_bestNewSlot_4 : decode cX6_bestNewSlot 4 = .ok (.aload_n 0, 1) := by decide +kernel
theorem dX6_bestNewSlot_5 : decode cX6_bestNewSlot 5 = .ok (.getfield 9, 3) := by decide +kernel
theorem dX6_bestNewSlot_8 : decode cX6_bestNewSlot 8 = .ok (.iload_n 1, 1) := by decide +kernel
theorem dX6_bestNewSlot_9 : decode cX6_bestNewSlot 9 = .ok (.invokevirtual 75, 3) := by decide +kernel
theorem dX6_bestNewSlot_12 : decode cX6_bestNewSlot 12 = .ok (.istore 4, 2) := by decide +kernel
theorem dX6_bestNewSlot_14 : decode cX6_bestNewSlot 14 = .ok (.iload 4, 2) := by decide +kernel
theorem dX6_bestNewSlot_16 : decode cX6_bestNewSlot 16 = .ok (.aload_n 0, 1) := by decide +kernel
theorem dX6_bestNewSlot_17 : decode cX6_bestNewSlot 17 = .ok (.getfield 9, 3) := by decide +kernel
theorem dX6_bestNewSlot_20 : decode cX6_bestNewSlot 20 = .ok (.iload_n 1, 1) := by decide +kernel
theorem dX6_bestNewSlot_21 : decode cX6_bestNewSlot 21 = .ok (.invokevirtual 78, 3) := by decide +kernel
theorem dX6_bestNewSlot_24 : decode cX6_bestNewSlot 24 = .ok (.if_icmp .ge 63, 3) := by decide +kernel
theorem dX6_bestNewSlot_27 : decode cX6_bestNewSlot 27 = .ok (.aload_n 0, 1) := by decide +kernel
theorem dX6_bestNewSlot_28 : decode cX6_bestNewSlot 28 = .ok (.getfield 15, 3) := by decide +kernel
theorem dX6_bestNewSlot_31 : decode cX6_bestNewSlot 31 = .ok (.getfield 46, 3) := by decide +kernel
theorem dX6_bestNewSlot_34 : decode cX6_bestNewSlot 34 = .ok (.iload 4, 2) := by decide +kernel
theorem dX6_bestNewSlot_36 : decode cX6_bestNewSlot 36 = .ok (.iaload, 1) := by decide +kernel
theorem dX6_bestNewSlot_37 : decode cX6_bestNewSlot 37 = .ok (.iload_n 1, 1) := by decide +kernel
theorem dX6_bestNewSlot_38 : decode cX6_bestNewSlot 38 = .ok (.ishr, 1) := by decide +kernel
theorem dX6_bestNewSlot_39 : decode cX6_bestNewSlot 39 = .ok (.iconst 1, 1) := by decide +kernel
theorem dX6_bestNewSlot_40 : decode cX6_bestNewSlot 40 = .ok (.iand, 1) := by decide +kernel
theorem dX6_bestNewSlot_41 : decode cX6_bestNewSlot 41 = .ok (.ifCond .ne 7, 3) := by decide +kernel
theorem dX6_bestNewSlot_44 : decode cX6_bestNewSlot 44 = .ok (.iconst 1, 1) := by decide +kernel
theorem dX6_bestNewSlot_45 : decode cX6_bestNewSlot 45 = .ok (.goto 4, 3) := by decide +kernel
theorem dX6_bestNewSlot_48 : decode cX6_bestNewSlot 48 = .ok (.iconst 0, 1) := by decide +kernel
theorem dX6_bestNewSlot_49 : decode cX6_bestNewSlot 49 = .ok (.istore 5, 2) := by decide +kernel
theorem dX6_bestNewSlot_51 : decode cX6_bestNewSlot 51 = .ok (.iload 5, 2) := by decide +kernel
theorem dX6_bestNewSlot_53 : decode cX6_bestNewSlot 53 = .ok (.ifCond .eq 13, 3) := by decide +kernel
theorem dX6_bestNewSlot_56 : decode cX6_bestNewSlot 56 = .ok (.aload_n 0, 1) := by decide +kernel
theorem dX6_bestNewSlot_57 : decode cX6_bestNewSlot 57 = .ok (.iload_n 1, 1) := by decide +kernel
theorem dX6_bestNewSlot_58 : decode cX6_bestNewSlot 58 = .ok (.iload 4, 2) := by decide +kernel
theorem dX6_bestNewSlot_60 : decode cX6_bestNewSlot 60 = .ok (.invokevirtual 81, 3) := by decide +kernel
theorem dX6_bestNewSlot_63 : decode cX6_bestNewSlot 63 = .ok (.goto 4, 3) := by decide +kernel
theorem dX6_bestNewSlot_66 : decode cX6_bestNewSlot 66 = .ok (.iconst (-1), 1) := by decide +kernel
theorem dX6_bestNewSlot_67 : decode cX6_bestNewSlot 67 = .ok (.istore 6, 2) := by decide +kernel
theorem dX6_bestNewSlot_69 : decode cX6_bestNewSlot 69 = .ok (.iload 6, 2) := by decide +kernel
theorem dX6_bestNewSlot_71 : decode cX6_bestNewSlot 71 = .ok (.iload_n 3, 1) := by decide +kernel
theorem dX6_bestNewSlot_72 : decode cX6_bestNewSlot 72 = .ok (.if_icmp .le 9, 3) := by decide +kernel
theorem dX6_bestNewSlot_75 : decode cX6_bestNewSlot 75 = .ok (.iload 4, 2) := by decide +kernel
theorem dX6_bestNewSlot_77 : decode cX6_bestNewSlot 77 = .ok (.istore_n 2, 1) := by decide +kernel
theorem dX6_bestNewSlot_78 : decode cX6_bestNewSlot 78 = .ok (.iload 6, 2) := by decide +kernel
theorem dX6_bestNewSlot_80 : decode cX6_bestNewSlot 80 = .ok (.istore_n 3, 1) := by decide +kernel
theorem dX6_bestNewSlot_81 : decode cX6_bestNewSlot 81 = .ok (.iinc 4 1, 3) := by decide +kernel
theorem dX6_bestNewSlot_84 : decode cX6_bestNewSlot 84 = .ok (.goto (-70), 3) := by decide +kernel
theorem dX6_bestNewSlot_87 : decode cX6_bestNewSlot 87 = .ok (.iload_n 2, 1) := by decide +kernel
theorem dX6_bestNewSlot_88 : decode cX6_bestNewSlot 88 = .ok (.ireturn, 1) := by decide +kernel
theorem dX6_partsKnown_0 : decode cX6_partsKnown 0 = .ok (.lconst 1, 1) := by decide +kernel
theorem dX6_partsKnown_1 : decode cX6_partsKnown 1 = .ok (.aload_n 0, 1) := by decide +kernel
theorem dX6_partsKnown_2 : decode cX6_partsKnown 2 = .ok (.getfield 9, 3) := by decide +kernel
theorem dX6_partsKnown_5 : decode cX6_partsKnown 5 = .ok (.getfield 41, 3) := by decide +kernel
theorem dX6_partsKnown_8 : decode cX6_partsKnown 8 = .ok (.lshl, 1) := by decide +kernel
theorem dX6_partsKnown_9 : decode cX6_partsKnown 9 = .ok (.lconst 1, 1) := by decide +kernel
