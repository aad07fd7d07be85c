/-! decode rows (printed by the kit) -/
theorem dX11_liveOneYear_78 : decode cX11_liveOneYear 78 = .ok (.getfield 147, 3) := by decide +kernel
theorem dX11_liveOneYear_81 : decode cX11_liveOneYear 81 = .ok (.invokevirtual 295, 3) := by decide +kernel
theorem dX11_liveOneYear_84 : decode cX11_liveOneYear 84 = .ok (.istore_n 2, 1) := by decide +kernel
theorem dX11_liveOneYear_85 : decode cX11_liveOneYear 85 = .ok (.iload_n 1, 1) := by decide +kernel
theorem dX11_liveOneYear_86 : decode cX11_liveOneYear 86 = .ok (.iconst 5, 1) := by decide +kernel
theorem dX11_liveOneYear_87 : decode cX11_liveOneYear 87 = .ok (.if_icmp .ge 24, 3) := by decide +kernel
theorem dX11_liveOneYear_90 : decode cX11_liveOneYear 90 = .ok (.aload_n 0, 1) := by decide +kernel
theorem dX11_liveOneYear_91 : decode cX11_liveOneYear 91 = .ok (.iload_n 1, 1) := by decide +kernel
theorem dX11_liveOneYear_92 : decode cX11_liveOneYear 92 = .ok (.iconst 3, 1) := by decide +kernel
theorem dX11_liveOneYear_93 : decode cX11_liveOneYear 93 = .ok (.if_icmp .ne 7, 3) := by decide +kernel
theorem dX11_liveOneYear_96 : decode cX11_liveOneYear 96 = .ok (.iconst 2, 1) := by decide +kernel
theorem dX11_liveOneYear_97 : decode cX11_liveOneYear 97 = .ok (.goto 4, 3) := by decide +kernel
theorem dX11_liveOneYear_100 : decode cX11_liveOneYear 100 = .ok (.iconst 3, 1) := by decide +kernel
theorem dX11_liveOneYear_101 : decode cX11_liveOneYear 101 = .ok (.iload_n 2, 1) := by decide +kernel
theorem dX11_liveOneYear_102 : decode cX11_liveOneYear 102 = .ok (.iconst (-1), 1) := by decide +kernel
theorem dX11_liveOneYear_103 : decode cX11_liveOneYear 103 = .ok (.lconst 0, 1) := by decide +kernel
theorem dX11_liveOneYear_104 : decode cX11_liveOneYear 104 = .ok (.invokevirtual 276, 3) := by decide +kernel
theorem dX11_liveOneYear_107 : decode cX11_liveOneYear 107 = .ok (.pop, 1) := by decide +kernel
theorem dX11_liveOneYear_108 : decode cX11_liveOneYear 108 = .ok (.goto 39, 3) := by decide +kernel
theorem dX11_liveOneYear_111 : decode cX11_liveOneYear 111 = .ok (.aload_n 0, 1) := by decide +kernel
theorem dX11_liveOneYear_112 : decode cX11_liveOneYear 112 = .ok (.getfield 23, 3) := by decide +kernel
theorem dX11_liveOneYear_115 : decode cX11_liveOneYear 115 = .ok (.iload_n 2, 1) := by decide +kernel
theorem dX11_liveOneYear_116 : decode cX11_liveOneYear 116 = .ok (.invokevirtual 298, 3) := by decide +kernel
theorem dX11_liveOneYear_119 : decode cX11_liveOneYear 119 = .ok (.istore_n 3, 1) := by decide +kernel
theorem dX11_liveOneYear_120 : decode cX11_liveOneYear 120 = .ok (.aload_n 0, 1) := by decide +kernel
theorem dX11_liveOneYear_121 : decode cX11_liveOneYear 121 = .ok (.iconst 4, 1) := by decide +kernel
theorem dX11_liveOneYear_122 : decode cX11_liveOneYear 122 = .ok (.iload_n 2, 1) := by decide +kernel
theorem dX11_liveOneYear_123 : decode cX11_liveOneYear 123 = .ok (.iload_n 3, 1) := by decide +kernel
theorem dX11_liveOneYear_124 : decode cX11_liveOneYear 124 = .ok (.aload_n 0, 1) := by decide +kernel
theorem dX11_liveOneYear_125 : decode cX11_liveOneYear 125 = .ok (.getfield 74, 3) := by decide +kernel
theorem dX11_liveOneYear_128 : decode cX11_liveOneYear 128 = .ok (.aload_n 0, 1) := by decide +kernel
theorem dX11_liveOneYear_129 : decode cX11_liveOneYear 129 = .ok (.getfield 23, 3) := by decide +kernel
theorem dX11_liveOneYear_132 : decode cX11_liveOneYear 132 = .ok (.iload_n 2, 1) := by decide +kernel
theorem dX11_liveOneYear_133 : decode cX11_liveOneYear 133 = .ok (.invokevirtual 301, 3) := by decide +kernel
theorem dX11_liveOneYear_136 : decode cX11_liveOneYear 136 = .ok (.iload_n 3, 1) := by decide +kernel
theorem dX11_liveOneYear_137 : decode cX11_liveOneYear 137 = .ok (.isub, 1) := by decide +kernel
theorem dX11_liveOneYear_138 : decode cX11_liveOneYear 138 = .ok (.invokevirtual 295, 3) := by decide +kernel
theorem dX11_liveOneYear_141 : decode cX11_liveOneYear 141 = .ok (.iadd, 1) := by decide +kernel
theorem dX11_liveOneYear_142 : decode cX11_liveOneYear 142 = .ok (.lconst 0, 1) := by decide +kernel
theorem dX11_liveOneYear_143 : decode cX11_liveOneYear 143 = .ok (.invokevirtual 276, 3) := by decide +kernel
theorem dX11_liveOneYear_146 : decode cX11_liveOneYear 146 = .ok (.pop, 1) := by decide +kernel
theorem dX11_liveOneYear_147 : decode cX11_liveOneYear 147 = .ok (.return_, 1) := by decide +kernel
theorem dX11_status_0 : decode cX11_status 0 = .ok (.iload_n 1, 1) := by decide +kernel
theorem dX11_status_1 : decode cX11_status 1 = .ok (.ifCond .lt 8, 3) := by decide +kernel
theorem dX11_status_4 : decode cX11_status 4 = .ok (.iload_n 1, 1) := by decide +kernel
theorem dX11_status_5 : decode cX11_status 5 = .ok (.iconst 4, 1) := by decide +kernel
theorem dX11_status_6 : decode cX11_status 6 = .ok (.if_icmp .lt 7, 3) := by decide +kernel
theorem dX11_status_9 : decode cX11_status 9 = .ok (.iconst (-1), 1) := by decide +kernel
theorem dX11_status_10 : decode cX11_status 10 = .ok (.goto 9, 3) := by decide +kernel
theorem dX11_status_13 : decode cX11_status 13 = .ok (.aload_n 0, 1) := by decide +kernel
theorem dX11_status_14 : decode cX11_status 14 = .ok (.getfield 67, 3) := by decide +kernel
theorem dX11_status_17 : decode cX11_status 17 = .ok (.iload_n 1, 1) := by decide +kernel
theorem dX11_status_18 : decode cX11_status 18 = .ok (.iaload, 1) := by decide +kernel
theorem dX11_status_19 : decode cX11_status 19 = .ok (.ireturn, 1) := by decide +kernel
theorem dX11_undo_0 : decode cX11_undo 0 = .ok (.aload_n 0, 1) := by decide +kernel
theorem dX11_undo_1 : decode cX11_undo 1 = .ok (.getfield 63, 3) := by decide +kernel
theorem dX11_undo_4 : decode cX11_undo 4 = .ok (.getfield 140, 3) := by decide +kernel
theorem dX11_undo_7 : decode cX11_undo 7 = .ok (.ifCond .ne 5, 3) := by decide +kernel
theorem dX11_undo_10 : decode cX11_undo 10 = .ok (.iconst (-1), 1) := by decide +kernel
theorem dX11_undo_11 : decode cX11_undo 11 = .ok (.ireturn, 1) := by decide +kernel
theorem dX11_undo_12 : decode cX11_undo 12 = .ok (.aload_n 0, 1) := by decide +kernel
theorem dX11_undo_13 : decode cX11_undo 13 = .ok (.getfield 63, 3) := by decide +kernel
theorem dX11_undo_16 : decode cX11_undo 16 = .ok (.aload_n 0, 1) := by decide +kernel
theorem dX11_undo_17 : decode cX11_undo 17 = .ok (.getfield 40, 3) := by decide +kernel
theorem dX11_undo_20 : decode cX11_undo 20 = .ok (.invokevirtual 304, 3) := by decide +kernel
theorem dX11_undo_23 : decode cX11_undo 23 = .ok (.aload_n 0, 1) := by decide +kernel
theorem dX11_undo_24 : decode cX11_undo 24 = .ok (.getfield 53, 3) := by decide +kernel
theorem dX11_undo_27 : decode cX11_undo 27 = .ok (.dup, 1) := by decide +kernel
theorem dX11_undo_28 : decode cX11_undo 28 = .ok (.getfield 139, 3) := by decide +kernel
theorem dX11_undo_31 : decode cX11_undo 31 = .ok (.iconst 1, 1) := by decide +kernel
theorem dX11_undo_32 : decode cX11_undo 32 = .ok (.isub, 1) := by decide +kernel
theorem dX11_undo_33 : decode cX11_undo 33 = .ok (.putfield 139, 3) := by decide +kernel
theorem dX11_undo_36 : decode cX11_undo 36 = .ok (.aload_n 0, 1) := by decide +kernel
theorem dX11_undo_37 : decode cX11_undo 37 = .ok (.getfield 63, 3) := by decide +kernel
theorem dX11_undo_40 : decode cX11_undo 40 = .ok (.getfield 140, 3) := by decide +kernel
theorem dX11_undo_43 : decode cX11_undo 43 = .ok (.ireturn, 1) := by decide +kernel
theorem dX11_log_0 : decode cX11_log 0 = .ok (.iload_n 1, 1) := by decide +kernel
theorem dX11_log_1 : decode cX11_log 1 = .ok (.ifCond .lt 23, 3) := by decide +kernel
theorem dX11_log_4 : decode cX11_log 4 = .ok (.iload_n 1, 1) := by decide +kernel
theorem dX11_log_5 : decode cX11_log 5 = .ok (.aload_n 0, 1) := by decide +kernel
theorem dX11_log_6 : decode cX11_log 6 = .ok (.getfield 53, 3) := by decide +kernel
theorem dX11_log_9 : decode cX11_log 9 = .ok (.invokevirtual 307, 3) := by decide +kernel
theorem dX11_log_12 : decode cX11_log 12 = .ok (.if_icmp .ge 12, 3) := by decide +kernel
theorem dX11_log_15 : decode cX11_log 15 = .ok (.iload_n 2, 1) := by decide +kernel
theorem dX11_log_16 : decode cX11_log 16 = .ok (.ifCond .lt 8, 3) := by decide +kernel
theorem dX11_log_19 : decode cX11_log 19 = .ok (.iload_n 2, 1) := by decide +kernel
theorem dX11_log_20 : decode cX11_log 20 = .ok (.iconst 2, 1) := by decide +kernel
theorem dX11_log_21 : decode cX11_log 21 = .ok (.if_icmp .le 6, 3) := by decide +kernel
theorem dX11_log_24 : decode cX11_log 24 = .ok (.ldc 246, 2) := by decide +kernel
theorem dX11_log_26 : decode cX11_log 26 = .ok (.ireturn, 1) := by decide +kernel
theorem dX11_log_27 : decode cX11_log 27 = .ok (.aload_n 0, 1) := by decide +kernel
theorem dX11_log_28 : decode cX11_log 28 = .ok (.getfield 53, 3) := by decide +kernel
theorem dX11_log_31 : decode cX11_log 31 = .ok (.iload_n 1, 1) := by decide +kernel
theorem dX11_log_32 : decode cX11_log 32 = .ok (.iload_n 2, 1) := by decide +kernel
theorem dX11_log_33 : decode cX11_log 33 = .ok (.invokevirtual 310, 3) := by decide +kernel
theorem dX11_log_36 : decode cX11_log 36 = .ok (.ireturn, 1) := by decide +kernel
theorem dX11_solved_0 : decode cX11_solved 0 = .ok (.aload_n 0, 1) := by decide +kernel
theorem dX11_solved_1 : decode cX11_solved 1 = .ok (.invokevirtual 156, 3) := by decide +kernel
theorem dX11_solved_4 : decode cX11_solved 4 = .ok (.ifCond .ne 12, 3) := by decide +kernel
theorem dX11_solved_7 : decode cX11_solved 7 = .ok (.iload_n 1, 1) := by decide +kernel
theorem dX11_solved_8 : decode cX11_solved 8 = .ok (.ifCond .lt 8, 3) := by decide +kernel
theorem dX11_solved_11 : decode cX11_solved 11 = .ok (.iload_n 1, 1) := by decide +kernel
theorem dX11_solved_12 : decode cX11_solved 12 = .ok (.iconst 2, 1) := by decide +kernel
theorem dX11_solved_13 : decode cX11_solved 13 = .ok (.if_icmp .le 5, 3) := by decide +kernel
theorem dX11_solved_16 : decode cX11_solved 16 = .ok (.iconst (-1), 1) := by decide +kernel
theorem dX11_solved_17 : decode cX11_solved 17 = .ok (.ireturn, 1) := by decide +kernel
theorem dX11_solved_18 : decode cX11_solved 18 = .ok (.aload_n 0, 1) := by decide +kernel
theorem dX11_solved_19 : decode cX11_solved 19 = .ok (.getfield 83, 3) := by decide +kernel
theorem dX11_solved_22 : decode cX11_solved 22 = .ok (.aload_n 0, 1) := by decide +kernel
theorem dX11_solved_23 : decode cX11_solved 23 = .ok (.getfield 40, 3) := by decide +kernel
theorem dX11_solved_26 : decode cX11_solved 26 = .ok (.invokevirtual 207, 3) := by decide +kernel
theorem dX11_solved_29 : decode cX11_solved 29 = .ok (.iload_n 1, 1) := by decide +kernel
theorem dX11_solved_30 : decode cX11_solved 30 = .ok (.iconst 2, 1) := by decide +kernel
theorem dX11_solved_31 : decode cX11_solved 31 = .ok (.if_icmp .ne 11, 3) := by decide +kernel
theorem dX11_solved_34 : decode cX11_solved 34 = .ok (.aload_n 0, 1) := by decide +kernel
theorem dX11_solved_35 : decode cX11_solved 35 = .ok (.getfield 99, 3) := by decide +kernel
theorem dX11_solved_38 : decode cX11_solved 38 = .ok (.invokevirtual 313, 3) := by decide +kernel
theorem dX11_solved_41 : decode cX11_solved 41 = .ok (.ireturn, 1) := by decide +kernel
theorem dX11_solved_42 : decode cX11_solved 42 = .ok (.aload_n 0, 1) := by decide +kernel
theorem dX11_solved_43 : decode cX11_solved 43 = .ok (.getfield 23, 3) := by decide +kernel
theorem dX11_solved_46 : decode cX11_solved 46 = .ok (.invokevirtual 316, 3) := by decide +kernel
theorem dX11_solved_49 : decode cX11_solved 49 = .ok (.aload_n 0, 1) := by decide +kernel
theorem dX11_solved_50 : decode cX11_solved 50 = .ok (.getfield 83, 3) := by decide +kernel
theorem dX11_solved_53 : decode cX11_solved 53 = .ok (.aload_n 0, 1) := by decide +kernel
theorem dX11_solved_54 : decode cX11_solved 54 = .ok (.getfield 83, 3) := by decide +kernel
theorem dX11_solved_57 : decode cX11_solved 57 = .ok (.getfield 239, 3) := by decide +kernel
theorem dX11_solved_60 : decode cX11_solved 60 = .ok (.invokevirtual 319, 3) := by decide +kernel
theorem dX11_solved_63 : decode cX11_solved 63 = .ok (.iconst (-1), 1) := by decide +kernel
theorem dX11_solved_64 : decode cX11_solved 64 = .ok (.ixor, 1) := by decide +kernel
theorem dX11_solved_65 : decode cX11_solved 65 = .ok (.iand, 1) := by decide +kernel
theorem dX11_solved_66 : decode cX11_solved 66 = .ok (.istore_n 2, 1) := by decide +kernel
theorem dX11_solved_67 : decode cX11_solved 67 = .ok (.iload_n 1, 1) := by decide +kernel
theorem dX11_solved_68 : decode cX11_solved 68 = .ok (.ifCond .ne 10, 3) := by decide +kernel
theorem dX11_solved_71 : decode cX11_solved 71 = .ok (.iload_n 2, 1) := by decide +kernel
theorem dX11_solved_72 : decode cX11_solved 72 = .ok (.invokestatic 250, 3) := by decide +kernel
theorem dX11_solved_75 : decode cX11_solved 75 = .ok (.goto 4, 3) := by decide +kernel
theorem dX11_solved_78 : decode cX11_solved 78 = .ok (.iload_n 2, 1) := by decide +kernel
theorem dX11_solved_79 : decode cX11_solved 79 = .ok (.ireturn, 1) := by decide +kernel
theorem dX11_ahead_0 : decode cX11_ahead 0 = .ok (.aload_n 0, 1) := by decide +kernel
theorem dX11_ahead_1 : decode cX11_ahead 1 = .ok (.invokevirtual 156, 3) := by decide +kernel
theorem dX11_ahead_4 : decode cX11_ahead 4 = .ok (.ifCond .ne 13, 3) := by decide +kernel
theorem dX11_ahead_7 : decode cX11_ahead 7 = .ok (.iload_n 1, 1) := by decide +kernel
theorem dX11_ahead_8 : decode cX11_ahead 8 = .ok (.ifCond .lt 9, 3) := by decide +kernel
theorem dX11_ahead_11 : decode cX11_ahead 11 = .ok (.iload_n 1, 1) := by decide +kernel
theorem dX11_ahead_12 : decode cX11_ahead 12 = .ok (.bipush 20, 2) := by decide +kernel
theorem dX11_ahead_14 : decode cX11_ahead 14 = .ok (.if_icmp .le 5, 3) := by decide +kernel
theorem dX11_ahead_17 : decode cX11_ahead 17 = .ok (.iconst (-1), 1) := by decide +kernel
theorem dX11_ahead_18 : decode cX11_ahead 18 = .ok (.ireturn, 1) := by decide +kernel
theorem dX11_ahead_19 : decode cX11_ahead 19 = .ok (.aload_n 0, 1) := by decide +kernel
theorem dX11_ahead_20 : decode cX11_ahead 20 = .ok (.getfield 83, 3) := by decide +kernel
theorem dX11_ahead_23 : decode cX11_ahead 23 = .ok (.aload_n 0, 1) := by decide +kernel
theorem dX11_ahead_24 : decode cX11_ahead 24 = .ok (.getfield 40, 3) := by decide +kernel
theorem dX11_ahead_27 : decode cX11_ahead 27 = .ok (.invokevirtual 207, 3) := by decide +kernel
theorem dX11_ahead_30 : decode cX11_ahead 30 = .ok (.aload_n 0, 1) := by decide +kernel
theorem dX11_ahead_31 : decode cX11_ahead 31 = .ok (.getfield 23, 3) := by decide +kernel
theorem dX11_ahead_34 : decode cX11_ahead 34 = .ok (.invokevirtual 316, 3) := by decide +kernel
theorem dX11_ahead_37 : decode cX11_ahead 37 = .ok (.aload_n 0, 1) := by decide +kernel
theorem dX11_ahead_38 : decode cX11_ahead 38 = .ok (.getfield 99, 3) := by decide +kernel
theorem dX11_ahead_41 : decode cX11_ahead 41 = .ok (.iload_n 1, 1) := by decide +kernel
theorem dX11_ahead_42 : decode cX11_ahead 42 = .ok (.invokevirtual 322, 3) := by decide +kernel
theorem dX11_ahead_45 : decode cX11_ahead 45 = .ok (.iconst (-1), 1) := by decide +kernel
theorem dX11_ahead_46 : decode cX11_ahead 46 = .ok (.ixor, 1) := by decide +kernel
theorem dX11_ahead_47 : decode cX11_ahead 47 = .ok (.iand, 1) := by decide +kernel
theorem dX11_ahead_48 : decode cX11_ahead 48 = .ok (.ireturn, 1) := by decide +kernel
theorem dX11_fewest_0 : decode cX11_fewest 0 = .ok (.aload_n 0, 1) := by decide +kernel
theorem dX11_fewest_1 : decode cX11_fewest 1 = .ok (.invokevirtual 156, 3) := by decide +kernel
theorem dX11_fewest_4 : decode cX11_fewest 4 = .ok (.ifCond .ne 21, 3) := by decide +kernel
theorem dX11_fewest_7 : decode cX11_fewest 7 = .ok (.iload_n 1, 1) := by decide +kernel
theorem dX11_fewest_8 : decode cX11_fewest 8 = .ok (.ifCond .lt 17, 3) := by decide +kernel
theorem dX11_fewest_11 : decode cX11_fewest 11 = .ok (.iload_n 1, 1) := by decide +kernel
theorem dX11_fewest_12 : decode cX11_fewest 12 = .ok (.iconst 1, 1) := by decide +kernel
theorem dX11_fewest_13 : decode cX11_fewest 13 = .ok (.if_icmp .gt 12, 3) := by decide +kernel
theorem dX11_fewest_16 : decode cX11_fewest 16 = .ok (.iload_n 2, 1) := by decide +kernel
theorem dX11_fewest_17 : decode cX11_fewest 17 = .ok (.ifCond .lt 8, 3) := by decide +kernel
theorem dX11_fewest_20 : decode cX11_fewest 20 = .ok (.iload_n 2, 1) := by decide +kernel
theorem dX11_fewest_21 : decode cX11_fewest 21 = .ok (.iconst 1, 1) := by decide +kernel
theorem dX11_fewest_22 : decode cX11_fewest 22 = .ok (.if_icmp .le 5, 3) := by decide +kernel
theorem dX11_fewest_25 : decode cX11_fewest 25 = .ok (.iconst (-1), 1) := by decide +kernel
theorem dX11_fewest_26 : decode cX11_fewest 26 = .ok (.ireturn, 1) := by decide +kernel
theorem dX11_fewest_27 : decode cX11_fewest 27 = .ok (.aload_n 0, 1) := by decide +kernel
theorem dX11_fewest_28 : decode cX11_fewest 28 = .ok (.getfield 83, 3) := by decide +kernel
theorem dX11_fewest_31 : decode cX11_fewest 31 = .ok (.aload_n 0, 1) := by decide +kernel
theorem dX11_fewest_32 : decode cX11_fewest 32 = .ok (.getfield 40, 3) := by decide +kernel
theorem dX11_fewest_35 : decode cX11_fewest 35 = .ok (.invokevirtual 207, 3) := by decide +kernel
theorem dX11_fewest_38 : decode cX11_fewest 38 = .ok (.aload_n 0, 1) := by decide +kernel
theorem dX11_fewest_39 : decode cX11_fewest 39 = .ok (.getfield 99, 3) := by decide +kernel
theorem dX11_fewest_42 : decode cX11_fewest 42 = .ok (.invokevirtual 325, 3) := by decide +kernel
theorem dX11_fewest_45 : decode cX11_fewest 45 = .ok (.istore_n 3, 1) := by decide +kernel
theorem dX11_fewest_46 : decode cX11_fewest 46 = .ok (.iload_n 2, 1) := by decide +kernel
theorem dX11_fewest_47 : decode cX11_fewest 47 = .ok (.ifCond .ne 10, 3) := by decide +kernel
theorem dX11_fewest_50 : decode cX11_fewest 50 = .ok (.iload_n 3, 1) := by decide +kernel
theorem dX11_fewest_51 : decode cX11_fewest 51 = .ok (.invokestatic 250, 3) := by decide +kernel
theorem dX11_fewest_54 : decode cX11_fewest 54 = .ok (.goto 4, 3) := by decide +kernel
theorem dX11_fewest_57 : decode cX11_fewest 57 = .ok (.iload_n 3, 1) := by decide +kernel
theorem dX11_fewest_58 : decode cX11_fewest 58 = .ok (.ireturn, 1) := by decide +kernel
theorem dX11_tight_0 : decode cX11_tight 0 = .ok (.aload_n 0, 1) := by decide +kernel
theorem dX11_tight_1 : decode cX11_tight 1 = .ok (.invokevirtual 156, 3) := by decide +kernel
theorem dX11_tight_4 : decode cX11_tight 4 = .ok (.ifCond .eq 5, 3) := by decide +kernel
theorem dX11_tight_7 : decode cX11_tight 7 = .ok (.iconst (-1), 1) := by decide +kernel
theorem dX11_tight_8 : decode cX11_tight 8 = .ok (.ireturn, 1) := by decide +kernel
theorem dX11_tight_9 : decode cX11_tight 9 = .ok (.aload_n 0, 1) := by decide +kernel
theorem dX11_tight_10 : decode cX11_tight 10 = .ok (.getfield 83, 3) := by decide +kernel
theorem dX11_tight_13 : decode cX11_tight 13 = .ok (.aload_n 0, 1) := by decide +kernel
theorem dX11_tight_14 : decode cX11_tight 14 = .ok (.getfield 40, 3) := by decide +kernel
theorem dX11_tight_17 : decode cX11_tight 17 = .ok (.invokevirtual 207, 3) := by decide +kernel
theorem dX11_tight_20 : decode cX11_tight 20 = .ok (.aload_n 0, 1) := by decide +kernel
theorem dX11_tight_21 : decode cX11_tight 21 = .ok (.getfield 99, 3) := by decide +kernel
theorem dX11_tight_24 : decode cX11_tight 24 = .ok (.invokevirtual 328, 3) := by decide +kernel
theorem dX11_tight_27 : decode cX11_tight 27 = .ok (.ireturn, 1) := by decide +kernel
theorem dX11_touch_0 : decode cX11_touch 0 = .ok (.aload_n 0, 1) := by decide +kernel
theorem dX11_touch_1 : decode cX11_touch 1 = .ok (.iload_n 1, 1) := by decide +kernel
theorem dX11_touch_2 : decode cX11_touch 2 = .ok (.invokevirtual 178, 3) := by decide +kernel
theorem dX11_touch_5 : decode cX11_touch 5 = .ok (.ifCond .ne 16, 3) := by decide +kernel
theorem dX11_touch_8 : decode cX11_touch 8 = .ok (.aload_n 0, 1) := by decide +kernel
theorem dX11_touch_9 : decode cX11_touch 9 = .ok (.iload_n 2, 1) := by decide +kernel
theorem dX11_touch_10 : decode cX11_touch 10 = .ok (.invokevirtual 178, 3) := by decide +kernel
theorem dX11_touch_13 : decode cX11_touch 13 = .ok (.ifCond .ne 8, 3) := by decide +kernel
theorem dX11_touch_16 : decode cX11_touch 16 = .ok (.iload_n 1, 1) := by decide +kernel
theorem dX11_touch_17 : decode cX11_touch 17 = .ok (.iload_n 2, 1) := by decide +kernel
theorem dX11_touch_18 : decode cX11_touch 18 = .ok (.if_icmp .ne 5, 3) := by decide +kernel
theorem dX11_touch_21 : decode cX11_touch 21 = .ok (.iconst (-1), 1) := by decide +kernel
theorem dX11_touch_22 : decode cX11_touch 22 = .ok (.ireturn, 1) := by decide +kernel
theorem dX11_touch_23 : decode cX11_touch 23 = .ok (.aload_n 0, 1) := by decide +kernel
theorem dX11_touch_24 : decode cX11_touch 24 = .ok (.getfield 40, 3) := by decide +kernel
theorem dX11_touch_27 : decode cX11_touch 27 = .ok (.getfield 204, 3) := by decide +kernel
theorem dX11_touch_30 : decode cX11_touch 30 = .ok (.iload_n 1, 1) := by decide +kernel
theorem dX11_touch_31 : decode cX11_touch 31 = .ok (.iaload, 1) := by decide +kernel
theorem dX11_touch_32 : decode cX11_touch 32 = .ok (.ifCond .ne 15, 3) := by decide +kernel
theorem dX11_touch_35 : decode cX11_touch 35 = .ok (.aload_n 0, 1) := by decide +kernel
theorem dX11_touch_36 : decode cX11_touch 36 = .ok (.getfield 40, 3) := by decide +kernel
theorem dX11_touch_39 : decode cX11_touch 39 = .ok (.getfield 204, 3) := by decide +kernel
theorem dX11_touch_42 : decode cX11_touch 42 = .ok (.iload_n 2, 1) := by decide +kernel
theorem dX11_touch_43 : decode cX11_touch 43 = .ok (.iaload, 1) := by decide +kernel
theorem dX11_touch_44 : decode cX11_touch 44 = .ok (.ifCond .eq 5, 3) := by decide +kernel
theorem dX11_touch_47 : decode cX11_touch 47 = .ok (.iconst (-1), 1) := by decide +kernel
theorem dX11_touch_48 : decode cX11_touch 48 = .ok (.ireturn, 1) := by decide +kernel
theorem dX11_touch_49 : decode cX11_touch 49 = .ok (.aload_n 0, 1) := by decide +kernel
theorem dX11_touch_50 : decode cX11_touch 50 = .ok (.getfield 40, 3) := by decide +kernel
theorem dX11_touch_53 : decode cX11_touch 53 = .ok (.getfield 194, 3) := by decide +kernel
theorem dX11_touch_56 : decode cX11_touch 56 = .ok (.iload_n 1, 1) := by decide +kernel
theorem dX11_touch_57 : decode cX11_touch 57 = .ok (.laload, 1) := by decide +kernel
theorem dX11_touch_58 : decode cX11_touch 58 = .ok (.aload_n 0, 1) := by decide +kernel
theorem dX11_touch_59 : decode cX11_touch 59 = .ok (.getfield 40, 3) := by decide +kernel
theorem dX11_touch_62 : decode cX11_touch 62 = .ok (.getfield 194, 3) := by decide +kernel
theorem dX11_touch_65 : decode cX11_touch 65 = .ok (.iload_n 2, 1) := by decide +kernel
theorem dX11_touch_66 : decode cX11_touch 66 = .ok (.laload, 1) := by decide +kernel
theorem dX11_touch_67 : decode cX11_touch 67 = .ok (.land, 1) := by decide +kernel
theorem dX11_touch_68 : decode cX11_touch 68 = .ok (.invokestatic 198, 3) := by decide +kernel
theorem dX11_touch_71 : decode cX11_touch 71 = .ok (.ireturn, 1) := by decide +kernel
theorem dX11_frame_0 : decode cX11_frame 0 = .ok (.aload_n 0, 1) := by decide +kernel
theorem dX11_frame_1 : decode cX11_frame 1 = .ok (.iload_n 1, 1) := by decide +kernel
theorem dX11_frame_2 : decode cX11_frame 2 = .ok (.invokevirtual 331, 3) := by decide +kernel
theorem dX11_frame_5 : decode cX11_frame 5 = .ok (.ifCond .ne 12, 3) := by decide +kernel
theorem dX11_frame_8 : decode cX11_frame 8 = .ok (.iload_n 2, 1) := by decide +kernel
theorem dX11_frame_9 : decode cX11_frame 9 = .ok (.ifCond .lt 8, 3) := by decide +kernel
theorem dX11_frame_12 : decode cX11_frame 12 = .ok (.iload_n 2, 1) := by decide +kernel
theorem dX11_frame_13 : decode cX11_frame 13 = .ok (.iconst 4, 1) := by decide +kernel
theorem dX11_frame_14 : decode cX11_frame 14 = .ok (.if_icmp .le 5, 3) := by decide +kernel
theorem dX11_frame_17 : decode cX11_frame 17 = .ok (.iconst (-1), 1) := by decide +kernel
theorem dX11_frame_18 : decode cX11_frame 18 = .ok (.ireturn, 1) := by decide +kernel
theorem dX11_frame_19 : decode cX11_frame 19 = .ok (.aload_n 0, 1) := by decide +kernel
theorem dX11_frame_20 : decode cX11_frame 20 = .ok (.getfield 83, 3) := by decide +kernel
theorem dX11_frame_23 : decode cX11_frame 23 = .ok (.aload_n 0, 1) := by decide +kernel
theorem dX11_frame_24 : decode cX11_frame 24 = .ok (.getfield 40, 3) := by decide +kernel
theorem dX11_frame_27 : decode cX11_frame 27 = .ok (.invokevirtual 207, 3) := by decide +kernel
theorem dX11_frame_30 : decode cX11_frame 30 = .ok (.aload_n 0, 1) := by decide +kernel
theorem dX11_frame_31 : decode cX11_frame 31 = .ok (.getfield 23, 3) := by decide +kernel
theorem dX11_frame_34 : decode cX11_frame 34 = .ok (.iload_n 1, 1) := by decide +kernel
theorem dX11_frame_35 : decode cX11_frame 35 = .ok (.invokevirtual 334, 3) := by decide +kernel
theorem dX11_frame_38 : decode cX11_frame 38 = .ok (.istore_n 3, 1) := by decide +kernel
theorem dX11_frame_39 : decode cX11_frame 39 = .ok (.iload_n 2, 1) := by decide +kernel
theorem dX11_frame_40 : decode cX11_frame 40 = .ok (.tableswitch 70 0 3 #[32, 37, 52, 61], 32) := by decide +kernel
theorem dX11_frame_72 : decode cX11_frame 72 = .ok (.iload_n 3, 1) := by decide +kernel
theorem dX11_frame_73 : decode cX11_frame 73 = .ok (.invokestatic 250, 3) := by decide +kernel
theorem dX11_frame_76 : decode cX11_frame 76 = .ok (.ireturn, 1) := by decide +kernel
theorem dX11_frame_77 : decode cX11_frame 77 = .ok (.iload_n 3, 1) := by decide +kernel
theorem dX11_frame_78 : decode cX11_frame 78 = .ok (.aload_n 0, 1) := by decide +kernel
theorem dX11_frame_79 : decode cX11_frame 79 = .ok (.getfield 83, 3) := by decide +kernel
theorem dX11_frame_82 : decode cX11_frame 82 = .ok (.getfield 239, 3) := by decide +kernel
theorem dX11_frame_85 : decode cX11_frame 85 = .ok (.iconst (-1), 1) := by decide +kernel
theorem dX11_frame_86 : decode cX11_frame 86 = .ok (.ixor, 1) := by decide +kernel
theorem dX11_frame_87 : decode cX11_frame 87 = .ok (.iand, 1) := by decide +kernel
theorem dX11_frame_88 : decode cX11_frame 88 = .ok (.invokestatic 250, 3) := by decide +kernel
theorem dX11_frame_91 : decode cX11_frame 91 = .ok (.ireturn, 1) := by decide +kernel
theorem dX11_frame_92 : decode cX11_frame 92 = .ok (.aload_n 0, 1) := by decide +kernel
theorem dX11_frame_93 : decode cX11_frame 93 = .ok (.getfield 99, 3) := by decide +kernel
theorem dX11_frame_96 : decode cX11_frame 96 = .ok (.iload_n 1, 1) := by decide +kernel
theorem dX11_frame_97 : decode cX11_frame 97 = .ok (.invokevirtual 337, 3) := by decide +kernel
theorem dX11_frame_100 : decode cX11_frame 100 = .ok (.ireturn, 1) := by decide +kernel
theorem dX11_frame_101 : decode cX11_frame 101 = .ok (.aload_n 0, 1) := by decide +kernel
theorem dX11_frame_102 : decode cX11_frame 102 = .ok (.getfield 99, 3) := by decide +kernel
theorem dX11_frame_105 : decode cX11_frame 105 = .ok (.iload_n 1, 1) := by decide +kernel
theorem dX11_frame_106 : decode cX11_frame 106 = .ok (.invokevirtual 340, 3) := by decide +kernel
theorem dX11_frame_109 : decode cX11_frame 109 = .ok (.ireturn, 1) := by decide +kernel
theorem dX11_frame_110 : decode cX11_frame 110 = .ok (.iload_n 3, 1) := by decide +kernel
theorem dX11_frame_111 : decode cX11_frame 111 = .ok (.aload_n 0, 1) := by decide +kernel
theorem dX11_frame_112 : decode cX11_frame 112 = .ok (.getfield 83, 3) := by decide +kernel
theorem dX11_frame_115 : decode cX11_frame 115 = .ok (.aload_n 0, 1) := by decide +kernel
theorem dX11_frame_116 : decode cX11_frame 116 = .ok (.getfield 83, 3) := by decide +kernel
theorem dX11_frame_119 : decode cX11_frame 119 = .ok (.getfield 239, 3) := by decide +kernel
theorem dX11_frame_122 : decode cX11_frame 122 = .ok (.invokevirtual 319, 3) := by decide +kernel
theorem dX11_frame_125 : decode cX11_frame 125 = .ok (.iand, 1) := by decide +kernel
theorem dX11_frame_126 : decode cX11_frame 126 = .ok (.invokestatic 250, 3) := by decide +kernel
theorem dX11_frame_129 : decode cX11_frame 129 = .ok (.ireturn, 1) := by decide +kernel
theorem dX11_stuck_0 : decode cX11_stuck 0 = .ok (.aload_n 0, 1) := by decide +kernel
theorem dX11_stuck_1 : decode cX11_stuck 1 = .ok (.invokevirtual 156, 3) := by decide +kernel
theorem dX11_stuck_4 : decode cX11_stuck 4 = .ok (.ifCond .ne 12, 3) := by decide +kernel
theorem dX11_stuck_7 : decode cX11_stuck 7 = .ok (.iload_n 1, 1) := by decide +kernel
theorem dX11_stuck_8 : decode cX11_stuck 8 = .ok (.ifCond .lt 8, 3) := by decide +kernel
theorem dX11_stuck_11 : decode cX11_stuck 11 = .ok (.iload_n 1, 1) := by decide +kernel
theorem dX11_stuck_12 : decode cX11_stuck 12 = .ok (.iconst 3, 1) := by decide +kernel
theorem dX11_stuck_13 : decode cX11_stuck 13 = .ok (.if_icmp .le 5, 3) := by decide +kernel
theorem dX11_stuck_16 : decode cX11_stuck 16 = .ok (.iconst (-1), 1) := by decide +kernel
theorem dX11_stuck_17 : decode cX11_stuck 17 = .ok (.ireturn, 1) := by decide +kernel
theorem dX11_stuck_18 : decode cX11_stuck 18 = .ok (.aload_n 0, 1) := by decide +kernel
theorem dX11_stuck_19 : decode cX11_stuck 19 = .ok (.getfield 83, 3) := by decide +kernel
theorem dX11_stuck_22 : decode cX11_stuck 22 = .ok (.aload_n 0, 1) := by decide +kernel
theorem dX11_stuck_23 : decode cX11_stuck 23 = .ok (.getfield 40, 3) := by decide +kernel
theorem dX11_stuck_26 : decode cX11_stuck 26 = .ok (.invokevirtual 207, 3) := by decide +kernel
theorem dX11_stuck_29 : decode cX11_stuck 29 = .ok (.iload_n 1, 1) := by decide +kernel
theorem dX11_stuck_30 : decode cX11_stuck 30 = .ok (.tableswitch 53 0 2 #[26, 37, 45], 26) := by decide +kernel
theorem dX11_stuck_56 : decode cX11_stuck 56 = .ok (.aload_n 0, 1) := by decide +kernel
theorem dX11_stuck_57 : decode cX11_stuck 57 = .ok (.getfield 99, 3) := by decide +kernel
theorem dX11_stuck_60 : decode cX11_stuck 60 = .ok (.invokevirtual 343, 3) := by decide +kernel
theorem dX11_stuck_63 : decode cX11_stuck 63 = .ok (.invokestatic 250, 3) := by decide +kernel
theorem dX11_stuck_66 : decode cX11_stuck 66 = .ok (.ireturn, 1) := by decide +kernel
theorem dX11_stuck_67 : decode cX11_stuck 67 = .ok (.aload_n 0, 1) := by decide +kernel
theorem dX11_stuck_68 : decode cX11_stuck 68 = .ok (.getfield 99, 3) := by decide +kernel
theorem dX11_stuck_71 : decode cX11_stuck 71 = .ok (.invokevirtual 343, 3) := by decide +kernel
theorem dX11_stuck_74 : decode cX11_stuck 74 = .ok (.ireturn, 1) := by decide +kernel
theorem dX11_stuck_75 : decode cX11_stuck 75 = .ok (.aload_n 0, 1) := by decide +kernel
theorem dX11_stuck_76 : decode cX11_stuck 76 = .ok (.getfield 99, 3) := by decide +kernel
theorem dX11_stuck_79 : decode cX11_stuck 79 = .ok (.invokevirtual 346, 3) := by decide +kernel
theorem dX11_stuck_82 : decode cX11_stuck 82 = .ok (.ireturn, 1) := by decide +kernel
theorem dX11_stuck_83 : decode cX11_stuck 83 = .ok (.aload_n 0, 1) := by decide +kernel
theorem dX11_stuck_84 : decode cX11_stuck 84 = .ok (.getfield 83, 3) := by decide +kernel
theorem dX11_stuck_87 : decode cX11_stuck 87 = .ok (.aload_n 0, 1) := by decide +kernel
theorem dX11_stuck_88 : decode cX11_stuck 88 = .ok (.getfield 83, 3) := by decide +kernel
theorem dX11_stuck_91 : decode cX11_stuck 91 = .ok (.getfield 239, 3) := by decide +kernel
theorem dX11_stuck_94 : decode cX11_stuck 94 = .ok (.invokevirtual 319, 3) := by decide +kernel
theorem dX11_stuck_97 : decode cX11_stuck 97 = .ok (.ireturn, 1) := by decide +kernel
theorem dX11_slid_0 : decode cX11_slid 0 = .ok (.aload_n 0, 1) := by decide +kernel
theorem dX11_slid_1 : decode cX11_slid 1 = .ok (.invokevirtual 156, 3) := by decide +kernel
theorem dX11_slid_4 : decode cX11_slid 4 = .ok (.ifCond .ne 19, 3) := by decide +kernel
theorem dX11_slid_7 : decode cX11_slid 7 = .ok (.iload_n 1, 1) := by decide +kernel
theorem dX11_slid_8 : decode cX11_slid 8 = .ok (.iconst 1, 1) := by decide +kernel
theorem dX11_slid_9 : decode cX11_slid 9 = .ok (.if_icmp .lt 14, 3) := by decide +kernel
theorem dX11_slid_12 : decode cX11_slid 12 = .ok (.iload_n 1, 1) := by decide +kernel
theorem dX11_slid_13 : decode cX11_slid 13 = .ok (.aload_n 0, 1) := by decide +kernel
theorem dX11_slid_14 : decode cX11_slid 14 = .ok (.getfield 23, 3) := by decide +kernel
theorem dX11_slid_17 : decode cX11_slid 17 = .ok (.getfield 160, 3) := by decide +kernel
theorem dX11_slid_20 : decode cX11_slid 20 = .ok (.if_icmp .le 5, 3) := by decide +kernel
theorem dX11_slid_23 : decode cX11_slid 23 = .ok (.iconst (-1), 1) := by decide +kernel
theorem dX11_slid_24 : decode cX11_slid 24 = .ok (.ireturn, 1) := by decide +kernel
theorem dX11_slid_25 : decode cX11_slid 25 = .ok (.aload_n 0, 1) := by decide +kernel
theorem dX11_slid_26 : decode cX11_slid 26 = .ok (.getfield 83, 3) := by decide +kernel
theorem dX11_slid_29 : decode cX11_slid 29 = .ok (.aload_n 0, 1) := by decide +kernel
theorem dX11_slid_30 : decode cX11_slid 30 = .ok (.getfield 40, 3) := by decide +kernel
theorem dX11_slid_33 : decode cX11_slid 33 = .ok (.invokevirtual 207, 3) := by decide +kernel
theorem dX11_slid_36 : decode cX11_slid 36 = .ok (.aload_n 0, 1) := by decide +kernel
theorem dX11_slid_37 : decode cX11_slid 37 = .ok (.getfield 23, 3) := by decide +kernel
theorem dX11_slid_40 : decode cX11_slid 40 = .ok (.invokevirtual 316, 3) := by decide +kernel
theorem dX11_slid_43 : decode cX11_slid 43 = .ok (.aload_n 0, 1) := by decide +kernel
theorem dX11_slid_44 : decode cX11_slid 44 = .ok (.getfield 99, 3) := by decide +kernel
theorem dX11_slid_47 : decode cX11_slid 47 = .ok (.iload_n 1, 1) := by decide +kernel
theorem dX11_slid_48 : decode cX11_slid 48 = .ok (.invokevirtual 349, 3) := by decide +kernel
theorem dX11_slid_51 : decode cX11_slid 51 = .ok (.iconst (-1), 1) := by decide +kernel
theorem dX11_slid_52 : decode cX11_slid 52 = .ok (.ixor, 1) := by decide +kernel
theorem dX11_slid_53 : decode cX11_slid 53 = .ok (.iand, 1) := by decide +kernel
theorem dX11_slid_54 : decode cX11_slid 54 = .ok (.ireturn, 1) := by decide +kernel
theorem dX11_slidAt_0 : decode cX11_slidAt 0 = .ok (.aload_n 0, 1) := by decide +kernel
theorem dX11_slidAt_1 : decode cX11_slidAt 1 = .ok (.iload_n 1, 1) := by decide +kernel
theorem dX11_slidAt_2 : decode cX11_slidAt 2 = .ok (.invokevirtual 178, 3) := by decide +kernel
theorem dX11_slidAt_5 : decode cX11_slidAt 5 = .ok (.ifCond .ne 19, 3) := by decide +kernel
theorem dX11_slidAt_8 : decode cX11_slidAt 8 = .ok (.iload_n 2, 1) := by decide +kernel
theorem dX11_slidAt_9 : decode cX11_slidAt 9 = .ok (.iconst 1, 1) := by decide +kernel
theorem dX11_slidAt_10 : decode cX11_slidAt 10 = .ok (.if_icmp .lt 14, 3) := by decide +kernel
theorem dX11_slidAt_13 : decode cX11_slidAt 13 = .ok (.iload_n 2, 1) := by decide +kernel
theorem dX11_slidAt_14 : decode cX11_slidAt 14 = .ok (.aload_n 0, 1) := by decide +kernel
theorem dX11_slidAt_15 : decode cX11_slidAt 15 = .ok (.getfield 23, 3) := by decide +kernel
theorem dX11_slidAt_18 : decode cX11_slidAt 18 = .ok (.getfield 160, 3) := by decide +kernel
theorem dX11_slidAt_21 : decode cX11_slidAt 21 = .ok (.if_icmp .le 5, 3) := by decide +kernel
theorem dX11_slidAt_24 : decode cX11_slidAt 24 = .ok (.iconst (-1), 1) := by decide +kernel
theorem dX11_slidAt_25 : decode cX11_slidAt 25 = .ok (.ireturn, 1) := by decide +kernel
theorem dX11_slidAt_26 : decode cX11_slidAt 26 = .ok (.aload_n 0, 1) := by decide +kernel
theorem dX11_slidAt_27 : decode cX11_slidAt 27 = .ok (.getfield 40, 3) := by decide +kernel
theorem dX11_slidAt_30 : decode cX11_slidAt 30 = .ok (.getfield 204, 3) := by decide +kernel
theorem dX11_slidAt_33 : decode cX11_slidAt 33 = .ok (.iload_n 1, 1) := by decide +kernel
theorem dX11_slidAt_34 : decode cX11_slidAt 34 = .ok (.iaload, 1) := by decide +kernel
theorem dX11_slidAt_35 : decode cX11_slidAt 35 = .ok (.ifCond .eq 6, 3) := by decide +kernel
theorem dX11_slidAt_38 : decode cX11_slidAt 38 = .ok (.bipush (-2), 2) := by decide +kernel
theorem dX11_slidAt_40 : decode cX11_slidAt 40 = .ok (.ireturn, 1) := by decide +kernel
theorem dX11_slidAt_41 : decode cX11_slidAt 41 = .ok (.aload_n 0, 1) := by decide +kernel
theorem dX11_slidAt_42 : decode cX11_slidAt 42 = .ok (.getfield 83, 3) := by decide +kernel
theorem dX11_slidAt_45 : decode cX11_slidAt 45 = .ok (.aload_n 0, 1) := by decide +kernel
theorem dX11_slidAt_46 : decode cX11_slidAt 46 = .ok (.getfield 40, 3) := by decide +kernel
theorem dX11_slidAt_49 : decode cX11_slidAt 49 = .ok (.invokevirtual 207, 3) := by decide +kernel
theorem dX11_slidAt_52 : decode cX11_slidAt 52 = .ok (.aload_n 0, 1) := by decide +kernel
theorem dX11_slidAt_53 : decode cX11_slidAt 53 = .ok (.getfield 99, 3) := by decide +kernel
theorem dX11_slidAt_56 : decode cX11_slidAt 56 = .ok (.iload_n 1, 1) := by decide +kernel
theorem dX11_slidAt_57 : decode cX11_slidAt 57 = .ok (.iload_n 2, 1) := by decide +kernel
theorem dX11_slidAt_58 : decode cX11_slidAt 58 = .ok (.invokevirtual 352, 3) := by decide +kernel
theorem dX11_slidAt_61 : decode cX11_slidAt 61 = .ok (.ireturn, 1) := by decide +kernel
theorem dX11_blame_0 : decode cX11_blame 0 = .ok (.aload_n 0, 1) := by decide +kernel
theorem dX11_blame_1 : decode cX11_blame 1 = .ok (.iload_n 1, 1) := by decide +kernel
theorem dX11_blame_2 : decode cX11_blame 2 = .ok (.invokevirtual 178, 3) := by decide +kernel
theorem dX11_blame_5 : decode cX11_blame 5 = .ok (.ifCond .ne 15, 3) := by decide +kernel
theorem dX11_blame_8 : decode cX11_blame 8 = .ok (.aload_n 0, 1) := by decide +kernel
theorem dX11_blame_9 : decode cX11_blame 9 = .ok (.getfield 40, 3) := by decide +kernel
theorem dX11_blame_12 : decode cX11_blame 12 = .ok (.getfield 204, 3) := by decide +kernel
theorem dX11_blame_15 : decode cX11_blame 15 = .ok (.iload_n 1, 1) := by decide +kernel
theorem dX11_blame_16 : decode cX11_blame 16 = .ok (.iaload, 1) := by decide +kernel
theorem dX11_blame_17 : decode cX11_blame 17 = .ok (.ifCond .eq 5, 3) := by decide +kernel
theorem dX11_blame_20 : decode cX11_blame 20 = .ok (.iconst (-1), 1) := by decide +kernel
theorem dX11_blame_21 : decode cX11_blame 21 = .ok (.ireturn, 1) := by decide +kernel
theorem dX11_blame_22 : decode cX11_blame 22 = .ok (.aload_n 0, 1) := by decide +kernel
theorem dX11_blame_23 : decode cX11_blame 23 = .ok (.getfield 83, 3) := by decide +kernel
theorem dX11_blame_26 : decode cX11_blame 26 = .ok (.aload_n 0, 1) := by decide +kernel
theorem dX11_blame_27 : decode cX11_blame 27 = .ok (.getfield 40, 3) := by decide +kernel
theorem dX11_blame_30 : decode cX11_blame 30 = .ok (.invokevirtual 207, 3) := by decide +kernel
theorem dX11_blame_33 : decode cX11_blame 33 = .ok (.aload_n 0, 1) := by decide +kernel
theorem dX11_blame_34 : decode cX11_blame 34 = .ok (.getfield 99, 3) := by decide +kernel
theorem dX11_blame_37 : decode cX11_blame 37 = .ok (.iload_n 1, 1) := by decide +kernel
theorem dX11_blame_38 : decode cX11_blame 38 = .ok (.invokevirtual 355, 3) := by decide +kernel
theorem dX11_blame_41 : decode cX11_blame 41 = .ok (.ireturn, 1) := by decide +kernel
theorem dX11_senders_0 : decode cX11_senders 0 = .ok (.aload_n 0, 1) := by decide +kernel
theorem dX11_senders_1 : decode cX11_senders 1 = .ok (.invokevirtual 156, 3) := by decide +kernel
theorem dX11_senders_4 : decode cX11_senders 4 = .ok (.ifCond .ne 13, 3) := by decide +kernel
theorem dX11_senders_7 : decode cX11_senders 7 = .ok (.iload_n 1, 1) := by decide +kernel
theorem dX11_senders_8 : decode cX11_senders 8 = .ok (.ifCond .lt 9, 3) := by decide +kernel
theorem dX11_senders_11 : decode cX11_senders 11 = .ok (.iload_n 1, 1) := by decide +kernel
theorem dX11_senders_12 : decode cX11_senders 12 = .ok (.bipush 24, 2) := by decide +kernel
theorem dX11_senders_14 : decode cX11_senders 14 = .ok (.if_icmp .le 5, 3) := by decide +kernel
theorem dX11_senders_17 : decode cX11_senders 17 = .ok (.iconst (-1), 1) := by decide +kernel
theorem dX11_senders_18 : decode cX11_senders 18 = .ok (.ireturn, 1) := by decide +kernel
theorem dX11_senders_19 : decode cX11_senders 19 = .ok (.iconst 0, 1) := by decide +kernel
theorem dX11_senders_20 : decode cX11_senders 20 = .ok (.istore_n 2, 1) := by decide +kernel
theorem dX11_senders_21 : decode cX11_senders 21 = .ok (.iconst 0, 1) := by decide +kernel
theorem dX11_senders_22 : decode cX11_senders 22 = .ok (.istore_n 3, 1) := by decide +kernel
theorem dX11_senders_23 : decode cX11_senders 23 = .ok (.iload_n 3, 1) := by decide +kernel
theorem dX11_senders_24 : decode cX11_senders 24 = .ok (.aload_n 0, 1) := by decide +kernel
theorem dX11_senders_25 : decode cX11_senders 25 = .ok (.getfield 23, 3) := by decide +kernel
theorem dX11_senders_28 : decode cX11_senders 28 = .ok (.getfield 147, 3) := by decide +kernel
theorem dX11_senders_31 : decode cX11_senders 31 = .ok (.if_icmp .ge 33, 3) := by decide +kernel
theorem dX11_senders_34 : decode cX11_senders 34 = .ok (.iload_n 2, 1) := by decide +kernel
theorem dX11_senders_35 : decode cX11_senders 35 = .ok (.aload_n 0, 1) := by decide +kernel
theorem dX11_senders_36 : decode cX11_senders 36 = .ok (.getfield 40, 3) := by decide +kernel
theorem dX11_senders_39 : decode cX11_senders 39 = .ok (.getfield 194, 3) := by decide +kernel
theorem dX11_senders_42 : decode cX11_senders 42 = .ok (.iload_n 3, 1) := by decide +kernel
theorem dX11_senders_43 : decode cX11_senders 43 = .ok (.laload, 1) := by decide +kernel
theorem dX11_senders_44 : decode cX11_senders 44 = .ok (.invokestatic 198, 3) := by decide +kernel
theorem dX11_senders_47 : decode cX11_senders 47 = .ok (.iload_n 1, 1) := by decide +kernel
theorem dX11_senders_48 : decode cX11_senders 48 = .ok (.if_icmp .ne 7, 3) := by decide +kernel
theorem dX11_senders_51 : decode cX11_senders 51 = .ok (.iconst 1, 1) := by decide +kernel
theorem dX11_senders_52 : decode cX11_senders 52 = .ok (.goto 4, 3) := by decide +kernel
theorem dX11_senders_55 : decode cX11_senders 55 = .ok (.iconst 0, 1) := by decide +kernel
theorem dX11_senders_56 : decode cX11_senders 56 = .ok (.iadd, 1) := by decide +kernel
theorem dX11_senders_57 : decode cX11_senders 57 = .ok (.istore_n 2, 1) := by decide +kernel
theorem dX11_senders_58 : decode cX11_senders 58 = .ok (.iinc 3 1, 3) := by decide +kernel
theorem dX11_senders_61 : decode cX11_senders 61 = .ok (.goto (-38), 3) := by decide +kernel
theorem dX11_senders_64 : decode cX11_senders 64 = .ok (.iload_n 2, 1) := by decide +kernel
theorem dX11_senders_65 : decode cX11_senders 65 = .ok (.ireturn, 1) := by decide +kernel
theorem dX11_less_0 : decode cX11_less 0 = .ok (.aload_n 0, 1) := by decide +kernel
theorem dX11_less_1 : decode cX11_less 1 = .ok (.iload_n 1, 1) := by decide +kernel
theorem dX11_less_2 : decode cX11_less 2 = .ok (.iconst 0, 1) := by decide +kernel
theorem dX11_less_3 : decode cX11_less 3 = .ok (.invokevirtual 358, 3) := by decide +kernel
theorem dX11_less_6 : decode cX11_less 6 = .ok (.ireturn, 1) := by decide +kernel
theorem dX11_key_0 : decode cX11_key 0 = .ok (.aload_n 0, 1) := by decide +kernel
theorem dX11_key_1 : decode cX11_key 1 = .ok (.iload_n 1, 1) := by decide +kernel
theorem dX11_key_2 : decode cX11_key 2 = .ok (.iconst 1, 1) := by decide +kernel
theorem dX11_key_3 : decode cX11_key 3 = .ok (.invokevirtual 358, 3) := by decide +kernel
theorem dX11_key_6 : decode cX11_key 6 = .ok (.ireturn, 1) := by decide +kernel
theorem dX11_bestHelper_0 : decode cX11_bestHelper 0 = .ok (.aload_n 0, 1) := by decide +kernel
theorem dX11_bestHelper_1 : decode cX11_bestHelper 1 = .ok (.invokevirtual 156, 3) := by decide +kernel
theorem dX11_bestHelper_4 : decode cX11_bestHelper 4 = .ok (.ifCond .ne 12, 3) := by decide +kernel
theorem dX11_bestHelper_7 : decode cX11_bestHelper 7 = .ok (.iload_n 1, 1) := by decide +kernel
theorem dX11_bestHelper_8 : decode cX11_bestHelper 8 = .ok (.ifCond .lt 8, 3) := by decide +kernel
theorem dX11_bestHelper_11 : decode cX11_bestHelper 11 = .ok (.iload_n 1, 1) := by decide +kernel
theorem dX11_bestHelper_12 : decode cX11_bestHelper 12 = .ok (.iconst 1, 1) := by decide +kernel
theorem dX11_bestHelper_13 : decode cX11_bestHelper 13 = .ok (.if_icmp .le 6, 3) := by decide +kernel
theorem dX11_bestHelper_16 : decode cX11_bestHelper 16 = .ok (.ldc 246, 2) := by decide +kernel
theorem dX11_bestHelper_18 : decode cX11_bestHelper 18 = .ok (.ireturn, 1) := by decide +kernel
theorem dX11_bestHelper_19 : decode cX11_bestHelper 19 = .ok (.aload_n 0, 1) := by decide +kernel
theorem dX11_bestHelper_20 : decode cX11_bestHelper 20 = .ok (.getfield 83, 3) := by decide +kernel
theorem dX11_bestHelper_23 : decode cX11_bestHelper 23 = .ok (.aload_n 0, 1) := by decide +kernel
theorem dX11_bestHelper_24 : decode cX11_bestHelper 24 = .ok (.getfield 40, 3) := by decide +kernel
theorem dX11_bestHelper_27 : decode cX11_bestHelper 27 = .ok (.invokevirtual 207, 3) := by decide +kernel
theorem dX11_bestHelper_30 : decode cX11_bestHelper 30 = .ok (.aload_n 0, 1) := by decide +kernel
theorem dX11_bestHelper_31 : decode cX11_bestHelper 31 = .ok (.getfield 99, 3) := by decide +kernel
theorem dX11_bestHelper_34 : decode cX11_bestHelper 34 = .ok (.invokevirtual 361, 3) := by decide +kernel
theorem dX11_bestHelper_37 : decode cX11_bestHelper 37 = .ok (.istore_n 3, 1) := by decide +kernel
theorem dX11_bestHelper_38 : decode cX11_bestHelper 38 = .ok (.iload_n 1, 1) := by decide +kernel
theorem dX11_bestHelper_39 : decode cX11_bestHelper 39 = .ok (.ifCond .ne 5, 3) := by decide +kernel
theorem dX11_bestHelper_42 : decode cX11_bestHelper 42 = .ok (.iload_n 3, 1) := by decide +kernel
theorem dX11_bestHelper_43 : decode cX11_bestHelper 43 = .ok (.ireturn, 1) := by decide +kernel
theorem dX11_bestHelper_44 : decode cX11_bestHelper 44 = .ok (.iload_n 3, 1) := by decide +kernel
theorem dX11_bestHelper_45 : decode cX11_bestHelper 45 = .ok (.iconst (-1), 1) := by decide +kernel
theorem dX11_bestHelper_46 : decode cX11_bestHelper 46 = .ok (.if_icmp .ne 7, 3) := by decide +kernel
theorem dX11_bestHelper_49 : decode cX11_bestHelper 49 = .ok (.iconst 0, 1) := by decide +kernel
theorem dX11_bestHelper_50 : decode cX11_bestHelper 50 = .ok (.goto 13, 3) := by decide +kernel
theorem dX11_bestHelper_53 : decode cX11_bestHelper 53 = .ok (.aload_n 0, 1) := by decide +kernel
theorem dX11_bestHelper_54 : decode cX11_bestHelper 54 = .ok (.getfield 99, 3) := by decide +kernel
theorem dX11_bestHelper_57 : decode cX11_bestHelper 57 = .ok (.iload_n 3, 1) := by decide +kernel
theorem dX11_bestHelper_58 : decode cX11_bestHelper 58 = .ok (.invokevirtual 364, 3) := by decide +kernel
theorem dX11_bestHelper_61 : decode cX11_bestHelper 61 = .ok (.iload_n 2, 1) := by decide +kernel
theorem dX11_bestHelper_62 : decode cX11_bestHelper 62 = .ok (.iadd, 1) := by decide +kernel
theorem dX11_bestHelper_63 : decode cX11_bestHelper 63 = .ok (.ireturn, 1) := by decide +kernel
theorem dX11_more_0 : decode cX11_more 0 = .ok (.aload_n 0, 1) := by decide +kernel
theorem dX11_more_1 : decode cX11_more 1 = .ok (.iload_n 1, 1) := by decide +kernel
theorem dX11_more_2 : decode cX11_more 2 = .ok (.invokevirtual 178, 3) := by decide +kernel
theorem dX11_more_5 : decode cX11_more 5 = .ok (.ifCond .ne 12, 3) := by decide +kernel
theorem dX11_more_8 : decode cX11_more 8 = .ok (.iload_n 2, 1) := by decide +kernel
theorem dX11_more_9 : decode cX11_more 9 = .ok (.ifCond .lt 8, 3) := by decide +kernel
theorem dX11_more_12 : decode cX11_more 12 = .ok (.iload_n 2, 1) := by decide +kernel
theorem dX11_more_13 : decode cX11_more 13 = .ok (.iconst 1, 1) := by decide +kernel
theorem dX11_more_14 : decode cX11_more 14 = .ok (.if_icmp .le 6, 3) := by decide +kernel
theorem dX11_more_17 : decode cX11_more 17 = .ok (.ldc 246, 2) := by decide +kernel
theorem dX11_more_19 : decode cX11_more 19 = .ok (.ireturn, 1) := by decide +kernel
theorem dX11_more_20 : decode cX11_more 20 = .ok (.aload_n 0, 1) := by decide +kernel
theorem dX11_more_21 : decode cX11_more 21 = .ok (.getfield 83, 3) := by decide +kernel
theorem dX11_more_24 : decode cX11_more 24 = .ok (.aload_n 0, 1) := by decide +kernel
theorem dX11_more_25 : decode cX11_more 25 = .ok (.getfield 40, 3) := by decide +kernel
theorem dX11_more_28 : decode cX11_more 28 = .ok (.invokevirtual 207, 3) := by decide +kernel
theorem dX11_more_31 : decode cX11_more 31 = .ok (.aload_n 0, 1) := by decide +kernel
theorem dX11_more_32 : decode cX11_more 32 = .ok (.getfield 99, 3) := by decide +kernel
theorem dX11_more_35 : decode cX11_more 35 = .ok (.iload_n 1, 1) := by decide +kernel
theorem dX11_more_36 : decode cX11_more 36 = .ok (.invokevirtual 367, 3) := by decide +kernel
theorem dX11_more_39 : decode cX11_more 39 = .ok (.istore_n 3, 1) := by decide +kernel
theorem dX11_more_40 : decode cX11_more 40 = .ok (.iload_n 2, 1) := by decide +kernel
theorem dX11_more_41 : decode cX11_more 41 = .ok (.ifCond .ne 5, 3) := by decide +kernel
theorem dX11_more_44 : decode cX11_more 44 = .ok (.iload_n 3, 1) := by decide +kernel
theorem dX11_more_45 : decode cX11_more 45 = .ok (.ireturn, 1) := by decide +kernel
theorem dX11_more_46 : decode cX11_more 46 = .ok (.iload_n 3, 1) := by decide +kernel
theorem dX11_more_47 : decode cX11_more 47 = .ok (.iconst (-1), 1) := by decide +kernel
theorem dX11_more_48 : decode cX11_more 48 = .ok (.if_icmp .ne 7, 3) := by decide +kernel
theorem dX11_more_51 : decode cX11_more 51 = .ok (.iconst 0, 1) := by decide +kernel
theorem dX11_more_52 : decode cX11_more 52 = .ok (.goto 12, 3) := by decide +kernel
theorem dX11_more_55 : decode cX11_more 55 = .ok (.aload_n 0, 1) := by decide +kernel
theorem dX11_more_56 : decode cX11_more 56 = .ok (.getfield 99, 3) := by decide +kernel
theorem dX11_more_59 : decode cX11_more 59 = .ok (.iload_n 1, 1) := by decide +kernel
theorem dX11_more_60 : decode cX11_more 60 = .ok (.iload_n 3, 1) := by decide +kernel
theorem dX11_more_61 : decode cX11_more 61 = .ok (.invokevirtual 370, 3) := by decide +kernel
theorem dX11_more_64 : decode cX11_more 64 = .ok (.ireturn, 1) := by decide +kernel
theorem dX11_jam_0 : decode cX11_jam 0 = .ok (.aload_n 0, 1) := by decide +kernel
theorem dX11_jam_1 : decode cX11_jam 1 = .ok (.iload_n 1, 1) := by decide +kernel
theorem dX11_jam_2 : decode cX11_jam 2 = .ok (.invokevirtual 178, 3) := by decide +kernel
theorem dX11_jam_5 : decode cX11_jam 5 = .ok (.ifCond .ne 21, 3) := by decide +kernel
theorem dX11_jam_8 : decode cX11_jam 8 = .ok (.aload_n 0, 1) := by decide +kernel
theorem dX11_jam_9 : decode cX11_jam 9 = .ok (.iload_n 2, 1) := by decide +kernel
theorem dX11_jam_10 : decode cX11_jam 10 = .ok (.invokevirtual 331, 3) := by decide +kernel
theorem dX11_jam_13 : decode cX11_jam 13 = .ok (.ifCond .ne 13, 3) := by decide +kernel
theorem dX11_jam_16 : decode cX11_jam 16 = .ok (.iload_n 3, 1) := by decide +kernel
theorem dX11_jam_17 : decode cX11_jam 17 = .ok (.ifCond .lt 9, 3) := by decide +kernel
theorem dX11_jam_20 : decode cX11_jam 20 = .ok (.iload_n 3, 1) := by decide +kernel
theorem dX11_jam_21 : decode cX11_jam 21 = .ok (.bipush 100, 2) := by decide +kernel
theorem dX11_jam_23 : decode cX11_jam 23 = .ok (.if_icmp .le 5, 3) := by decide +kernel
theorem dX11_jam_26 : decode cX11_jam 26 = .ok (.iconst (-1), 1) := by decide +kernel
theorem dX11_jam_27 : decode cX11_jam 27 = .ok (.ireturn, 1) := by decide +kernel
theorem dX11_jam_28 : decode cX11_jam 28 = .ok (.aload_n 0, 1) := by decide +kernel
theorem dX11_jam_29 : decode cX11_jam 29 = .ok (.getfield 83, 3) := by decide +kernel
theorem dX11_jam_32 : decode cX11_jam 32 = .ok (.aload_n 0, 1) := by decide +kernel
theorem dX11_jam_33 : decode cX11_jam 33 = .ok (.getfield 40, 3) := by decide +kernel
theorem dX11_jam_36 : decode cX11_jam 36 = .ok (.invokevirtual 207, 3) := by decide +kernel
theorem dX11_jam_39 : decode cX11_jam 39 = .ok (.aload_n 0, 1) := by decide +kernel
theorem dX11_jam_40 : decode cX11_jam 40 = .ok (.getfield 99, 3) := by decide +kernel
theorem dX11_jam_43 : decode cX11_jam 43 = .ok (.iload_n 1, 1) := by decide +kernel
theorem dX11_jam_44 : decode cX11_jam 44 = .ok (.iload_n 2, 1) := by decide +kernel
theorem dX11_jam_45 : decode cX11_jam 45 = .ok (.iload_n 3, 1) := by decide +kernel
theorem dX11_jam_46 : decode cX11_jam 46 = .ok (.invokevirtual 373, 3) := by decide +kernel
theorem dX11_jam_49 : decode cX11_jam 49 = .ok (.ireturn, 1) := by decide +kernel
theorem dX11_share_0 : decode cX11_share 0 = .ok (.aload_n 0, 1) := by decide +kernel
theorem dX11_share_1 : decode cX11_share 1 = .ok (.invokevirtual 377, 3) := by decide +kernel
theorem dX11_share_4 : decode cX11_share 4 = .ok (.ifCond .ne 24, 3) := by decide +kernel
theorem dX11_share_7 : decode cX11_share 7 = .ok (.iload_n 1, 1) := by decide +kernel
theorem dX11_share_8 : decode cX11_share 8 = .ok (.iconst 1, 1) := by decide +kernel
theorem dX11_share_9 : decode cX11_share 9 = .ok (.if_icmp .lt 19, 3) := by decide +kernel
theorem dX11_share_12 : decode cX11_share 12 = .ok (.iload_n 1, 1) := by decide +kernel
theorem dX11_share_13 : decode cX11_share 13 = .ok (.bipush 60, 2) := by decide +kernel
theorem dX11_share_15 : decode cX11_share 15 = .ok (.if_icmp .gt 13, 3) := by decide +kernel
theorem dX11_share_18 : decode cX11_share 18 = .ok (.iload_n 2, 1) := by decide +kernel
theorem dX11_share_19 : decode cX11_share 19 = .ok (.ifCond .lt 9, 3) := by decide +kernel
theorem dX11_share_22 : decode cX11_share 22 = .ok (.iload_n 2, 1) := by decide +kernel
theorem dX11_share_23 : decode cX11_share 23 = .ok (.bipush 40, 2) := by decide +kernel
theorem dX11_share_25 : decode cX11_share 25 = .ok (.if_icmp .le 7, 3) := by decide +kernel
theorem dX11_share_28 : decode cX11_share 28 = .ok (.ldc2_w 380, 3) := by decide +kernel
theorem dX11_share_31 : decode cX11_share 31 = .ok (.lreturn, 1) := by decide +kernel
theorem dX11_share_32 : decode cX11_share 32 = .ok (.aload_n 0, 1) := by decide +kernel
theorem dX11_share_33 : decode cX11_share 33 = .ok (.getfield 106, 3) := by decide +kernel
theorem dX11_share_36 : decode cX11_share 36 = .ok (.iload_n 1, 1) := by decide +kernel
theorem dX11_share_37 : decode cX11_share 37 = .ok (.iload_n 2, 1) := by decide +kernel
theorem dX11_share_38 : decode cX11_share 38 = .ok (.invokevirtual 382, 3) := by decide +kernel
theorem dX11_share_41 : decode cX11_share 41 = .ok (.invokestatic 386, 3) := by decide +kernel
theorem dX11_share_44 : decode cX11_share 44 = .ok (.lreturn, 1) := by decide +kernel
theorem dX11_limit_0 : decode cX11_limit 0 = .ok (.aload_n 0, 1) := by decide +kernel
theorem dX11_limit_1 : decode cX11_limit 1 = .ok (.invokevirtual 377, 3) := by decide +kernel
theorem dX11_limit_4 : decode cX11_limit 4 = .ok (.ifCond .eq 5, 3) := by decide +kernel
theorem dX11_limit_7 : decode cX11_limit 7 = .ok (.iconst (-1), 1) := by decide +kernel
theorem dX11_limit_8 : decode cX11_limit 8 = .ok (.ireturn, 1) := by decide +kernel
theorem dX11_limit_9 : decode cX11_limit 9 = .ok (.bipush 60, 2) := by decide +kernel
theorem dX11_limit_11 : decode cX11_limit 11 = .ok (.istore_n 1, 1) := by decide +kernel
theorem dX11_limit_12 : decode cX11_limit 12 = .ok (.iload_n 1, 1) := by decide +kernel
theorem dX11_limit_13 : decode cX11_limit 13 = .ok (.iconst 1, 1) := by decide +kernel
theorem dX11_limit_14 : decode cX11_limit 14 = .ok (.if_icmp .lt 28, 3) := by decide +kernel
theorem dX11_limit_17 : decode cX11_limit 17 = .ok (.aload_n 0, 1) := by decide +kernel
theorem dX11_limit_18 : decode cX11_limit 18 = .ok (.getfield 106, 3) := by decide +kernel
theorem dX11_limit_21 : decode cX11_limit 21 = .ok (.iload_n 1, 1) := by decide +kernel
theorem dX11_limit_22 : decode cX11_limit 22 = .ok (.bipush 40, 2) := by decide +kernel
theorem dX11_limit_24 : decode cX11_limit 24 = .ok (.invokevirtual 382, 3) := by decide +kernel
theorem dX11_limit_27 : decode cX11_limit 27 = .ok (.ldc2_w 390, 3) := by decide +kernel
theorem dX11_limit_30 : decode cX11_limit 30 = .ok (.dcmp .g, 1) := by decide +kernel
theorem dX11_limit_31 : decode cX11_limit 31 = .ok (.ifCond .ge 5, 3) := by decide +kernel
theorem dX11_limit_34 : decode cX11_limit 34 = .ok (.iload_n 1, 1) := by decide +kernel
theorem dX11_limit_35 : decode cX11_limit 35 = .ok (.ireturn, 1) := by decide +kernel
theorem dX11_limit_36 : decode cX11_limit 36 = .ok (.iinc 1 (-1), 3) := by decide +kernel
theorem dX11_limit_39 : decode cX11_limit 39 = .ok (.goto (-27), 3) := by decide +kernel
theorem dX11_limit_42 : decode cX11_limit 42 = .ok (.iconst (-1), 1) := by decide +kernel
theorem dX11_limit_43 : decode cX11_limit 43 = .ok (.ireturn, 1) := by decide +kernel
theorem dX11_sample_0 : decode cX11_sample 0 = .ok (.aload_n 0, 1) := by decide +kernel
theorem dX11_sample_1 : decode cX11_sample 1 = .ok (.invokevirtual 377, 3) := by decide +kernel
theorem dX11_sample_4 : decode cX11_sample 4 = .ok (.ifCond .eq 5, 3) := by decide +kernel
theorem dX11_sample_7 : decode cX11_sample 7 = .ok (.iconst (-1), 1) := by decide +kernel
theorem dX11_sample_8 : decode cX11_sample 8 = .ok (.ireturn, 1) := by decide +kernel
theorem dX11_sample_9 : decode cX11_sample 9 = .ok (.aload_n 0, 1) := by decide +kernel
theorem dX11_sample_10 : decode cX11_sample 10 = .ok (.getfield 74, 3) := by decide +kernel
theorem dX11_sample_13 : decode cX11_sample 13 = .ok (.lload_n 1, 1) := by decide +kernel
theorem dX11_sample_14 : decode cX11_sample 14 = .ok (.invokevirtual 289, 3) := by decide +kernel
theorem dX11_sample_17 : decode cX11_sample 17 = .ok (.aload_n 0, 1) := by decide +kernel
theorem dX11_sample_18 : decode cX11_sample 18 = .ok (.getfield 74, 3) := by decide +kernel
theorem dX11_sample_21 : decode cX11_sample 21 = .ok (.aload_n 0, 1) := by decide +kernel
theorem dX11_sample_22 : decode cX11_sample 22 = .ok (.getfield 23, 3) := by decide +kernel
theorem dX11_sample_25 : decode cX11_sample 25 = .ok (.invokevirtual 392, 3) := by decide +kernel
theorem dX11_sample_28 : decode cX11_sample 28 = .ok (.ireturn, 1) := by decide +kernel
theorem dX11_load_0 : decode cX11_load 0 = .ok (.aload_n 0, 1) := by decide +kernel
theorem dX11_load_1 : decode cX11_load 1 = .ok (.getfield 23, 3) := by decide +kernel
theorem dX11_load_4 : decode cX11_load 4 = .ok (.invokevirtual 153, 3) := by decide +kernel
theorem dX11_load_7 : decode cX11_load 7 = .ok (.istore_n 2, 1) := by decide +kernel
theorem dX11_load_8 : decode cX11_load 8 = .ok (.aload_n 0, 1) := by decide +kernel
theorem dX11_load_9 : decode cX11_load 9 = .ok (.invokevirtual 156, 3) := by decide +kernel
theorem dX11_load_12 : decode cX11_load 12 = .ok (.ifCond .ne 18, 3) := by decide +kernel
theorem dX11_load_15 : decode cX11_load 15 = .ok (.iload_n 2, 1) := by decide +kernel
theorem dX11_load_16 : decode cX11_load 16 = .ok (.ifCond .eq 14, 3) := by decide +kernel
theorem dX11_load_19 : decode cX11_load 19 = .ok (.iload_n 1, 1) := by decide +kernel
theorem dX11_load_20 : decode cX11_load 20 = .ok (.ifCond .lt 10, 3) := by decide +kernel
theorem dX11_load_23 : decode cX11_load 23 = .ok (.iload_n 1, 1) := by decide +kernel
theorem dX11_load_24 : decode cX11_load 24 = .ok (.sipush 999, 3) := by decide +kernel
theorem dX11_load_27 : decode cX11_load 27 = .ok (.if_icmp .le 5, 3) := by decide +kernel
theorem dX11_load_30 : decode cX11_load 30 = .ok (.iconst (-1), 1) := by decide +kernel
theorem dX11_load_31 : decode cX11_load 31 = .ok (.ireturn, 1) := by decide +kernel
theorem dX11_load_32 : decode cX11_load 32 = .ok (.iload_n 1, 1) := by decide +kernel
theorem dX11_load_33 : decode cX11_load 33 = .ok (.aload_n 0, 1) := by decide +kernel
theorem dX11_load_34 : decode cX11_load 34 = .ok (.getfield 23, 3) := by decide +kernel
theorem dX11_load_37 : decode cX11_load 37 = .ok (.getfield 147, 3) := by decide +kernel
theorem dX11_load_40 : decode cX11_load 40 = .ok (.imul, 1) := by decide +kernel
theorem dX11_load_41 : decode cX11_load 41 = .ok (.iload_n 2, 1) := by decide +kernel
theorem dX11_load_42 : decode cX11_load 42 = .ok (.idiv, 1) := by decide +kernel
theorem dX11_load_43 : decode cX11_load 43 = .ok (.ireturn, 1) := by decide +kernel
theorem dX11_step_0 : decode cX11_step 0 = .ok (.aload_n 0, 1) := by decide +kernel
theorem dX11_step_1 : decode cX11_step 1 = .ok (.iload_n 1, 1) := by decide +kernel
theorem dX11_step_2 : decode cX11_step 2 = .ok (.invokevirtual 396, 3) := by decide +kernel
theorem dX11_step_5 : decode cX11_step 5 = .ok (.ifCond .ne 29, 3) := by decide +kernel
theorem dX11_step_8 : decode cX11_step 8 = .ok (.iload_n 2, 1) := by decide +kernel
theorem dX11_step_9 : decode cX11_step 9 = .ok (.ifCond .lt 25, 3) := by decide +kernel
theorem dX11_step_12 : decode cX11_step 12 = .ok (.iload_n 2, 1) := by decide +kernel
theorem dX11_step_13 : decode cX11_step 13 = .ok (.aload_n 0, 1) := by decide +kernel
theorem dX11_step_14 : decode cX11_step 14 = .ok (.getfield 33, 3) := by decide +kernel
theorem dX11_step_17 : decode cX11_step 17 = .ok (.iload_n 1, 1) := by decide +kernel
theorem dX11_step_18 : decode cX11_step 18 = .ok (.aaload, 1) := by decide +kernel
theorem dX11_step_19 : decode cX11_step 19 = .ok (.getfield 399, 3) := by decide +kernel
theorem dX11_step_22 : decode cX11_step 22 = .ok (.if_icmp .ge 12, 3) := by decide +kernel
theorem dX11_step_25 : decode cX11_step 25 = .ok (.iload_n 3, 1) := by decide +kernel
theorem dX11_step_26 : decode cX11_step 26 = .ok (.ifCond .lt 8, 3) := by decide +kernel
theorem dX11_step_29 : decode cX11_step 29 = .ok (.iload_n 3, 1) := by decide +kernel
theorem dX11_step_30 : decode cX11_step 30 = .ok (.iconst 1, 1) := by decide +kernel
theorem dX11_step_31 : decode cX11_step 31 = .ok (.if_icmp .le 6, 3) := by decide +kernel
theorem dX11_step_34 : decode cX11_step 34 = .ok (.ldc 246, 2) := by decide +kernel
theorem dX11_step_36 : decode cX11_step 36 = .ok (.ireturn, 1) := by decide +kernel
theorem dX11_step_37 : decode cX11_step 37 = .ok (.iload_n 3, 1) := by decide +kernel
theorem dX11_step_38 : decode cX11_step 38 = .ok (.ifCond .ne 17, 3) := by decide +kernel
theorem dX11_step_41 : decode cX11_step 41 = .ok (.aload_n 0, 1) := by decide +kernel
theorem dX11_step_42 : decode cX11_step 42 = .ok (.getfield 33, 3) := by decide +kernel
theorem dX11_step_45 : decode cX11_step 45 = .ok (.iload_n 1, 1) := by decide +kernel
theorem dX11_step_46 : decode cX11_step 46 = .ok (.aaload, 1) := by decide +kernel
theorem dX11_step_47 : decode cX11_step 47 = .ok (.getfield 400, 3) := by decide +kernel
theorem dX11_step_50 : decode cX11_step 50 = .ok (.iload_n 2, 1) := by decide +kernel
theorem dX11_step_51 : decode cX11_step 51 = .ok (.iaload, 1) := by decide +kernel
theorem dX11_step_52 : decode cX11_step 52 = .ok (.goto 14, 3) := by decide +kernel
theorem dX11_step_55 : decode cX11_step 55 = .ok (.aload_n 0, 1) := by decide +kernel
theorem dX11_step_56 : decode cX11_step 56 = .ok (.getfield 33, 3) := by decide +kernel
theorem dX11_step_59 : decode cX11_step 59 = .ok (.iload_n 1, 1) := by decide +kernel
theorem dX11_step_60 : decode cX11_step 60 = .ok (.aaload, 1) := by decide +kernel
theorem dX11_step_61 : decode cX11_step 61 = .ok (.getfield 403, 3) := by decide +kernel
theorem dX11_step_64 : decode cX11_step 64 = .ok (.iload_n 2, 1) := by decide +kernel
theorem dX11_step_65 : decode cX11_step 65 = .ok (.iaload, 1) := by decide +kernel
theorem dX11_step_66 : decode cX11_step 66 = .ok (.ireturn, 1) := by decide +kernel
theorem dX11_run_0 : decode cX11_run 0 = .ok (.aload_n 0, 1) := by decide +kernel
theorem dX11_run_1 : decode cX11_run 1 = .ok (.iload_n 1, 1) := by decide +kernel
theorem dX11_run_2 : decode cX11_run 2 = .ok (.invokevirtual 396, 3) := by decide +kernel
theorem dX11_run_5 : decode cX11_run 5 = .ok (.ifCond .ne 19, 3) := by decide +kernel
theorem dX11_run_8 : decode cX11_run 8 = .ok (.aload_n 0, 1) := by decide +kernel
theorem dX11_run_9 : decode cX11_run 9 = .ok (.invokevirtual 156, 3) := by decide +kernel
theorem dX11_run_12 : decode cX11_run 12 = .ok (.ifCond .ne 12, 3) := by decide +kernel
theorem dX11_run_15 : decode cX11_run 15 = .ok (.iload_n 2, 1) := by decide +kernel
theorem dX11_run_16 : decode cX11_run 16 = .ok (.ifCond .lt 8, 3) := by decide +kernel
theorem dX11_run_19 : decode cX11_run 19 = .ok (.iload_n 2, 1) := by decide +kernel
theorem dX11_run_20 : decode cX11_run 20 = .ok (.iconst 1, 1) := by decide +kernel
theorem dX11_run_21 : decode cX11_run 21 = .ok (.if_icmp .le 6, 3) := by decide +kernel
theorem dX11_run_24 : decode cX11_run 24 = .ok (.ldc 246, 2) := by decide +kernel
theorem dX11_run_26 : decode cX11_run 26 = .ok (.ireturn, 1) := by decide +kernel
theorem dX11_run_27 : decode cX11_run 27 = .ok (.aload_n 0, 1) := by decide +kernel
theorem dX11_run_28 : decode cX11_run 28 = .ok (.getfield 44, 3) := by decide +kernel
theorem dX11_run_31 : decode cX11_run 31 = .ok (.aload_n 0, 1) := by decide +kernel
theorem dX11_run_32 : decode cX11_run 32 = .ok (.getfield 40, 3) := by decide +kernel
theorem dX11_run_35 : decode cX11_run 35 = .ok (.invokevirtual 406, 3) := by decide +kernel
theorem dX11_run_38 : decode cX11_run 38 = .ok (.aload_n 0, 1) := by decide +kernel
theorem dX11_run_39 : decode cX11_run 39 = .ok (.aload_n 0, 1) := by decide +kernel
theorem dX11_run_40 : decode cX11_run 40 = .ok (.getfield 33, 3) := by decide +kernel
theorem dX11_run_43 : decode cX11_run 43 = .ok (.iload_n 1, 1) := by decide +kernel
theorem dX11_run_44 : decode cX11_run 44 = .ok (.aaload, 1) := by decide +kernel
theorem dX11_run_45 : decode cX11_run 45 = .ok (.invokevirtual 409, 3) := by decide +kernel
theorem dX11_run_48 : decode cX11_run 48 = .ok (.istore_n 3, 1) := by decide +kernel
theorem dX11_run_49 : decode cX11_run 49 = .ok (.iload_n 2, 1) := by decide +kernel
theorem dX11_run_50 : decode cX11_run 50 = .ok (.iconst 1, 1) := by decide +kernel
theorem dX11_run_51 : decode cX11_run 51 = .ok (.if_icmp .ne 11, 3) := by decide +kernel
theorem dX11_run_54 : decode cX11_run 54 = .ok (.aload_n 0, 1) := by decide +kernel
theorem dX11_run_55 : decode cX11_run 55 = .ok (.getfield 44, 3) := by decide +kernel
theorem dX11_run_58 : decode cX11_run 58 = .ok (.invokevirtual 269, 3) := by decide +kernel
theorem dX11_run_61 : decode cX11_run 61 = .ok (.ireturn, 1) := by decide +kernel
theorem dX11_run_62 : decode cX11_run 62 = .ok (.iload_n 3, 1) := by decide +kernel
theorem dX11_run_63 : decode cX11_run 63 = .ok (.aload_n 0, 1) := by decide +kernel
theorem dX11_run_64 : decode cX11_run 64 = .ok (.getfield 33, 3) := by decide +kernel
theorem dX11_run_67 : decode cX11_run 67 = .ok (.iload_n 1, 1) := by decide +kernel
theorem dX11_run_68 : decode cX11_run 68 = .ok (.aaload, 1) := by decide +kernel
theorem dX11_run_69 : decode cX11_run 69 = .ok (.getfield 399, 3) := by decide +kernel
theorem dX11_run_72 : decode cX11_run 72 = .ok (.if_icmp .ne 7, 3) := by decide +kernel
theorem dX11_run_75 : decode cX11_run 75 = .ok (.iconst (-1), 1) := by decide +kernel
theorem dX11_run_76 : decode cX11_run 76 = .ok (.goto 4, 3) := by decide +kernel
theorem dX11_run_79 : decode cX11_run 79 = .ok (.iload_n 3, 1) := by decide +kernel
theorem dX11_run_80 : decode cX11_run 80 = .ok (.ireturn, 1) := by decide +kernel
theorem dX11_tryOut_0 : decode cX11_tryOut 0 = .ok (.iconst 0, 1) := by decide +kernel
theorem dX11_tryOut_1 : decode cX11_tryOut 1 = .ok (.istore_n 2, 1) := by decide +kernel
theorem dX11_tryOut_2 : decode cX11_tryOut 2 = .ok (.iload_n 2, 1) := by decide +kernel
theorem dX11_tryOut_3 : decode cX11_tryOut 3 = .ok (.aload_n 1, 1) := by decide +kernel
theorem dX11_tryOut_4 : decode cX11_tryOut 4 = .ok (.getfield 399, 3) := by decide +kernel
theorem dX11_tryOut_7 : decode cX11_tryOut 7 = .ok (.if_icmp .ge 63, 3) := by decide +kernel
theorem dX11_tryOut_10 : decode cX11_tryOut 10 = .ok (.aload_n 1, 1) := by decide +kernel
theorem dX11_tryOut_11 : decode cX11_tryOut 11 = .ok (.iload_n 2, 1) := by decide +kernel
theorem dX11_tryOut_12 : decode cX11_tryOut 12 = .ok (.invokevirtual 413, 3) := by decide +kernel
theorem dX11_tryOut_15 : decode cX11_tryOut 15 = .ok (.istore_n 3, 1) := by decide +kernel
theorem dX11_tryOut_16 : decode cX11_tryOut 16 = .ok (.aload_n 1, 1) := by decide +kernel
theorem dX11_tryOut_17 : decode cX11_tryOut 17 = .ok (.getfield 403, 3) := by decide +kernel
theorem dX11_tryOut_20 : decode cX11_tryOut 20 = .ok (.iload_n 2, 1) := by decide +kernel
theorem dX11_tryOut_21 : decode cX11_tryOut 21 = .ok (.iaload, 1) := by decide +kernel
theorem dX11_tryOut_22 : decode cX11_tryOut 22 = .ok (.istore 4, 2) := by decide +kernel
theorem dX11_tryOut_24 : decode cX11_tryOut 24 = .ok (.aload_n 0, 1) := by decide +kernel
theorem dX11_tryOut_25 : decode cX11_tryOut 25 = .ok (.getfield 92, 3) := by decide +kernel
theorem dX11_tryOut_28 : decode cX11_tryOut 28 = .ok (.aload_n 0, 1) := by decide +kernel
theorem dX11_tryOut_29 : decode cX11_tryOut 29 = .ok (.getfield 44, 3) := by decide +kernel
theorem dX11_tryOut_32 : decode cX11_tryOut 32 = .ok (.iload_n 3, 1) := by decide +kernel
theorem dX11_tryOut_33 : decode cX11_tryOut 33 = .ok (.iload 4, 2) := by decide +kernel
theorem dX11_tryOut_35 : decode cX11_tryOut 35 = .ok (.iconst (-1), 1) := by decide +kernel
theorem dX11_tryOut_36 : decode cX11_tryOut 36 = .ok (.invokevirtual 254, 3) := by decide +kernel
theorem dX11_tryOut_39 : decode cX11_tryOut 39 = .ok (.iconst (-1), 1) := by decide +kernel
theorem dX11_tryOut_40 : decode cX11_tryOut 40 = .ok (.if_icmp .eq 5, 3) := by decide +kernel
theorem dX11_tryOut_43 : decode cX11_tryOut 43 = .ok (.iload_n 2, 1) := by decide +kernel
theorem dX11_tryOut_44 : decode cX11_tryOut 44 = .ok (.ireturn, 1) := by decide +kernel
theorem dX11_tryOut_45 : decode cX11_tryOut 45 = .ok (.aload_n 0, 1) := by decide +kernel
theorem dX11_tryOut_46 : decode cX11_tryOut 46 = .ok (.getfield 92, 3) := by decide +kernel
theorem dX11_tryOut_49 : decode cX11_tryOut 49 = .ok (.aload_n 0, 1) := by decide +kernel
theorem dX11_tryOut_50 : decode cX11_tryOut 50 = .ok (.getfield 44, 3) := by decide +kernel
theorem dX11_tryOut_53 : decode cX11_tryOut 53 = .ok (.iload_n 3, 1) := by decide +kernel
theorem dX11_tryOut_54 : decode cX11_tryOut 54 = .ok (.iload 4, 2) := by decide +kernel
theorem dX11_tryOut_56 : decode cX11_tryOut 56 = .ok (.iconst (-1), 1) := by decide +kernel
theorem dX11_tryOut_57 : decode cX11_tryOut 57 = .ok (.iload 4, 2) := by decide +kernel
theorem dX11_tryOut_59 : decode cX11_tryOut 59 = .ok (.i2l, 1) := by decide +kernel
theorem dX11_tryOut_60 : decode cX11_tryOut 60 = .ok (.invokevirtual 261, 3) := by decide +kernel
theorem dX11_tryOut_63 : decode cX11_tryOut 63 = .ok (.pop, 1) := by decide +kernel
theorem dX11_tryOut_64 : decode cX11_tryOut 64 = .ok (.iinc 2 1, 3) := by decide +kernel
theorem dX11_tryOut_67 : decode cX11_tryOut 67 = .ok (.goto (-65), 3) := by decide +kernel
theorem dX11_tryOut_70 : decode cX11_tryOut 70 = .ok (.aload_n 1, 1) := by decide +kernel
theorem dX11_tryOut_71 : decode cX11_tryOut 71 = .ok (.getfield 399, 3) := by decide +kernel
theorem dX11_tryOut_74 : decode cX11_tryOut 74 = .ok (.ireturn, 1) := by decide +kernel
theorem dX11_perform_0 : decode cX11_perform 0 = .ok (.aload_n 0, 1) := by decide +kernel
theorem dX11_perform_1 : decode cX11_perform 1 = .ok (.iload_n 1, 1) := by decide +kernel
theorem dX11_perform_2 : decode cX11_perform 2 = .ok (.invokevirtual 396, 3) := by decide +kernel
theorem dX11_perform_5 : decode cX11_perform 5 = .ok (.ifCond .ne 10, 3) := by decide +kernel
theorem dX11_perform_8 : decode cX11_perform 8 = .ok (.aload_n 0, 1) := by decide +kernel
theorem dX11_perform_9 : decode cX11_perform 9 = .ok (.invokevirtual 156, 3) := by decide +kernel
theorem dX11_perform_12 : decode cX11_perform 12 = .ok (.ifCond .eq 5, 3) := by decide +kernel
theorem dX11_perform_15 : decode cX11_perform 15 = .ok (.iconst (-1), 1) := by decide +kernel
theorem dX11_perform_16 : decode cX11_perform 16 = .ok (.ireturn, 1) := by decide +kernel
theorem dX11_perform_17 : decode cX11_perform 17 = .ok (.aload_n 0, 1) := by decide +kernel
theorem dX11_perform_18 : decode cX11_perform 18 = .ok (.getfield 33, 3) := by decide +kernel
theorem dX11_perform_21 : decode cX11_perform 21 = .ok (.iload_n 1, 1) := by decide +kernel
theorem dX11_perform_22 : decode cX11_perform 22 = .ok (.aaload, 1) := by decide +kernel
theorem dX11_perform_23 : decode cX11_perform 23 = .ok (.astore_n 2, 1) := by decide +kernel
theorem dX11_perform_24 : decode cX11_perform 24 = .ok (.iconst 0, 1) := by decide +kernel
theorem dX11_perform_25 : decode cX11_perform 25 = .ok (.istore_n 3, 1) := by decide +kernel
theorem dX11_perform_26 : decode cX11_perform 26 = .ok (.iload_n 3, 1) := by decide +kernel
theorem dX11_perform_27 : decode cX11_perform 27 = .ok (.aload_n 2, 1) := by decide +kernel
theorem dX11_perform_28 : decode cX11_perform 28 = .ok (.getfield 399, 3) := by decide +kernel
theorem dX11_perform_31 : decode cX11_perform 31 = .ok (.if_icmp .ge 37, 3) := by decide +kernel
theorem dX11_perform_34 : decode cX11_perform 34 = .ok (.aload_n 0, 1) := by decide +kernel
theorem dX11_perform_35 : decode cX11_perform 35 = .ok (.aload_n 2, 1) := by decide +kernel
theorem dX11_perform_36 : decode cX11_perform 36 = .ok (.iload_n 3, 1) := by decide +kernel
theorem dX11_perform_37 : decode cX11_perform 37 = .ok (.invokevirtual 413, 3) := by decide +kernel
theorem dX11_perform_40 : decode cX11_perform 40 = .ok (.aload_n 2, 1) := by decide +kernel
theorem dX11_perform_41 : decode cX11_perform 41 = .ok (.getfield 403, 3) := by decide +kernel
theorem dX11_perform_44 : decode cX11_perform 44 = .ok (.iload_n 3, 1) := by decide +kernel
theorem dX11_perform_45 : decode cX11_perform 45 = .ok (.iaload, 1) := by decide +kernel
theorem dX11_perform_46 : decode cX11_perform 46 = .ok (.iconst (-1), 1) := by decide +kernel
theorem dX11_perform_47 : decode cX11_perform 47 = .ok (.aload_n 2, 1) := by decide +kernel
theorem dX11_perform_48 : decode cX11_perform 48 = .ok (.getfield 403, 3) := by decide +kernel
theorem dX11_perform_51 : decode cX11_perform 51 = .ok (.iload_n 3, 1) := by decide +kernel
theorem dX11_perform_52 : decode cX11_perform 52 = .ok (.iaload, 1) := by decide +kernel
theorem dX11_perform_53 : decode cX11_perform 53 = .ok (.i2l, 1) := by decide +kernel
theorem dX11_perform_54 : decode cX11_perform 54 = .ok (.invokevirtual 276, 3) := by decide +kernel
theorem dX11_perform_57 : decode cX11_perform 57 = .ok (.ifCond .ge 5, 3) := by decide +kernel
theorem dX11_perform_60 : decode cX11_perform 60 = .ok (.iload_n 3, 1) := by decide +kernel
theorem dX11_perform_61 : decode cX11_perform 61 = .ok (.ireturn, 1) := by decide +kernel
theorem dX11_perform_62 : decode cX11_perform 62 = .ok (.iinc 3 1, 3) := by decide +kernel
theorem dX11_perform_65 : decode cX11_perform 65 = .ok (.goto (-39), 3) := by decide +kernel
theorem dX11_perform_68 : decode cX11_perform 68 = .ok (.aload_n 2, 1) := by decide +kernel
theorem dX11_perform_69 : decode cX11_perform 69 = .ok (.getfield 399, 3) := by decide +kernel
theorem dX11_perform_72 : decode cX11_perform 72 = .ok (.ireturn, 1) := by decide +kernel
theorem dX11_most_0 : decode cX11_most 0 = .ok (.aload_n 0, 1) := by decide +kernel
theorem dX11_most_1 : decode cX11_most 1 = .ok (.invokevirtual 156, 3) := by decide +kernel
theorem dX11_most_4 : decode cX11_most 4 = .ok (.ifCond .eq 6, 3) := by decide +kernel
theorem dX11_most_7 : decode cX11_most 7 = .ok (.ldc 246, 2) := by decide +kernel
theorem dX11_most_9 : decode cX11_most 9 = .ok (.ireturn, 1) := by decide +kernel
theorem dX11_most_10 : decode cX11_most 10 = .ok (.aload_n 0, 1) := by decide +kernel
theorem dX11_most_11 : decode cX11_most 11 = .ok (.getfield 83, 3) := by decide +kernel
theorem dX11_most_14 : decode cX11_most 14 = .ok (.aload_n 0, 1) := by decide +kernel
theorem dX11_most_15 : decode cX11_most 15 = .ok (.getfield 40, 3) := by decide +kernel
theorem dX11_most_18 : decode cX11_most 18 = .ok (.invokevirtual 207, 3) := by decide +kernel
theorem dX11_most_21 : decode cX11_most 21 = .ok (.iload_n 1, 1) := by decide +kernel
theorem dX11_most_22 : decode cX11_most 22 = .ok (.tableswitch 160 0 8 #[50, 68, 76, 88, 96, 105, 114, 122, 152], 50) := by decide +kernel
theorem dX11_most_72 : decode cX11_most 72 = .ok (.aload_n 0, 1) := by decide +kernel
theorem dX11_most_73 : decode cX11_most 73 = .ok (.getfield 23, 3) := by decide +kernel
theorem dX11_most_76 : decode cX11_most 76 = .ok (.invokevirtual 316, 3) := by decide +kernel
theorem dX11_most_79 : decode cX11_most 79 = .ok (.aload_n 0, 1) := by decide +kernel
theorem dX11_most_80 : decode cX11_most 80 = .ok (.getfield 83, 3) := by decide +kernel
theorem dX11_most_83 : decode cX11_most 83 = .ok (.getfield 239, 3) := by decide +kernel
theorem dX11_most_86 : decode cX11_most 86 = .ok (.iconst (-1), 1) := by decide +kernel
theorem dX11_most_87 : decode cX11_most 87 = .ok (.ixor, 1) := by decide +kernel
theorem dX11_most_88 : decode cX11_most 88 = .ok (.iand, 1) := by decide +kernel
theorem dX11_most_89 : decode cX11_most 89 = .ok (.ireturn, 1) := by decide +kernel
theorem dX11_most_90 : decode cX11_most 90 = .ok (.aload_n 0, 1) := by decide +kernel
theorem dX11_most_91 : decode cX11_most 91 = .ok (.getfield 99, 3) := by decide +kernel
theorem dX11_most_94 : decode cX11_most 94 = .ok (.invokevirtual 416, 3) := by decide +kernel
theorem dX11_most_97 : decode cX11_most 97 = .ok (.ireturn, 1) := by decide +kernel
theorem dX11_most_98 : decode cX11_most 98 = .ok (.aload_n 0, 1) := by decide +kernel
theorem dX11_most_99 : decode cX11_most 99 = .ok (.getfield 99, 3) := by decide +kernel
theorem dX11_most_102 : decode cX11_most 102 = .ok (.aload_n 0, 1) := by decide +kernel
theorem dX11_most_103 : decode cX11_most 103 = .ok (.getfield 40, 3) := by decide +kernel
theorem dX11_most_106 : decode cX11_most 106 = .ok (.invokevirtual 419, 3) := by decide +kernel
theorem dX11_most_109 : decode cX11_most 109 = .ok (.ireturn, 1) := by decide +kernel
theorem dX11_most_110 : decode cX11_most 110 = .ok (.aload_n 0, 1) := by decide +kernel
theorem dX11_most_111 : decode cX11_most 111 = .ok (.getfield 99, 3) := by decide +kernel
theorem dX11_most_114 : decode cX11_most 114 = .ok (.invokevirtual 423, 3) := by decide +kernel
theorem dX11_most_117 : decode cX11_most 117 = .ok (.ireturn, 1) := by decide +kernel
theorem dX11_most_118 : decode cX11_most 118 = .ok (.aload_n 0, 1) := by decide +kernel
theorem dX11_most_119 : decode cX11_most 119 = .ok (.getfield 99, 3) := by decide +kernel
theorem dX11_most_122 : decode cX11_most 122 = .ok (.iconst 0, 1) := by decide +kernel
theorem dX11_most_123 : decode cX11_most 123 = .ok (.invokevirtual 426, 3) := by decide +kernel
theorem dX11_most_126 : decode cX11_most 126 = .ok (.ireturn, 1) := by decide +kernel
theorem dX11_most_127 : decode cX11_most 127 = .ok (.aload_n 0, 1) := by decide +kernel
theorem dX11_most_128 : decode cX11_most 128 = .ok (.getfield 99, 3) := by decide +kernel
theorem dX11_most_131 : decode cX11_most 131 = .ok (.iconst 1, 1) := by decide +kernel
theorem dX11_most_132 : decode cX11_most 132 = .ok (.invokevirtual 426, 3) := by decide +kernel
theorem dX11_most_135 : decode cX11_most 135 = .ok (.ireturn, 1) := by decide +kernel
theorem dX11_most_136 : decode cX11_most 136 = .ok (.aload_n 0, 1) := by decide +kernel
theorem dX11_most_137 : decode cX11_most 137 = .ok (.getfield 40, 3) := by decide +kernel
theorem dX11_most_140 : decode cX11_most 140 = .ok (.invokevirtual 429, 3) := by decide +kernel
theorem dX11_most_143 : decode cX11_most 143 = .ok (.ireturn, 1) := by decide +kernel
theorem dX11_most_144 : decode cX11_most 144 = .ok (.aload_n 0, 1) := by decide +kernel
theorem dX11_most_145 : decode cX11_most 145 = .ok (.getfield 40, 3) := by decide +kernel
theorem dX11_most_148 : decode cX11_most 148 = .ok (.getfield 283, 3) := by decide +kernel
theorem dX11_most_151 : decode cX11_most 151 = .ok (.iconst 0, 1) := by decide +kernel
theorem dX11_most_152 : decode cX11_most 152 = .ok (.iaload, 1) := by decide +kernel
theorem dX11_most_153 : decode cX11_most 153 = .ok (.aload_n 0, 1) := by decide +kernel
theorem dX11_most_154 : decode cX11_most 154 = .ok (.getfield 40, 3) := by decide +kernel
theorem dX11_most_157 : decode cX11_most 157 = .ok (.getfield 283, 3) := by decide +kernel
theorem dX11_most_160 : decode cX11_most 160 = .ok (.iconst 1, 1) := by decide +kernel
theorem dX11_most_161 : decode cX11_most 161 = .ok (.iaload, 1) := by decide +kernel
theorem dX11_most_162 : decode cX11_most 162 = .ok (.iadd, 1) := by decide +kernel
theorem dX11_most_163 : decode cX11_most 163 = .ok (.aload_n 0, 1) := by decide +kernel
theorem dX11_most_164 : decode cX11_most 164 = .ok (.getfield 40, 3) := by decide +kernel
theorem dX11_most_167 : decode cX11_most 167 = .ok (.getfield 283, 3) := by decide +kernel
theorem dX11_most_170 : decode cX11_most 170 = .ok (.iconst 2, 1) := by decide +kernel
theorem dX11_most_171 : decode cX11_most 171 = .ok (.iaload, 1) := by decide +kernel
theorem dX11_most_172 : decode cX11_most 172 = .ok (.iadd, 1) := by decide +kernel
theorem dX11_most_173 : decode cX11_most 173 = .ok (.ireturn, 1) := by decide +kernel
theorem dX11_most_174 : decode cX11_most 174 = .ok (.aload_n 0, 1) := by decide +kernel
theorem dX11_most_175 : decode cX11_most 175 = .ok (.getfield 99, 3) := by decide +kernel
theorem dX11_most_178 : decode cX11_most 178 = .ok (.invokevirtual 432, 3) := by decide +kernel
theorem dX11_most_181 : decode cX11_most 181 = .ok (.ireturn, 1) := by decide +kernel
theorem dX11_most_182 : decode cX11_most 182 = .ok (.ldc 246, 2) := by decide +kernel
theorem dX11_most_184 : decode cX11_most 184 = .ok (.ireturn, 1) := by decide +kernel
theorem dX11_image_0 : decode cX11_image 0 = .ok (.aload_n 0, 1) := by decide +kernel
theorem dX11_image_1 : decode cX11_image 1 = .ok (.invokevirtual 156, 3) := by decide +kernel
theorem dX11_image_4 : decode cX11_image 4 = .ok (.ifCond .eq 5, 3) := by decide +kernel
theorem dX11_image_7 : decode cX11_image 7 = .ok (.iconst (-1), 1) := by decide +kernel
theorem dX11_image_8 : decode cX11_image 8 = .ok (.ireturn, 1) := by decide +kernel
theorem dX11_image_9 : decode cX11_image 9 = .ok (.aload_n 0, 1) := by decide +kernel
theorem dX11_image_10 : decode cX11_image 10 = .ok (.getfield 47, 3) := by decide +kernel
theorem dX11_image_13 : decode cX11_image 13 = .ok (.aload_n 0, 1) := by decide +kernel
theorem dX11_image_14 : decode cX11_image 14 = .ok (.getfield 40, 3) := by decide +kernel
theorem dX11_image_17 : decode cX11_image 17 = .ok (.invokevirtual 406, 3) := by decide +kernel
theorem dX11_image_20 : decode cX11_image 20 = .ok (.aload_n 0, 1) := by decide +kernel
theorem dX11_image_21 : decode cX11_image 21 = .ok (.getfield 57, 3) := by decide +kernel
theorem dX11_image_24 : decode cX11_image 24 = .ok (.aload_n 0, 1) := by decide +kernel
theorem dX11_image_25 : decode cX11_image 25 = .ok (.getfield 53, 3) := by decide +kernel
theorem dX11_image_28 : decode cX11_image 28 = .ok (.invokevirtual 435, 3) := by decide +kernel
theorem dX11_image_31 : decode cX11_image 31 = .ok (.aload_n 0, 1) := by decide +kernel
theorem dX11_image_32 : decode cX11_image 32 = .ok (.iconst 1, 1) := by decide +kernel
theorem dX11_image_33 : decode cX11_image 33 = .ok (.putfield 143, 3) := by decide +kernel
theorem dX11_image_36 : decode cX11_image 36 = .ok (.aload_n 0, 1) := by decide +kernel
theorem dX11_image_37 : decode cX11_image 37 = .ok (.getfield 40, 3) := by decide +kernel
theorem dX11_image_40 : decode cX11_image 40 = .ok (.invokevirtual 269, 3) := by decide +kernel
theorem dX11_image_43 : decode cX11_image 43 = .ok (.ireturn, 1) := by decide +kernel
theorem dX11_back_0 : decode cX11_back 0 = .ok (.aload_n 0, 1) := by decide +kernel
theorem dX11_back_1 : decode cX11_back 1 = .ok (.getfield 143, 3) := by decide +kernel
theorem dX11_back_4 : decode cX11_back 4 = .ok (.ifCond .ne 5, 3) := by decide +kernel
theorem dX11_back_7 : decode cX11_back 7 = .ok (.iconst (-1), 1) := by decide +kernel
theorem dX11_back_8 : decode cX11_back 8 = .ok (.ireturn, 1) := by decide +kernel
theorem dX11_back_9 : decode cX11_back 9 = .ok (.aload_n 0, 1) := by decide +kernel
theorem dX11_back_10 : decode cX11_back 10 = .ok (.getfield 40, 3) := by decide +kernel
theorem dX11_back_13 : decode cX11_back 13 = .ok (.aload_n 0, 1) := by decide +kernel
theorem dX11_back_14 : decode cX11_back 14 = .ok (.getfield 47, 3) := by decide +kernel
theorem dX11_back_17 : decode cX11_back 17 = .ok (.invokevirtual 406, 3) := by decide +kernel
theorem dX11_back_20 : decode cX11_back 20 = .ok (.aload_n 0, 1) := by decide +kernel
theorem dX11_back_21 : decode cX11_back 21 = .ok (.getfield 53, 3) := by decide +kernel
theorem dX11_back_24 : decode cX11_back 24 = .ok (.aload_n 0, 1) := by decide +kernel
theorem dX11_back_25 : decode cX11_back 25 = .ok (.getfield 57, 3) := by decide +kernel
theorem dX11_back_28 : decode cX11_back 28 = .ok (.invokevirtual 435, 3) := by decide +kernel
theorem dX11_back_31 : decode cX11_back 31 = .ok (.aload_n 0, 1) := by decide +kernel
theorem dX11_back_32 : decode cX11_back 32 = .ok (.getfield 63, 3) := by decide +kernel
theorem dX11_back_35 : decode cX11_back 35 = .ok (.iconst 0, 1) := by decide +kernel
theorem dX11_back_36 : decode cX11_back 36 = .ok (.putfield 140, 3) := by decide +kernel
theorem dX11_back_39 : decode cX11_back 39 = .ok (.aload_n 0, 1) := by decide +kernel
theorem dX11_back_40 : decode cX11_back 40 = .ok (.getfield 40, 3) := by decide +kernel
theorem dX11_back_43 : decode cX11_back 43 = .ok (.invokevirtual 269, 3) := by decide +kernel
theorem dX11_back_46 : decode cX11_back 46 = .ok (.ireturn, 1) := by decide +kernel
theorem dX11_count_0 : decode cX11_count 0 = .ok (.iload_n 1, 1) := by decide +kernel
theorem dX11_count_1 : decode cX11_count 1 = .ok (.tableswitch 72 0 4 #[35, 43, 48, 56, 64], 35) := by decide +kernel
theorem dX11_count_36 : decode cX11_count 36 = .ok (.aload_n 0, 1) := by decide +kernel
theorem dX11_count_37 : decode cX11_count 37 = .ok (.getfield 23, 3) := by decide +kernel
theorem dX11_count_40 : decode cX11_count 40 = .ok (.getfield 147, 3) := by decide +kernel
theorem dX11_count_43 : decode cX11_count 43 = .ok (.ireturn, 1) := by decide +kernel
theorem dX11_count_44 : decode cX11_count 44 = .ok (.aload_n 0, 1) := by decide +kernel
theorem dX11_count_45 : decode cX11_count 45 = .ok (.getfield 150, 3) := by decide +kernel
theorem dX11_count_48 : decode cX11_count 48 = .ok (.ireturn, 1) := by decide +kernel
theorem dX11_count_49 : decode cX11_count 49 = .ok (.aload_n 0, 1) := by decide +kernel
theorem dX11_count_50 : decode cX11_count 50 = .ok (.getfield 12, 3) := by decide +kernel
theorem dX11_count_53 : decode cX11_count 53 = .ok (.getfield 114, 3) := by decide +kernel
theorem dX11_count_56 : decode cX11_count 56 = .ok (.ireturn, 1) := by decide +kernel
theorem dX11_count_57 : decode cX11_count 57 = .ok (.aload_n 0, 1) := by decide +kernel
theorem dX11_count_58 : decode cX11_count 58 = .ok (.getfield 53, 3) := by decide +kernel
theorem dX11_count_61 : decode cX11_count 61 = .ok (.invokevirtual 307, 3) := by decide +kernel
theorem dX11_count_64 : decode cX11_count 64 = .ok (.ireturn, 1) := by decide +kernel
theorem dX11_count_65 : decode cX11_count 65 = .ok (.aload_n 0, 1) := by decide +kernel
theorem dX11_count_66 : decode cX11_count 66 = .ok (.getfield 63, 3) := by decide +kernel
theorem dX11_count_69 : decode cX11_count 69 = .ok (.getfield 140, 3) := by decide +kernel
theorem dX11_count_72 : decode cX11_count 72 = .ok (.ireturn, 1) := by decide +kernel
theorem dX11_count_73 : decode cX11_count 73 = .ok (.ldc 246, 2) := by decide +kernel
theorem dX11_count_75 : decode cX11_count 75 = .ok (.ireturn, 1) := by decide +kernel
theorem dX11_singleBits_0 : decode cX11_singleBits 0 = .ok (.fload_n 0, 1) := by decide +kernel
theorem dX11_singleBits_1 : decode cX11_singleBits 1 = .ok (.fconst 0, 1) := by decide +kernel
theorem dX11_singleBits_2 : decode cX11_singleBits 2 = .ok (.fcmp .l, 1) := by decide +kernel
theorem dX11_singleBits_3 : decode cX11_singleBits 3 = .ok (.ifCond .ne 5, 3) := by decide +kernel
theorem dX11_singleBits_6 : decode cX11_singleBits 6 = .ok (.iconst 0, 1) := by decide +kernel
theorem dX11_singleBits_7 : decode cX11_singleBits 7 = .ok (.ireturn, 1) := by decide +kernel
theorem dX11_singleBits_8 : decode cX11_singleBits 8 = .ok (.fload_n 0, 1) := by decide +kernel
theorem dX11_singleBits_9 : decode cX11_singleBits 9 = .ok (.fconst 0, 1) := by decide +kernel
theorem dX11_singleBits_10 : decode cX11_singleBits 10 = .ok (.fcmp .g, 1) := by decide +kernel
theorem dX11_singleBits_11 : decode cX11_singleBits 11 = .ok (.ifCond .ge 8, 3) := by decide +kernel
theorem dX11_singleBits_14 : decode cX11_singleBits 14 = .ok (.fload_n 0, 1) := by decide +kernel
theorem dX11_singleBits_15 : decode cX11_singleBits 15 = .ok (.fneg, 1) := by decide +kernel
theorem dX11_singleBits_16 : decode cX11_singleBits 16 = .ok (.goto 4, 3) := by decide +kernel
theorem dX11_singleBits_19 : decode cX11_singleBits 19 = .ok (.fload_n 0, 1) := by decide +kernel
theorem dX11_singleBits_20 : decode cX11_singleBits 20 = .ok (.fstore_n 1, 1) := by decide +kernel
theorem dX11_singleBits_21 : decode cX11_singleBits 21 = .ok (.bipush 127, 2) := by decide +kernel
theorem dX11_singleBits_23 : decode cX11_singleBits 23 = .ok (.istore_n 2, 1) := by decide +kernel
theorem dX11_singleBits_24 : decode cX11_singleBits 24 = .ok (.iconst 0, 1) := by decide +kernel
theorem dX11_singleBits_25 : decode cX11_singleBits 25 = .ok (.istore_n 3, 1) := by decide +kernel
theorem dX11_singleBits_26 : decode cX11_singleBits 26 = .ok (.iload_n 3, 1) := by decide +kernel
theorem dX11_singleBits_27 : decode cX11_singleBits 27 = .ok (.sipush 300, 3) := by decide +kernel
theorem dX11_singleBits_30 : decode cX11_singleBits 30 = .ok (.if_icmp .ge 22, 3) := by decide +kernel
theorem dX11_singleBits_33 : decode cX11_singleBits 33 = .ok (.fload_n 1, 1) := by decide +kernel
theorem dX11_singleBits_34 : decode cX11_singleBits 34 = .ok (.fconst 2, 1) := by decide +kernel
theorem dX11_singleBits_35 : decode cX11_singleBits 35 = .ok (.fcmp .l, 1) := by decide +kernel
theorem dX11_singleBits_36 : decode cX11_singleBits 36 = .ok (.ifCond .lt 16, 3) := by decide +kernel
theorem dX11_singleBits_39 : decode cX11_singleBits 39 = .ok (.fload_n 1, 1) := by decide +kernel
theorem dX11_singleBits_40 : decode cX11_singleBits 40 = .ok (.fconst 2, 1) := by decide +kernel
theorem dX11_singleBits_41 : decode cX11_singleBits 41 = .ok (.fdiv, 1) := by decide +kernel
theorem dX11_singleBits_42 : decode cX11_singleBits 42 = .ok (.fstore_n 1, 1) := by decide +kernel
theorem dX11_singleBits_43 : decode cX11_singleBits 43 = .ok (.iinc 2 1, 3) := by decide +kernel
theorem dX11_singleBits_46 : decode cX11_singleBits 46 = .ok (.iinc 3 1, 3) := by decide +kernel
theorem dX11_singleBits_49 : decode cX11_singleBits 49 = .ok (.goto (-23), 3) := by decide +kernel
theorem dX11_singleBits_52 : decode cX11_singleBits 52 = .ok (.iconst 0, 1) := by decide +kernel
theorem dX11_singleBits_53 : decode cX11_singleBits 53 = .ok (.istore_n 3, 1) := by decide +kernel
theorem dX11_singleBits_54 : decode cX11_singleBits 54 = .ok (.iload_n 3, 1) := by decide +kernel
theorem dX11_singleBits_55 : decode cX11_singleBits 55 = .ok (.sipush 300, 3) := by decide +kernel
theorem dX11_singleBits_58 : decode cX11_singleBits 58 = .ok (.if_icmp .ge 22, 3) := by decide +kernel
theorem dX11_singleBits_61 : decode cX11_singleBits 61 = .ok (.fload_n 1, 1) := by decide +kernel
theorem dX11_singleBits_62 : decode cX11_singleBits 62 = .ok (.fconst 1, 1) := by decide +kernel
theorem dX11_singleBits_63 : decode cX11_singleBits 63 = .ok (.fcmp .g, 1) := by decide +kernel
theorem dX11_singleBits_64 : decode cX11_singleBits 64 = .ok (.ifCond .ge 16, 3) := by decide +kernel
theorem dX11_singleBits_67 : decode cX11_singleBits 67 = .ok (.fload_n 1, 1) := by decide +kernel
theorem dX11_singleBits_68 : decode cX11_singleBits 68 = .ok (.fconst 2, 1) := by decide +kernel
theorem dX11_singleBits_69 : decode cX11_singleBits 69 = .ok (.fmul, 1) := by decide +kernel
theorem dX11_singleBits_70 : decode cX11_singleBits 70 = .ok (.fstore_n 1, 1) := by decide +kernel
theorem dX11_singleBits_71 : decode cX11_singleBits 71 = .ok (.iinc 2 (-1), 3) := by decide +kernel
theorem dX11_singleBits_74 : decode cX11_singleBits 74 = .ok (.iinc 3 1, 3) := by decide +kernel
theorem dX11_singleBits_77 : decode cX11_singleBits 77 = .ok (.goto (-23), 3) := by decide +kernel
theorem dX11_singleBits_80 : decode cX11_singleBits 80 = .ok (.iload_n 2, 1) := by decide +kernel
theorem dX11_singleBits_81 : decode cX11_singleBits 81 = .ok (.bipush 23, 2) := by decide +kernel
theorem dX11_singleBits_83 : decode cX11_singleBits 83 = .ok (.ishl, 1) := by decide +kernel
theorem dX11_singleBits_84 : decode cX11_singleBits 84 = .ok (.fload_n 1, 1) := by decide +kernel
theorem dX11_singleBits_85 : decode cX11_singleBits 85 = .ok (.fconst 1, 1) := by decide +kernel
theorem dX11_singleBits_86 : decode cX11_singleBits 86 = .ok (.fsub, 1) := by decide +kernel
theorem dX11_singleBits_87 : decode cX11_singleBits 87 = .ok (.ldc_w 438, 3) := by decide +kernel
theorem dX11_singleBits_90 : decode cX11_singleBits 90 = .ok (.fmul, 1) := by decide +kernel
theorem dX11_singleBits_91 : decode cX11_singleBits 91 = .ok (.f2i, 1) := by decide +kernel
theorem dX11_singleBits_92 : decode cX11_singleBits 92 = .ok (.ior, 1) := by decide +kernel
theorem dX11_singleBits_93 : decode cX11_singleBits 93 = .ok (.istore_n 3, 1) := by decide +kernel
theorem dX11_singleBits_94 : decode cX11_singleBits 94 = .ok (.fload_n 0, 1) := by decide +kernel
theorem dX11_singleBits_95 : decode cX11_singleBits 95 = .ok (.fconst 0, 1) := by decide +kernel
theorem dX11_singleBits_96 : decode cX11_singleBits 96 = .ok (.fcmp .g, 1) := by decide +kernel
theorem dX11_singleBits_97 : decode cX11_singleBits 97 = .ok (.ifCond .ge 11, 3) := by decide +kernel
theorem dX11_singleBits_100 : decode cX11_singleBits 100 = .ok (.iload_n 3, 1) := by decide +kernel
theorem dX11_singleBits_101 : decode cX11_singleBits 101 = .ok (.ldc_w 439, 3) := by decide +kernel
theorem dX11_singleBits_104 : decode cX11_singleBits 104 = .ok (.ior, 1) := by decide +kernel
theorem dX11_singleBits_105 : decode cX11_singleBits 105 = .ok (.goto 4, 3) := by decide +kernel
theorem dX11_singleBits_108 : decode cX11_singleBits 108 = .ok (.iload_n 3, 1) := by decide +kernel
theorem dX11_singleBits_109 : decode cX11_singleBits 109 = .ok (.ireturn, 1) := by decide +kernel
theorem dX11_doubleBits_0 : decode cX11_doubleBits 0 = .ok (.dload_n 0, 1) := by decide +kernel
theorem dX11_doubleBits_1 : decode cX11_doubleBits 1 = .ok (.dconst 0, 1) := by decide +kernel
theorem dX11_doubleBits_2 : decode cX11_doubleBits 2 = .ok (.dcmp .g, 1) := by decide +kernel
theorem dX11_doubleBits_3 : decode cX11_doubleBits 3 = .ok (.ifCond .gt 5, 3) := by decide +kernel
theorem dX11_doubleBits_6 : decode cX11_doubleBits 6 = .ok (.lconst 0, 1) := by decide +kernel
theorem dX11_doubleBits_7 : decode cX11_doubleBits 7 = .ok (.lreturn, 1) := by decide +kernel
theorem dX11_doubleBits_8 : decode cX11_doubleBits 8 = .ok (.dload_n 0, 1) := by decide +kernel
theorem dX11_doubleBits_9 : decode cX11_doubleBits 9 = .ok (.dstore_n 2, 1) := by decide +kernel
theorem dX11_doubleBits_10 : decode cX11_doubleBits 10 = .ok (.ldc2_w 440, 3) := by decide +kernel
theorem dX11_doubleBits_13 : decode cX11_doubleBits 13 = .ok (.lstore 4, 2) := by decide +kernel
theorem dX11_doubleBits_15 : decode cX11_doubleBits 15 = .ok (.iconst 0, 1) := by decide +kernel
theorem dX11_doubleBits_16 : decode cX11_doubleBits 16 = .ok (.istore 6, 2) := by decide +kernel
theorem dX11_doubleBits_18 : decode cX11_doubleBits 18 = .ok (.iload 6, 2) := by decide +kernel
theorem dX11_doubleBits_20 : decode cX11_doubleBits 20 = .ok (.sipush 1100, 3) := by decide +kernel
theorem dX11_doubleBits_23 : decode cX11_doubleBits 23 = .ok (.if_icmp .ge 27, 3) := by decide +kernel
theorem dX11_doubleBits_26 : decode cX11_doubleBits 26 = .ok (.dload_n 2, 1) := by decide +kernel
theorem dX11_doubleBits_27 : decode cX11_doubleBits 27 = .ok (.dconst 1, 1) := by decide +kernel
theorem dX11_doubleBits_28 : decode cX11_doubleBits 28 = .ok (.dcmp .g, 1) := by decide +kernel
theorem dX11_doubleBits_29 : decode cX11_doubleBits 29 = .ok (.ifCond .ge 21, 3) := by decide +kernel
theorem dX11_doubleBits_32 : decode cX11_doubleBits 32 = .ok (.dload_n 2, 1) := by decide +kernel
theorem dX11_doubleBits_33 : decode cX11_doubleBits 33 = .ok (.ldc2_w 442, 3) := by decide +kernel
theorem dX11_doubleBits_36 : decode cX11_doubleBits 36 = .ok (.dmul, 1) := by decide +kernel
theorem dX11_doubleBits_37 : decode cX11_doubleBits 37 = .ok (.dstore_n 2, 1) := by decide +kernel
theorem dX11_doubleBits_38 : decode cX11_doubleBits 38 = .ok (.lload 4, 2) := by decide +kernel
theorem dX11_doubleBits_40 : decode cX11_doubleBits 40 = .ok (.lconst 1, 1) := by decide +kernel
theorem dX11_doubleBits_41 : decode cX11_doubleBits 41 = .ok (.lsub, 1) := by decide +kernel
theorem dX11_doubleBits_42 : decode cX11_doubleBits 42 = .ok (.lstore 4, 2) := by decide +kernel
theorem dX11_doubleBits_44 : decode cX11_doubleBits 44 = .ok (.iinc 6 1, 3) := by decide +kernel
theorem dX11_doubleBits_47 : decode cX11_doubleBits 47 = .ok (.goto (-29), 3) := by decide +kernel
theorem dX11_doubleBits_50 : decode cX11_doubleBits 50 = .ok (.lload 4, 2) := by decide +kernel
theorem dX11_doubleBits_52 : decode cX11_doubleBits 52 = .ok (.bipush 52, 2) := by decide +kernel
theorem dX11_doubleBits_54 : decode cX11_doubleBits 54 = .ok (.lshl, 1) := by decide +kernel
theorem dX11_doubleBits_55 : decode cX11_doubleBits 55 = .ok (.dload_n 2, 1) := by decide +kernel
theorem dX11_doubleBits_56 : decode cX11_doubleBits 56 = .ok (.dconst 1, 1) := by decide +kernel
theorem dX11_doubleBits_57 : decode cX11_doubleBits 57 = .ok (.dsub, 1) := by decide +kernel
theorem dX11_doubleBits_58 : decode cX11_doubleBits 58 = .ok (.ldc2_w 444, 3) := by decide +kernel
theorem dX11_doubleBits_61 : decode cX11_doubleBits 61 = .ok (.dmul, 1) := by decide +kernel
theorem dX11_doubleBits_62 : decode cX11_doubleBits 62 = .ok (.d2l, 1) := by decide +kernel
theorem dX11_doubleBits_63 : decode cX11_doubleBits 63 = .ok (.lor, 1) := by decide +kernel
theorem dX11_doubleBits_64 : decode cX11_doubleBits 64 = .ok (.lreturn, 1) := by decide +kernel
theorem dX12_in_0 : decode cX12_in 0 = .ok (.iload_n 0, 1) := by decide +kernel
theorem dX12_in_1 : decode cX12_in 1 = .ok (.iload_n 1, 1) := by decide +kernel
theorem dX12_in_2 : decode cX12_in 2 = .ok (.if_icmp .lt 12, 3) := by decide +kernel
theorem dX12_in_5 : decode cX12_in 5 = .ok (.iload_n 0, 1) := by decide +kernel
theorem dX12_in_6 : decode cX12_in 6 = .ok (.iload_n 2, 1) := by decide +kernel
theorem dX12_in_7 : decode cX12_in 7 = .ok (.if_icmp .gt 7, 3) := by decide +kernel
theorem dX12_in_10 : decode cX12_in 10 = .ok (.iconst 1, 1) := by decide +kernel
theorem dX12_in_11 : decode cX12_in 11 = .ok (.goto 4, 3) := by decide +kernel
theorem dX12_in_14 : decode cX12_in 14 = .ok (.iconst 0, 1) := by decide +kernel
theorem dX12_in_15 : decode cX12_in 15 = .ok (.ireturn, 1) := by decide +kernel
theorem dX12_has_0 : decode cX12_has 0 = .ok (.iload_n 0, 1) := by decide +kernel
theorem dX12_has_1 : decode cX12_has 1 = .ok (.iload_n 1, 1) := by decide +kernel
theorem dX12_has_2 : decode cX12_has 2 = .ok (.ishr, 1) := by decide +kernel
theorem dX12_has_3 : decode cX12_has 3 = .ok (.iconst 1, 1) := by decide +kernel
theorem dX12_has_4 : decode cX12_has 4 = .ok (.iand, 1) := by decide +kernel
theorem dX12_has_5 : decode cX12_has 5 = .ok (.iconst 1, 1) := by decide +kernel
theorem dX12_has_6 : decode cX12_has 6 = .ok (.if_icmp .ne 7, 3) := by decide +kernel
theorem dX12_has_9 : decode cX12_has 9 = .ok (.iconst 1, 1) := by decide +kernel
theorem dX12_has_10 : decode cX12_has 10 = .ok (.goto 4, 3) := by decide +kernel
theorem dX12_has_13 : decode cX12_has 13 = .ok (.iconst 0, 1) := by decide +kernel
theorem dX12_has_14 : decode cX12_has 14 = .ok (.ireturn, 1) := by decide +kernel
theorem dX12_bits_0 : decode cX12_bits 0 = .ok (.iconst 0, 1) := by decide +kernel
theorem dX12_bits_1 : decode cX12_bits 1 = .ok (.istore_n 1, 1) := by decide +kernel
theorem dX12_bits_2 : decode cX12_bits 2 = .ok (.iconst 0, 1) := by decide +kernel
theorem dX12_bits_3 : decode cX12_bits 3 = .ok (.istore_n 2, 1) := by decide +kernel
theorem dX12_bits_4 : decode cX12_bits 4 = .ok (.iload_n 2, 1) := by decide +kernel
theorem dX12_bits_5 : decode cX12_bits 5 = .ok (.bipush 24, 2) := by decide +kernel
theorem dX12_bits_7 : decode cX12_bits 7 = .ok (.if_icmp .ge 17, 3) := by decide +kernel
theorem dX12_bits_10 : decode cX12_bits 10 = .ok (.iload_n 1, 1) := by decide +kernel
theorem dX12_bits_11 : decode cX12_bits 11 = .ok (.iload_n 0, 1) := by decide +kernel
theorem dX12_bits_12 : decode cX12_bits 12 = .ok (.iload_n 2, 1) := by decide +kernel
theorem dX12_bits_13 : decode cX12_bits 13 = .ok (.ishr, 1) := by decide +kernel
theorem dX12_bits_14 : decode cX12_bits 14 = .ok (.iconst 1, 1) := by decide +kernel
theorem dX12_bits_15 : decode cX12_bits 15 = .ok (.iand, 1) := by decide +kernel
theorem dX12_bits_16 : decode cX12_bits 16 = .ok (.iadd, 1) := by decide +kernel
theorem dX12_bits_17 : decode cX12_bits 17 = .ok (.istore_n 1, 1) := by decide +kernel
theorem dX12_bits_18 : decode cX12_bits 18 = .ok (.iinc 2 1, 3) := by decide +kernel
theorem dX12_bits_21 : decode cX12_bits 21 = .ok (.goto (-17), 3) := by decide +kernel
theorem dX12_bits_24 : decode cX12_bits 24 = .ok (.iload_n 1, 1) := by decide +kernel
theorem dX12_bits_25 : decode cX12_bits 25 = .ok (.ireturn, 1) := by decide +kernel
theorem dX12_init_0 : decode cX12_init 0 = .ok (.aload_n 0, 1) := by decide +kernel
theorem dX12_init_1 : decode cX12_init 1 = .ok (.invokespecial 3, 3) := by decide +kernel
theorem dX12_init_4 : decode cX12_init 4 = .ok (.aload_n 0, 1) := by decide +kernel
theorem dX12_init_5 : decode cX12_init 5 = .ok (.sipush 240, 3) := by decide +kernel
theorem dX12_init_8 : decode cX12_init 8 = .ok (.newarray .int, 2) := by decide +kernel
theorem dX12_init_10 : decode cX12_init 10 = .ok (.putfield 9, 3) := by decide +kernel
theorem dX12_init_13 : decode cX12_init 13 = .ok (.aload_n 0, 1) := by decide +kernel
theorem dX12_init_14 : decode cX12_init 14 = .ok (.iconst 4, 1) := by decide +kernel
theorem dX12_init_15 : decode cX12_init 15 = .ok (.newarray .int, 2) := by decide +kernel
theorem dX12_init_17 : decode cX12_init 17 = .ok (.putfield 13, 3) := by decide +kernel
theorem dX12_init_20 : decode cX12_init 20 = .ok (.aload_n 0, 1) := by decide +kernel
theorem dX12_init_21 : decode cX12_init 21 = .ok (.bipush 50, 2) := by decide +kernel
theorem dX12_init_23 : decode cX12_init 23 = .ok (.newarray .int, 2) := by decide +kernel
theorem dX12_init_25 : decode cX12_init 25 = .ok (.putfield 16, 3) := by decide +kernel
theorem dX12_init_28 : decode cX12_init 28 = .ok (.aload_n 0, 1) := by decide +kernel
theorem dX12_init_29 : decode cX12_init 29 = .ok (.bipush 12, 2) := by decide +kernel
theorem dX12_init_31 : decode cX12_init 31 = .ok (.newarray .int, 2) := by decide +kernel
theorem dX12_init_33 : decode cX12_init 33 = .ok (.putfield 19, 3) := by decide +kernel
theorem dX12_init_36 : decode cX12_init 36 = .ok (.aload_n 0, 1) := by decide +kernel
theorem dX12_init_37 : decode cX12_init 37 = .ok (.iconst 4, 1) := by decide +kernel
theorem dX12_init_38 : decode cX12_init 38 = .ok (.newarray .int, 2) := by decide +kernel
theorem dX12_init_40 : decode cX12_init 40 = .ok (.putfield 22, 3) := by decide +kernel
theorem dX12_init_43 : decode cX12_init 43 = .ok (.aload_n 0, 1) := by decide +kernel
theorem dX12_init_44 : decode cX12_init 44 = .ok (.bipush 50, 2) := by decide +kernel
theorem dX12_init_46 : decode cX12_init 46 = .ok (.newarray .int, 2) := by decide +kernel
theorem dX12_init_48 : decode cX12_init 48 = .ok (.putfield 25, 3) := by decide +kernel
theorem dX12_init_51 : decode cX12_init 51 = .ok (.aload_n 0, 1) := by decide +kernel
theorem dX12_init_52 : decode cX12_init 52 = .ok (.bipush 7, 2) := by decide +kernel
theorem dX12_init_54 : decode cX12_init 54 = .ok (.newarray .int, 2) := by decide +kernel
theorem dX12_init_56 : decode cX12_init 56 = .ok (.putfield 28, 3) := by decide +kernel
theorem dX12_init_59 : decode cX12_init 59 = .ok (.aload_n 0, 1) := by decide +kernel
theorem dX12_init_60 : decode cX12_init 60 = .ok (.sipush 160, 3) := by decide +kernel
theorem dX12_init_63 : decode cX12_init 63 = .ok (.newarray .int, 2) := by decide +kernel
theorem dX12_init_65 : decode cX12_init 65 = .ok (.putfield 31, 3) := by decide +kernel
theorem dX12_init_68 : decode cX12_init 68 = .ok (.aload_n 0, 1) := by decide +kernel
theorem dX12_init_69 : decode cX12_init 69 = .ok (.iconst 5, 1) := by decide +kernel
theorem dX12_init_70 : decode cX12_init 70 = .ok (.newarray .int, 2) := by decide +kernel
theorem dX12_init_72 : decode cX12_init 72 = .ok (.putfield 34, 3) := by decide +kernel
theorem dX12_init_75 : decode cX12_init 75 = .ok (.aload_n 0, 1) := by decide +kernel
theorem dX12_init_76 : decode cX12_init 76 = .ok (.sipush 245, 3) := by decide +kernel
theorem dX12_init_79 : decode cX12_init 79 = .ok (.newarray .int, 2) := by decide +kernel
theorem dX12_init_81 : decode cX12_init 81 = .ok (.putfield 37, 3) := by decide +kernel
theorem dX12_init_84 : decode cX12_init 84 = .ok (.aload_n 0, 1) := by decide +kernel
theorem dX12_init_85 : decode cX12_init 85 = .ok (.iconst 4, 1) := by decide +kernel
theorem dX12_init_86 : decode cX12_init 86 = .ok (.newarray .int, 2) := by decide +kernel
theorem dX12_init_88 : decode cX12_init 88 = .ok (.putfield 40, 3) := by decide +kernel
theorem dX12_init_91 : decode cX12_init 91 = .ok (.aload_n 0, 1) := by decide +kernel
theorem dX12_init_92 : decode cX12_init 92 = .ok (.bipush 10, 2) := by decide +kernel
theorem dX12_init_94 : decode cX12_init 94 = .ok (.newarray .float, 2) := by decide +kernel
theorem dX12_init_96 : decode cX12_init 96 = .ok (.putfield 43, 3) := by decide +kernel
theorem dX12_init_99 : decode cX12_init 99 = .ok (.aload_n 0, 1) := by decide +kernel
theorem dX12_init_100 : decode cX12_init 100 = .ok (.bipush 10, 2) := by decide +kernel
theorem dX12_init_102 : decode cX12_init 102 = .ok (.newarray .int, 2) := by decide +kernel
theorem dX12_init_104 : decode cX12_init 104 = .ok (.putfield 47, 3) := by decide +kernel
theorem dX12_init_107 : decode cX12_init 107 = .ok (.aload_n 0, 1) := by decide +kernel
theorem dX12_init_108 : decode cX12_init 108 = .ok (.sipush 9800, 3) := by decide +kernel
theorem dX12_init_111 : decode cX12_init 111 = .ok (.newarray .int, 2) := by decide +kernel
theorem dX12_init_113 : decode cX12_init 113 = .ok (.putfield 50, 3) := by decide +kernel
theorem dX12_init_116 : decode cX12_init 116 = .ok (.aload_n 0, 1) := by decide +kernel
theorem dX12_init_117 : decode cX12_init 117 = .ok (.bipush 31, 2) := by decide +kernel
theorem dX12_init_119 : decode cX12_init 119 = .ok (.newarray .int, 2) := by decide +kernel
theorem dX12_init_121 : decode cX12_init 121 = .ok (.putfield 53, 3) := by decide +kernel
theorem dX12_init_124 : decode cX12_init 124 = .ok (.aload_n 0, 1) := by decide +kernel
theorem dX12_init_125 : decode cX12_init 125 = .ok (.bipush 48, 2) := by decide +kernel
theorem dX12_init_127 : decode cX12_init 127 = .ok (.newarray .int, 2) := by decide +kernel
theorem dX12_init_129 : decode cX12_init 129 = .ok (.putfield 56, 3) := by decide +kernel
theorem dX12_init_132 : decode cX12_init 132 = .ok (.aload_n 0, 1) := by decide +kernel
theorem dX12_init_133 : decode cX12_init 133 = .ok (.bipush 10, 2) := by decide +kernel
theorem dX12_init_135 : decode cX12_init 135 = .ok (.newarray .int, 2) := by decide +kernel
theorem dX12_init_137 : decode cX12_init 137 = .ok (.putfield 59, 3) := by decide +kernel
theorem dX12_init_140 : decode cX12_init 140 = .ok (.aload_n 0, 1) := by decide +kernel
theorem dX12_init_141 : decode cX12_init 141 = .ok (.sipush 245, 3) := by decide +kernel
theorem dX12_init_144 : decode cX12_init 144 = .ok (.newarray .int, 2) := by decide +kernel
theorem dX12_init_146 : decode cX12_init 146 = .ok (.putfield 62, 3) := by decide +kernel
theorem dX12_init_149 : decode cX12_init 149 = .ok (.return_, 1) := by decide +kernel
theorem dX12_thrown_0 : decode cX12_thrown 0 = .ok (.aload_n 0, 1) := by decide +kernel
theorem dX12_thrown_1 : decode cX12_thrown 1 = .ok (.getfield 65, 3) := by decide +kernel
theorem dX12_thrown_4 : decode cX12_thrown 4 = .ok (.ireturn, 1) := by decide +kernel
theorem dX12_byteOf_0 : decode cX12_byteOf 0 = .ok (.iload 5, 2) := by decide +kernel
theorem dX12_byteOf_2 : decode cX12_byteOf 2 = .ok (.iconst 4, 1) := by decide +kernel
theorem dX12_byteOf_3 : decode cX12_byteOf 3 = .ok (.if_icmp .ge 7, 3) := by decide +kernel
theorem dX12_byteOf_6 : decode cX12_byteOf 6 = .ok (.iload_n 0, 1) := by decide +kernel
theorem dX12_byteOf_7 : decode cX12_byteOf 7 = .ok (.goto 38, 3) := by decide +kernel
theorem dX12_byteOf_10 : decode cX12_byteOf 10 = .ok (.iload 5, 2) := by decide +kernel
theorem dX12_byteOf_12 : decode cX12_byteOf 12 = .ok (.bipush 8, 2) := by decide +kernel
theorem dX12_byteOf_14 : decode cX12_byteOf 14 = .ok (.if_icmp .ge 7, 3) := by decide +kernel
theorem dX12_byteOf_17 : decode cX12_byteOf 17 = .ok (.iload_n 1, 1) := by decide +kernel
theorem dX12_byteOf_18 : decode cX12_byteOf 18 = .ok (.goto 27, 3) := by decide +kernel
theorem dX12_byteOf_21 : decode cX12_byteOf 21 = .ok (.iload 5, 2) := by decide +kernel
theorem dX12_byteOf_23 : decode cX12_byteOf 23 = .ok (.bipush 12, 2) := by decide +kernel
theorem dX12_byteOf_25 : decode cX12_byteOf 25 = .ok (.if_icmp .ge 7, 3) := by decide +kernel
theorem dX12_byteOf_28 : decode cX12_byteOf 28 = .ok (.iload_n 2, 1) := by decide +kernel
theorem dX12_byteOf_29 : decode cX12_byteOf 29 = .ok (.goto 16, 3) := by decide +kernel
theorem dX12_byteOf_32 : decode cX12_byteOf 32 = .ok (.iload 5, 2) := by decide +kernel
theorem dX12_byteOf_34 : decode cX12_byteOf 34 = .ok (.bipush 16, 2) := by decide +kernel
theorem dX12_byteOf_36 : decode cX12_byteOf 36 = .ok (.if_icmp .ge 7, 3) := by decide +kernel
theorem dX12_byteOf_39 : decode cX12_byteOf 39 = .ok (.iload_n 3, 1) := by decide +kernel
theorem dX12_byteOf_40 : decode cX12_byteOf 40 = .ok (.goto 5, 3) := by decide +kernel
theorem dX12_byteOf_43 : decode cX12_byteOf 43 = .ok (.iload 4, 2) := by decide +kernel
theorem dX12_byteOf_45 : decode cX12_byteOf 45 = .ok (.istore 6, 2) := by decide +kernel
theorem dX12_byteOf_47 : decode cX12_byteOf 47 = .ok (.iload 6, 2) := by decide +kernel
theorem dX12_byteOf_49 : decode cX12_byteOf 49 = .ok (.bipush 24, 2) := by decide +kernel
theorem dX12_byteOf_51 : decode cX12_byteOf 51 = .ok (.bipush 8, 2) := by decide +kernel
theorem dX12_byteOf_53 : decode cX12_byteOf 53 = .ok (.iload 5, 2) := by decide +kernel
theorem dX12_byteOf_55 : decode cX12_byteOf 55 = .ok (.iconst 4, 1) := by decide +kernel
theorem dX12_byteOf_56 : decode cX12_byteOf 56 = .ok (.irem, 1) := by decide +kernel
theorem dX12_byteOf_57 : decode cX12_byteOf 57 = .ok (.imul, 1) := by decide +kernel
theorem dX12_byteOf_58 : decode cX12_byteOf 58 = .ok (.isub, 1) := by decide +kernel
theorem dX12_byteOf_59 : decode cX12_byteOf 59 = .ok (.ishr, 1) := by decide +kernel
theorem dX12_byteOf_60 : decode cX12_byteOf 60 = .ok (.sipush 255, 3) := by decide +kernel
theorem dX12_byteOf_63 : decode cX12_byteOf 63 = .ok (.iand, 1) := by decide +kernel
theorem dX12_byteOf_64 : decode cX12_byteOf 64 = .ok (.ireturn, 1) := by decide +kernel
theorem dX12_feed_0 : decode cX12_feed 0 = .ok (.iconst 0, 1) := by decide +kernel
theorem dX12_feed_1 : decode cX12_feed 1 = .ok (.istore 6, 2) := by decide +kernel
theorem dX12_feed_3 : decode cX12_feed 3 = .ok (.iconst 0, 1) := by decide +kernel
theorem dX12_feed_4 : decode cX12_feed 4 = .ok (.istore 7, 2) := by decide +kernel
theorem dX12_feed_6 : decode cX12_feed 6 = .ok (.iload 7, 2) := by decide +kernel
theorem dX12_feed_8 : decode cX12_feed 8 = .ok (.bipush 20, 2) := by decide +kernel
theorem dX12_feed_10 : decode cX12_feed 10 = .ok (.if_icmp .ge 34, 3) := by decide +kernel
theorem dX12_feed_13 : decode cX12_feed 13 = .ok (.iload 6, 2) := by decide +kernel
theorem dX12_feed_15 : decode cX12_feed 15 = .ok (.iload_n 1, 1) := by decide +kernel
theorem dX12_feed_16 : decode cX12_feed 16 = .ok (.iload_n 2, 1) := by decide +kernel
theorem dX12_feed_17 : decode cX12_feed 17 = .ok (.iload_n 3, 1) := by decide +kernel
theorem dX12_feed_18 : decode cX12_feed 18 = .ok (.iload 4, 2) := by decide +kernel
theorem dX12_feed_20 : decode cX12_feed 20 = .ok (.iload 5, 2) := by decide +kernel
theorem dX12_feed_22 : decode cX12_feed 22 = .ok (.iload 7, 2) := by decide +kernel
theorem dX12_feed_24 : decode cX12_feed 24 = .ok (.invokestatic 69, 3) := by decide +kernel
theorem dX12_feed_27 : decode cX12_feed 27 = .ok (.ifCond .eq 7, 3) := by decide +kernel
theorem dX12_feed_30 : decode cX12_feed 30 = .ok (.iconst 1, 1) := by decide +kernel
theorem dX12_feed_31 : decode cX12_feed 31 = .ok (.goto 4, 3) := by decide +kernel
theorem dX12_feed_34 : decode cX12_feed 34 = .ok (.iconst 0, 1) := by decide +kernel
theorem dX12_feed_35 : decode cX12_feed 35 = .ok (.iadd, 1) := by decide +kernel
theorem dX12_feed_36 : decode cX12_feed 36 = .ok (.istore 6, 2) := by decide +kernel
theorem dX12_feed_38 : decode cX12_feed 38 = .ok (.iinc 7 1, 3) := by decide +kernel
theorem dX12_feed_41 : decode cX12_feed 41 = .ok (.goto (-35), 3) := by decide +kernel
theorem dX12_feed_44 : decode cX12_feed 44 = .ok (.aload_n 0, 1) := by decide +kernel
theorem dX12_feed_45 : decode cX12_feed 45 = .ok (.getfield 73, 3) := by decide +kernel
theorem dX12_feed_48 : decode cX12_feed 48 = .ok (.iload 6, 2) := by decide +kernel
theorem dX12_feed_50 : decode cX12_feed 50 = .ok (.iadd, 1) := by decide +kernel
theorem dX12_feed_51 : decode cX12_feed 51 = .ok (.sipush 240, 3) := by decide +kernel
theorem dX12_feed_54 : decode cX12_feed 54 = .ok (.if_icmp .le 5, 3) := by decide +kernel
theorem dX12_feed_57 : decode cX12_feed 57 = .ok (.iconst (-1), 1) := by decide +kernel
theorem dX12_feed_58 : decode cX12_feed 58 = .ok (.ireturn, 1) := by decide +kernel
theorem dX12_feed_59 : decode cX12_feed 59 = .ok (.iconst 0, 1) := by decide +kernel
theorem dX12_feed_60 : decode cX12_feed 60 = .ok (.istore 7, 2) := by decide +kernel
theorem dX12_feed_62 : decode cX12_feed 62 = .ok (.iload 7, 2) := by decide +kernel
theorem dX12_feed_64 : decode cX12_feed 64 = .ok (.bipush 20, 2) := by decide +kernel
theorem dX12_feed_66 : decode cX12_feed 66 = .ok (.if_icmp .ge 49, 3) := by decide +kernel
theorem dX12_feed_69 : decode cX12_feed 69 = .ok (.iload_n 1, 1) := by decide +kernel
theorem dX12_feed_70 : decode cX12_feed 70 = .ok (.iload_n 2, 1) := by decide +kernel
theorem dX12_feed_71 : decode cX12_feed 71 = .ok (.iload_n 3, 1) := by decide +kernel
theorem dX12_feed_72 : decode cX12_feed 72 = .ok (.iload 4, 2) := by decide +kernel
theorem dX12_feed_74 : decode cX12_feed 74 = .ok (.iload 5, 2) := by decide +kernel
theorem dX12_feed_76 : decode cX12_feed 76 = .ok (.iload 7, 2) := by decide +kernel
theorem dX12_feed_78 : decode cX12_feed 78 = .ok (.invokestatic 69, 3) := by decide +kernel
theorem dX12_feed_81 : decode cX12_feed 81 = .ok (.istore 8, 2) := by decide +kernel
theorem dX12_feed_83 : decode cX12_feed 83 = .ok (.iload 8, 2) := by decide +kernel
theorem dX12_feed_85 : decode cX12_feed 85 = .ok (.ifCond .eq 24, 3) := by decide +kernel
theorem dX12_feed_88 : decode cX12_feed 88 = .ok (.aload_n 0, 1) := by decide +kernel
theorem dX12_feed_89 : decode cX12_feed 89 = .ok (.getfield 9, 3) := by decide +kernel
theorem dX12_feed_92 : decode cX12_feed 92 = .ok (.aload_n 0, 1) := by decide +kernel
theorem dX12_feed_93 : decode cX12_feed 93 = .ok (.getfield 73, 3) := by decide +kernel
theorem dX12_feed_96 : decode cX12_feed 96 = .ok (.iload 8, 2) := by decide +kernel
theorem dX12_feed_98 : decode cX12_feed 98 = .ok (.iastore, 1) := by decide +kernel
theorem dX12_feed_99 : decode cX12_feed 99 = .ok (.aload_n 0, 1) := by decide +kernel
theorem dX12_feed_100 : decode cX12_feed 100 = .ok (.dup, 1) := by decide +kernel
theorem dX12_feed_101 : decode cX12_feed 101 = .ok (.getfield 73, 3) := by decide +kernel
theorem dX12_feed_104 : decode cX12_feed 104 = .ok (.iconst 1, 1) := by decide +kernel
theorem dX12_feed_105 : decode cX12_feed 105 = .ok (.iadd, 1) := by decide +kernel
theorem dX12_feed_106 : decode cX12_feed 106 = .ok (.putfield 73, 3) := by decide +kernel
theorem dX12_feed_109 : decode cX12_feed 109 = .ok (.iinc 7 1, 3) := by decide +kernel
theorem dX12_feed_112 : decode cX12_feed 112 = .ok (.goto (-50), 3) := by decide +kernel
theorem dX12_feed_115 : decode cX12_feed 115 = .ok (.aload_n 0, 1) := by decide +kernel
theorem dX12_feed_116 : decode cX12_feed 116 = .ok (.getfield 73, 3) := by decide +kernel
theorem dX12_feed_119 : decode cX12_feed 119 = .ok (.ireturn, 1) := by decide +kernel
theorem dX12_end_0 : decode cX12_end 0 = .ok (.iload_n 1, 1) := by decide +kernel
theorem dX12_end_1 : decode cX12_end 1 = .ok (.iconst 0, 1) := by decide +kernel
theorem dX12_end_2 : decode cX12_end 2 = .ok (.aload_n 0, 1) := by decide +kernel
theorem dX12_end_3 : decode cX12_end 3 = .ok (.getfield 73, 3) := by decide +kernel
theorem dX12_end_6 : decode cX12_end 6 = .ok (.invokestatic 76, 3) := by decide +kernel
theorem dX12_end_9 : decode cX12_end 9 = .ok (.ifCond .ne 5, 3) := by decide +kernel
theorem dX12_end_12 : decode cX12_end 12 = .ok (.iconst 0, 1) := by decide +kernel
theorem dX12_end_13 : decode cX12_end 13 = .ok (.ireturn, 1) := by decide +kernel
theorem dX12_end_14 : decode cX12_end 14 = .ok (.aload_n 0, 1) := by decide +kernel
theorem dX12_end_15 : decode cX12_end 15 = .ok (.iload_n 1, 1) := by decide +kernel
theorem dX12_end_16 : decode cX12_end 16 = .ok (.putfield 73, 3) := by decide +kernel
theorem dX12_end_19 : decode cX12_end 19 = .ok (.iconst 1, 1) := by decide +kernel
theorem dX12_end_20 : decode cX12_end 20 = .ok (.ireturn, 1) := by decide +kernel
theorem dX12_here_0 : decode cX12_here 0 = .ok (.aload_n 0, 1) := by decide +kernel
theorem dX12_here_1 : decode cX12_here 1 = .ok (.getfield 80, 3) := by decide +kernel
theorem dX12_here_4 : decode cX12_here 4 = .ok (.aload_n 0, 1) := by decide +kernel
theorem dX12_here_5 : decode cX12_here 5 = .ok (.getfield 73, 3) := by decide +kernel
theorem dX12_here_8 : decode cX12_here 8 = .ok (.if_icmp .ge 15, 3) := by decide +kernel
theorem dX12_here_11 : decode cX12_here 11 = .ok (.aload_n 0, 1) := by decide +kernel
theorem dX12_here_12 : decode cX12_here 12 = .ok (.getfield 9, 3) := by decide +kernel
theorem dX12_here_15 : decode cX12_here 15 = .ok (.aload_n 0, 1) := by decide +kernel
theorem dX12_here_16 : decode cX12_here 16 = .ok (.getfield 80, 3) := by decide +kernel
theorem dX12_here_19 : decode cX12_here 19 = .ok (.iaload, 1) := by decide +kernel
theorem dX12_here_20 : decode cX12_here 20 = .ok (.goto 4, 3) := by decide +kernel
theorem dX12_here_23 : decode cX12_here 23 = .ok (.iconst (-1), 1) := by decide +kernel
theorem dX12_here_24 : decode cX12_here 24 = .ok (.ireturn, 1) := by decide +kernel
theorem dX12_ahead_0 : decode cX12_ahead 0 = .ok (.aload_n 0, 1) := by decide +kernel
theorem dX12_ahead_1 : decode cX12_ahead 1 = .ok (.invokevirtual 83, 3) := by decide +kernel
theorem dX12_ahead_4 : decode cX12_ahead 4 = .ok (.bipush 32, 2) := by decide +kernel
theorem dX12_ahead_6 : decode cX12_ahead 6 = .ok (.if_icmp .ne 16, 3) := by decide +kernel
theorem dX12_ahead_9 : decode cX12_ahead 9 = .ok (.aload_n 0, 1) := by decide +kernel
theorem dX12_ahead_10 : decode cX12_ahead 10 = .ok (.dup, 1) := by decide +kernel
theorem dX12_ahead_11 : decode cX12_ahead 11 = .ok (.getfield 80, 3) := by decide +kernel
theorem dX12_ahead_14 : decode cX12_ahead 14 = .ok (.iconst 1, 1) := by decide +kernel
theorem dX12_ahead_15 : decode cX12_ahead 15 = .ok (.iadd, 1) := by decide +kernel
theorem dX12_ahead_16 : decode cX12_ahead 16 = .ok (.putfield 80, 3) := by decide +kernel
theorem dX12_ahead_19 : decode cX12_ahead 19 = .ok (.goto (-19), 3) := by decide +kernel
theorem dX12_ahead_22 : decode cX12_ahead 22 = .ok (.aload_n 0, 1) := by decide +kernel
theorem dX12_ahead_23 : decode cX12_ahead 23 = .ok (.invokevirtual 83, 3) := by decide +kernel
theorem dX12_ahead_26 : decode cX12_ahead 26 = .ok (.ireturn, 1) := by decide +kernel
theorem dX12_bad_0 : decode cX12_bad 0 = .ok (.aload_n 0, 1) := by decide +kernel
theorem dX12_bad_1 : decode cX12_bad 1 = .ok (.aload_n 0, 1) := by decide +kernel
theorem dX12_bad_2 : decode cX12_bad 2 = .ok (.getfield 87, 3) := by decide +kernel
theorem dX12_bad_5 : decode cX12_bad 5 = .ok (.iconst (-1), 1) := by decide +kernel
theorem dX12_bad_6 : decode cX12_bad 6 = .ok (.if_icmp .ne 10, 3) := by decide +kernel
theorem dX12_bad_9 : decode cX12_bad 9 = .ok (.aload_n 0, 1) := by decide +kernel
theorem dX12_bad_10 : decode cX12_bad 10 = .ok (.getfield 80, 3) := by decide +kernel
theorem dX12_bad_13 : decode cX12_bad 13 = .ok (.goto 7, 3) := by decide +kernel
theorem dX12_bad_16 : decode cX12_bad 16 = .ok (.aload_n 0, 1) := by decide +kernel
theorem dX12_bad_17 : decode cX12_bad 17 = .ok (.getfield 87, 3) := by decide +kernel
theorem dX12_bad_20 : decode cX12_bad 20 = .ok (.putfield 87, 3) := by decide +kernel
theorem dX12_bad_23 : decode cX12_bad 23 = .ok (.return_, 1) := by decide +kernel
theorem dX12_isDigit_0 : decode cX12_isDigit 0 = .ok (.iload_n 0, 1) := by decide +kernel
theorem dX12_isDigit_1 : decode cX12_isDigit 1 = .ok (.bipush 48, 2) := by decide +kernel
theorem dX12_isDigit_3 : decode cX12_isDigit 3 = .ok (.if_icmp .lt 13, 3) := by decide +kernel
theorem dX12_isDigit_6 : decode cX12_isDigit 6 = .ok (.iload_n 0, 1) := by decide +kernel
theorem dX12_isDigit_7 : decode cX12_isDigit 7 = .ok (.bipush 57, 2) := by decide +kernel
theorem dX12_isDigit_9 : decode cX12_isDigit 9 = .ok (.if_icmp .gt 7, 3) := by decide +kernel
theorem dX12_isDigit_12 : decode cX12_isDigit 12 = .ok (.iconst 1, 1) := by decide +kernel
theorem dX12_isDigit_13 : decode cX12_isDigit 13 = .ok (.goto 4, 3) := by decide +kernel
theorem dX12_isDigit_16 : decode cX12_isDigit 16 = .ok (.iconst 0, 1) := by decide +kernel
theorem dX12_isDigit_17 : decode cX12_isDigit 17 = .ok (.ireturn, 1) := by decide +kernel
theorem dX12_number_0 : decode cX12_number 0 = .ok (.aload_n 0, 1) := by decide +kernel
theorem dX12_number_1 : decode cX12_number 1 = .ok (.invokevirtual 90, 3) := by decide +kernel
theorem dX12_number_4 : decode cX12_number 4 = .ok (.invokestatic 93, 3) := by decide +kernel
theorem dX12_number_7 : decode cX12_number 7 = .ok (.ifCond .ne 9, 3) := by decide +kernel
theorem dX12_number_10 : decode cX12_number 10 = .ok (.aload_n 0, 1) := by decide +kernel
theorem dX12_number_11 : decode cX12_number 11 = .ok (.invokevirtual 97, 3) := by decide +kernel
theorem dX12_number_14 : decode cX12_number 14 = .ok (.iload_n 1, 1) := by decide +kernel
theorem dX12_number_15 : decode cX12_number 15 = .ok (.ireturn, 1) := by decide +kernel
theorem dX12_number_16 : decode cX12_number 16 = .ok (.iconst 0, 1) := by decide +kernel
theorem dX12_number_17 : decode cX12_number 17 = .ok (.istore_n 3, 1) := by decide +kernel
theorem dX12_number_18 : decode cX12_number 18 = .ok (.iconst 0, 1) := by decide +kernel
theorem dX12_number_19 : decode cX12_number 19 = .ok (.istore 4, 2) := by decide +kernel
theorem dX12_number_21 : decode cX12_number 21 = .ok (.iload 4, 2) := by decide +kernel
theorem dX12_number_23 : decode cX12_number 23 = .ok (.iconst 4, 1) := by decide +kernel
theorem dX12_number_24 : decode cX12_number 24 = .ok (.if_icmp .ge 42, 3) := by decide +kernel
theorem dX12_number_27 : decode cX12_number 27 = .ok (.aload_n 0, 1) := by decide +kernel
theorem dX12_number_28 : decode cX12_number 28 = .ok (.invokevirtual 83, 3) := by decide +kernel
theorem dX12_number_31 : decode cX12_number 31 = .ok (.invokestatic 93, 3) := by decide +kernel
theorem dX12_number_34 : decode cX12_number 34 = .ok (.ifCond .eq 32, 3) := by decide +kernel
theorem dX12_number_37 : decode cX12_number 37 = .ok (.bipush 10, 2) := by decide +kernel
theorem dX12_number_39 : decode cX12_number 39 = .ok (.iload_n 3, 1) := by decide +kernel
theorem dX12_number_40 : decode cX12_number 40 = .ok (.imul, 1) := by decide +kernel
theorem dX12_number_41 : decode cX12_number 41 = .ok (.aload_n 0, 1) := by decide +kernel
theorem dX12_number_42 : decode cX12_number 42 = .ok (.invokevirtual 83, 3) := by decide +kernel
theorem dX12_number_45 : decode cX12_number 45 = .ok (.iadd, 1) := by decide +kernel
theorem dX12_number_46 : decode cX12_number 46 = .ok (.bipush 48, 2) := by decide +kernel
theorem dX12_number_48 : decode cX12_number 48 = .ok (.isub, 1) := by decide +kernel
theorem dX12_number_49 : decode cX12_number 49 = .ok (.istore_n 3, 1) := by decide +kernel
theorem dX12_number_50 : decode cX12_number 50 = .ok (.aload_n 0, 1) := by decide +kernel
theorem dX12_number_51 : decode cX12_number 51 = .ok (.dup, 1) := by decide +kernel
theorem dX12_number_52 : decode cX12_number 52 = .ok (.getfield 80, 3) := by decide +kernel
theorem dX12_number_55 : decode cX12_number 55 = .ok (.iconst 1, 1) := by decide +kernel
theorem dX12_number_56 : decode cX12_number 56 = .ok (.iadd, 1) := by decide +kernel
theorem dX12_number_57 : decode cX12_number 57 = .ok (.putfield 80, 3) := by decide +kernel
theorem dX12_number_60 : decode cX12_number 60 = .ok (.iinc 4 1, 3) := by decide +kernel
theorem dX12_number_63 : decode cX12_number 63 = .ok (.goto (-42), 3) := by decide +kernel
theorem dX12_number_66 : decode cX12_number 66 = .ok (.aload_n 0, 1) := by decide +kernel
theorem dX12_number_67 : decode cX12_number 67 = .ok (.invokevirtual 83, 3) := by decide +kernel
theorem dX12_number_70 : decode cX12_number 70 = .ok (.invokestatic 93, 3) := by decide +kernel
theorem dX12_number_73 : decode cX12_number 73 = .ok (.ifCond .eq 10, 3) := by decide +kernel
theorem dX12_number_76 : decode cX12_number 76 = .ok (.aload_n 0, 1) := by decide +kernel
theorem dX12_number_77 : decode cX12_number 77 = .ok (.invokevirtual 97, 3) := by decide +kernel
theorem dX12_number_80 : decode cX12_number 80 = .ok (.goto 26, 3) := by decide +kernel
theorem dX12_number_83 : decode cX12_number 83 = .ok (.iload_n 3, 1) := by decide +kernel
theorem dX12_number_84 : decode cX12_number 84 = .ok (.iload_n 1, 1) := by decide +kernel
theorem dX12_number_85 : decode cX12_number 85 = .ok (.iload_n 2, 1) := by decide +kernel
theorem dX12_number_86 : decode cX12_number 86 = .ok (.invokestatic 76, 3) := by decide +kernel
theorem dX12_number_89 : decode cX12_number 89 = .ok (.ifCond .ne 17, 3) := by decide +kernel
theorem dX12_number_92 : decode cX12_number 92 = .ok (.aload_n 0, 1) := by decide +kernel
theorem dX12_number_93 : decode cX12_number 93 = .ok (.dup, 1) := by decide +kernel
theorem dX12_number_94 : decode cX12_number 94 = .ok (.getfield 80, 3) := by decide +kernel
theorem dX12_number_97 : decode cX12_number 97 = .ok (.iconst 1, 1) := by decide +kernel
theorem dX12_number_98 : decode cX12_number 98 = .ok (.isub, 1) := by decide +kernel
theorem dX12_number_99 : decode cX12_number 99 = .ok (.putfield 80, 3) := by decide +kernel
theorem dX12_number_102 : decode cX12_number 102 = .ok (.aload_n 0, 1) := by decide +kernel
theorem dX12_number_103 : decode cX12_number 103 = .ok (.invokevirtual 97, 3) := by decide +kernel
theorem dX12_number_106 : decode cX12_number 106 = .ok (.iload_n 3, 1) := by decide +kernel
theorem dX12_number_107 : decode cX12_number 107 = .ok (.ireturn, 1) := by decide +kernel
theorem dX12_itemOf_0 : decode cX12_itemOf 0 = .ok (.iload_n 0, 1) := by decide +kernel
theorem dX12_itemOf_1 : decode cX12_itemOf 1 = .ok (.bipush 115, 2) := by decide +kernel
theorem dX12_itemOf_3 : decode cX12_itemOf 3 = .ok (.if_icmp .ne 45, 3) := by decide +kernel
theorem dX12_itemOf_6 : decode cX12_itemOf 6 = .ok (.iload_n 1, 1) := by decide +kernel
theorem dX12_itemOf_7 : decode cX12_itemOf 7 = .ok (.bipush 110, 2) := by decide +kernel
theorem dX12_itemOf_9 : decode cX12_itemOf 9 = .ok (.if_icmp .ne 7, 3) := by decide +kernel
theorem dX12_itemOf_12 : decode cX12_itemOf 12 = .ok (.iconst 0, 1) := by decide +kernel
theorem dX12_itemOf_13 : decode cX12_itemOf 13 = .ok (.goto 34, 3) := by decide +kernel
theorem dX12_itemOf_16 : decode cX12_itemOf 16 = .ok (.iload_n 1, 1) := by decide +kernel
theorem dX12_itemOf_17 : decode cX12_itemOf 17 = .ok (.bipush 102, 2) := by decide +kernel
theorem dX12_itemOf_19 : decode cX12_itemOf 19 = .ok (.if_icmp .ne 7, 3) := by decide +kernel
theorem dX12_itemOf_22 : decode cX12_itemOf 22 = .ok (.iconst 1, 1) := by decide +kernel
theorem dX12_itemOf_23 : decode cX12_itemOf 23 = .ok (.goto 24, 3) := by decide +kernel
theorem dX12_itemOf_26 : decode cX12_itemOf 26 = .ok (.iload_n 1, 1) := by decide +kernel
theorem dX12_itemOf_27 : decode cX12_itemOf 27 = .ok (.bipush 99, 2) := by decide +kernel
theorem dX12_itemOf_29 : decode cX12_itemOf 29 = .ok (.if_icmp .ne 7, 3) := by decide +kernel
theorem dX12_itemOf_32 : decode cX12_itemOf 32 = .ok (.iconst 2, 1) := by decide +kernel
theorem dX12_itemOf_33 : decode cX12_itemOf 33 = .ok (.goto 14, 3) := by decide +kernel
theorem dX12_itemOf_36 : decode cX12_itemOf 36 = .ok (.iload_n 1, 1) := by decide +kernel
theorem dX12_itemOf_37 : decode cX12_itemOf 37 = .ok (.bipush 122, 2) := by decide +kernel
theorem dX12_itemOf_39 : decode cX12_itemOf 39 = .ok (.if_icmp .ne 7, 3) := by decide +kernel
theorem dX12_itemOf_42 : decode cX12_itemOf 42 = .ok (.iconst 3, 1) := by decide +kernel
theorem dX12_itemOf_43 : decode cX12_itemOf 43 = .ok (.goto 4, 3) := by decide +kernel
theorem dX12_itemOf_46 : decode cX12_itemOf 46 = .ok (.iconst (-1), 1) := by decide +kernel
theorem dX12_itemOf_47 : decode cX12_itemOf 47 = .ok (.ireturn, 1) := by decide +kernel
theorem dX12_itemOf_48 : decode cX12_itemOf 48 = .ok (.iload_n 0, 1) := by decide +kernel
theorem dX12_itemOf_49 : decode cX12_itemOf 49 = .ok (.bipush 117, 2) := by decide +kernel
theorem dX12_itemOf_51 : decode cX12_itemOf 51 = .ok (.if_icmp .ne 55, 3) := by decide +kernel
theorem dX12_itemOf_54 : decode cX12_itemOf 54 = .ok (.iload_n 1, 1) := by decide +kernel
theorem dX12_itemOf_55 : decode cX12_itemOf 55 = .ok (.bipush 112, 2) := by decide +kernel
theorem dX12_itemOf_57 : decode cX12_itemOf 57 = .ok (.if_icmp .ne 7, 3) := by decide +kernel
theorem dX12_itemOf_60 : decode cX12_itemOf 60 = .ok (.iconst 0, 1) := by decide +kernel
theorem dX12_itemOf_61 : decode cX12_itemOf 61 = .ok (.goto 44, 3) := by decide +kernel
theorem dX12_itemOf_64 : decode cX12_itemOf 64 = .ok (.iload_n 1, 1) := by decide +kernel
theorem dX12_itemOf_65 : decode cX12_itemOf 65 = .ok (.bipush 103, 2) := by decide +kernel
theorem dX12_itemOf_67 : decode cX12_itemOf 67 = .ok (.if_icmp .ne 7, 3) := by decide +kernel
theorem dX12_itemOf_70 : decode cX12_itemOf 70 = .ok (.iconst 1, 1) := by decide +kernel
theorem dX12_itemOf_71 : decode cX12_itemOf 71 = .ok (.goto 34, 3) := by decide +kernel
theorem dX12_itemOf_74 : decode cX12_itemOf 74 = .ok (.iload_n 1, 1) := by decide +kernel
theorem dX12_itemOf_75 : decode cX12_itemOf 75 = .ok (.bipush 116, 2) := by decide +kernel
theorem dX12_itemOf_77 : decode cX12_itemOf 77 = .ok (.if_icmp .ne 7, 3) := by decide +kernel
theorem dX12_itemOf_80 : decode cX12_itemOf 80 = .ok (.iconst 2, 1) := by decide +kernel
theorem dX12_itemOf_81 : decode cX12_itemOf 81 = .ok (.goto 24, 3) := by decide +kernel
theorem dX12_itemOf_84 : decode cX12_itemOf 84 = .ok (.iload_n 1, 1) := by decide +kernel
theorem dX12_itemOf_85 : decode cX12_itemOf 85 = .ok (.bipush 97, 2) := by decide +kernel
theorem dX12_itemOf_87 : decode cX12_itemOf 87 = .ok (.if_icmp .ne 7, 3) := by decide +kernel
theorem dX12_itemOf_90 : decode cX12_itemOf 90 = .ok (.iconst 3, 1) := by decide +kernel
theorem dX12_itemOf_91 : decode cX12_itemOf 91 = .ok (.goto 14, 3) := by decide +kernel
theorem dX12_itemOf_94 : decode cX12_itemOf 94 = .ok (.iload_n 1, 1) := by decide +kernel
theorem dX12_itemOf_95 : decode cX12_itemOf 95 = .ok (.bipush 98, 2) := by decide +kernel
theorem dX12_itemOf_97 : decode cX12_itemOf 97 = .ok (.if_icmp .ne 7, 3) := by decide +kernel
theorem dX12_itemOf_100 : decode cX12_itemOf 100 = .ok (.iconst 4, 1) := by decide +kernel
theorem dX12_itemOf_101 : decode cX12_itemOf 101 = .ok (.goto 4, 3) := by decide +kernel
theorem dX12_itemOf_104 : decode cX12_itemOf 104 = .ok (.iconst (-1), 1) := by decide +kernel
theorem dX12_itemOf_105 : decode cX12_itemOf 105 = .ok (.ireturn, 1) := by decide +kernel
theorem dX12_itemOf_106 : decode cX12_itemOf 106 = .ok (.iload_n 1, 1) := by decide +kernel
theorem dX12_itemOf_107 : decode cX12_itemOf 107 = .ok (.bipush 107, 2) := by decide +kernel
theorem dX12_itemOf_109 : decode cX12_itemOf 109 = .ok (.if_icmp .ne 7, 3) := by decide +kernel
theorem dX12_itemOf_112 : decode cX12_itemOf 112 = .ok (.iconst 0, 1) := by decide +kernel
theorem dX12_itemOf_113 : decode cX12_itemOf 113 = .ok (.goto 14, 3) := by decide +kernel
theorem dX12_itemOf_116 : decode cX12_itemOf 116 = .ok (.iload_n 1, 1) := by decide +kernel
theorem dX12_itemOf_117 : decode cX12_itemOf 117 = .ok (.bipush 113, 2) := by decide +kernel
theorem dX12_itemOf_119 : decode cX12_itemOf 119 = .ok (.if_icmp .ne 7, 3) := by decide +kernel
theorem dX12_itemOf_122 : decode cX12_itemOf 122 = .ok (.iconst 1, 1) := by decide +kernel
theorem dX12_itemOf_123 : decode cX12_itemOf 123 = .ok (.goto 4, 3) := by decide +kernel
theorem dX12_itemOf_126 : decode cX12_itemOf 126 = .ok (.iconst (-1), 1) := by decide +kernel
theorem dX12_itemOf_127 : decode cX12_itemOf 127 = .ok (.ireturn, 1) := by decide +kernel
theorem dX12_lowest_0 : decode cX12_lowest 0 = .ok (.iload_n 0, 1) := by decide +kernel
theorem dX12_lowest_1 : decode cX12_lowest 1 = .ok (.bipush 115, 2) := by decide +kernel
theorem dX12_lowest_3 : decode cX12_lowest 3 = .ok (.if_icmp .ne 22, 3) := by decide +kernel
theorem dX12_lowest_6 : decode cX12_lowest 6 = .ok (.iload_n 1, 1) := by decide +kernel
theorem dX12_lowest_7 : decode cX12_lowest 7 = .ok (.ifCond .ne 7, 3) := by decide +kernel
theorem dX12_lowest_10 : decode cX12_lowest 10 = .ok (.iconst 2, 1) := by decide +kernel
theorem dX12_lowest_11 : decode cX12_lowest 11 = .ok (.goto 13, 3) := by decide +kernel
theorem dX12_lowest_14 : decode cX12_lowest 14 = .ok (.iload_n 1, 1) := by decide +kernel
theorem dX12_lowest_15 : decode cX12_lowest 15 = .ok (.iconst 1, 1) := by decide +kernel
theorem dX12_lowest_16 : decode cX12_lowest 16 = .ok (.if_icmp .ne 7, 3) := by decide +kernel
theorem dX12_lowest_19 : decode cX12_lowest 19 = .ok (.iconst 1, 1) := by decide +kernel
theorem dX12_lowest_20 : decode cX12_lowest 20 = .ok (.goto 4, 3) := by decide +kernel
theorem dX12_lowest_23 : decode cX12_lowest 23 = .ok (.iconst 0, 1) := by decide +kernel
theorem dX12_lowest_24 : decode cX12_lowest 24 = .ok (.ireturn, 1) := by decide +kernel
theorem dX12_lowest_25 : decode cX12_lowest 25 = .ok (.iload_n 0, 1) := by decide +kernel
theorem dX12_lowest_26 : decode cX12_lowest 26 = .ok (.bipush 117, 2) := by decide +kernel
theorem dX12_lowest_28 : decode cX12_lowest 28 = .ok (.if_icmp .ne 12, 3) := by decide +kernel
theorem dX12_lowest_31 : decode cX12_lowest 31 = .ok (.iload_n 1, 1) := by decide +kernel
theorem dX12_lowest_32 : decode cX12_lowest 32 = .ok (.iconst 1, 1) := by decide +kernel
theorem dX12_lowest_33 : decode cX12_lowest 33 = .ok (.if_icmp .le 7, 3) := by decide +kernel
theorem dX12_lowest_36 : decode cX12_lowest 36 = .ok (.iconst 0, 1) := by decide +kernel
theorem dX12_lowest_37 : decode cX12_lowest 37 = .ok (.goto 4, 3) := by decide +kernel
theorem dX12_lowest_40 : decode cX12_lowest 40 = .ok (.iconst 1, 1) := by decide +kernel
theorem dX12_lowest_41 : decode cX12_lowest 41 = .ok (.ireturn, 1) := by decide +kernel
theorem dX12_highest_0 : decode cX12_highest 0 = .ok (.iload_n 0, 1) := by decide +kernel
theorem dX12_highest_1 : decode cX12_highest 1 = .ok (.bipush 115, 2) := by decide +kernel
theorem dX12_highest_3 : decode cX12_highest 3 = .ok (.if_icmp .ne 24, 3) := by decide +kernel
theorem dX12_highest_6 : decode cX12_highest 6 = .ok (.iload_n 1, 1) := by decide +kernel
theorem dX12_highest_7 : decode cX12_highest 7 = .ok (.ifCond .ne 8, 3) := by decide +kernel
theorem dX12_highest_10 : decode cX12_highest 10 = .ok (.bipush 12, 2) := by decide +kernel
theorem dX12_highest_12 : decode cX12_highest 12 = .ok (.goto 14, 3) := by decide +kernel
theorem dX12_highest_15 : decode cX12_highest 15 = .ok (.iload_n 1, 1) := by decide +kernel
theorem dX12_highest_16 : decode cX12_highest 16 = .ok (.iconst 1, 1) := by decide +kernel
theorem dX12_highest_17 : decode cX12_highest 17 = .ok (.if_icmp .ne 7, 3) := by decide +kernel
theorem dX12_highest_20 : decode cX12_highest 20 = .ok (.iconst 4, 1) := by decide +kernel
theorem dX12_highest_21 : decode cX12_highest 21 = .ok (.goto 5, 3) := by decide +kernel
theorem dX12_highest_24 : decode cX12_highest 24 = .ok (.bipush 99, 2) := by decide +kernel
theorem dX12_highest_26 : decode cX12_highest 26 = .ok (.ireturn, 1) := by decide +kernel
theorem dX12_highest_27 : decode cX12_highest 27 = .ok (.iload_n 0, 1) := by decide +kernel
theorem dX12_highest_28 : decode cX12_highest 28 = .ok (.bipush 117, 2) := by decide +kernel
theorem dX12_highest_30 : decode cX12_highest 30 = .ok (.if_icmp .ne 35, 3) := by decide +kernel
theorem dX12_highest_33 : decode cX12_highest 33 = .ok (.iload_n 1, 1) := by decide +kernel
theorem dX12_highest_34 : decode cX12_highest 34 = .ok (.ifCond .ne 8, 3) := by decide +kernel
theorem dX12_highest_37 : decode cX12_highest 37 = .ok (.bipush 99, 2) := by decide +kernel
theorem dX12_highest_39 : decode cX12_highest 39 = .ok (.goto 25, 3) := by decide +kernel
theorem dX12_highest_42 : decode cX12_highest 42 = .ok (.iload_n 1, 1) := by decide +kernel
theorem dX12_highest_43 : decode cX12_highest 43 = .ok (.iconst 1, 1) := by decide +kernel
theorem dX12_highest_44 : decode cX12_highest 44 = .ok (.if_icmp .ne 8, 3) := by decide +kernel
theorem dX12_highest_47 : decode cX12_highest 47 = .ok (.bipush 9, 2) := by decide +kernel
theorem dX12_highest_49 : decode cX12_highest 49 = .ok (.goto 15, 3) := by decide +kernel
theorem dX12_highest_52 : decode cX12_highest 52 = .ok (.iload_n 1, 1) := by decide +kernel
theorem dX12_highest_53 : decode cX12_highest 53 = .ok (.iconst 2, 1) := by decide +kernel
theorem dX12_highest_54 : decode cX12_highest 54 = .ok (.if_icmp .ne 7, 3) := by decide +kernel
theorem dX12_highest_57 : decode cX12_highest 57 = .ok (.iconst 3, 1) := by decide +kernel
theorem dX12_highest_58 : decode cX12_highest 58 = .ok (.goto 6, 3) := by decide +kernel
theorem dX12_highest_61 : decode cX12_highest 61 = .ok (.sipush 4095, 3) := by decide +kernel
theorem dX12_highest_64 : decode cX12_highest 64 = .ok (.ireturn, 1) := by decide +kernel
theorem dX12_highest_65 : decode cX12_highest 65 = .ok (.iload_n 1, 1) := by decide +kernel
theorem dX12_highest_66 : decode cX12_highest 66 = .ok (.ifCond .ne 8, 3) := by decide +kernel
theorem dX12_highest_69 : decode cX12_highest 69 = .ok (.bipush 6, 2) := by decide +kernel
theorem dX12_highest_71 : decode cX12_highest 71 = .ok (.goto 5, 3) := by decide +kernel
theorem dX12_highest_74 : decode cX12_highest 74 = .ok (.bipush 99, 2) := by decide +kernel
theorem dX12_highest_76 : decode cX12_highest 76 = .ok (.ireturn, 1) := by decide +kernel
theorem dX12_usual_0 : decode cX12_usual 0 = .ok (.iload_n 0, 1) := by decide +kernel
theorem dX12_usual_1 : decode cX12_usual 1 = .ok (.bipush 115, 2) := by decide +kernel
theorem dX12_usual_3 : decode cX12_usual 3 = .ok (.if_icmp .ne 23, 3) := by decide +kernel
theorem dX12_usual_6 : decode cX12_usual 6 = .ok (.iload_n 1, 1) := by decide +kernel
theorem dX12_usual_7 : decode cX12_usual 7 = .ok (.ifCond .ne 8, 3) := by decide +kernel
theorem dX12_usual_10 : decode cX12_usual 10 = .ok (.bipush 8, 2) := by decide +kernel
theorem dX12_usual_12 : decode cX12_usual 12 = .ok (.goto 13, 3) := by decide +kernel
theorem dX12_usual_15 : decode cX12_usual 15 = .ok (.iload_n 1, 1) := by decide +kernel
theorem dX12_usual_16 : decode cX12_usual 16 = .ok (.iconst 1, 1) := by decide +kernel
theorem dX12_usual_17 : decode cX12_usual 17 = .ok (.if_icmp .ne 7, 3) := by decide +kernel
theorem dX12_usual_20 : decode cX12_usual 20 = .ok (.iconst 1, 1) := by decide +kernel
theorem dX12_usual_21 : decode cX12_usual 21 = .ok (.goto 4, 3) := by decide +kernel
theorem dX12_usual_24 : decode cX12_usual 24 = .ok (.iconst 0, 1) := by decide +kernel
theorem dX12_usual_25 : decode cX12_usual 25 = .ok (.ireturn, 1) := by decide +kernel
theorem dX12_usual_26 : decode cX12_usual 26 = .ok (.iload_n 0, 1) := by decide +kernel
theorem dX12_usual_27 : decode cX12_usual 27 = .ok (.bipush 117, 2) := by decide +kernel
theorem dX12_usual_29 : decode cX12_usual 29 = .ok (.if_icmp .ne 23, 3) := by decide +kernel
theorem dX12_usual_32 : decode cX12_usual 32 = .ok (.iload_n 1, 1) := by decide +kernel
theorem dX12_usual_33 : decode cX12_usual 33 = .ok (.ifCond .ne 8, 3) := by decide +kernel
theorem dX12_usual_36 : decode cX12_usual 36 = .ok (.bipush 10, 2) := by decide +kernel
theorem dX12_usual_38 : decode cX12_usual 38 = .ok (.goto 13, 3) := by decide +kernel
theorem dX12_usual_41 : decode cX12_usual 41 = .ok (.iload_n 1, 1) := by decide +kernel
theorem dX12_usual_42 : decode cX12_usual 42 = .ok (.iconst 1, 1) := by decide +kernel
theorem dX12_usual_43 : decode cX12_usual 43 = .ok (.if_icmp .ne 7, 3) := by decide +kernel
theorem dX12_usual_46 : decode cX12_usual 46 = .ok (.iconst 1, 1) := by decide +kernel
theorem dX12_usual_47 : decode cX12_usual 47 = .ok (.goto 4, 3) := by decide +kernel
theorem dX12_usual_50 : decode cX12_usual 50 = .ok (.iconst 0, 1) := by decide +kernel
theorem dX12_usual_51 : decode cX12_usual 51 = .ok (.ireturn, 1) := by decide +kernel
theorem dX12_usual_52 : decode cX12_usual 52 = .ok (.iconst 1, 1) := by decide +kernel
theorem dX12_usual_53 : decode cX12_usual 53 = .ok (.ireturn, 1) := by decide +kernel
theorem dX12_items_0 : decode cX12_items 0 = .ok (.iconst 0, 1) := by decide +kernel
theorem dX12_items_1 : decode cX12_items 1 = .ok (.istore 5, 2) := by decide +kernel
theorem dX12_items_3 : decode cX12_items 3 = .ok (.iload 5, 2) := by decide +kernel
theorem dX12_items_5 : decode cX12_items 5 = .ok (.iload 4, 2) := by decide +kernel
theorem dX12_items_7 : decode cX12_items 7 = .ok (.if_icmp .ge 21, 3) := by decide +kernel
theorem dX12_items_10 : decode cX12_items 10 = .ok (.aload_n 2, 1) := by decide +kernel
theorem dX12_items_11 : decode cX12_items 11 = .ok (.iload_n 3, 1) := by decide +kernel
theorem dX12_items_12 : decode cX12_items 12 = .ok (.iload 5, 2) := by decide +kernel
theorem dX12_items_14 : decode cX12_items 14 = .ok (.iadd, 1) := by decide +kernel
theorem dX12_items_15 : decode cX12_items 15 = .ok (.iload_n 1, 1) := by decide +kernel
theorem dX12_items_16 : decode cX12_items 16 = .ok (.iload 5, 2) := by decide +kernel
theorem dX12_items_18 : decode cX12_items 18 = .ok (.invokestatic 100, 3) := by decide +kernel
theorem dX12_items_21 : decode cX12_items 21 = .ok (.iastore, 1) := by decide +kernel
theorem dX12_items_22 : decode cX12_items 22 = .ok (.iinc 5 1, 3) := by decide +kernel
theorem dX12_items_25 : decode cX12_items 25 = .ok (.goto (-22), 3) := by decide +kernel
theorem dX12_items_28 : decode cX12_items 28 = .ok (.iconst 0, 1) := by decide +kernel
theorem dX12_items_29 : decode cX12_items 29 = .ok (.istore 5, 2) := by decide +kernel
theorem dX12_items_31 : decode cX12_items 31 = .ok (.iload_n 1, 1) := by decide +kernel
theorem dX12_items_32 : decode cX12_items 32 = .ok (.aload_n 0, 1) := by decide +kernel
theorem dX12_items_33 : decode cX12_items 33 = .ok (.invokevirtual 90, 3) := by decide +kernel
theorem dX12_items_36 : decode cX12_items 36 = .ok (.invokestatic 104, 3) := by decide +kernel
theorem dX12_items_39 : decode cX12_items 39 = .ok (.istore 6, 2) := by decide +kernel
theorem dX12_items_41 : decode cX12_items 41 = .ok (.aload_n 0, 1) := by decide +kernel
theorem dX12_items_42 : decode cX12_items 42 = .ok (.getfield 87, 3) := by decide +kernel
theorem dX12_items_45 : decode cX12_items 45 = .ok (.iconst (-1), 1) := by decide +kernel
theorem dX12_items_46 : decode cX12_items 46 = .ok (.if_icmp .ne 85, 3) := by decide +kernel
theorem dX12_items_49 : decode cX12_items 49 = .ok (.iload 6, 2) := by decide +kernel
theorem dX12_items_51 : decode cX12_items 51 = .ok (.iconst (-1), 1) := by decide +kernel
theorem dX12_items_52 : decode cX12_items 52 = .ok (.if_icmp .eq 79, 3) := by decide +kernel
theorem dX12_items_55 : decode cX12_items 55 = .ok (.iload 5, 2) := by decide +kernel
theorem dX12_items_57 : decode cX12_items 57 = .ok (.iload 6, 2) := by decide +kernel
theorem dX12_items_59 : decode cX12_items 59 = .ok (.invokestatic 107, 3) := by decide +kernel
theorem dX12_items_62 : decode cX12_items 62 = .ok (.ifCond .ne 69, 3) := by decide +kernel
theorem dX12_items_65 : decode cX12_items 65 = .ok (.iload 5, 2) := by decide +kernel
theorem dX12_items_67 : decode cX12_items 67 = .ok (.iconst 1, 1) := by decide +kernel
theorem dX12_items_68 : decode cX12_items 68 = .ok (.iload 6, 2) := by decide +kernel
theorem dX12_items_70 : decode cX12_items 70 = .ok (.ishl, 1) := by decide +kernel
theorem dX12_items_71 : decode cX12_items 71 = .ok (.ior, 1) := by decide +kernel
theorem dX12_items_72 : decode cX12_items 72 = .ok (.istore 5, 2) := by decide +kernel
theorem dX12_items_74 : decode cX12_items 74 = .ok (.aload_n 0, 1) := by decide +kernel
theorem dX12_items_75 : decode cX12_items 75 = .ok (.dup, 1) := by decide +kernel
theorem dX12_items_76 : decode cX12_items 76 = .ok (.getfield 80, 3) := by decide +kernel
theorem dX12_items_79 : decode cX12_items 79 = .ok (.iconst 1, 1) := by decide +kernel
theorem dX12_items_80 : decode cX12_items 80 = .ok (.iadd, 1) := by decide +kernel
theorem dX12_items_81 : decode cX12_items 81 = .ok (.putfield 80, 3) := by decide +kernel
theorem dX12_items_84 : decode cX12_items 84 = .ok (.aload_n 2, 1) := by decide +kernel
theorem dX12_items_85 : decode cX12_items 85 = .ok (.iload_n 3, 1) := by decide +kernel
theorem dX12_items_86 : decode cX12_items 86 = .ok (.iload 6, 2) := by decide +kernel
theorem dX12_items_88 : decode cX12_items 88 = .ok (.iadd, 1) := by decide +kernel
theorem dX12_items_89 : decode cX12_items 89 = .ok (.aload_n 0, 1) := by decide +kernel
theorem dX12_items_90 : decode cX12_items 90 = .ok (.iload_n 1, 1) := by decide +kernel
theorem dX12_items_91 : decode cX12_items 91 = .ok (.iload 6, 2) := by decide +kernel
theorem dX12_items_93 : decode cX12_items 93 = .ok (.invokestatic 111, 3) := by decide +kernel
theorem dX12_items_96 : decode cX12_items 96 = .ok (.iload_n 1, 1) := by decide +kernel
theorem dX12_items_97 : decode cX12_items 97 = .ok (.iload 6, 2) := by decide +kernel
theorem dX12_items_99 : decode cX12_items 99 = .ok (.invokestatic 114, 3) := by decide +kernel
theorem dX12_items_102 : decode cX12_items 102 = .ok (.invokevirtual 117, 3) := by decide +kernel
theorem dX12_items_105 : decode cX12_items 105 = .ok (.iastore, 1) := by decide +kernel
theorem dX12_items_106 : decode cX12_items 106 = .ok (.aload_n 0, 1) := by decide +kernel
theorem dX12_items_107 : decode cX12_items 107 = .ok (.getfield 87, 3) := by decide +kernel
theorem dX12_items_110 : decode cX12_items 110 = .ok (.iconst (-1), 1) := by decide +kernel
theorem dX12_items_111 : decode cX12_items 111 = .ok (.if_icmp .ne 14, 3) := by decide +kernel
theorem dX12_items_114 : decode cX12_items 114 = .ok (.iload_n 1, 1) := by decide +kernel
theorem dX12_items_115 : decode cX12_items 115 = .ok (.aload_n 0, 1) := by decide +kernel
theorem dX12_items_116 : decode cX12_items 116 = .ok (.invokevirtual 90, 3) := by decide +kernel
theorem dX12_items_119 : decode cX12_items 119 = .ok (.invokestatic 104, 3) := by decide +kernel
theorem dX12_items_122 : decode cX12_items 122 = .ok (.goto 4, 3) := by decide +kernel
theorem dX12_items_125 : decode cX12_items 125 = .ok (.iconst (-1), 1) := by decide +kernel
theorem dX12_items_126 : decode cX12_items 126 = .ok (.istore 6, 2) := by decide +kernel
theorem dX12_items_128 : decode cX12_items 128 = .ok (.goto (-87), 3) := by decide +kernel
theorem dX12_items_131 : decode cX12_items 131 = .ok (.return_, 1) := by decide +kernel
theorem dX12_isWhole_0 : decode cX12_isWhole 0 = .ok (.aload_n 0, 1) := by decide +kernel
theorem dX12_isWhole_1 : decode cX12_isWhole 1 = .ok (.getfield 120, 3) := by decide +kernel
theorem dX12_isWhole_4 : decode cX12_isWhole 4 = .ok (.ifCond .le 7, 3) := by decide +kernel
theorem dX12_isWhole_7 : decode cX12_isWhole 7 = .ok (.iconst 1, 1) := by decide +kernel
theorem dX12_isWhole_8 : decode cX12_isWhole 8 = .ok (.goto 4, 3) := by decide +kernel
theorem dX12_isWhole_11 : decode cX12_isWhole 11 = .ok (.iconst 0, 1) := by decide +kernel
theorem dX12_isWhole_12 : decode cX12_isWhole 12 = .ok (.istore_n 1, 1) := by decide +kernel
theorem dX12_isWhole_13 : decode cX12_isWhole 13 = .ok (.iconst 0, 1) := by decide +kernel
theorem dX12_isWhole_14 : decode cX12_isWhole 14 = .ok (.istore_n 2, 1) := by decide +kernel
theorem dX12_isWhole_15 : decode cX12_isWhole 15 = .ok (.iload_n 2, 1) := by decide +kernel
theorem dX12_isWhole_16 : decode cX12_isWhole 16 = .ok (.aload_n 0, 1) := by decide +kernel
theorem dX12_isWhole_17 : decode cX12_isWhole 17 = .ok (.getfield 120, 3) := by decide +kernel
theorem dX12_isWhole_20 : decode cX12_isWhole 20 = .ok (.if_icmp .ge 96, 3) := by decide +kernel
theorem dX12_isWhole_23 : decode cX12_isWhole 23 = .ok (.iload_n 1, 1) := by decide +kernel
theorem dX12_isWhole_24 : decode cX12_isWhole 24 = .ok (.ifCond .eq 92, 3) := by decide +kernel
theorem dX12_isWhole_27 : decode cX12_isWhole 27 = .ok (.aload_n 0, 1) := by decide +kernel
theorem dX12_isWhole_28 : decode cX12_isWhole 28 = .ok (.getfield 16, 3) := by decide +kernel
theorem dX12_isWhole_31 : decode cX12_isWhole 31 = .ok (.iconst 5, 1) := by decide +kernel
theorem dX12_isWhole_32 : decode cX12_isWhole 32 = .ok (.iload_n 2, 1) := by decide +kernel
theorem dX12_isWhole_33 : decode cX12_isWhole 33 = .ok (.imul, 1) := by decide +kernel
theorem dX12_isWhole_34 : decode cX12_isWhole 34 = .ok (.iconst 2, 1) := by decide +kernel
theorem dX12_isWhole_35 : decode cX12_isWhole 35 = .ok (.iadd, 1) := by decide +kernel
theorem dX12_isWhole_36 : decode cX12_isWhole 36 = .ok (.iaload, 1) := by decide +kernel
theorem dX12_isWhole_37 : decode cX12_isWhole 37 = .ok (.istore_n 3, 1) := by decide +kernel
theorem dX12_isWhole_38 : decode cX12_isWhole 38 = .ok (.iconst 1, 1) := by decide +kernel
theorem dX12_isWhole_39 : decode cX12_isWhole 39 = .ok (.aload_n 0, 1) := by decide +kernel
theorem dX12_isWhole_40 : decode cX12_isWhole 40 = .ok (.getfield 13, 3) := by decide +kernel
theorem dX12_isWhole_43 : decode cX12_isWhole 43 = .ok (.iconst 0, 1) := by decide +kernel
theorem dX12_isWhole_44 : decode cX12_isWhole 44 = .ok (.iaload, 1) := by decide +kernel
theorem dX12_isWhole_45 : decode cX12_isWhole 45 = .ok (.ishl, 1) := by decide +kernel
theorem dX12_isWhole_46 : decode cX12_isWhole 46 = .ok (.istore 4, 2) := by decide +kernel
theorem dX12_isWhole_48 : decode cX12_isWhole 48 = .ok (.iload_n 3, 1) := by decide +kernel
theorem dX12_isWhole_49 : decode cX12_isWhole 49 = .ok (.aload_n 0, 1) := by decide +kernel
theorem dX12_isWhole_50 : decode cX12_isWhole 50 = .ok (.getfield 13, 3) := by decide +kernel
theorem dX12_isWhole_53 : decode cX12_isWhole 53 = .ok (.iconst 1, 1) := by decide +kernel
theorem dX12_isWhole_54 : decode cX12_isWhole 54 = .ok (.iaload, 1) := by decide +kernel
theorem dX12_isWhole_55 : decode cX12_isWhole 55 = .ok (.if_icmp .ge 53, 3) := by decide +kernel
theorem dX12_isWhole_58 : decode cX12_isWhole 58 = .ok (.aload_n 0, 1) := by decide +kernel
theorem dX12_isWhole_59 : decode cX12_isWhole 59 = .ok (.getfield 16, 3) := by decide +kernel
theorem dX12_isWhole_62 : decode cX12_isWhole 62 = .ok (.iconst 5, 1) := by decide +kernel
theorem dX12_isWhole_63 : decode cX12_isWhole 63 = .ok (.iload_n 2, 1) := by decide +kernel
theorem dX12_isWhole_64 : decode cX12_isWhole 64 = .ok (.imul, 1) := by decide +kernel
theorem dX12_isWhole_65 : decode cX12_isWhole 65 = .ok (.iconst 3, 1) := by decide +kernel
theorem dX12_isWhole_66 : decode cX12_isWhole 66 = .ok (.iadd, 1) := by decide +kernel
theorem dX12_isWhole_67 : decode cX12_isWhole 67 = .ok (.iaload, 1) := by decide +kernel
theorem dX12_isWhole_68 : decode cX12_isWhole 68 = .ok (.iload 4, 2) := by decide +kernel
theorem dX12_isWhole_70 : decode cX12_isWhole 70 = .ok (.if_icmp .ge 38, 3) := by decide +kernel
theorem dX12_isWhole_73 : decode cX12_isWhole 73 = .ok (.aload_n 0, 1) := by decide +kernel
theorem dX12_isWhole_74 : decode cX12_isWhole 74 = .ok (.getfield 16, 3) := by decide +kernel
theorem dX12_isWhole_77 : decode cX12_isWhole 77 = .ok (.iconst 5, 1) := by decide +kernel
theorem dX12_isWhole_78 : decode cX12_isWhole 78 = .ok (.iload_n 2, 1) := by decide +kernel
theorem dX12_isWhole_79 : decode cX12_isWhole 79 = .ok (.imul, 1) := by decide +kernel
theorem dX12_isWhole_80 : decode cX12_isWhole 80 = .ok (.iconst 4, 1) := by decide +kernel
theorem dX12_isWhole_81 : decode cX12_isWhole 81 = .ok (.iadd, 1) := by decide +kernel
theorem dX12_isWhole_82 : decode cX12_isWhole 82 = .ok (.iaload, 1) := by decide +kernel
theorem dX12_isWhole_83 : decode cX12_isWhole 83 = .ok (.iload_n 3, 1) := by decide +kernel
theorem dX12_isWhole_84 : decode cX12_isWhole 84 = .ok (.iconst 1, 1) := by decide +kernel
theorem dX12_isWhole_85 : decode cX12_isWhole 85 = .ok (.iadd, 1) := by decide +kernel
theorem dX12_isWhole_86 : decode cX12_isWhole 86 = .ok (.aload_n 0, 1) := by decide +kernel
theorem dX12_isWhole_87 : decode cX12_isWhole 87 = .ok (.getfield 13, 3) := by decide +kernel
theorem dX12_isWhole_90 : decode cX12_isWhole 90 = .ok (.iconst 1, 1) := by decide +kernel
theorem dX12_isWhole_91 : decode cX12_isWhole 91 = .ok (.iaload, 1) := by decide +kernel
theorem dX12_isWhole_92 : decode cX12_isWhole 92 = .ok (.if_icmp .ge 8, 3) := by decide +kernel
theorem dX12_isWhole_95 : decode cX12_isWhole 95 = .ok (.iload 4, 2) := by decide +kernel
theorem dX12_isWhole_97 : decode cX12_isWhole 97 = .ok (.goto 4, 3) := by decide +kernel
theorem dX12_isWhole_100 : decode cX12_isWhole 100 = .ok (.iconst 1, 1) := by decide +kernel
theorem dX12_isWhole_101 : decode cX12_isWhole 101 = .ok (.if_icmp .ge 7, 3) := by decide +kernel
theorem dX12_isWhole_104 : decode cX12_isWhole 104 = .ok (.iconst 1, 1) := by decide +kernel
theorem dX12_isWhole_105 : decode cX12_isWhole 105 = .ok (.goto 4, 3) := by decide +kernel
theorem dX12_isWhole_108 : decode cX12_isWhole 108 = .ok (.iconst 0, 1) := by decide +kernel
theorem dX12_isWhole_109 : decode cX12_isWhole 109 = .ok (.istore_n 1, 1) := by decide +kernel
theorem dX12_isWhole_110 : decode cX12_isWhole 110 = .ok (.iinc 2 1, 3) := by decide +kernel
theorem dX12_isWhole_113 : decode cX12_isWhole 113 = .ok (.goto (-98), 3) := by decide +kernel
theorem dX12_isWhole_116 : decode cX12_isWhole 116 = .ok (.iload_n 1, 1) := by decide +kernel
theorem dX12_isWhole_117 : decode cX12_isWhole 117 = .ok (.ireturn, 1) := by decide +kernel
theorem dX12_readField_0 : decode cX12_readField 0 = .ok (.aload_n 0, 1) := by decide +kernel
theorem dX12_readField_1 : decode cX12_readField 1 = .ok (.iconst 0, 1) := by decide +kernel
theorem dX12_readField_2 : decode cX12_readField 2 = .ok (.putfield 80, 3) := by decide +kernel
theorem dX12_readField_5 : decode cX12_readField 5 = .ok (.aload_n 0, 1) := by decide +kernel
theorem dX12_readField_6 : decode cX12_readField 6 = .ok (.iconst (-1), 1) := by decide +kernel
theorem dX12_readField_7 : decode cX12_readField 7 = .ok (.putfield 87, 3) := by decide +kernel
theorem dX12_readField_10 : decode cX12_readField 10 = .ok (.aload_n 0, 1) := by decide +kernel
theorem dX12_readField_11 : decode cX12_readField 11 = .ok (.iconst 0, 1) := by decide +kernel
theorem dX12_readField_12 : decode cX12_readField 12 = .ok (.putfield 120, 3) := by decide +kernel
theorem dX12_readField_15 : decode cX12_readField 15 = .ok (.aload_n 0, 1) := by decide +kernel
theorem dX12_readField_16 : decode cX12_readField 16 = .ok (.iconst 0, 1) := by decide +kernel
theorem dX12_readField_17 : decode cX12_readField 17 = .ok (.putfield 123, 3) := by decide +kernel
theorem dX12_readField_20 : decode cX12_readField 20 = .ok (.iconst 0, 1) := by decide +kernel
theorem dX12_readField_21 : decode cX12_readField 21 = .ok (.istore_n 1, 1) := by decide +kernel
theorem dX12_readField_22 : decode cX12_readField 22 = .ok (.iconst 0, 1) := by decide +kernel
theorem dX12_readField_23 : decode cX12_readField 23 = .ok (.istore_n 2, 1) := by decide +kernel
theorem dX12_readField_24 : decode cX12_readField 24 = .ok (.iload_n 2, 1) := by decide +kernel
theorem dX12_readField_25 : decode cX12_readField 25 = .ok (.iconst 4, 1) := by decide +kernel
theorem dX12_readField_26 : decode cX12_readField 26 = .ok (.if_icmp .ge 21, 3) := by decide +kernel
theorem dX12_readField_29 : decode cX12_readField 29 = .ok (.aload_n 0, 1) := by decide +kernel
theorem dX12_readField_30 : decode cX12_readField 30 = .ok (.getfield 13, 3) := by decide +kernel
theorem dX12_readField_33 : decode cX12_readField 33 = .ok (.iload_n 2, 1) := by decide +kernel
theorem dX12_readField_34 : decode cX12_readField 34 = .ok (.bipush 115, 2) := by decide +kernel
theorem dX12_readField_36 : decode cX12_readField 36 = .ok (.iload_n 2, 1) := by decide +kernel
theorem dX12_readField_37 : decode cX12_readField 37 = .ok (.invokestatic 100, 3) := by decide +kernel
theorem dX12_readField_40 : decode cX12_readField 40 = .ok (.iastore, 1) := by decide +kernel
theorem dX12_readField_41 : decode cX12_readField 41 = .ok (.iinc 2 1, 3) := by decide +kernel
theorem dX12_readField_44 : decode cX12_readField 44 = .ok (.goto (-20), 3) := by decide +kernel
theorem dX12_readField_47 : decode cX12_readField 47 = .ok (.iconst 1, 1) := by decide +kernel
theorem dX12_readField_48 : decode cX12_readField 48 = .ok (.istore_n 2, 1) := by decide +kernel
theorem dX12_readField_49 : decode cX12_readField 49 = .ok (.iload_n 2, 1) := by decide +kernel
theorem dX12_readField_50 : decode cX12_readField 50 = .ok (.ifCond .eq 208, 3) := by decide +kernel
theorem dX12_readField_53 : decode cX12_readField 53 = .ok (.aload_n 0, 1) := by decide +kernel
theorem dX12_readField_54 : decode cX12_readField 54 = .ok (.getfield 87, 3) := by decide +kernel
theorem dX12_readField_57 : decode cX12_readField 57 = .ok (.iconst (-1), 1) := by decide +kernel
theorem dX12_readField_58 : decode cX12_readField 58 = .ok (.if_icmp .ne 200, 3) := by decide +kernel
theorem dX12_readField_61 : decode cX12_readField 61 = .ok (.aload_n 0, 1) := by decide +kernel
theorem dX12_readField_62 : decode cX12_readField 62 = .ok (.invokevirtual 90, 3) := by decide +kernel
theorem dX12_readField_65 : decode cX12_readField 65 = .ok (.istore_n 3, 1) := by decide +kernel
theorem dX12_readField_66 : decode cX12_readField 66 = .ok (.iload_n 3, 1) := by decide +kernel
theorem dX12_readField_67 : decode cX12_readField 67 = .ok (.bipush 115, 2) := by decide +kernel
theorem dX12_readField_69 : decode cX12_readField 69 = .ok (.if_icmp .ne 33, 3) := by decide +kernel
theorem dX12_readField_72 : decode cX12_readField 72 = .ok (.iload_n 1, 1) := by decide +kernel
theorem dX12_readField_73 : decode cX12_readField 73 = .ok (.ifCond .ne 29, 3) := by decide +kernel
theorem dX12_readField_76 : decode cX12_readField 76 = .ok (.iconst 1, 1) := by decide +kernel
theorem dX12_readField_77 : decode cX12_readField 77 = .ok (.istore_n 1, 1) := by decide +kernel
theorem dX12_readField_78 : decode cX12_readField 78 = .ok (.aload_n 0, 1) := by decide +kernel
theorem dX12_readField_79 : decode cX12_readField 79 = .ok (.dup, 1) := by decide +kernel
theorem dX12_readField_80 : decode cX12_readField 80 = .ok (.getfield 80, 3) := by decide +kernel
theorem dX12_readField_83 : decode cX12_readField 83 = .ok (.iconst 1, 1) := by decide +kernel
theorem dX12_readField_84 : decode cX12_readField 84 = .ok (.iadd, 1) := by decide +kernel
theorem dX12_readField_85 : decode cX12_readField 85 = .ok (.putfield 80, 3) := by decide +kernel
theorem dX12_readField_88 : decode cX12_readField 88 = .ok (.aload_n 0, 1) := by decide +kernel
theorem dX12_readField_89 : decode cX12_readField 89 = .ok (.iload_n 3, 1) := by decide +kernel
theorem dX12_readField_90 : decode cX12_readField 90 = .ok (.aload_n 0, 1) := by decide +kernel
theorem dX12_readField_91 : decode cX12_readField 91 = .ok (.getfield 13, 3) := by decide +kernel
theorem dX12_readField_94 : decode cX12_readField 94 = .ok (.iconst 0, 1) := by decide +kernel
theorem dX12_readField_95 : decode cX12_readField 95 = .ok (.iconst 4, 1) := by decide +kernel
theorem dX12_readField_96 : decode cX12_readField 96 = .ok (.invokevirtual 126, 3) := by decide +kernel
theorem dX12_readField_99 : decode cX12_readField 99 = .ok (.goto 115, 3) := by decide +kernel
theorem dX12_readField_102 : decode cX12_readField 102 = .ok (.iload_n 3, 1) := by decide +kernel
theorem dX12_readField_103 : decode cX12_readField 103 = .ok (.bipush 117, 2) := by decide +kernel
theorem dX12_readField_105 : decode cX12_readField 105 = .ok (.if_icmp .ne 51, 3) := by decide +kernel
theorem dX12_readField_108 : decode cX12_readField 108 = .ok (.aload_n 0, 1) := by decide +kernel
theorem dX12_readField_109 : decode cX12_readField 109 = .ok (.getfield 120, 3) := by decide +kernel
theorem dX12_readField_112 : decode cX12_readField 112 = .ok (.bipush 10, 2) := by decide +kernel
theorem dX12_readField_114 : decode cX12_readField 114 = .ok (.if_icmp .ge 42, 3) := by decide +kernel
theorem dX12_readField_117 : decode cX12_readField 117 = .ok (.aload_n 0, 1) := by decide +kernel
theorem dX12_readField_118 : decode cX12_readField 118 = .ok (.dup, 1) := by decide +kernel
theorem dX12_readField_119 : decode cX12_readField 119 = .ok (.getfield 80, 3) := by decide +kernel
theorem dX12_readField_122 : decode cX12_readField 122 = .ok (.iconst 1, 1) := by decide +kernel
theorem dX12_readField_123 : decode cX12_readField 123 = .ok (.iadd, 1) := by decide +kernel
theorem dX12_readField_124 : decode cX12_readField 124 = .ok (.putfield 80, 3) := by decide +kernel
theorem dX12_readField_127 : decode cX12_readField 127 = .ok (.aload_n 0, 1) := by decide +kernel
theorem dX12_readField_128 : decode cX12_readField 128 = .ok (.iload_n 3, 1) := by decide +kernel
theorem dX12_readField_129 : decode cX12_readField 129 = .ok (.aload_n 0, 1) := by decide +kernel
theorem dX12_readField_130 : decode cX12_readField 130 = .ok (.getfield 16, 3) := by decide +kernel
theorem dX12_readField_133 : decode cX12_readField 133 = .ok (.iconst 5, 1) := by decide +kernel
theorem dX12_readField_134 : decode cX12_readField 134 = .ok (.aload_n 0, 1) := by decide +kernel
theorem dX12_readField_135 : decode cX12_readField 135 = .ok (.getfield 120, 3) := by decide +kernel
theorem dX12_readField_138 : decode cX12_readField 138 = .ok (.imul, 1) := by decide +kernel
theorem dX12_readField_139 : decode cX12_readField 139 = .ok (.iconst 5, 1) := by decide +kernel
theorem dX12_readField_140 : decode cX12_readField 140 = .ok (.invokevirtual 126, 3) := by decide +kernel
theorem dX12_readField_143 : decode cX12_readField 143 = .ok (.aload_n 0, 1) := by decide +kernel
theorem dX12_readField_144 : decode cX12_readField 144 = .ok (.dup, 1) := by decide +kernel
theorem dX12_readField_145 : decode cX12_readField 145 = .ok (.getfield 120, 3) := by decide +kernel
theorem dX12_readField_148 : decode cX12_readField 148 = .ok (.iconst 1, 1) := by decide +kernel
theorem dX12_readField_149 : decode cX12_readField 149 = .ok (.iadd, 1) := by decide +kernel
theorem dX12_readField_150 : decode cX12_readField 150 = .ok (.putfield 120, 3) := by decide +kernel
theorem dX12_readField_153 : decode cX12_readField 153 = .ok (.goto 61, 3) := by decide +kernel
theorem dX12_readField_156 : decode cX12_readField 156 = .ok (.iload_n 3, 1) := by decide +kernel
theorem dX12_readField_157 : decode cX12_readField 157 = .ok (.bipush 100, 2) := by decide +kernel
theorem dX12_readField_159 : decode cX12_readField 159 = .ok (.if_icmp .ne 51, 3) := by decide +kernel
theorem dX12_readField_162 : decode cX12_readField 162 = .ok (.aload_n 0, 1) := by decide +kernel
theorem dX12_readField_163 : decode cX12_readField 163 = .ok (.getfield 123, 3) := by decide +kernel
theorem dX12_readField_166 : decode cX12_readField 166 = .ok (.bipush 6, 2) := by decide +kernel
theorem dX12_readField_168 : decode cX12_readField 168 = .ok (.if_icmp .ge 42, 3) := by decide +kernel
theorem dX12_readField_171 : decode cX12_readField 171 = .ok (.aload_n 0, 1) := by decide +kernel
theorem dX12_readField_172 : decode cX12_readField 172 = .ok (.dup, 1) := by decide +kernel
theorem dX12_readField_173 : decode cX12_readField 173 = .ok (.getfield 80, 3) := by decide +kernel
theorem dX12_readField_176 : decode cX12_readField 176 = .ok (.iconst 1, 1) := by decide +kernel
theorem dX12_readField_177 : decode cX12_readField 177 = .ok (.iadd, 1) := by decide +kernel
theorem dX12_readField_178 : decode cX12_readField 178 = .ok (.putfield 80, 3) := by decide +kernel
theorem dX12_readField_181 : decode cX12_readField 181 = .ok (.aload_n 0, 1) := by decide +kernel
theorem dX12_readField_182 : decode cX12_readField 182 = .ok (.iload_n 3, 1) := by decide +kernel
theorem dX12_readField_183 : decode cX12_readField 183 = .ok (.aload_n 0, 1) := by decide +kernel
theorem dX12_readField_184 : decode cX12_readField 184 = .ok (.getfield 19, 3) := by decide +kernel
theorem dX12_readField_187 : decode cX12_readField 187 = .ok (.iconst 2, 1) := by decide +kernel
theorem dX12_readField_188 : decode cX12_readField 188 = .ok (.aload_n 0, 1) := by decide +kernel
theorem dX12_readField_189 : decode cX12_readField 189 = .ok (.getfield 123, 3) := by decide +kernel
theorem dX12_readField_192 : decode cX12_readField 192 = .ok (.imul, 1) := by decide +kernel
theorem dX12_readField_193 : decode cX12_readField 193 = .ok (.iconst 2, 1) := by decide +kernel
theorem dX12_readField_194 : decode cX12_readField 194 = .ok (.invokevirtual 126, 3) := by decide +kernel
theorem dX12_readField_197 : decode cX12_readField 197 = .ok (.aload_n 0, 1) := by decide +kernel
theorem dX12_readField_198 : decode cX12_readField 198 = .ok (.dup, 1) := by decide +kernel
theorem dX12_readField_199 : decode cX12_readField 199 = .ok (.getfield 123, 3) := by decide +kernel
theorem dX12_readField_202 : decode cX12_readField 202 = .ok (.iconst 1, 1) := by decide +kernel
theorem dX12_readField_203 : decode cX12_readField 203 = .ok (.iadd, 1) := by decide +kernel
theorem dX12_readField_204 : decode cX12_readField 204 = .ok (.putfield 123, 3) := by decide +kernel
theorem dX12_readField_207 : decode cX12_readField 207 = .ok (.goto 7, 3) := by decide +kernel
theorem dX12_readField_210 : decode cX12_readField 210 = .ok (.aload_n 0, 1) := by decide +kernel
theorem dX12_readField_211 : decode cX12_readField 211 = .ok (.invokevirtual 97, 3) := by decide +kernel
theorem dX12_readField_214 : decode cX12_readField 214 = .ok (.aload_n 0, 1) := by decide +kernel
theorem dX12_readField_215 : decode cX12_readField 215 = .ok (.getfield 87, 3) := by decide +kernel
theorem dX12_readField_218 : decode cX12_readField 218 = .ok (.iconst (-1), 1) := by decide +kernel
theorem dX12_readField_219 : decode cX12_readField 219 = .ok (.if_icmp .ne 16, 3) := by decide +kernel
theorem dX12_readField_222 : decode cX12_readField 222 = .ok (.aload_n 0, 1) := by decide +kernel
theorem dX12_readField_223 : decode cX12_readField 223 = .ok (.invokevirtual 90, 3) := by decide +kernel
theorem dX12_readField_226 : decode cX12_readField 226 = .ok (.bipush 59, 2) := by decide +kernel
theorem dX12_readField_228 : decode cX12_readField 228 = .ok (.if_icmp .ne 7, 3) := by decide +kernel
theorem dX12_readField_231 : decode cX12_readField 231 = .ok (.iconst 1, 1) := by decide +kernel
theorem dX12_readField_232 : decode cX12_readField 232 = .ok (.goto 4, 3) := by decide +kernel
theorem dX12_readField_235 : decode cX12_readField 235 = .ok (.iconst 0, 1) := by decide +kernel
theorem dX12_readField_236 : decode cX12_readField 236 = .ok (.istore_n 2, 1) := by decide +kernel
theorem dX12_readField_237 : decode cX12_readField 237 = .ok (.aload_n 0, 1) := by decide +kernel
theorem dX12_readField_238 : decode cX12_readField 238 = .ok (.dup, 1) := by decide +kernel
theorem dX12_readField_239 : decode cX12_readField 239 = .ok (.getfield 80, 3) := by decide +kernel
theorem dX12_readField_242 : decode cX12_readField 242 = .ok (.iload_n 2, 1) := by decide +kernel
theorem dX12_readField_243 : decode cX12_readField 243 = .ok (.ifCond .eq 7, 3) := by decide +kernel
theorem dX12_readField_246 : decode cX12_readField 246 = .ok (.iconst 1, 1) := by decide +kernel
theorem dX12_readField_247 : decode cX12_readField 247 = .ok (.goto 4, 3) := by decide +kernel
theorem dX12_readField_250 : decode cX12_readField 250 = .ok (.iconst 0, 1) := by decide +kernel
theorem dX12_readField_251 : decode cX12_readField 251 = .ok (.iadd, 1) := by decide +kernel
theorem dX12_readField_252 : decode cX12_readField 252 = .ok (.putfield 80, 3) := by decide +kernel
theorem dX12_readField_255 : decode cX12_readField 255 = .ok (.goto (-206), 3) := by decide +kernel
theorem dX12_readField_258 : decode cX12_readField 258 = .ok (.aload_n 0, 1) := by decide +kernel
theorem dX12_readField_259 : decode cX12_readField 259 = .ok (.getfield 87, 3) := by decide +kernel
theorem dX12_readField_262 : decode cX12_readField 262 = .ok (.iconst (-1), 1) := by decide +kernel
theorem dX12_readField_263 : decode cX12_readField 263 = .ok (.if_icmp .ne 22, 3) := by decide +kernel
theorem dX12_readField_266 : decode cX12_readField 266 = .ok (.aload_n 0, 1) := by decide +kernel
theorem dX12_readField_267 : decode cX12_readField 267 = .ok (.invokevirtual 90, 3) := by decide +kernel
theorem dX12_readField_270 : decode cX12_readField 270 = .ok (.iconst (-1), 1) := by decide +kernel
theorem dX12_readField_271 : decode cX12_readField 271 = .ok (.if_icmp .ne 10, 3) := by decide +kernel
theorem dX12_readField_274 : decode cX12_readField 274 = .ok (.aload_n 0, 1) := by decide +kernel
theorem dX12_readField_275 : decode cX12_readField 275 = .ok (.invokevirtual 130, 3) := by decide +kernel
theorem dX12_readField_278 : decode cX12_readField 278 = .ok (.ifCond .ne 7, 3) := by decide +kernel
theorem dX12_readField_281 : decode cX12_readField 281 = .ok (.aload_n 0, 1) := by decide +kernel
theorem dX12_readField_282 : decode cX12_readField 282 = .ok (.invokevirtual 97, 3) := by decide +kernel
theorem dX12_readField_285 : decode cX12_readField 285 = .ok (.aload_n 0, 1) := by decide +kernel
theorem dX12_readField_286 : decode cX12_readField 286 = .ok (.getfield 87, 3) := by decide +kernel
theorem dX12_readField_289 : decode cX12_readField 289 = .ok (.ireturn, 1) := by decide +kernel
theorem dX12_sortOf_0 : decode cX12_sortOf 0 = .ok (.iload_n 0, 1) := by decide +kernel
theorem dX12_sortOf_1 : decode cX12_sortOf 1 = .ok (.lookupswitch 71 #[(99, 69), (102, 65), (112, 59), (114, 61), (116, 63), (120, 67)], 59) := by decide +kernel
theorem dX12_sortOf_60 : decode cX12_sortOf 60 = .ok (.iconst 0, 1) := by decide +kernel
theorem dX12_sortOf_61 : decode cX12_sortOf 61 = .ok (.ireturn, 1) := by decide +kernel
theorem dX12_sortOf_62 : decode cX12_sortOf 62 = .ok (.iconst 1, 1) := by decide +kernel
theorem dX12_sortOf_63 : decode cX12_sortOf 63 = .ok (.ireturn, 1) := by decide +kernel
theorem dX12_sortOf_64 : decode cX12_sortOf 64 = .ok (.iconst 2, 1) := by decide +kernel
theorem dX12_sortOf_65 : decode cX12_sortOf 65 = .ok (.ireturn, 1) := by decide +kernel
theorem dX12_sortOf_66 : decode cX12_sortOf 66 = .ok (.iconst 3, 1) := by decide +kernel
theorem dX12_sortOf_67 : decode cX12_sortOf 67 = .ok (.ireturn, 1) := by decide +kernel
theorem dX12_sortOf_68 : decode cX12_sortOf 68 = .ok (.iconst 4, 1) := by decide +kernel
theorem dX12_sortOf_69 : decode cX12_sortOf 69 = .ok (.ireturn, 1) := by decide +kernel
theorem dX12_sortOf_70 : decode cX12_sortOf 70 = .ok (.iconst 5, 1) := by decide +kernel
theorem dX12_sortOf_71 : decode cX12_sortOf 71 = .ok (.ireturn, 1) := by decide +kernel
theorem dX12_sortOf_72 : decode cX12_sortOf 72 = .ok (.iconst (-1), 1) := by decide +kernel
theorem dX12_sortOf_73 : decode cX12_sortOf 73 = .ok (.ireturn, 1) := by decide +kernel
theorem dX12_readStep_0 : decode cX12_readStep 0 = .ok (.aload_n 0, 1) := by decide +kernel
theorem dX12_readStep_1 : decode cX12_readStep 1 = .ok (.invokevirtual 90, 3) := by decide +kernel
theorem dX12_readStep_4 : decode cX12_readStep 4 = .ok (.invokestatic 134, 3) := by decide +kernel
theorem dX12_readStep_7 : decode cX12_readStep 7 = .ok (.istore_n 2, 1) := by decide +kernel
theorem dX12_readStep_8 : decode cX12_readStep 8 = .ok (.iload_n 2, 1) := by decide +kernel
theorem dX12_readStep_9 : decode cX12_readStep 9 = .ok (.iconst (-1), 1) := by decide +kernel
theorem dX12_readStep_10 : decode cX12_readStep 10 = .ok (.if_icmp .ne 8, 3) := by decide +kernel
theorem dX12_readStep_13 : decode cX12_readStep 13 = .ok (.aload_n 0, 1) := by decide +kernel
theorem dX12_readStep_14 : decode cX12_readStep 14 = .ok (.invokevirtual 97, 3) := by decide +kernel
theorem dX12_readStep_17 : decode cX12_readStep 17 = .ok (.return_, 1) := by decide +kernel
theorem dX12_readStep_18 : decode cX12_readStep 18 = .ok (.aload_n 0, 1) := by decide +kernel
theorem dX12_readStep_19 : decode cX12_readStep 19 = .ok (.dup, 1) := by decide +kernel
theorem dX12_readStep_20 : decode cX12_readStep 20 = .ok (.getfield 80, 3) := by decide +kernel
theorem dX12_readStep_23 : decode cX12_readStep 23 = .ok (.iconst 1, 1) := by decide +kernel
theorem dX12_readStep_24 : decode cX12_readStep 24 = .ok (.iadd, 1) := by decide +kernel
theorem dX12_readStep_25 : decode cX12_readStep 25 = .ok (.putfield 80, 3) := by decide +kernel
theorem dX12_readStep_28 : decode cX12_readStep 28 = .ok (.aload_n 0, 1) := by decide +kernel
theorem dX12_readStep_29 : decode cX12_readStep 29 = .ok (.getfield 31, 3) := by decide +kernel
theorem dX12_readStep_32 : decode cX12_readStep 32 = .ok (.iload_n 1, 1) := by decide +kernel
theorem dX12_readStep_33 : decode cX12_readStep 33 = .ok (.iload_n 2, 1) := by decide +kernel
theorem dX12_readStep_34 : decode cX12_readStep 34 = .ok (.iastore, 1) := by decide +kernel
theorem dX12_readStep_35 : decode cX12_readStep 35 = .ok (.aload_n 0, 1) := by decide +kernel
theorem dX12_readStep_36 : decode cX12_readStep 36 = .ok (.getfield 31, 3) := by decide +kernel
theorem dX12_readStep_39 : decode cX12_readStep 39 = .ok (.iload_n 1, 1) := by decide +kernel
theorem dX12_readStep_40 : decode cX12_readStep 40 = .ok (.iconst 1, 1) := by decide +kernel
theorem dX12_readStep_41 : decode cX12_readStep 41 = .ok (.iadd, 1) := by decide +kernel
theorem dX12_readStep_42 : decode cX12_readStep 42 = .ok (.iconst (-1), 1) := by decide +kernel
theorem dX12_readStep_43 : decode cX12_readStep 43 = .ok (.iastore, 1) := by decide +kernel
theorem dX12_readStep_44 : decode cX12_readStep 44 = .ok (.iload_n 2, 1) := by decide +kernel
theorem dX12_readStep_45 : decode cX12_readStep 45 = .ok (.iconst 5, 1) := by decide +kernel
theorem dX12_readStep_46 : decode cX12_readStep 46 = .ok (.if_icmp .ne 22, 3) := by decide +kernel
theorem dX12_readStep_49 : decode cX12_readStep 49 = .ok (.aload_n 0, 1) := by decide +kernel
theorem dX12_readStep_50 : decode cX12_readStep 50 = .ok (.getfield 31, 3) := by decide +kernel
theorem dX12_readStep_53 : decode cX12_readStep 53 = .ok (.iload_n 1, 1) := by decide +kernel
theorem dX12_readStep_54 : decode cX12_readStep 54 = .ok (.iconst 1, 1) := by decide +kernel
theorem dX12_readStep_55 : decode cX12_readStep 55 = .ok (.iadd, 1) := by decide +kernel
theorem dX12_readStep_56 : decode cX12_readStep 56 = .ok (.aload_n 0, 1) := by decide +kernel
theorem dX12_readStep_57 : decode cX12_readStep 57 = .ok (.iconst 0, 1) := by decide +kernel
theorem dX12_readStep_58 : decode cX12_readStep 58 = .ok (.sipush 9999, 3) := by decide +kernel
theorem dX12_readStep_61 : decode cX12_readStep 61 = .ok (.invokevirtual 117, 3) := by decide +kernel
theorem dX12_readStep_64 : decode cX12_readStep 64 = .ok (.iastore, 1) := by decide +kernel
theorem dX12_readStep_65 : decode cX12_readStep 65 = .ok (.goto 48, 3) := by decide +kernel
theorem dX12_readStep_68 : decode cX12_readStep 68 = .ok (.iload_n 2, 1) := by decide +kernel
theorem dX12_readStep_69 : decode cX12_readStep 69 = .ok (.iconst 1, 1) := by decide +kernel
theorem dX12_readStep_70 : decode cX12_readStep 70 = .ok (.if_icmp .le 43, 3) := by decide +kernel
theorem dX12_readStep_73 : decode cX12_readStep 73 = .ok (.aload_n 0, 1) := by decide +kernel
theorem dX12_readStep_74 : decode cX12_readStep 74 = .ok (.invokevirtual 90, 3) := by decide +kernel
theorem dX12_readStep_77 : decode cX12_readStep 77 = .ok (.invokestatic 93, 3) := by decide +kernel
theorem dX12_readStep_80 : decode cX12_readStep 80 = .ok (.ifCond .ne 8, 3) := by decide +kernel
theorem dX12_readStep_83 : decode cX12_readStep 83 = .ok (.aload_n 0, 1) := by decide +kernel
theorem dX12_readStep_84 : decode cX12_readStep 84 = .ok (.invokevirtual 97, 3) := by decide +kernel
theorem dX12_readStep_87 : decode cX12_readStep 87 = .ok (.return_, 1) := by decide +kernel
theorem dX12_readStep_88 : decode cX12_readStep 88 = .ok (.aload_n 0, 1) := by decide +kernel
theorem dX12_readStep_89 : decode cX12_readStep 89 = .ok (.getfield 31, 3) := by decide +kernel
theorem dX12_readStep_92 : decode cX12_readStep 92 = .ok (.iload_n 1, 1) := by decide +kernel
theorem dX12_readStep_93 : decode cX12_readStep 93 = .ok (.iconst 1, 1) := by decide +kernel
theorem dX12_readStep_94 : decode cX12_readStep 94 = .ok (.iadd, 1) := by decide +kernel
theorem dX12_readStep_95 : decode cX12_readStep 95 = .ok (.aload_n 0, 1) := by decide +kernel
theorem dX12_readStep_96 : decode cX12_readStep 96 = .ok (.invokevirtual 83, 3) := by decide +kernel
theorem dX12_readStep_99 : decode cX12_readStep 99 = .ok (.bipush 48, 2) := by decide +kernel
theorem dX12_readStep_101 : decode cX12_readStep 101 = .ok (.isub, 1) := by decide +kernel
theorem dX12_readStep_102 : decode cX12_readStep 102 = .ok (.iastore, 1) := by decide +kernel
theorem dX12_readStep_103 : decode cX12_readStep 103 = .ok (.aload_n 0, 1) := by decide +kernel
theorem dX12_readStep_104 : decode cX12_readStep 104 = .ok (.dup, 1) := by decide +kernel
theorem dX12_readStep_105 : decode cX12_readStep 105 = .ok (.getfield 80, 3) := by decide +kernel
theorem dX12_readStep_108 : decode cX12_readStep 108 = .ok (.iconst 1, 1) := by decide +kernel
theorem dX12_readStep_109 : decode cX12_readStep 109 = .ok (.iadd, 1) := by decide +kernel
theorem dX12_readStep_110 : decode cX12_readStep 110 = .ok (.putfield 80, 3) := by decide +kernel
theorem dX12_readStep_113 : decode cX12_readStep 113 = .ok (.return_, 1) := by decide +kernel
theorem dX12_readScript_0 : decode cX12_readScript 0 = .ok (.aload_n 0, 1) := by decide +kernel
theorem dX12_readScript_1 : decode cX12_readScript 1 = .ok (.iconst 0, 1) := by decide +kernel
theorem dX12_readScript_2 : decode cX12_readScript 2 = .ok (.putfield 80, 3) := by decide +kernel
theorem dX12_readScript_5 : decode cX12_readScript 5 = .ok (.aload_n 0, 1) := by decide +kernel
theorem dX12_readScript_6 : decode cX12_readScript 6 = .ok (.iconst (-1), 1) := by decide +kernel
theorem dX12_readScript_7 : decode cX12_readScript 7 = .ok (.putfield 87, 3) := by decide +kernel
theorem dX12_readScript_10 : decode cX12_readScript 10 = .ok (.aload_n 0, 1) := by decide +kernel
theorem dX12_readScript_11 : decode cX12_readScript 11 = .ok (.getfield 34, 3) := by decide +kernel
theorem dX12_readScript_14 : decode cX12_readScript 14 = .ok (.iload_n 1, 1) := by decide +kernel
theorem dX12_readScript_15 : decode cX12_readScript 15 = .ok (.iconst 0, 1) := by decide +kernel
theorem dX12_readScript_16 : decode cX12_readScript 16 = .ok (.iastore, 1) := by decide +kernel
theorem dX12_readScript_17 : decode cX12_readScript 17 = .ok (.iconst 1, 1) := by decide +kernel
theorem dX12_readScript_18 : decode cX12_readScript 18 = .ok (.istore_n 2, 1) := by decide +kernel
theorem dX12_readScript_19 : decode cX12_readScript 19 = .ok (.iload_n 2, 1) := by decide +kernel
theorem dX12_readScript_20 : decode cX12_readScript 20 = .ok (.ifCond .eq 85, 3) := by decide +kernel
theorem dX12_readScript_23 : decode cX12_readScript 23 = .ok (.aload_n 0, 1) := by decide +kernel
theorem dX12_readScript_24 : decode cX12_readScript 24 = .ok (.iconst 2, 1) := by decide +kernel
theorem dX12_readScript_25 : decode cX12_readScript 25 = .ok (.bipush 16, 2) := by decide +kernel
theorem dX12_readScript_27 : decode cX12_readScript 27 = .ok (.iload_n 1, 1) := by decide +kernel
theorem dX12_readScript_28 : decode cX12_readScript 28 = .ok (.imul, 1) := by decide +kernel
theorem dX12_readScript_29 : decode cX12_readScript 29 = .ok (.aload_n 0, 1) := by decide +kernel
theorem dX12_readScript_30 : decode cX12_readScript 30 = .ok (.getfield 34, 3) := by decide +kernel
theorem dX12_readScript_33 : decode cX12_readScript 33 = .ok (.iload_n 1, 1) := by decide +kernel
theorem dX12_readScript_34 : decode cX12_readScript 34 = .ok (.iaload, 1) := by decide +kernel
theorem dX12_readScript_35 : decode cX12_readScript 35 = .ok (.iadd, 1) := by decide +kernel
theorem dX12_readScript_36 : decode cX12_readScript 36 = .ok (.imul, 1) := by decide +kernel
theorem dX12_readScript_37 : decode cX12_readScript 37 = .ok (.invokevirtual 138, 3) := by decide +kernel
theorem dX12_readScript_40 : decode cX12_readScript 40 = .ok (.aload_n 0, 1) := by decide +kernel
theorem dX12_readScript_41 : decode cX12_readScript 41 = .ok (.getfield 34, 3) := by decide +kernel
theorem dX12_readScript_44 : decode cX12_readScript 44 = .ok (.iload_n 1, 1) := by decide +kernel
theorem dX12_readScript_45 : decode cX12_readScript 45 = .ok (.dup2, 1) := by decide +kernel
theorem dX12_readScript_46 : decode cX12_readScript 46 = .ok (.iaload, 1) := by decide +kernel
theorem dX12_readScript_47 : decode cX12_readScript 47 = .ok (.iconst 1, 1) := by decide +kernel
theorem dX12_readScript_48 : decode cX12_readScript 48 = .ok (.iadd, 1) := by decide +kernel
theorem dX12_readScript_49 : decode cX12_readScript 49 = .ok (.iastore, 1) := by decide +kernel
theorem dX12_readScript_50 : decode cX12_readScript 50 = .ok (.aload_n 0, 1) := by decide +kernel
theorem dX12_readScript_51 : decode cX12_readScript 51 = .ok (.getfield 87, 3) := by decide +kernel
