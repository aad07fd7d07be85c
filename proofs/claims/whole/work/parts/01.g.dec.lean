/-! decode rows (printed by the kit) -/
theorem dX12_copiesIn_12 : decode cX12_copiesIn 12 = .ok (.iload_n 2, 1) := by decide +kernel
theorem dX12_copiesIn_13 : decode cX12_copiesIn 13 = .ok (.aload_n 0, 1) := by decide +kernel
theorem dX12_copiesIn_14 : decode cX12_copiesIn 14 = .ok (.iload_n 3, 1) := by decide +kernel
theorem dX12_copiesIn_15 : decode cX12_copiesIn 15 = .ok (.iload_n 1, 1) := by decide +kernel
theorem dX12_copiesIn_16 : decode cX12_copiesIn 16 = .ok (.invokevirtual 181, 3) := by decide +kernel
theorem dX12_copiesIn_19 : decode cX12_copiesIn 19 = .ok (.ifCond .eq 7, 3) := by decide +kernel
theorem dX12_copiesIn_22 : decode cX12_copiesIn 22 = .ok (.iconst 1, 1) := by decide +kernel
theorem dX12_copiesIn_23 : decode cX12_copiesIn 23 = .ok (.goto 4, 3) := by decide +kernel
theorem dX12_copiesIn_26 : decode cX12_copiesIn 26 = .ok (.iconst 0, 1) := by decide +kernel
theorem dX12_copiesIn_27 : decode cX12_copiesIn 27 = .ok (.iadd, 1) := by decide +kernel
theorem dX12_copiesIn_28 : decode cX12_copiesIn 28 = .ok (.istore_n 2, 1) := by decide +kernel
theorem dX12_copiesIn_29 : decode cX12_copiesIn 29 = .ok (.iinc 3 1, 3) := by decide +kernel
theorem dX12_copiesIn_32 : decode cX12_copiesIn 32 = .ok (.goto (-28), 3) := by decide +kernel
theorem dX12_copiesIn_35 : decode cX12_copiesIn 35 = .ok (.iload_n 2, 1) := by decide +kernel
theorem dX12_copiesIn_36 : decode cX12_copiesIn 36 = .ok (.ireturn, 1) := by decide +kernel
theorem dX12_slot_0 : decode cX12_slot 0 = .ok (.aload_n 0, 1) := by decide +kernel
theorem dX12_slot_1 : decode cX12_slot 1 = .ok (.iload_n 1, 1) := by decide +kernel
theorem dX12_slot_2 : decode cX12_slot 2 = .ok (.invokevirtual 231, 3) := by decide +kernel
theorem dX12_slot_5 : decode cX12_slot 5 = .ok (.ifCond .eq 12, 3) := by decide +kernel
theorem dX12_slot_8 : decode cX12_slot 8 = .ok (.iload_n 2, 1) := by decide +kernel
theorem dX12_slot_9 : decode cX12_slot 9 = .ok (.iconst 0, 1) := by decide +kernel
theorem dX12_slot_10 : decode cX12_slot 10 = .ok (.iconst 3, 1) := by decide +kernel
theorem dX12_slot_11 : decode cX12_slot 11 = .ok (.invokestatic 76, 3) := by decide +kernel
theorem dX12_slot_14 : decode cX12_slot 14 = .ok (.ifCond .ne 7, 3) := by decide +kernel
theorem dX12_slot_17 : decode cX12_slot 17 = .ok (.ldc_w 313, 3) := by decide +kernel
theorem dX12_slot_20 : decode cX12_slot 20 = .ok (.ireturn, 1) := by decide +kernel
theorem dX12_slot_21 : decode cX12_slot 21 = .ok (.iload_n 2, 1) := by decide +kernel
theorem dX12_slot_22 : decode cX12_slot 22 = .ok (.ifCond .ne 11, 3) := by decide +kernel
theorem dX12_slot_25 : decode cX12_slot 25 = .ok (.aload_n 0, 1) := by decide +kernel
theorem dX12_slot_26 : decode cX12_slot 26 = .ok (.iload_n 1, 1) := by decide +kernel
theorem dX12_slot_27 : decode cX12_slot 27 = .ok (.invokevirtual 326, 3) := by decide +kernel
theorem dX12_slot_30 : decode cX12_slot 30 = .ok (.goto 37, 3) := by decide +kernel
theorem dX12_slot_33 : decode cX12_slot 33 = .ok (.iload_n 2, 1) := by decide +kernel
theorem dX12_slot_34 : decode cX12_slot 34 = .ok (.iconst 1, 1) := by decide +kernel
theorem dX12_slot_35 : decode cX12_slot 35 = .ok (.if_icmp .ne 14, 3) := by decide +kernel
theorem dX12_slot_38 : decode cX12_slot 38 = .ok (.aload_n 0, 1) := by decide +kernel
theorem dX12_slot_39 : decode cX12_slot 39 = .ok (.iload_n 1, 1) := by decide +kernel
theorem dX12_slot_40 : decode cX12_slot 40 = .ok (.invokevirtual 192, 3) := by decide +kernel
theorem dX12_slot_43 : decode cX12_slot 43 = .ok (.invokestatic 157, 3) := by decide +kernel
theorem dX12_slot_46 : decode cX12_slot 46 = .ok (.goto 21, 3) := by decide +kernel
theorem dX12_slot_49 : decode cX12_slot 49 = .ok (.iload_n 2, 1) := by decide +kernel
theorem dX12_slot_50 : decode cX12_slot 50 = .ok (.iconst 2, 1) := by decide +kernel
theorem dX12_slot_51 : decode cX12_slot 51 = .ok (.if_icmp .ne 11, 3) := by decide +kernel
theorem dX12_slot_54 : decode cX12_slot 54 = .ok (.aload_n 0, 1) := by decide +kernel
theorem dX12_slot_55 : decode cX12_slot 55 = .ok (.iload_n 1, 1) := by decide +kernel
theorem dX12_slot_56 : decode cX12_slot 56 = .ok (.invokevirtual 192, 3) := by decide +kernel
theorem dX12_slot_59 : decode cX12_slot 59 = .ok (.goto 8, 3) := by decide +kernel
theorem dX12_slot_62 : decode cX12_slot 62 = .ok (.aload_n 0, 1) := by decide +kernel
theorem dX12_slot_63 : decode cX12_slot 63 = .ok (.iload_n 1, 1) := by decide +kernel
theorem dX12_slot_64 : decode cX12_slot 64 = .ok (.invokevirtual 201, 3) := by decide +kernel
theorem dX12_slot_67 : decode cX12_slot 67 = .ok (.ireturn, 1) := by decide +kernel
theorem dX12_frame_0 : decode cX12_frame 0 = .ok (.aload_n 0, 1) := by decide +kernel
theorem dX12_frame_1 : decode cX12_frame 1 = .ok (.invokevirtual 151, 3) := by decide +kernel
theorem dX12_frame_4 : decode cX12_frame 4 = .ok (.ifCond .eq 28, 3) := by decide +kernel
theorem dX12_frame_7 : decode cX12_frame 7 = .ok (.iload_n 1, 1) := by decide +kernel
theorem dX12_frame_8 : decode cX12_frame 8 = .ok (.iconst 0, 1) := by decide +kernel
theorem dX12_frame_9 : decode cX12_frame 9 = .ok (.aload_n 0, 1) := by decide +kernel
theorem dX12_frame_10 : decode cX12_frame 10 = .ok (.getfield 22, 3) := by decide +kernel
theorem dX12_frame_13 : decode cX12_frame 13 = .ok (.iconst 1, 1) := by decide +kernel
theorem dX12_frame_14 : decode cX12_frame 14 = .ok (.iaload, 1) := by decide +kernel
theorem dX12_frame_15 : decode cX12_frame 15 = .ok (.iconst 1, 1) := by decide +kernel
theorem dX12_frame_16 : decode cX12_frame 16 = .ok (.isub, 1) := by decide +kernel
theorem dX12_frame_17 : decode cX12_frame 17 = .ok (.invokestatic 76, 3) := by decide +kernel
theorem dX12_frame_20 : decode cX12_frame 20 = .ok (.ifCond .eq 12, 3) := by decide +kernel
theorem dX12_frame_23 : decode cX12_frame 23 = .ok (.iload_n 2, 1) := by decide +kernel
theorem dX12_frame_24 : decode cX12_frame 24 = .ok (.iconst 0, 1) := by decide +kernel
theorem dX12_frame_25 : decode cX12_frame 25 = .ok (.iconst 4, 1) := by decide +kernel
theorem dX12_frame_26 : decode cX12_frame 26 = .ok (.invokestatic 76, 3) := by decide +kernel
theorem dX12_frame_29 : decode cX12_frame 29 = .ok (.ifCond .ne 5, 3) := by decide +kernel
theorem dX12_frame_32 : decode cX12_frame 32 = .ok (.iconst (-1), 1) := by decide +kernel
theorem dX12_frame_33 : decode cX12_frame 33 = .ok (.ireturn, 1) := by decide +kernel
theorem dX12_frame_34 : decode cX12_frame 34 = .ok (.iconst 0, 1) := by decide +kernel
theorem dX12_frame_35 : decode cX12_frame 35 = .ok (.istore_n 3, 1) := by decide +kernel
theorem dX12_frame_36 : decode cX12_frame 36 = .ok (.iload_n 2, 1) := by decide +kernel
theorem dX12_frame_37 : decode cX12_frame 37 = .ok (.iconst 4, 1) := by decide +kernel
theorem dX12_frame_38 : decode cX12_frame 38 = .ok (.if_icmp .ne 70, 3) := by decide +kernel
theorem dX12_frame_41 : decode cX12_frame 41 = .ok (.aload_n 0, 1) := by decide +kernel
theorem dX12_frame_42 : decode cX12_frame 42 = .ok (.invokevirtual 329, 3) := by decide +kernel
theorem dX12_frame_45 : decode cX12_frame 45 = .ok (.aload_n 0, 1) := by decide +kernel
theorem dX12_frame_46 : decode cX12_frame 46 = .ok (.aload_n 0, 1) := by decide +kernel
theorem dX12_frame_47 : decode cX12_frame 47 = .ok (.invokevirtual 332, 3) := by decide +kernel
theorem dX12_frame_50 : decode cX12_frame 50 = .ok (.invokevirtual 335, 3) := by decide +kernel
theorem dX12_frame_53 : decode cX12_frame 53 = .ok (.istore 4, 2) := by decide +kernel
theorem dX12_frame_55 : decode cX12_frame 55 = .ok (.iconst 0, 1) := by decide +kernel
theorem dX12_frame_56 : decode cX12_frame 56 = .ok (.istore 5, 2) := by decide +kernel
theorem dX12_frame_58 : decode cX12_frame 58 = .ok (.iload 5, 2) := by decide +kernel
theorem dX12_frame_60 : decode cX12_frame 60 = .ok (.aload_n 0, 1) := by decide +kernel
theorem dX12_frame_61 : decode cX12_frame 61 = .ok (.getfield 148, 3) := by decide +kernel
theorem dX12_frame_64 : decode cX12_frame 64 = .ok (.if_icmp .ge 42, 3) := by decide +kernel
theorem dX12_frame_67 : decode cX12_frame 67 = .ok (.iload_n 3, 1) := by decide +kernel
theorem dX12_frame_68 : decode cX12_frame 68 = .ok (.aload_n 0, 1) := by decide +kernel
theorem dX12_frame_69 : decode cX12_frame 69 = .ok (.getfield 25, 3) := by decide +kernel
theorem dX12_frame_72 : decode cX12_frame 72 = .ok (.iconst 5, 1) := by decide +kernel
theorem dX12_frame_73 : decode cX12_frame 73 = .ok (.iload 5, 2) := by decide +kernel
theorem dX12_frame_75 : decode cX12_frame 75 = .ok (.imul, 1) := by decide +kernel
theorem dX12_frame_76 : decode cX12_frame 76 = .ok (.iconst 2, 1) := by decide +kernel
theorem dX12_frame_77 : decode cX12_frame 77 = .ok (.iadd, 1) := by decide +kernel
theorem dX12_frame_78 : decode cX12_frame 78 = .ok (.iaload, 1) := by decide +kernel
theorem dX12_frame_79 : decode cX12_frame 79 = .ok (.iload_n 1, 1) := by decide +kernel
theorem dX12_frame_80 : decode cX12_frame 80 = .ok (.if_icmp .ne 17, 3) := by decide +kernel
theorem dX12_frame_83 : decode cX12_frame 83 = .ok (.iload 4, 2) := by decide +kernel
theorem dX12_frame_85 : decode cX12_frame 85 = .ok (.iload 5, 2) := by decide +kernel
theorem dX12_frame_87 : decode cX12_frame 87 = .ok (.invokestatic 107, 3) := by decide +kernel
theorem dX12_frame_90 : decode cX12_frame 90 = .ok (.ifCond .eq 7, 3) := by decide +kernel
theorem dX12_frame_93 : decode cX12_frame 93 = .ok (.iconst 1, 1) := by decide +kernel
theorem dX12_frame_94 : decode cX12_frame 94 = .ok (.goto 4, 3) := by decide +kernel
theorem dX12_frame_97 : decode cX12_frame 97 = .ok (.iconst 0, 1) := by decide +kernel
theorem dX12_frame_98 : decode cX12_frame 98 = .ok (.iadd, 1) := by decide +kernel
theorem dX12_frame_99 : decode cX12_frame 99 = .ok (.istore_n 3, 1) := by decide +kernel
theorem dX12_frame_100 : decode cX12_frame 100 = .ok (.iinc 5 1, 3) := by decide +kernel
theorem dX12_frame_103 : decode cX12_frame 103 = .ok (.goto (-45), 3) := by decide +kernel
theorem dX12_frame_106 : decode cX12_frame 106 = .ok (.iload_n 3, 1) := by decide +kernel
theorem dX12_frame_107 : decode cX12_frame 107 = .ok (.ireturn, 1) := by decide +kernel
theorem dX12_frame_108 : decode cX12_frame 108 = .ok (.iconst 0, 1) := by decide +kernel
theorem dX12_frame_109 : decode cX12_frame 109 = .ok (.istore 4, 2) := by decide +kernel
theorem dX12_frame_111 : decode cX12_frame 111 = .ok (.iload 4, 2) := by decide +kernel
theorem dX12_frame_113 : decode cX12_frame 113 = .ok (.aload_n 0, 1) := by decide +kernel
theorem dX12_frame_114 : decode cX12_frame 114 = .ok (.getfield 148, 3) := by decide +kernel
theorem dX12_frame_117 : decode cX12_frame 117 = .ok (.if_icmp .ge 50, 3) := by decide +kernel
theorem dX12_frame_120 : decode cX12_frame 120 = .ok (.iload_n 2, 1) := by decide +kernel
theorem dX12_frame_121 : decode cX12_frame 121 = .ok (.iconst 2, 1) := by decide +kernel
theorem dX12_frame_122 : decode cX12_frame 122 = .ok (.if_icmp .ge 45, 3) := by decide +kernel
theorem dX12_frame_125 : decode cX12_frame 125 = .ok (.iload_n 3, 1) := by decide +kernel
theorem dX12_frame_126 : decode cX12_frame 126 = .ok (.aload_n 0, 1) := by decide +kernel
theorem dX12_frame_127 : decode cX12_frame 127 = .ok (.getfield 25, 3) := by decide +kernel
theorem dX12_frame_130 : decode cX12_frame 130 = .ok (.iconst 5, 1) := by decide +kernel
theorem dX12_frame_131 : decode cX12_frame 131 = .ok (.iload 4, 2) := by decide +kernel
theorem dX12_frame_133 : decode cX12_frame 133 = .ok (.imul, 1) := by decide +kernel
theorem dX12_frame_134 : decode cX12_frame 134 = .ok (.iconst 2, 1) := by decide +kernel
theorem dX12_frame_135 : decode cX12_frame 135 = .ok (.iadd, 1) := by decide +kernel
theorem dX12_frame_136 : decode cX12_frame 136 = .ok (.iaload, 1) := by decide +kernel
theorem dX12_frame_137 : decode cX12_frame 137 = .ok (.iload_n 1, 1) := by decide +kernel
theorem dX12_frame_138 : decode cX12_frame 138 = .ok (.if_icmp .ne 20, 3) := by decide +kernel
theorem dX12_frame_141 : decode cX12_frame 141 = .ok (.iload_n 2, 1) := by decide +kernel
theorem dX12_frame_142 : decode cX12_frame 142 = .ok (.ifCond .eq 12, 3) := by decide +kernel
theorem dX12_frame_145 : decode cX12_frame 145 = .ok (.aload_n 0, 1) := by decide +kernel
theorem dX12_frame_146 : decode cX12_frame 146 = .ok (.iload 4, 2) := by decide +kernel
theorem dX12_frame_148 : decode cX12_frame 148 = .ok (.invokevirtual 178, 3) := by decide +kernel
theorem dX12_frame_151 : decode cX12_frame 151 = .ok (.ifCond .ne 7, 3) := by decide +kernel
theorem dX12_frame_154 : decode cX12_frame 154 = .ok (.iconst 1, 1) := by decide +kernel
theorem dX12_frame_155 : decode cX12_frame 155 = .ok (.goto 4, 3) := by decide +kernel
theorem dX12_frame_158 : decode cX12_frame 158 = .ok (.iconst 0, 1) := by decide +kernel
theorem dX12_frame_159 : decode cX12_frame 159 = .ok (.iadd, 1) := by decide +kernel
theorem dX12_frame_160 : decode cX12_frame 160 = .ok (.istore_n 3, 1) := by decide +kernel
theorem dX12_frame_161 : decode cX12_frame 161 = .ok (.iinc 4 1, 3) := by decide +kernel
theorem dX12_frame_164 : decode cX12_frame 164 = .ok (.goto (-53), 3) := by decide +kernel
theorem dX12_frame_167 : decode cX12_frame 167 = .ok (.aload_n 0, 1) := by decide +kernel
theorem dX12_frame_168 : decode cX12_frame 168 = .ok (.getfield 22, 3) := by decide +kernel
theorem dX12_frame_171 : decode cX12_frame 171 = .ok (.iconst 0, 1) := by decide +kernel
theorem dX12_frame_172 : decode cX12_frame 172 = .ok (.iaload, 1) := by decide +kernel
theorem dX12_frame_173 : decode cX12_frame 173 = .ok (.iload_n 1, 1) := by decide +kernel
theorem dX12_frame_174 : decode cX12_frame 174 = .ok (.imul, 1) := by decide +kernel
theorem dX12_frame_175 : decode cX12_frame 175 = .ok (.istore 4, 2) := by decide +kernel
theorem dX12_frame_177 : decode cX12_frame 177 = .ok (.iload 4, 2) := by decide +kernel
theorem dX12_frame_179 : decode cX12_frame 179 = .ok (.aload_n 0, 1) := by decide +kernel
theorem dX12_frame_180 : decode cX12_frame 180 = .ok (.getfield 22, 3) := by decide +kernel
theorem dX12_frame_183 : decode cX12_frame 183 = .ok (.iconst 0, 1) := by decide +kernel
theorem dX12_frame_184 : decode cX12_frame 184 = .ok (.iaload, 1) := by decide +kernel
theorem dX12_frame_185 : decode cX12_frame 185 = .ok (.iload_n 1, 1) := by decide +kernel
theorem dX12_frame_186 : decode cX12_frame 186 = .ok (.iconst 1, 1) := by decide +kernel
theorem dX12_frame_187 : decode cX12_frame 187 = .ok (.iadd, 1) := by decide +kernel
theorem dX12_frame_188 : decode cX12_frame 188 = .ok (.imul, 1) := by decide +kernel
theorem dX12_frame_189 : decode cX12_frame 189 = .ok (.if_icmp .ge 45, 3) := by decide +kernel
theorem dX12_frame_192 : decode cX12_frame 192 = .ok (.iload_n 2, 1) := by decide +kernel
theorem dX12_frame_193 : decode cX12_frame 193 = .ok (.iconst 1, 1) := by decide +kernel
theorem dX12_frame_194 : decode cX12_frame 194 = .ok (.if_icmp .le 40, 3) := by decide +kernel
theorem dX12_frame_197 : decode cX12_frame 197 = .ok (.iload_n 3, 1) := by decide +kernel
theorem dX12_frame_198 : decode cX12_frame 198 = .ok (.iload_n 2, 1) := by decide +kernel
theorem dX12_frame_199 : decode cX12_frame 199 = .ok (.iconst 2, 1) := by decide +kernel
theorem dX12_frame_200 : decode cX12_frame 200 = .ok (.if_icmp .ne 12, 3) := by decide +kernel
theorem dX12_frame_203 : decode cX12_frame 203 = .ok (.aload_n 0, 1) := by decide +kernel
theorem dX12_frame_204 : decode cX12_frame 204 = .ok (.iload 4, 2) := by decide +kernel
theorem dX12_frame_206 : decode cX12_frame 206 = .ok (.invokevirtual 326, 3) := by decide +kernel
theorem dX12_frame_209 : decode cX12_frame 209 = .ok (.goto 17, 3) := by decide +kernel
theorem dX12_frame_212 : decode cX12_frame 212 = .ok (.aload_n 0, 1) := by decide +kernel
theorem dX12_frame_213 : decode cX12_frame 213 = .ok (.iload 4, 2) := by decide +kernel
theorem dX12_frame_215 : decode cX12_frame 215 = .ok (.invokevirtual 201, 3) := by decide +kernel
theorem dX12_frame_218 : decode cX12_frame 218 = .ok (.ifCond .eq 7, 3) := by decide +kernel
theorem dX12_frame_221 : decode cX12_frame 221 = .ok (.iconst 1, 1) := by decide +kernel
theorem dX12_frame_222 : decode cX12_frame 222 = .ok (.goto 4, 3) := by decide +kernel
theorem dX12_frame_225 : decode cX12_frame 225 = .ok (.iconst 0, 1) := by decide +kernel
theorem dX12_frame_226 : decode cX12_frame 226 = .ok (.iadd, 1) := by decide +kernel
theorem dX12_frame_227 : decode cX12_frame 227 = .ok (.istore_n 3, 1) := by decide +kernel
theorem dX12_frame_228 : decode cX12_frame 228 = .ok (.iinc 4 1, 3) := by decide +kernel
theorem dX12_frame_231 : decode cX12_frame 231 = .ok (.goto (-54), 3) := by decide +kernel
theorem dX12_frame_234 : decode cX12_frame 234 = .ok (.iload_n 3, 1) := by decide +kernel
theorem dX12_frame_235 : decode cX12_frame 235 = .ok (.ireturn, 1) := by decide +kernel
theorem dX12_senders_0 : decode cX12_senders 0 = .ok (.aload_n 0, 1) := by decide +kernel
theorem dX12_senders_1 : decode cX12_senders 1 = .ok (.invokevirtual 151, 3) := by decide +kernel
theorem dX12_senders_4 : decode cX12_senders 4 = .ok (.ifCond .eq 13, 3) := by decide +kernel
theorem dX12_senders_7 : decode cX12_senders 7 = .ok (.iload_n 1, 1) := by decide +kernel
theorem dX12_senders_8 : decode cX12_senders 8 = .ok (.iconst 0, 1) := by decide +kernel
theorem dX12_senders_9 : decode cX12_senders 9 = .ok (.bipush 24, 2) := by decide +kernel
theorem dX12_senders_11 : decode cX12_senders 11 = .ok (.invokestatic 76, 3) := by decide +kernel
theorem dX12_senders_14 : decode cX12_senders 14 = .ok (.ifCond .ne 5, 3) := by decide +kernel
theorem dX12_senders_17 : decode cX12_senders 17 = .ok (.iconst (-1), 1) := by decide +kernel
theorem dX12_senders_18 : decode cX12_senders 18 = .ok (.ireturn, 1) := by decide +kernel
theorem dX12_senders_19 : decode cX12_senders 19 = .ok (.iconst 0, 1) := by decide +kernel
theorem dX12_senders_20 : decode cX12_senders 20 = .ok (.istore_n 2, 1) := by decide +kernel
theorem dX12_senders_21 : decode cX12_senders 21 = .ok (.iconst 0, 1) := by decide +kernel
theorem dX12_senders_22 : decode cX12_senders 22 = .ok (.istore_n 3, 1) := by decide +kernel
theorem dX12_senders_23 : decode cX12_senders 23 = .ok (.iload_n 3, 1) := by decide +kernel
theorem dX12_senders_24 : decode cX12_senders 24 = .ok (.aload_n 0, 1) := by decide +kernel
theorem dX12_senders_25 : decode cX12_senders 25 = .ok (.getfield 148, 3) := by decide +kernel
theorem dX12_senders_28 : decode cX12_senders 28 = .ok (.if_icmp .ge 26, 3) := by decide +kernel
theorem dX12_senders_31 : decode cX12_senders 31 = .ok (.iload_n 2, 1) := by decide +kernel
theorem dX12_senders_32 : decode cX12_senders 32 = .ok (.aload_n 0, 1) := by decide +kernel
theorem dX12_senders_33 : decode cX12_senders 33 = .ok (.iload_n 3, 1) := by decide +kernel
theorem dX12_senders_34 : decode cX12_senders 34 = .ok (.invokevirtual 270, 3) := by decide +kernel
theorem dX12_senders_37 : decode cX12_senders 37 = .ok (.iload_n 1, 1) := by decide +kernel
theorem dX12_senders_38 : decode cX12_senders 38 = .ok (.if_icmp .ne 7, 3) := by decide +kernel
theorem dX12_senders_41 : decode cX12_senders 41 = .ok (.iconst 1, 1) := by decide +kernel
theorem dX12_senders_42 : decode cX12_senders 42 = .ok (.goto 4, 3) := by decide +kernel
theorem dX12_senders_45 : decode cX12_senders 45 = .ok (.iconst 0, 1) := by decide +kernel
theorem dX12_senders_46 : decode cX12_senders 46 = .ok (.iadd, 1) := by decide +kernel
theorem dX12_senders_47 : decode cX12_senders 47 = .ok (.istore_n 2, 1) := by decide +kernel
theorem dX12_senders_48 : decode cX12_senders 48 = .ok (.iinc 3 1, 3) := by decide +kernel
theorem dX12_senders_51 : decode cX12_senders 51 = .ok (.goto (-28), 3) := by decide +kernel
theorem dX12_senders_54 : decode cX12_senders 54 = .ok (.iload_n 2, 1) := by decide +kernel
theorem dX12_senders_55 : decode cX12_senders 55 = .ok (.ireturn, 1) := by decide +kernel
theorem dX12_touches_0 : decode cX12_touches 0 = .ok (.aload_n 0, 1) := by decide +kernel
theorem dX12_touches_1 : decode cX12_touches 1 = .ok (.getfield 37, 3) := by decide +kernel
theorem dX12_touches_4 : decode cX12_touches 4 = .ok (.bipush 10, 2) := by decide +kernel
theorem dX12_touches_6 : decode cX12_touches 6 = .ok (.iload_n 1, 1) := by decide +kernel
theorem dX12_touches_7 : decode cX12_touches 7 = .ok (.iadd, 1) := by decide +kernel
theorem dX12_touches_8 : decode cX12_touches 8 = .ok (.iaload, 1) := by decide +kernel
theorem dX12_touches_9 : decode cX12_touches 9 = .ok (.aload_n 0, 1) := by decide +kernel
theorem dX12_touches_10 : decode cX12_touches 10 = .ok (.getfield 37, 3) := by decide +kernel
theorem dX12_touches_13 : decode cX12_touches 13 = .ok (.bipush 10, 2) := by decide +kernel
theorem dX12_touches_15 : decode cX12_touches 15 = .ok (.iload_n 2, 1) := by decide +kernel
theorem dX12_touches_16 : decode cX12_touches 16 = .ok (.iadd, 1) := by decide +kernel
theorem dX12_touches_17 : decode cX12_touches 17 = .ok (.iaload, 1) := by decide +kernel
theorem dX12_touches_18 : decode cX12_touches 18 = .ok (.iand, 1) := by decide +kernel
theorem dX12_touches_19 : decode cX12_touches 19 = .ok (.invokestatic 157, 3) := by decide +kernel
theorem dX12_touches_22 : decode cX12_touches 22 = .ok (.aload_n 0, 1) := by decide +kernel
theorem dX12_touches_23 : decode cX12_touches 23 = .ok (.getfield 37, 3) := by decide +kernel
theorem dX12_touches_26 : decode cX12_touches 26 = .ok (.bipush 20, 2) := by decide +kernel
theorem dX12_touches_28 : decode cX12_touches 28 = .ok (.iload_n 1, 1) := by decide +kernel
theorem dX12_touches_29 : decode cX12_touches 29 = .ok (.iadd, 1) := by decide +kernel
theorem dX12_touches_30 : decode cX12_touches 30 = .ok (.iaload, 1) := by decide +kernel
theorem dX12_touches_31 : decode cX12_touches 31 = .ok (.aload_n 0, 1) := by decide +kernel
theorem dX12_touches_32 : decode cX12_touches 32 = .ok (.getfield 37, 3) := by decide +kernel
theorem dX12_touches_35 : decode cX12_touches 35 = .ok (.bipush 20, 2) := by decide +kernel
theorem dX12_touches_37 : decode cX12_touches 37 = .ok (.iload_n 2, 1) := by decide +kernel
theorem dX12_touches_38 : decode cX12_touches 38 = .ok (.iadd, 1) := by decide +kernel
theorem dX12_touches_39 : decode cX12_touches 39 = .ok (.iaload, 1) := by decide +kernel
theorem dX12_touches_40 : decode cX12_touches 40 = .ok (.iand, 1) := by decide +kernel
theorem dX12_touches_41 : decode cX12_touches 41 = .ok (.invokestatic 157, 3) := by decide +kernel
theorem dX12_touches_44 : decode cX12_touches 44 = .ok (.iadd, 1) := by decide +kernel
theorem dX12_touches_45 : decode cX12_touches 45 = .ok (.ireturn, 1) := by decide +kernel
theorem dX12_touch_0 : decode cX12_touch 0 = .ok (.aload_n 0, 1) := by decide +kernel
theorem dX12_touch_1 : decode cX12_touch 1 = .ok (.iload_n 1, 1) := by decide +kernel
theorem dX12_touch_2 : decode cX12_touch 2 = .ok (.invokevirtual 228, 3) := by decide +kernel
theorem dX12_touch_5 : decode cX12_touch 5 = .ok (.ifCond .eq 41, 3) := by decide +kernel
theorem dX12_touch_8 : decode cX12_touch 8 = .ok (.aload_n 0, 1) := by decide +kernel
theorem dX12_touch_9 : decode cX12_touch 9 = .ok (.iload_n 2, 1) := by decide +kernel
theorem dX12_touch_10 : decode cX12_touch 10 = .ok (.invokevirtual 228, 3) := by decide +kernel
theorem dX12_touch_13 : decode cX12_touch 13 = .ok (.ifCond .eq 33, 3) := by decide +kernel
theorem dX12_touch_16 : decode cX12_touch 16 = .ok (.iload_n 1, 1) := by decide +kernel
theorem dX12_touch_17 : decode cX12_touch 17 = .ok (.iload_n 2, 1) := by decide +kernel
theorem dX12_touch_18 : decode cX12_touch 18 = .ok (.if_icmp .eq 28, 3) := by decide +kernel
theorem dX12_touch_21 : decode cX12_touch 21 = .ok (.aload_n 0, 1) := by decide +kernel
theorem dX12_touch_22 : decode cX12_touch 22 = .ok (.iload_n 1, 1) := by decide +kernel
theorem dX12_touch_23 : decode cX12_touch 23 = .ok (.invokevirtual 178, 3) := by decide +kernel
theorem dX12_touch_26 : decode cX12_touch 26 = .ok (.ifCond .eq 20, 3) := by decide +kernel
theorem dX12_touch_29 : decode cX12_touch 29 = .ok (.aload_n 0, 1) := by decide +kernel
theorem dX12_touch_30 : decode cX12_touch 30 = .ok (.iload_n 2, 1) := by decide +kernel
theorem dX12_touch_31 : decode cX12_touch 31 = .ok (.invokevirtual 178, 3) := by decide +kernel
theorem dX12_touch_34 : decode cX12_touch 34 = .ok (.ifCond .eq 12, 3) := by decide +kernel
theorem dX12_touch_37 : decode cX12_touch 37 = .ok (.aload_n 0, 1) := by decide +kernel
theorem dX12_touch_38 : decode cX12_touch 38 = .ok (.iload_n 1, 1) := by decide +kernel
theorem dX12_touch_39 : decode cX12_touch 39 = .ok (.iload_n 2, 1) := by decide +kernel
theorem dX12_touch_40 : decode cX12_touch 40 = .ok (.invokevirtual 338, 3) := by decide +kernel
theorem dX12_touch_43 : decode cX12_touch 43 = .ok (.goto 4, 3) := by decide +kernel
theorem dX12_touch_46 : decode cX12_touch 46 = .ok (.iconst (-1), 1) := by decide +kernel
theorem dX12_touch_47 : decode cX12_touch 47 = .ok (.ireturn, 1) := by decide +kernel
theorem dX12_parts_0 : decode cX12_parts 0 = .ok (.aload_n 0, 1) := by decide +kernel
theorem dX12_parts_1 : decode cX12_parts 1 = .ok (.invokevirtual 332, 3) := by decide +kernel
theorem dX12_parts_4 : decode cX12_parts 4 = .ok (.istore_n 1, 1) := by decide +kernel
theorem dX12_parts_5 : decode cX12_parts 5 = .ok (.iconst 0, 1) := by decide +kernel
theorem dX12_parts_6 : decode cX12_parts 6 = .ok (.istore_n 2, 1) := by decide +kernel
theorem dX12_parts_7 : decode cX12_parts 7 = .ok (.iload_n 1, 1) := by decide +kernel
theorem dX12_parts_8 : decode cX12_parts 8 = .ok (.ifCond .eq 111, 3) := by decide +kernel
theorem dX12_parts_11 : decode cX12_parts 11 = .ok (.iload_n 1, 1) := by decide +kernel
theorem dX12_parts_12 : decode cX12_parts 12 = .ok (.iload_n 1, 1) := by decide +kernel
theorem dX12_parts_13 : decode cX12_parts 13 = .ok (.ineg, 1) := by decide +kernel
theorem dX12_parts_14 : decode cX12_parts 14 = .ok (.iand, 1) := by decide +kernel
theorem dX12_parts_15 : decode cX12_parts 15 = .ok (.istore_n 3, 1) := by decide +kernel
theorem dX12_parts_16 : decode cX12_parts 16 = .ok (.iconst 0, 1) := by decide +kernel
theorem dX12_parts_17 : decode cX12_parts 17 = .ok (.istore 4, 2) := by decide +kernel
theorem dX12_parts_19 : decode cX12_parts 19 = .ok (.iload_n 3, 1) := by decide +kernel
theorem dX12_parts_20 : decode cX12_parts 20 = .ok (.iload 4, 2) := by decide +kernel
theorem dX12_parts_22 : decode cX12_parts 22 = .ok (.if_icmp .eq 85, 3) := by decide +kernel
theorem dX12_parts_25 : decode cX12_parts 25 = .ok (.iload_n 3, 1) := by decide +kernel
theorem dX12_parts_26 : decode cX12_parts 26 = .ok (.istore 4, 2) := by decide +kernel
theorem dX12_parts_28 : decode cX12_parts 28 = .ok (.iconst 0, 1) := by decide +kernel
theorem dX12_parts_29 : decode cX12_parts 29 = .ok (.istore 5, 2) := by decide +kernel
theorem dX12_parts_31 : decode cX12_parts 31 = .ok (.iload 5, 2) := by decide +kernel
theorem dX12_parts_33 : decode cX12_parts 33 = .ok (.aload_n 0, 1) := by decide +kernel
theorem dX12_parts_34 : decode cX12_parts 34 = .ok (.getfield 148, 3) := by decide +kernel
theorem dX12_parts_37 : decode cX12_parts 37 = .ok (.if_icmp .ge 67, 3) := by decide +kernel
theorem dX12_parts_40 : decode cX12_parts 40 = .ok (.iconst 0, 1) := by decide +kernel
theorem dX12_parts_41 : decode cX12_parts 41 = .ok (.istore 6, 2) := by decide +kernel
theorem dX12_parts_43 : decode cX12_parts 43 = .ok (.iload 6, 2) := by decide +kernel
theorem dX12_parts_45 : decode cX12_parts 45 = .ok (.aload_n 0, 1) := by decide +kernel
theorem dX12_parts_46 : decode cX12_parts 46 = .ok (.getfield 148, 3) := by decide +kernel
theorem dX12_parts_49 : decode cX12_parts 49 = .ok (.if_icmp .ge 49, 3) := by decide +kernel
theorem dX12_parts_52 : decode cX12_parts 52 = .ok (.iload_n 3, 1) := by decide +kernel
theorem dX12_parts_53 : decode cX12_parts 53 = .ok (.iload_n 3, 1) := by decide +kernel
theorem dX12_parts_54 : decode cX12_parts 54 = .ok (.iload 5, 2) := by decide +kernel
theorem dX12_parts_56 : decode cX12_parts 56 = .ok (.invokestatic 107, 3) := by decide +kernel
theorem dX12_parts_59 : decode cX12_parts 59 = .ok (.ifCond .eq 30, 3) := by decide +kernel
theorem dX12_parts_62 : decode cX12_parts 62 = .ok (.iload_n 1, 1) := by decide +kernel
theorem dX12_parts_63 : decode cX12_parts 63 = .ok (.iload 6, 2) := by decide +kernel
theorem dX12_parts_65 : decode cX12_parts 65 = .ok (.invokestatic 107, 3) := by decide +kernel
theorem dX12_parts_68 : decode cX12_parts 68 = .ok (.ifCond .eq 21, 3) := by decide +kernel
theorem dX12_parts_71 : decode cX12_parts 71 = .ok (.aload_n 0, 1) := by decide +kernel
theorem dX12_parts_72 : decode cX12_parts 72 = .ok (.iload 5, 2) := by decide +kernel
theorem dX12_parts_74 : decode cX12_parts 74 = .ok (.iload 6, 2) := by decide +kernel
theorem dX12_parts_76 : decode cX12_parts 76 = .ok (.invokevirtual 338, 3) := by decide +kernel
theorem dX12_parts_79 : decode cX12_parts 79 = .ok (.ifCond .le 10, 3) := by decide +kernel
theorem dX12_parts_82 : decode cX12_parts 82 = .ok (.iconst 1, 1) := by decide +kernel
theorem dX12_parts_83 : decode cX12_parts 83 = .ok (.iload 6, 2) := by decide +kernel
theorem dX12_parts_85 : decode cX12_parts 85 = .ok (.ishl, 1) := by decide +kernel
theorem dX12_parts_86 : decode cX12_parts 86 = .ok (.goto 4, 3) := by decide +kernel
theorem dX12_parts_89 : decode cX12_parts 89 = .ok (.iconst 0, 1) := by decide +kernel
theorem dX12_parts_90 : decode cX12_parts 90 = .ok (.ior, 1) := by decide +kernel
theorem dX12_parts_91 : decode cX12_parts 91 = .ok (.istore_n 3, 1) := by decide +kernel
theorem dX12_parts_92 : decode cX12_parts 92 = .ok (.iinc 6 1, 3) := by decide +kernel
theorem dX12_parts_95 : decode cX12_parts 95 = .ok (.goto (-52), 3) := by decide +kernel
theorem dX12_parts_98 : decode cX12_parts 98 = .ok (.iinc 5 1, 3) := by decide +kernel
theorem dX12_parts_101 : decode cX12_parts 101 = .ok (.goto (-70), 3) := by decide +kernel
theorem dX12_parts_104 : decode cX12_parts 104 = .ok (.goto (-85), 3) := by decide +kernel
theorem dX12_parts_107 : decode cX12_parts 107 = .ok (.iload_n 1, 1) := by decide +kernel
theorem dX12_parts_108 : decode cX12_parts 108 = .ok (.iload_n 3, 1) := by decide +kernel
theorem dX12_parts_109 : decode cX12_parts 109 = .ok (.iconst (-1), 1) := by decide +kernel
theorem dX12_parts_110 : decode cX12_parts 110 = .ok (.ixor, 1) := by decide +kernel
theorem dX12_parts_111 : decode cX12_parts 111 = .ok (.iand, 1) := by decide +kernel
theorem dX12_parts_112 : decode cX12_parts 112 = .ok (.istore_n 1, 1) := by decide +kernel
theorem dX12_parts_113 : decode cX12_parts 113 = .ok (.iinc 2 1, 3) := by decide +kernel
theorem dX12_parts_116 : decode cX12_parts 116 = .ok (.goto (-109), 3) := by decide +kernel
theorem dX12_parts_119 : decode cX12_parts 119 = .ok (.iload_n 2, 1) := by decide +kernel
theorem dX12_parts_120 : decode cX12_parts 120 = .ok (.ireturn, 1) := by decide +kernel
theorem dX12_load_0 : decode cX12_load 0 = .ok (.aload_n 0, 1) := by decide +kernel
theorem dX12_load_1 : decode cX12_load 1 = .ok (.invokevirtual 151, 3) := by decide +kernel
theorem dX12_load_4 : decode cX12_load 4 = .ok (.ifCond .eq 28, 3) := by decide +kernel
theorem dX12_load_7 : decode cX12_load 7 = .ok (.iload_n 1, 1) := by decide +kernel
theorem dX12_load_8 : decode cX12_load 8 = .ok (.iconst 0, 1) := by decide +kernel
theorem dX12_load_9 : decode cX12_load 9 = .ok (.sipush 999, 3) := by decide +kernel
theorem dX12_load_12 : decode cX12_load 12 = .ok (.invokestatic 76, 3) := by decide +kernel
theorem dX12_load_15 : decode cX12_load 15 = .ok (.ifCond .eq 17, 3) := by decide +kernel
theorem dX12_load_18 : decode cX12_load 18 = .ok (.iload_n 1, 1) := by decide +kernel
theorem dX12_load_19 : decode cX12_load 19 = .ok (.aload_n 0, 1) := by decide +kernel
theorem dX12_load_20 : decode cX12_load 20 = .ok (.getfield 148, 3) := by decide +kernel
theorem dX12_load_23 : decode cX12_load 23 = .ok (.imul, 1) := by decide +kernel
theorem dX12_load_24 : decode cX12_load 24 = .ok (.aload_n 0, 1) := by decide +kernel
theorem dX12_load_25 : decode cX12_load 25 = .ok (.invokevirtual 154, 3) := by decide +kernel
theorem dX12_load_28 : decode cX12_load 28 = .ok (.idiv, 1) := by decide +kernel
theorem dX12_load_29 : decode cX12_load 29 = .ok (.goto 4, 3) := by decide +kernel
theorem dX12_load_32 : decode cX12_load 32 = .ok (.iconst (-1), 1) := by decide +kernel
theorem dX12_load_33 : decode cX12_load 33 = .ok (.ireturn, 1) := by decide +kernel
theorem dX12_putAside_0 : decode cX12_putAside 0 = .ok (.iconst 0, 1) := by decide +kernel
theorem dX12_putAside_1 : decode cX12_putAside 1 = .ok (.istore_n 1, 1) := by decide +kernel
theorem dX12_putAside_2 : decode cX12_putAside 2 = .ok (.iload_n 1, 1) := by decide +kernel
theorem dX12_putAside_3 : decode cX12_putAside 3 = .ok (.bipush 31, 2) := by decide +kernel
theorem dX12_putAside_5 : decode cX12_putAside 5 = .ok (.if_icmp .ge 21, 3) := by decide +kernel
theorem dX12_putAside_8 : decode cX12_putAside 8 = .ok (.aload_n 0, 1) := by decide +kernel
theorem dX12_putAside_9 : decode cX12_putAside 9 = .ok (.getfield 53, 3) := by decide +kernel
theorem dX12_putAside_12 : decode cX12_putAside 12 = .ok (.iload_n 1, 1) := by decide +kernel
theorem dX12_putAside_13 : decode cX12_putAside 13 = .ok (.aload_n 0, 1) := by decide +kernel
theorem dX12_putAside_14 : decode cX12_putAside 14 = .ok (.getfield 37, 3) := by decide +kernel
theorem dX12_putAside_17 : decode cX12_putAside 17 = .ok (.iload_n 1, 1) := by decide +kernel
theorem dX12_putAside_18 : decode cX12_putAside 18 = .ok (.iaload, 1) := by decide +kernel
theorem dX12_putAside_19 : decode cX12_putAside 19 = .ok (.iastore, 1) := by decide +kernel
theorem dX12_putAside_20 : decode cX12_putAside 20 = .ok (.iinc 1 1, 3) := by decide +kernel
theorem dX12_putAside_23 : decode cX12_putAside 23 = .ok (.goto (-21), 3) := by decide +kernel
theorem dX12_putAside_26 : decode cX12_putAside 26 = .ok (.return_, 1) := by decide +kernel
theorem dX12_bringBack_0 : decode cX12_bringBack 0 = .ok (.iconst 0, 1) := by decide +kernel
theorem dX12_bringBack_1 : decode cX12_bringBack 1 = .ok (.istore_n 1, 1) := by decide +kernel
theorem dX12_bringBack_2 : decode cX12_bringBack 2 = .ok (.iload_n 1, 1) := by decide +kernel
theorem dX12_bringBack_3 : decode cX12_bringBack 3 = .ok (.bipush 31, 2) := by decide +kernel
theorem dX12_bringBack_5 : decode cX12_bringBack 5 = .ok (.if_icmp .ge 21, 3) := by decide +kernel
theorem dX12_bringBack_8 : decode cX12_bringBack 8 = .ok (.aload_n 0, 1) := by decide +kernel
theorem dX12_bringBack_9 : decode cX12_bringBack 9 = .ok (.getfield 37, 3) := by decide +kernel
theorem dX12_bringBack_12 : decode cX12_bringBack 12 = .ok (.iload_n 1, 1) := by decide +kernel
theorem dX12_bringBack_13 : decode cX12_bringBack 13 = .ok (.aload_n 0, 1) := by decide +kernel
theorem dX12_bringBack_14 : decode cX12_bringBack 14 = .ok (.getfield 53, 3) := by decide +kernel
theorem dX12_bringBack_17 : decode cX12_bringBack 17 = .ok (.iload_n 1, 1) := by decide +kernel
theorem dX12_bringBack_18 : decode cX12_bringBack 18 = .ok (.iaload, 1) := by decide +kernel
theorem dX12_bringBack_19 : decode cX12_bringBack 19 = .ok (.iastore, 1) := by decide +kernel
theorem dX12_bringBack_20 : decode cX12_bringBack 20 = .ok (.iinc 1 1, 3) := by decide +kernel
theorem dX12_bringBack_23 : decode cX12_bringBack 23 = .ok (.goto (-21), 3) := by decide +kernel
theorem dX12_bringBack_26 : decode cX12_bringBack 26 = .ok (.return_, 1) := by decide +kernel
theorem dX12_hasteOf_0 : decode cX12_hasteOf 0 = .ok (.aload_n 0, 1) := by decide +kernel
theorem dX12_hasteOf_1 : decode cX12_hasteOf 1 = .ok (.invokevirtual 341, 3) := by decide +kernel
theorem dX12_hasteOf_4 : decode cX12_hasteOf 4 = .ok (.iconst 0, 1) := by decide +kernel
theorem dX12_hasteOf_5 : decode cX12_hasteOf 5 = .ok (.istore_n 2, 1) := by decide +kernel
theorem dX12_hasteOf_6 : decode cX12_hasteOf 6 = .ok (.aload_n 0, 1) := by decide +kernel
theorem dX12_hasteOf_7 : decode cX12_hasteOf 7 = .ok (.iload_n 1, 1) := by decide +kernel
theorem dX12_hasteOf_8 : decode cX12_hasteOf 8 = .ok (.invokevirtual 178, 3) := by decide +kernel
theorem dX12_hasteOf_11 : decode cX12_hasteOf 11 = .ok (.ifCond .eq 16, 3) := by decide +kernel
theorem dX12_hasteOf_14 : decode cX12_hasteOf 14 = .ok (.aload_n 0, 1) := by decide +kernel
theorem dX12_hasteOf_15 : decode cX12_hasteOf 15 = .ok (.invokevirtual 216, 3) := by decide +kernel
theorem dX12_hasteOf_18 : decode cX12_hasteOf 18 = .ok (.ifCond .le 9, 3) := by decide +kernel
theorem dX12_hasteOf_21 : decode cX12_hasteOf 21 = .ok (.iinc 2 1, 3) := by decide +kernel
theorem dX12_hasteOf_24 : decode cX12_hasteOf 24 = .ok (.goto (-18), 3) := by decide +kernel
theorem dX12_hasteOf_27 : decode cX12_hasteOf 27 = .ok (.aload_n 0, 1) := by decide +kernel
theorem dX12_hasteOf_28 : decode cX12_hasteOf 28 = .ok (.iload_n 1, 1) := by decide +kernel
theorem dX12_hasteOf_29 : decode cX12_hasteOf 29 = .ok (.invokevirtual 178, 3) := by decide +kernel
theorem dX12_hasteOf_32 : decode cX12_hasteOf 32 = .ok (.ifCond .ne 7, 3) := by decide +kernel
theorem dX12_hasteOf_35 : decode cX12_hasteOf 35 = .ok (.iconst 1, 1) := by decide +kernel
theorem dX12_hasteOf_36 : decode cX12_hasteOf 36 = .ok (.goto 4, 3) := by decide +kernel
theorem dX12_hasteOf_39 : decode cX12_hasteOf 39 = .ok (.iconst 0, 1) := by decide +kernel
theorem dX12_hasteOf_40 : decode cX12_hasteOf 40 = .ok (.istore_n 3, 1) := by decide +kernel
theorem dX12_hasteOf_41 : decode cX12_hasteOf 41 = .ok (.aload_n 0, 1) := by decide +kernel
theorem dX12_hasteOf_42 : decode cX12_hasteOf 42 = .ok (.invokevirtual 344, 3) := by decide +kernel
theorem dX12_hasteOf_45 : decode cX12_hasteOf 45 = .ok (.iload_n 3, 1) := by decide +kernel
theorem dX12_hasteOf_46 : decode cX12_hasteOf 46 = .ok (.ifCond .eq 7, 3) := by decide +kernel
theorem dX12_hasteOf_49 : decode cX12_hasteOf 49 = .ok (.iload_n 2, 1) := by decide +kernel
theorem dX12_hasteOf_50 : decode cX12_hasteOf 50 = .ok (.goto 4, 3) := by decide +kernel
theorem dX12_hasteOf_53 : decode cX12_hasteOf 53 = .ok (.iconst (-1), 1) := by decide +kernel
theorem dX12_hasteOf_54 : decode cX12_hasteOf 54 = .ok (.ireturn, 1) := by decide +kernel
theorem dX12_solved_0 : decode cX12_solved 0 = .ok (.aload_n 0, 1) := by decide +kernel
theorem dX12_solved_1 : decode cX12_solved 1 = .ok (.invokevirtual 151, 3) := by decide +kernel
theorem dX12_solved_4 : decode cX12_solved 4 = .ok (.ifCond .eq 12, 3) := by decide +kernel
theorem dX12_solved_7 : decode cX12_solved 7 = .ok (.iload_n 1, 1) := by decide +kernel
theorem dX12_solved_8 : decode cX12_solved 8 = .ok (.iconst 0, 1) := by decide +kernel
theorem dX12_solved_9 : decode cX12_solved 9 = .ok (.iconst 2, 1) := by decide +kernel
theorem dX12_solved_10 : decode cX12_solved 10 = .ok (.invokestatic 76, 3) := by decide +kernel
theorem dX12_solved_13 : decode cX12_solved 13 = .ok (.ifCond .ne 5, 3) := by decide +kernel
theorem dX12_solved_16 : decode cX12_solved 16 = .ok (.iconst (-1), 1) := by decide +kernel
theorem dX12_solved_17 : decode cX12_solved 17 = .ok (.ireturn, 1) := by decide +kernel
theorem dX12_solved_18 : decode cX12_solved 18 = .ok (.aload_n 0, 1) := by decide +kernel
theorem dX12_solved_19 : decode cX12_solved 19 = .ok (.invokevirtual 341, 3) := by decide +kernel
theorem dX12_solved_22 : decode cX12_solved 22 = .ok (.aload_n 0, 1) := by decide +kernel
theorem dX12_solved_23 : decode cX12_solved 23 = .ok (.invokevirtual 347, 3) := by decide +kernel
theorem dX12_solved_26 : decode cX12_solved 26 = .ok (.istore_n 2, 1) := by decide +kernel
theorem dX12_solved_27 : decode cX12_solved 27 = .ok (.aload_n 0, 1) := by decide +kernel
theorem dX12_solved_28 : decode cX12_solved 28 = .ok (.invokevirtual 213, 3) := by decide +kernel
theorem dX12_solved_31 : decode cX12_solved 31 = .ok (.istore_n 3, 1) := by decide +kernel
theorem dX12_solved_32 : decode cX12_solved 32 = .ok (.aload_n 0, 1) := by decide +kernel
theorem dX12_solved_33 : decode cX12_solved 33 = .ok (.invokevirtual 344, 3) := by decide +kernel
theorem dX12_solved_36 : decode cX12_solved 36 = .ok (.iload_n 1, 1) := by decide +kernel
theorem dX12_solved_37 : decode cX12_solved 37 = .ok (.ifCond .ne 10, 3) := by decide +kernel
theorem dX12_solved_40 : decode cX12_solved 40 = .ok (.iload_n 3, 1) := by decide +kernel
theorem dX12_solved_41 : decode cX12_solved 41 = .ok (.invokestatic 157, 3) := by decide +kernel
theorem dX12_solved_44 : decode cX12_solved 44 = .ok (.goto 13, 3) := by decide +kernel
theorem dX12_solved_47 : decode cX12_solved 47 = .ok (.iload_n 1, 1) := by decide +kernel
theorem dX12_solved_48 : decode cX12_solved 48 = .ok (.iconst 1, 1) := by decide +kernel
theorem dX12_solved_49 : decode cX12_solved 49 = .ok (.if_icmp .ne 7, 3) := by decide +kernel
theorem dX12_solved_52 : decode cX12_solved 52 = .ok (.iload_n 3, 1) := by decide +kernel
theorem dX12_solved_53 : decode cX12_solved 53 = .ok (.goto 4, 3) := by decide +kernel
theorem dX12_solved_56 : decode cX12_solved 56 = .ok (.iload_n 2, 1) := by decide +kernel
theorem dX12_solved_57 : decode cX12_solved 57 = .ok (.ireturn, 1) := by decide +kernel
theorem dX12_ahead__0 : decode cX12_ahead_ 0 = .ok (.aload_n 0, 1) := by decide +kernel
theorem dX12_ahead__1 : decode cX12_ahead_ 1 = .ok (.invokevirtual 151, 3) := by decide +kernel
theorem dX12_ahead__4 : decode cX12_ahead_ 4 = .ok (.ifCond .eq 13, 3) := by decide +kernel
theorem dX12_ahead__7 : decode cX12_ahead_ 7 = .ok (.iload_n 1, 1) := by decide +kernel
theorem dX12_ahead__8 : decode cX12_ahead_ 8 = .ok (.iconst 0, 1) := by decide +kernel
theorem dX12_ahead__9 : decode cX12_ahead_ 9 = .ok (.bipush 20, 2) := by decide +kernel
theorem dX12_ahead__11 : decode cX12_ahead_ 11 = .ok (.invokestatic 76, 3) := by decide +kernel
theorem dX12_ahead__14 : decode cX12_ahead_ 14 = .ok (.ifCond .ne 5, 3) := by decide +kernel
theorem dX12_ahead__17 : decode cX12_ahead_ 17 = .ok (.iconst (-1), 1) := by decide +kernel
theorem dX12_ahead__18 : decode cX12_ahead_ 18 = .ok (.ireturn, 1) := by decide +kernel
theorem dX12_ahead__19 : decode cX12_ahead_ 19 = .ok (.aload_n 0, 1) := by decide +kernel
theorem dX12_ahead__20 : decode cX12_ahead_ 20 = .ok (.invokevirtual 341, 3) := by decide +kernel
theorem dX12_ahead__23 : decode cX12_ahead_ 23 = .ok (.iconst 0, 1) := by decide +kernel
theorem dX12_ahead__24 : decode cX12_ahead_ 24 = .ok (.istore_n 2, 1) := by decide +kernel
theorem dX12_ahead__25 : decode cX12_ahead_ 25 = .ok (.iload_n 2, 1) := by decide +kernel
theorem dX12_ahead__26 : decode cX12_ahead_ 26 = .ok (.iload_n 1, 1) := by decide +kernel
theorem dX12_ahead__27 : decode cX12_ahead_ 27 = .ok (.if_icmp .ge 14, 3) := by decide +kernel
theorem dX12_ahead__30 : decode cX12_ahead_ 30 = .ok (.aload_n 0, 1) := by decide +kernel
theorem dX12_ahead__31 : decode cX12_ahead_ 31 = .ok (.invokevirtual 216, 3) := by decide +kernel
theorem dX12_ahead__34 : decode cX12_ahead_ 34 = .ok (.pop, 1) := by decide +kernel
theorem dX12_ahead__35 : decode cX12_ahead_ 35 = .ok (.iinc 2 1, 3) := by decide +kernel
theorem dX12_ahead__38 : decode cX12_ahead_ 38 = .ok (.goto (-13), 3) := by decide +kernel
theorem dX12_ahead__41 : decode cX12_ahead_ 41 = .ok (.aload_n 0, 1) := by decide +kernel
theorem dX12_ahead__42 : decode cX12_ahead_ 42 = .ok (.invokevirtual 213, 3) := by decide +kernel
theorem dX12_ahead__45 : decode cX12_ahead_ 45 = .ok (.istore_n 2, 1) := by decide +kernel
theorem dX12_ahead__46 : decode cX12_ahead_ 46 = .ok (.aload_n 0, 1) := by decide +kernel
theorem dX12_ahead__47 : decode cX12_ahead_ 47 = .ok (.invokevirtual 344, 3) := by decide +kernel
theorem dX12_ahead__50 : decode cX12_ahead_ 50 = .ok (.iload_n 2, 1) := by decide +kernel
theorem dX12_ahead__51 : decode cX12_ahead_ 51 = .ok (.ireturn, 1) := by decide +kernel
theorem dX12_layOccupied_0 : decode cX12_layOccupied 0 = .ok (.iconst 0, 1) := by decide +kernel
theorem dX12_layOccupied_1 : decode cX12_layOccupied 1 = .ok (.istore_n 1, 1) := by decide +kernel
theorem dX12_layOccupied_2 : decode cX12_layOccupied 2 = .ok (.iload_n 1, 1) := by decide +kernel
theorem dX12_layOccupied_3 : decode cX12_layOccupied 3 = .ok (.aload_n 0, 1) := by decide +kernel
theorem dX12_layOccupied_4 : decode cX12_layOccupied 4 = .ok (.invokevirtual 154, 3) := by decide +kernel
theorem dX12_layOccupied_7 : decode cX12_layOccupied 7 = .ok (.if_icmp .ge 57, 3) := by decide +kernel
theorem dX12_layOccupied_10 : decode cX12_layOccupied 10 = .ok (.aload_n 0, 1) := by decide +kernel
theorem dX12_layOccupied_11 : decode cX12_layOccupied 11 = .ok (.getfield 56, 3) := by decide +kernel
theorem dX12_layOccupied_14 : decode cX12_layOccupied 14 = .ok (.iload_n 1, 1) := by decide +kernel
theorem dX12_layOccupied_15 : decode cX12_layOccupied 15 = .ok (.iconst 0, 1) := by decide +kernel
theorem dX12_layOccupied_16 : decode cX12_layOccupied 16 = .ok (.iastore, 1) := by decide +kernel
theorem dX12_layOccupied_17 : decode cX12_layOccupied 17 = .ok (.iconst 0, 1) := by decide +kernel
theorem dX12_layOccupied_18 : decode cX12_layOccupied 18 = .ok (.istore_n 2, 1) := by decide +kernel
theorem dX12_layOccupied_19 : decode cX12_layOccupied 19 = .ok (.iload_n 2, 1) := by decide +kernel
theorem dX12_layOccupied_20 : decode cX12_layOccupied 20 = .ok (.aload_n 0, 1) := by decide +kernel
theorem dX12_layOccupied_21 : decode cX12_layOccupied 21 = .ok (.getfield 148, 3) := by decide +kernel
theorem dX12_layOccupied_24 : decode cX12_layOccupied 24 = .ok (.if_icmp .ge 34, 3) := by decide +kernel
theorem dX12_layOccupied_27 : decode cX12_layOccupied 27 = .ok (.aload_n 0, 1) := by decide +kernel
theorem dX12_layOccupied_28 : decode cX12_layOccupied 28 = .ok (.getfield 56, 3) := by decide +kernel
theorem dX12_layOccupied_31 : decode cX12_layOccupied 31 = .ok (.iload_n 1, 1) := by decide +kernel
theorem dX12_layOccupied_32 : decode cX12_layOccupied 32 = .ok (.dup2, 1) := by decide +kernel
theorem dX12_layOccupied_33 : decode cX12_layOccupied 33 = .ok (.iaload, 1) := by decide +kernel
theorem dX12_layOccupied_34 : decode cX12_layOccupied 34 = .ok (.aload_n 0, 1) := by decide +kernel
theorem dX12_layOccupied_35 : decode cX12_layOccupied 35 = .ok (.iload_n 2, 1) := by decide +kernel
theorem dX12_layOccupied_36 : decode cX12_layOccupied 36 = .ok (.iload_n 1, 1) := by decide +kernel
theorem dX12_layOccupied_37 : decode cX12_layOccupied 37 = .ok (.invokevirtual 181, 3) := by decide +kernel
theorem dX12_layOccupied_40 : decode cX12_layOccupied 40 = .ok (.ifCond .eq 9, 3) := by decide +kernel
theorem dX12_layOccupied_43 : decode cX12_layOccupied 43 = .ok (.iconst 1, 1) := by decide +kernel
theorem dX12_layOccupied_44 : decode cX12_layOccupied 44 = .ok (.iload_n 2, 1) := by decide +kernel
theorem dX12_layOccupied_45 : decode cX12_layOccupied 45 = .ok (.ishl, 1) := by decide +kernel
theorem dX12_layOccupied_46 : decode cX12_layOccupied 46 = .ok (.goto 4, 3) := by decide +kernel
theorem dX12_layOccupied_49 : decode cX12_layOccupied 49 = .ok (.iconst 0, 1) := by decide +kernel
theorem dX12_layOccupied_50 : decode cX12_layOccupied 50 = .ok (.ior, 1) := by decide +kernel
theorem dX12_layOccupied_51 : decode cX12_layOccupied 51 = .ok (.iastore, 1) := by decide +kernel
theorem dX12_layOccupied_52 : decode cX12_layOccupied 52 = .ok (.iinc 2 1, 3) := by decide +kernel
theorem dX12_layOccupied_55 : decode cX12_layOccupied 55 = .ok (.goto (-36), 3) := by decide +kernel
theorem dX12_layOccupied_58 : decode cX12_layOccupied 58 = .ok (.iinc 1 1, 3) := by decide +kernel
theorem dX12_layOccupied_61 : decode cX12_layOccupied 61 = .ok (.goto (-59), 3) := by decide +kernel
theorem dX12_layOccupied_64 : decode cX12_layOccupied 64 = .ok (.return_, 1) := by decide +kernel
theorem dX12_unknownOnes_0 : decode cX12_unknownOnes 0 = .ok (.aload_n 0, 1) := by decide +kernel
theorem dX12_unknownOnes_1 : decode cX12_unknownOnes 1 = .ok (.invokevirtual 350, 3) := by decide +kernel
theorem dX12_unknownOnes_4 : decode cX12_unknownOnes 4 = .ok (.aload_n 0, 1) := by decide +kernel
theorem dX12_unknownOnes_5 : decode cX12_unknownOnes 5 = .ok (.invokevirtual 213, 3) := by decide +kernel
theorem dX12_unknownOnes_8 : decode cX12_unknownOnes 8 = .ok (.iconst (-1), 1) := by decide +kernel
theorem dX12_unknownOnes_9 : decode cX12_unknownOnes 9 = .ok (.ixor, 1) := by decide +kernel
theorem dX12_unknownOnes_10 : decode cX12_unknownOnes 10 = .ok (.iand, 1) := by decide +kernel
theorem dX12_unknownOnes_11 : decode cX12_unknownOnes 11 = .ok (.ireturn, 1) := by decide +kernel
theorem dX12_clearBy_0 : decode cX12_clearBy 0 = .ok (.aload_n 0, 1) := by decide +kernel
theorem dX12_clearBy_1 : decode cX12_clearBy 1 = .ok (.getfield 56, 3) := by decide +kernel
theorem dX12_clearBy_4 : decode cX12_clearBy 4 = .ok (.iload_n 1, 1) := by decide +kernel
theorem dX12_clearBy_5 : decode cX12_clearBy 5 = .ok (.iaload, 1) := by decide +kernel
theorem dX12_clearBy_6 : decode cX12_clearBy 6 = .ok (.iload_n 2, 1) := by decide +kernel
theorem dX12_clearBy_7 : decode cX12_clearBy 7 = .ok (.iand, 1) := by decide +kernel
theorem dX12_clearBy_8 : decode cX12_clearBy 8 = .ok (.istore_n 3, 1) := by decide +kernel
theorem dX12_clearBy_9 : decode cX12_clearBy 9 = .ok (.iload_n 3, 1) := by decide +kernel
theorem dX12_clearBy_10 : decode cX12_clearBy 10 = .ok (.ifCond .eq 16, 3) := by decide +kernel
theorem dX12_clearBy_13 : decode cX12_clearBy 13 = .ok (.aload_n 0, 1) := by decide +kernel
theorem dX12_clearBy_14 : decode cX12_clearBy 14 = .ok (.getfield 188, 3) := by decide +kernel
theorem dX12_clearBy_17 : decode cX12_clearBy 17 = .ok (.iload_n 1, 1) := by decide +kernel
theorem dX12_clearBy_18 : decode cX12_clearBy 18 = .ok (.lshr, 1) := by decide +kernel
theorem dX12_clearBy_19 : decode cX12_clearBy 19 = .ok (.lconst 1, 1) := by decide +kernel
theorem dX12_clearBy_20 : decode cX12_clearBy 20 = .ok (.land, 1) := by decide +kernel
theorem dX12_clearBy_21 : decode cX12_clearBy 21 = .ok (.lconst 1, 1) := by decide +kernel
theorem dX12_clearBy_22 : decode cX12_clearBy 22 = .ok (.lcmp, 1) := by decide +kernel
theorem dX12_clearBy_23 : decode cX12_clearBy 23 = .ok (.ifCond .ne 5, 3) := by decide +kernel
theorem dX12_clearBy_26 : decode cX12_clearBy 26 = .ok (.iconst 0, 1) := by decide +kernel
theorem dX12_clearBy_27 : decode cX12_clearBy 27 = .ok (.ireturn, 1) := by decide +kernel
theorem dX12_clearBy_28 : decode cX12_clearBy 28 = .ok (.aload_n 0, 1) := by decide +kernel
theorem dX12_clearBy_29 : decode cX12_clearBy 29 = .ok (.getfield 37, 3) := by decide +kernel
theorem dX12_clearBy_32 : decode cX12_clearBy 32 = .ok (.bipush 30, 2) := by decide +kernel
theorem dX12_clearBy_34 : decode cX12_clearBy 34 = .ok (.iaload, 1) := by decide +kernel
theorem dX12_clearBy_35 : decode cX12_clearBy 35 = .ok (.ifCond .ne 17, 3) := by decide +kernel
theorem dX12_clearBy_38 : decode cX12_clearBy 38 = .ok (.iload_n 3, 1) := by decide +kernel
theorem dX12_clearBy_39 : decode cX12_clearBy 39 = .ok (.iload_n 3, 1) := by decide +kernel
theorem dX12_clearBy_40 : decode cX12_clearBy 40 = .ok (.iconst 1, 1) := by decide +kernel
theorem dX12_clearBy_41 : decode cX12_clearBy 41 = .ok (.isub, 1) := by decide +kernel
theorem dX12_clearBy_42 : decode cX12_clearBy 42 = .ok (.iand, 1) := by decide +kernel
theorem dX12_clearBy_43 : decode cX12_clearBy 43 = .ok (.ifCond .ne 7, 3) := by decide +kernel
theorem dX12_clearBy_46 : decode cX12_clearBy 46 = .ok (.iload_n 3, 1) := by decide +kernel
theorem dX12_clearBy_47 : decode cX12_clearBy 47 = .ok (.goto 4, 3) := by decide +kernel
theorem dX12_clearBy_50 : decode cX12_clearBy 50 = .ok (.iconst 0, 1) := by decide +kernel
theorem dX12_clearBy_51 : decode cX12_clearBy 51 = .ok (.ireturn, 1) := by decide +kernel
theorem dX12_clearBy_52 : decode cX12_clearBy 52 = .ok (.iconst 0, 1) := by decide +kernel
theorem dX12_clearBy_53 : decode cX12_clearBy 53 = .ok (.istore 4, 2) := by decide +kernel
theorem dX12_clearBy_55 : decode cX12_clearBy 55 = .ok (.iconst 0, 1) := by decide +kernel
theorem dX12_clearBy_56 : decode cX12_clearBy 56 = .ok (.istore 5, 2) := by decide +kernel
theorem dX12_clearBy_58 : decode cX12_clearBy 58 = .ok (.iload 5, 2) := by decide +kernel
theorem dX12_clearBy_60 : decode cX12_clearBy 60 = .ok (.aload_n 0, 1) := by decide +kernel
theorem dX12_clearBy_61 : decode cX12_clearBy 61 = .ok (.getfield 148, 3) := by decide +kernel
theorem dX12_clearBy_64 : decode cX12_clearBy 64 = .ok (.if_icmp .ge 123, 3) := by decide +kernel
theorem dX12_clearBy_67 : decode cX12_clearBy 67 = .ok (.iload_n 3, 1) := by decide +kernel
theorem dX12_clearBy_68 : decode cX12_clearBy 68 = .ok (.iload 5, 2) := by decide +kernel
theorem dX12_clearBy_70 : decode cX12_clearBy 70 = .ok (.invokestatic 107, 3) := by decide +kernel
theorem dX12_clearBy_73 : decode cX12_clearBy 73 = .ok (.ifCond .eq 108, 3) := by decide +kernel
theorem dX12_clearBy_76 : decode cX12_clearBy 76 = .ok (.aload_n 0, 1) := by decide +kernel
theorem dX12_clearBy_77 : decode cX12_clearBy 77 = .ok (.getfield 22, 3) := by decide +kernel
theorem dX12_clearBy_80 : decode cX12_clearBy 80 = .ok (.iconst 3, 1) := by decide +kernel
theorem dX12_clearBy_81 : decode cX12_clearBy 81 = .ok (.iaload, 1) := by decide +kernel
theorem dX12_clearBy_82 : decode cX12_clearBy 82 = .ok (.i2f, 1) := by decide +kernel
theorem dX12_clearBy_83 : decode cX12_clearBy 83 = .ok (.ldc 160, 2) := by decide +kernel
theorem dX12_clearBy_85 : decode cX12_clearBy 85 = .ok (.fdiv, 1) := by decide +kernel
theorem dX12_clearBy_86 : decode cX12_clearBy 86 = .ok (.fstore 6, 2) := by decide +kernel
theorem dX12_clearBy_88 : decode cX12_clearBy 88 = .ok (.iconst 0, 1) := by decide +kernel
theorem dX12_clearBy_89 : decode cX12_clearBy 89 = .ok (.istore 7, 2) := by decide +kernel
theorem dX12_clearBy_91 : decode cX12_clearBy 91 = .ok (.iload 7, 2) := by decide +kernel
theorem dX12_clearBy_93 : decode cX12_clearBy 93 = .ok (.aload_n 0, 1) := by decide +kernel
theorem dX12_clearBy_94 : decode cX12_clearBy 94 = .ok (.getfield 148, 3) := by decide +kernel
theorem dX12_clearBy_97 : decode cX12_clearBy 97 = .ok (.if_icmp .ge 42, 3) := by decide +kernel
theorem dX12_clearBy_100 : decode cX12_clearBy 100 = .ok (.iload 7, 2) := by decide +kernel
theorem dX12_clearBy_102 : decode cX12_clearBy 102 = .ok (.iload 5, 2) := by decide +kernel
theorem dX12_clearBy_104 : decode cX12_clearBy 104 = .ok (.if_icmp .eq 25, 3) := by decide +kernel
theorem dX12_clearBy_107 : decode cX12_clearBy 107 = .ok (.iload_n 3, 1) := by decide +kernel
theorem dX12_clearBy_108 : decode cX12_clearBy 108 = .ok (.iload 7, 2) := by decide +kernel
theorem dX12_clearBy_110 : decode cX12_clearBy 110 = .ok (.invokestatic 107, 3) := by decide +kernel
theorem dX12_clearBy_113 : decode cX12_clearBy 113 = .ok (.ifCond .eq 16, 3) := by decide +kernel
theorem dX12_clearBy_116 : decode cX12_clearBy 116 = .ok (.fload 6, 2) := by decide +kernel
theorem dX12_clearBy_118 : decode cX12_clearBy 118 = .ok (.aload_n 0, 1) := by decide +kernel
theorem dX12_clearBy_119 : decode cX12_clearBy 119 = .ok (.getfield 43, 3) := by decide +kernel
theorem dX12_clearBy_122 : decode cX12_clearBy 122 = .ok (.iload 7, 2) := by decide +kernel
theorem dX12_clearBy_124 : decode cX12_clearBy 124 = .ok (.faload, 1) := by decide +kernel
theorem dX12_clearBy_125 : decode cX12_clearBy 125 = .ok (.fadd, 1) := by decide +kernel
theorem dX12_clearBy_126 : decode cX12_clearBy 126 = .ok (.goto 5, 3) := by decide +kernel
theorem dX12_clearBy_129 : decode cX12_clearBy 129 = .ok (.fload 6, 2) := by decide +kernel
theorem dX12_clearBy_131 : decode cX12_clearBy 131 = .ok (.fstore 6, 2) := by decide +kernel
theorem dX12_clearBy_133 : decode cX12_clearBy 133 = .ok (.iinc 7 1, 3) := by decide +kernel
theorem dX12_clearBy_136 : decode cX12_clearBy 136 = .ok (.goto (-45), 3) := by decide +kernel
theorem dX12_clearBy_139 : decode cX12_clearBy 139 = .ok (.aload_n 0, 1) := by decide +kernel
theorem dX12_clearBy_140 : decode cX12_clearBy 140 = .ok (.getfield 37, 3) := by decide +kernel
theorem dX12_clearBy_143 : decode cX12_clearBy 143 = .ok (.bipush 30, 2) := by decide +kernel
theorem dX12_clearBy_145 : decode cX12_clearBy 145 = .ok (.iaload, 1) := by decide +kernel
theorem dX12_clearBy_146 : decode cX12_clearBy 146 = .ok (.i2f, 1) := by decide +kernel
theorem dX12_clearBy_147 : decode cX12_clearBy 147 = .ok (.ldc 160, 2) := by decide +kernel
theorem dX12_clearBy_149 : decode cX12_clearBy 149 = .ok (.fdiv, 1) := by decide +kernel
theorem dX12_clearBy_150 : decode cX12_clearBy 150 = .ok (.fstore 7, 2) := by decide +kernel
theorem dX12_clearBy_152 : decode cX12_clearBy 152 = .ok (.iload 4, 2) := by decide +kernel
theorem dX12_clearBy_154 : decode cX12_clearBy 154 = .ok (.aload_n 0, 1) := by decide +kernel
theorem dX12_clearBy_155 : decode cX12_clearBy 155 = .ok (.getfield 43, 3) := by decide +kernel
theorem dX12_clearBy_158 : decode cX12_clearBy 158 = .ok (.iload 5, 2) := by decide +kernel
theorem dX12_clearBy_160 : decode cX12_clearBy 160 = .ok (.faload, 1) := by decide +kernel
theorem dX12_clearBy_161 : decode cX12_clearBy 161 = .ok (.fload 7, 2) := by decide +kernel
theorem dX12_clearBy_163 : decode cX12_clearBy 163 = .ok (.fload 6, 2) := by decide +kernel
theorem dX12_clearBy_165 : decode cX12_clearBy 165 = .ok (.fmul, 1) := by decide +kernel
theorem dX12_clearBy_166 : decode cX12_clearBy 166 = .ok (.fcmp .l, 1) := by decide +kernel
theorem dX12_clearBy_167 : decode cX12_clearBy 167 = .ok (.ifCond .lt 10, 3) := by decide +kernel
theorem dX12_clearBy_170 : decode cX12_clearBy 170 = .ok (.iconst 1, 1) := by decide +kernel
theorem dX12_clearBy_171 : decode cX12_clearBy 171 = .ok (.iload 5, 2) := by decide +kernel
theorem dX12_clearBy_173 : decode cX12_clearBy 173 = .ok (.ishl, 1) := by decide +kernel
theorem dX12_clearBy_174 : decode cX12_clearBy 174 = .ok (.goto 4, 3) := by decide +kernel
theorem dX12_clearBy_177 : decode cX12_clearBy 177 = .ok (.iconst 0, 1) := by decide +kernel
theorem dX12_clearBy_178 : decode cX12_clearBy 178 = .ok (.ior, 1) := by decide +kernel
theorem dX12_clearBy_179 : decode cX12_clearBy 179 = .ok (.istore 4, 2) := by decide +kernel
theorem dX12_clearBy_181 : decode cX12_clearBy 181 = .ok (.iinc 5 1, 3) := by decide +kernel
theorem dX12_clearBy_184 : decode cX12_clearBy 184 = .ok (.goto (-126), 3) := by decide +kernel
theorem dX12_clearBy_187 : decode cX12_clearBy 187 = .ok (.iload 4, 2) := by decide +kernel
theorem dX12_clearBy_189 : decode cX12_clearBy 189 = .ok (.ireturn, 1) := by decide +kernel
theorem dX12_remaining_0 : decode cX12_remaining 0 = .ok (.iload_n 1, 1) := by decide +kernel
theorem dX12_remaining_1 : decode cX12_remaining 1 = .ok (.istore_n 2, 1) := by decide +kernel
theorem dX12_remaining_2 : decode cX12_remaining 2 = .ok (.iconst 1, 1) := by decide +kernel
theorem dX12_remaining_3 : decode cX12_remaining 3 = .ok (.istore_n 3, 1) := by decide +kernel
theorem dX12_remaining_4 : decode cX12_remaining 4 = .ok (.iload_n 3, 1) := by decide +kernel
theorem dX12_remaining_5 : decode cX12_remaining 5 = .ok (.ifCond .eq 42, 3) := by decide +kernel
theorem dX12_remaining_8 : decode cX12_remaining 8 = .ok (.iconst 0, 1) := by decide +kernel
theorem dX12_remaining_9 : decode cX12_remaining 9 = .ok (.istore_n 3, 1) := by decide +kernel
theorem dX12_remaining_10 : decode cX12_remaining 10 = .ok (.iconst 0, 1) := by decide +kernel
theorem dX12_remaining_11 : decode cX12_remaining 11 = .ok (.istore 4, 2) := by decide +kernel
theorem dX12_remaining_13 : decode cX12_remaining 13 = .ok (.iload 4, 2) := by decide +kernel
theorem dX12_remaining_15 : decode cX12_remaining 15 = .ok (.aload_n 0, 1) := by decide +kernel
theorem dX12_remaining_16 : decode cX12_remaining 16 = .ok (.invokevirtual 154, 3) := by decide +kernel
theorem dX12_remaining_19 : decode cX12_remaining 19 = .ok (.if_icmp .ge 19, 3) := by decide +kernel
theorem dX12_remaining_22 : decode cX12_remaining 22 = .ok (.iload_n 3, 1) := by decide +kernel
theorem dX12_remaining_23 : decode cX12_remaining 23 = .ok (.aload_n 0, 1) := by decide +kernel
theorem dX12_remaining_24 : decode cX12_remaining 24 = .ok (.iload 4, 2) := by decide +kernel
theorem dX12_remaining_26 : decode cX12_remaining 26 = .ok (.iload_n 2, 1) := by decide +kernel
theorem dX12_remaining_27 : decode cX12_remaining 27 = .ok (.invokevirtual 353, 3) := by decide +kernel
theorem dX12_remaining_30 : decode cX12_remaining 30 = .ok (.ior, 1) := by decide +kernel
theorem dX12_remaining_31 : decode cX12_remaining 31 = .ok (.istore_n 3, 1) := by decide +kernel
theorem dX12_remaining_32 : decode cX12_remaining 32 = .ok (.iinc 4 1, 3) := by decide +kernel
theorem dX12_remaining_35 : decode cX12_remaining 35 = .ok (.goto (-22), 3) := by decide +kernel
theorem dX12_remaining_38 : decode cX12_remaining 38 = .ok (.iload_n 2, 1) := by decide +kernel
theorem dX12_remaining_39 : decode cX12_remaining 39 = .ok (.iload_n 3, 1) := by decide +kernel
theorem dX12_remaining_40 : decode cX12_remaining 40 = .ok (.iconst (-1), 1) := by decide +kernel
theorem dX12_remaining_41 : decode cX12_remaining 41 = .ok (.ixor, 1) := by decide +kernel
theorem dX12_remaining_42 : decode cX12_remaining 42 = .ok (.iand, 1) := by decide +kernel
theorem dX12_remaining_43 : decode cX12_remaining 43 = .ok (.istore_n 2, 1) := by decide +kernel
theorem dX12_remaining_44 : decode cX12_remaining 44 = .ok (.goto (-40), 3) := by decide +kernel
theorem dX12_remaining_47 : decode cX12_remaining 47 = .ok (.iload_n 2, 1) := by decide +kernel
theorem dX12_remaining_48 : decode cX12_remaining 48 = .ok (.ireturn, 1) := by decide +kernel
theorem dX12_knownWith_0 : decode cX12_knownWith 0 = .ok (.aload_n 0, 1) := by decide +kernel
theorem dX12_knownWith_1 : decode cX12_knownWith 1 = .ok (.invokevirtual 350, 3) := by decide +kernel
theorem dX12_knownWith_4 : decode cX12_knownWith 4 = .ok (.aload_n 0, 1) := by decide +kernel
theorem dX12_knownWith_5 : decode cX12_knownWith 5 = .ok (.aload_n 0, 1) := by decide +kernel
theorem dX12_knownWith_6 : decode cX12_knownWith 6 = .ok (.invokevirtual 332, 3) := by decide +kernel
theorem dX12_knownWith_9 : decode cX12_knownWith 9 = .ok (.iload_n 1, 1) := by decide +kernel
theorem dX12_knownWith_10 : decode cX12_knownWith 10 = .ok (.iconst (-1), 1) := by decide +kernel
theorem dX12_knownWith_11 : decode cX12_knownWith 11 = .ok (.ixor, 1) := by decide +kernel
theorem dX12_knownWith_12 : decode cX12_knownWith 12 = .ok (.iand, 1) := by decide +kernel
theorem dX12_knownWith_13 : decode cX12_knownWith 13 = .ok (.invokevirtual 335, 3) := by decide +kernel
theorem dX12_knownWith_16 : decode cX12_knownWith 16 = .ok (.iconst (-1), 1) := by decide +kernel
theorem dX12_knownWith_17 : decode cX12_knownWith 17 = .ok (.ixor, 1) := by decide +kernel
theorem dX12_knownWith_18 : decode cX12_knownWith 18 = .ok (.iand, 1) := by decide +kernel
theorem dX12_knownWith_19 : decode cX12_knownWith 19 = .ok (.istore_n 3, 1) := by decide +kernel
theorem dX12_knownWith_20 : decode cX12_knownWith 20 = .ok (.iload_n 2, 1) := by decide +kernel
theorem dX12_knownWith_21 : decode cX12_knownWith 21 = .ok (.ifCond .eq 7, 3) := by decide +kernel
theorem dX12_knownWith_24 : decode cX12_knownWith 24 = .ok (.iload_n 3, 1) := by decide +kernel
theorem dX12_knownWith_25 : decode cX12_knownWith 25 = .ok (.goto 8, 3) := by decide +kernel
theorem dX12_knownWith_28 : decode cX12_knownWith 28 = .ok (.iload_n 3, 1) := by decide +kernel
theorem dX12_knownWith_29 : decode cX12_knownWith 29 = .ok (.iload_n 1, 1) := by decide +kernel
theorem dX12_knownWith_30 : decode cX12_knownWith 30 = .ok (.iconst (-1), 1) := by decide +kernel
theorem dX12_knownWith_31 : decode cX12_knownWith 31 = .ok (.ixor, 1) := by decide +kernel
theorem dX12_knownWith_32 : decode cX12_knownWith 32 = .ok (.iand, 1) := by decide +kernel
theorem dX12_knownWith_33 : decode cX12_knownWith 33 = .ok (.ireturn, 1) := by decide +kernel
theorem dX12_fewest_0 : decode cX12_fewest 0 = .ok (.aload_n 0, 1) := by decide +kernel
theorem dX12_fewest_1 : decode cX12_fewest 1 = .ok (.invokevirtual 151, 3) := by decide +kernel
theorem dX12_fewest_4 : decode cX12_fewest 4 = .ok (.ifCond .eq 21, 3) := by decide +kernel
theorem dX12_fewest_7 : decode cX12_fewest 7 = .ok (.iload_n 1, 1) := by decide +kernel
theorem dX12_fewest_8 : decode cX12_fewest 8 = .ok (.iconst 0, 1) := by decide +kernel
theorem dX12_fewest_9 : decode cX12_fewest 9 = .ok (.iconst 1, 1) := by decide +kernel
theorem dX12_fewest_10 : decode cX12_fewest 10 = .ok (.invokestatic 76, 3) := by decide +kernel
theorem dX12_fewest_13 : decode cX12_fewest 13 = .ok (.ifCond .eq 12, 3) := by decide +kernel
theorem dX12_fewest_16 : decode cX12_fewest 16 = .ok (.iload_n 2, 1) := by decide +kernel
theorem dX12_fewest_17 : decode cX12_fewest 17 = .ok (.iconst 0, 1) := by decide +kernel
theorem dX12_fewest_18 : decode cX12_fewest 18 = .ok (.iconst 1, 1) := by decide +kernel
theorem dX12_fewest_19 : decode cX12_fewest 19 = .ok (.invokestatic 76, 3) := by decide +kernel
theorem dX12_fewest_22 : decode cX12_fewest 22 = .ok (.ifCond .ne 5, 3) := by decide +kernel
theorem dX12_fewest_25 : decode cX12_fewest 25 = .ok (.iconst (-1), 1) := by decide +kernel
theorem dX12_fewest_26 : decode cX12_fewest 26 = .ok (.ireturn, 1) := by decide +kernel
theorem dX12_fewest_27 : decode cX12_fewest 27 = .ok (.aload_n 0, 1) := by decide +kernel
theorem dX12_fewest_28 : decode cX12_fewest 28 = .ok (.invokevirtual 329, 3) := by decide +kernel
theorem dX12_fewest_31 : decode cX12_fewest 31 = .ok (.aload_n 0, 1) := by decide +kernel
theorem dX12_fewest_32 : decode cX12_fewest 32 = .ok (.invokevirtual 332, 3) := by decide +kernel
theorem dX12_fewest_35 : decode cX12_fewest 35 = .ok (.istore_n 3, 1) := by decide +kernel
theorem dX12_fewest_36 : decode cX12_fewest 36 = .ok (.iload_n 3, 1) := by decide +kernel
theorem dX12_fewest_37 : decode cX12_fewest 37 = .ok (.istore 4, 2) := by decide +kernel
theorem dX12_fewest_39 : decode cX12_fewest 39 = .ok (.iconst 0, 1) := by decide +kernel
theorem dX12_fewest_40 : decode cX12_fewest 40 = .ok (.istore 5, 2) := by decide +kernel
theorem dX12_fewest_42 : decode cX12_fewest 42 = .ok (.iload 5, 2) := by decide +kernel
theorem dX12_fewest_44 : decode cX12_fewest 44 = .ok (.iload_n 3, 1) := by decide +kernel
theorem dX12_fewest_45 : decode cX12_fewest 45 = .ok (.if_icmp .gt 73, 3) := by decide +kernel
theorem dX12_fewest_48 : decode cX12_fewest 48 = .ok (.iload 5, 2) := by decide +kernel
theorem dX12_fewest_50 : decode cX12_fewest 50 = .ok (.iload_n 3, 1) := by decide +kernel
theorem dX12_fewest_51 : decode cX12_fewest 51 = .ok (.iconst (-1), 1) := by decide +kernel
theorem dX12_fewest_52 : decode cX12_fewest 52 = .ok (.ixor, 1) := by decide +kernel
theorem dX12_fewest_53 : decode cX12_fewest 53 = .ok (.iand, 1) := by decide +kernel
theorem dX12_fewest_54 : decode cX12_fewest 54 = .ok (.ifCond .ne 20, 3) := by decide +kernel
theorem dX12_fewest_57 : decode cX12_fewest 57 = .ok (.iload 5, 2) := by decide +kernel
theorem dX12_fewest_59 : decode cX12_fewest 59 = .ok (.invokestatic 157, 3) := by decide +kernel
theorem dX12_fewest_62 : decode cX12_fewest 62 = .ok (.iload 4, 2) := by decide +kernel
theorem dX12_fewest_64 : decode cX12_fewest 64 = .ok (.invokestatic 157, 3) := by decide +kernel
theorem dX12_fewest_67 : decode cX12_fewest 67 = .ok (.if_icmp .ge 7, 3) := by decide +kernel
theorem dX12_fewest_70 : decode cX12_fewest 70 = .ok (.iconst 1, 1) := by decide +kernel
theorem dX12_fewest_71 : decode cX12_fewest 71 = .ok (.goto 4, 3) := by decide +kernel
theorem dX12_fewest_74 : decode cX12_fewest 74 = .ok (.iconst 0, 1) := by decide +kernel
theorem dX12_fewest_75 : decode cX12_fewest 75 = .ok (.istore 6, 2) := by decide +kernel
theorem dX12_fewest_77 : decode cX12_fewest 77 = .ok (.iload 6, 2) := by decide +kernel
theorem dX12_fewest_79 : decode cX12_fewest 79 = .ok (.ifCond .eq 33, 3) := by decide +kernel
theorem dX12_fewest_82 : decode cX12_fewest 82 = .ok (.aload_n 0, 1) := by decide +kernel
theorem dX12_fewest_83 : decode cX12_fewest 83 = .ok (.iload 5, 2) := by decide +kernel
theorem dX12_fewest_85 : decode cX12_fewest 85 = .ok (.iload_n 1, 1) := by decide +kernel
theorem dX12_fewest_86 : decode cX12_fewest 86 = .ok (.iconst 1, 1) := by decide +kernel
theorem dX12_fewest_87 : decode cX12_fewest 87 = .ok (.if_icmp .ne 7, 3) := by decide +kernel
theorem dX12_fewest_90 : decode cX12_fewest 90 = .ok (.iconst 1, 1) := by decide +kernel
theorem dX12_fewest_91 : decode cX12_fewest 91 = .ok (.goto 4, 3) := by decide +kernel
theorem dX12_fewest_94 : decode cX12_fewest 94 = .ok (.iconst 0, 1) := by decide +kernel
theorem dX12_fewest_95 : decode cX12_fewest 95 = .ok (.invokevirtual 356, 3) := by decide +kernel
theorem dX12_fewest_98 : decode cX12_fewest 98 = .ok (.iload 5, 2) := by decide +kernel
theorem dX12_fewest_100 : decode cX12_fewest 100 = .ok (.ior, 1) := by decide +kernel
theorem dX12_fewest_101 : decode cX12_fewest 101 = .ok (.aload_n 0, 1) := by decide +kernel
theorem dX12_fewest_102 : decode cX12_fewest 102 = .ok (.invokevirtual 350, 3) := by decide +kernel
theorem dX12_fewest_105 : decode cX12_fewest 105 = .ok (.if_icmp .ne 7, 3) := by decide +kernel
theorem dX12_fewest_108 : decode cX12_fewest 108 = .ok (.iload 5, 2) := by decide +kernel
theorem dX12_fewest_110 : decode cX12_fewest 110 = .ok (.istore 4, 2) := by decide +kernel
theorem dX12_fewest_112 : decode cX12_fewest 112 = .ok (.iinc 5 1, 3) := by decide +kernel
theorem dX12_fewest_115 : decode cX12_fewest 115 = .ok (.goto (-73), 3) := by decide +kernel
theorem dX12_fewest_118 : decode cX12_fewest 118 = .ok (.iload_n 2, 1) := by decide +kernel
theorem dX12_fewest_119 : decode cX12_fewest 119 = .ok (.ifCond .ne 11, 3) := by decide +kernel
theorem dX12_fewest_122 : decode cX12_fewest 122 = .ok (.iload 4, 2) := by decide +kernel
theorem dX12_fewest_124 : decode cX12_fewest 124 = .ok (.invokestatic 157, 3) := by decide +kernel
theorem dX12_fewest_127 : decode cX12_fewest 127 = .ok (.goto 5, 3) := by decide +kernel
theorem dX12_fewest_130 : decode cX12_fewest 130 = .ok (.iload 4, 2) := by decide +kernel
theorem dX12_fewest_132 : decode cX12_fewest 132 = .ok (.ireturn, 1) := by decide +kernel
theorem dX12_tight_0 : decode cX12_tight 0 = .ok (.aload_n 0, 1) := by decide +kernel
theorem dX12_tight_1 : decode cX12_tight 1 = .ok (.invokevirtual 151, 3) := by decide +kernel
theorem dX12_tight_4 : decode cX12_tight 4 = .ok (.ifCond .ne 5, 3) := by decide +kernel
theorem dX12_tight_7 : decode cX12_tight 7 = .ok (.iconst (-1), 1) := by decide +kernel
theorem dX12_tight_8 : decode cX12_tight 8 = .ok (.ireturn, 1) := by decide +kernel
theorem dX12_tight_9 : decode cX12_tight 9 = .ok (.aload_n 0, 1) := by decide +kernel
theorem dX12_tight_10 : decode cX12_tight 10 = .ok (.invokevirtual 329, 3) := by decide +kernel
theorem dX12_tight_13 : decode cX12_tight 13 = .ok (.iconst (-1), 1) := by decide +kernel
theorem dX12_tight_14 : decode cX12_tight 14 = .ok (.istore_n 1, 1) := by decide +kernel
theorem dX12_tight_15 : decode cX12_tight 15 = .ok (.bipush 99, 2) := by decide +kernel
theorem dX12_tight_17 : decode cX12_tight 17 = .ok (.istore_n 2, 1) := by decide +kernel
theorem dX12_tight_18 : decode cX12_tight 18 = .ok (.iload_n 2, 1) := by decide +kernel
theorem dX12_tight_19 : decode cX12_tight 19 = .ok (.ifCond .le 47, 3) := by decide +kernel
theorem dX12_tight_22 : decode cX12_tight 22 = .ok (.iload_n 1, 1) := by decide +kernel
theorem dX12_tight_23 : decode cX12_tight 23 = .ok (.iconst (-1), 1) := by decide +kernel
theorem dX12_tight_24 : decode cX12_tight 24 = .ok (.if_icmp .ne 42, 3) := by decide +kernel
theorem dX12_tight_27 : decode cX12_tight 27 = .ok (.aload_n 0, 1) := by decide +kernel
theorem dX12_tight_28 : decode cX12_tight 28 = .ok (.invokevirtual 341, 3) := by decide +kernel
theorem dX12_tight_31 : decode cX12_tight 31 = .ok (.aload_n 0, 1) := by decide +kernel
theorem dX12_tight_32 : decode cX12_tight 32 = .ok (.getfield 37, 3) := by decide +kernel
theorem dX12_tight_35 : decode cX12_tight 35 = .ok (.bipush 30, 2) := by decide +kernel
theorem dX12_tight_37 : decode cX12_tight 37 = .ok (.iload_n 2, 1) := by decide +kernel
theorem dX12_tight_38 : decode cX12_tight 38 = .ok (.iastore, 1) := by decide +kernel
theorem dX12_tight_39 : decode cX12_tight 39 = .ok (.aload_n 0, 1) := by decide +kernel
theorem dX12_tight_40 : decode cX12_tight 40 = .ok (.aload_n 0, 1) := by decide +kernel
theorem dX12_tight_41 : decode cX12_tight 41 = .ok (.invokevirtual 332, 3) := by decide +kernel
theorem dX12_tight_44 : decode cX12_tight 44 = .ok (.invokevirtual 335, 3) := by decide +kernel
theorem dX12_tight_47 : decode cX12_tight 47 = .ok (.ifCond .ne 7, 3) := by decide +kernel
theorem dX12_tight_50 : decode cX12_tight 50 = .ok (.iload_n 2, 1) := by decide +kernel
theorem dX12_tight_51 : decode cX12_tight 51 = .ok (.goto 4, 3) := by decide +kernel
theorem dX12_tight_54 : decode cX12_tight 54 = .ok (.iconst (-1), 1) := by decide +kernel
theorem dX12_tight_55 : decode cX12_tight 55 = .ok (.istore_n 1, 1) := by decide +kernel
theorem dX12_tight_56 : decode cX12_tight 56 = .ok (.aload_n 0, 1) := by decide +kernel
theorem dX12_tight_57 : decode cX12_tight 57 = .ok (.invokevirtual 344, 3) := by decide +kernel
theorem dX12_tight_60 : decode cX12_tight 60 = .ok (.iinc 2 (-1), 3) := by decide +kernel
theorem dX12_tight_63 : decode cX12_tight 63 = .ok (.goto (-45), 3) := by decide +kernel
theorem dX12_tight_66 : decode cX12_tight 66 = .ok (.iload_n 1, 1) := by decide +kernel
theorem dX12_tight_67 : decode cX12_tight 67 = .ok (.ireturn, 1) := by decide +kernel
theorem dX12_isFast_0 : decode cX12_isFast 0 = .ok (.iconst 0, 1) := by decide +kernel
theorem dX12_isFast_1 : decode cX12_isFast 1 = .ok (.istore_n 2, 1) := by decide +kernel
theorem dX12_isFast_2 : decode cX12_isFast 2 = .ok (.iconst 0, 1) := by decide +kernel
theorem dX12_isFast_3 : decode cX12_isFast 3 = .ok (.istore_n 3, 1) := by decide +kernel
theorem dX12_isFast_4 : decode cX12_isFast 4 = .ok (.iload_n 3, 1) := by decide +kernel
theorem dX12_isFast_5 : decode cX12_isFast 5 = .ok (.aload_n 0, 1) := by decide +kernel
theorem dX12_isFast_6 : decode cX12_isFast 6 = .ok (.invokevirtual 154, 3) := by decide +kernel
theorem dX12_isFast_9 : decode cX12_isFast 9 = .ok (.if_icmp .ge 18, 3) := by decide +kernel
theorem dX12_isFast_12 : decode cX12_isFast 12 = .ok (.iload_n 2, 1) := by decide +kernel
theorem dX12_isFast_13 : decode cX12_isFast 13 = .ok (.aload_n 0, 1) := by decide +kernel
theorem dX12_isFast_14 : decode cX12_isFast 14 = .ok (.iload_n 3, 1) := by decide +kernel
theorem dX12_isFast_15 : decode cX12_isFast 15 = .ok (.iload_n 1, 1) := by decide +kernel
theorem dX12_isFast_16 : decode cX12_isFast 16 = .ok (.invokevirtual 353, 3) := by decide +kernel
theorem dX12_isFast_19 : decode cX12_isFast 19 = .ok (.ior, 1) := by decide +kernel
theorem dX12_isFast_20 : decode cX12_isFast 20 = .ok (.istore_n 2, 1) := by decide +kernel
theorem dX12_isFast_21 : decode cX12_isFast 21 = .ok (.iinc 3 1, 3) := by decide +kernel
theorem dX12_isFast_24 : decode cX12_isFast 24 = .ok (.goto (-20), 3) := by decide +kernel
theorem dX12_isFast_27 : decode cX12_isFast 27 = .ok (.iload_n 2, 1) := by decide +kernel
theorem dX12_isFast_28 : decode cX12_isFast 28 = .ok (.ifCond .ne 7, 3) := by decide +kernel
theorem dX12_isFast_31 : decode cX12_isFast 31 = .ok (.iconst 1, 1) := by decide +kernel
theorem dX12_isFast_32 : decode cX12_isFast 32 = .ok (.goto 4, 3) := by decide +kernel
theorem dX12_isFast_35 : decode cX12_isFast 35 = .ok (.iconst 0, 1) := by decide +kernel
theorem dX12_isFast_36 : decode cX12_isFast 36 = .ok (.ireturn, 1) := by decide +kernel
theorem dX12_stuck_0 : decode cX12_stuck 0 = .ok (.aload_n 0, 1) := by decide +kernel
theorem dX12_stuck_1 : decode cX12_stuck 1 = .ok (.invokevirtual 151, 3) := by decide +kernel
theorem dX12_stuck_4 : decode cX12_stuck 4 = .ok (.ifCond .eq 12, 3) := by decide +kernel
theorem dX12_stuck_7 : decode cX12_stuck 7 = .ok (.iload_n 1, 1) := by decide +kernel
theorem dX12_stuck_8 : decode cX12_stuck 8 = .ok (.iconst 0, 1) := by decide +kernel
theorem dX12_stuck_9 : decode cX12_stuck 9 = .ok (.iconst 3, 1) := by decide +kernel
theorem dX12_stuck_10 : decode cX12_stuck 10 = .ok (.invokestatic 76, 3) := by decide +kernel
theorem dX12_stuck_13 : decode cX12_stuck 13 = .ok (.ifCond .ne 5, 3) := by decide +kernel
theorem dX12_stuck_16 : decode cX12_stuck 16 = .ok (.iconst (-1), 1) := by decide +kernel
theorem dX12_stuck_17 : decode cX12_stuck 17 = .ok (.ireturn, 1) := by decide +kernel
theorem dX12_stuck_18 : decode cX12_stuck 18 = .ok (.aload_n 0, 1) := by decide +kernel
theorem dX12_stuck_19 : decode cX12_stuck 19 = .ok (.invokevirtual 329, 3) := by decide +kernel
theorem dX12_stuck_22 : decode cX12_stuck 22 = .ok (.aload_n 0, 1) := by decide +kernel
theorem dX12_stuck_23 : decode cX12_stuck 23 = .ok (.invokevirtual 332, 3) := by decide +kernel
theorem dX12_stuck_26 : decode cX12_stuck 26 = .ok (.istore_n 2, 1) := by decide +kernel
theorem dX12_stuck_27 : decode cX12_stuck 27 = .ok (.iconst 0, 1) := by decide +kernel
theorem dX12_stuck_28 : decode cX12_stuck 28 = .ok (.istore_n 3, 1) := by decide +kernel
theorem dX12_stuck_29 : decode cX12_stuck 29 = .ok (.iconst 0, 1) := by decide +kernel
theorem dX12_stuck_30 : decode cX12_stuck 30 = .ok (.istore 4, 2) := by decide +kernel
theorem dX12_stuck_32 : decode cX12_stuck 32 = .ok (.iconst 0, 1) := by decide +kernel
theorem dX12_stuck_33 : decode cX12_stuck 33 = .ok (.istore 5, 2) := by decide +kernel
theorem dX12_stuck_35 : decode cX12_stuck 35 = .ok (.iconst 1, 1) := by decide +kernel
theorem dX12_stuck_36 : decode cX12_stuck 36 = .ok (.istore 6, 2) := by decide +kernel
theorem dX12_stuck_38 : decode cX12_stuck 38 = .ok (.iload 6, 2) := by decide +kernel
theorem dX12_stuck_40 : decode cX12_stuck 40 = .ok (.iload_n 2, 1) := by decide +kernel
theorem dX12_stuck_41 : decode cX12_stuck 41 = .ok (.if_icmp .gt 76, 3) := by decide +kernel
theorem dX12_stuck_44 : decode cX12_stuck 44 = .ok (.iload 6, 2) := by decide +kernel
theorem dX12_stuck_46 : decode cX12_stuck 46 = .ok (.iload_n 2, 1) := by decide +kernel
theorem dX12_stuck_47 : decode cX12_stuck 47 = .ok (.iconst (-1), 1) := by decide +kernel
theorem dX12_stuck_48 : decode cX12_stuck 48 = .ok (.ixor, 1) := by decide +kernel
theorem dX12_stuck_49 : decode cX12_stuck 49 = .ok (.iand, 1) := by decide +kernel
theorem dX12_stuck_50 : decode cX12_stuck 50 = .ok (.ifCond .ne 61, 3) := by decide +kernel
theorem dX12_stuck_53 : decode cX12_stuck 53 = .ok (.aload_n 0, 1) := by decide +kernel
theorem dX12_stuck_54 : decode cX12_stuck 54 = .ok (.iload 6, 2) := by decide +kernel
theorem dX12_stuck_56 : decode cX12_stuck 56 = .ok (.invokevirtual 360, 3) := by decide +kernel
theorem dX12_stuck_59 : decode cX12_stuck 59 = .ok (.ifCond .eq 52, 3) := by decide +kernel
theorem dX12_stuck_62 : decode cX12_stuck 62 = .ok (.iload 5, 2) := by decide +kernel
theorem dX12_stuck_64 : decode cX12_stuck 64 = .ok (.ifCond .eq 15, 3) := by decide +kernel
theorem dX12_stuck_67 : decode cX12_stuck 67 = .ok (.iload 6, 2) := by decide +kernel
theorem dX12_stuck_69 : decode cX12_stuck 69 = .ok (.invokestatic 157, 3) := by decide +kernel
theorem dX12_stuck_72 : decode cX12_stuck 72 = .ok (.iload_n 3, 1) := by decide +kernel
theorem dX12_stuck_73 : decode cX12_stuck 73 = .ok (.invokestatic 157, 3) := by decide +kernel
theorem dX12_stuck_76 : decode cX12_stuck 76 = .ok (.if_icmp .ge 8, 3) := by decide +kernel
theorem dX12_stuck_79 : decode cX12_stuck 79 = .ok (.iload 6, 2) := by decide +kernel
theorem dX12_stuck_81 : decode cX12_stuck 81 = .ok (.goto 4, 3) := by decide +kernel
theorem dX12_stuck_84 : decode cX12_stuck 84 = .ok (.iload_n 3, 1) := by decide +kernel
theorem dX12_stuck_85 : decode cX12_stuck 85 = .ok (.istore_n 3, 1) := by decide +kernel
theorem dX12_stuck_86 : decode cX12_stuck 86 = .ok (.iload 6, 2) := by decide +kernel
theorem dX12_stuck_88 : decode cX12_stuck 88 = .ok (.invokestatic 157, 3) := by decide +kernel
theorem dX12_stuck_91 : decode cX12_stuck 91 = .ok (.iload 4, 2) := by decide +kernel
theorem dX12_stuck_93 : decode cX12_stuck 93 = .ok (.invokestatic 157, 3) := by decide +kernel
theorem dX12_stuck_96 : decode cX12_stuck 96 = .ok (.if_icmp .le 8, 3) := by decide +kernel
theorem dX12_stuck_99 : decode cX12_stuck 99 = .ok (.iload 6, 2) := by decide +kernel
theorem dX12_stuck_101 : decode cX12_stuck 101 = .ok (.goto 5, 3) := by decide +kernel
theorem dX12_stuck_104 : decode cX12_stuck 104 = .ok (.iload 4, 2) := by decide +kernel
theorem dX12_stuck_106 : decode cX12_stuck 106 = .ok (.istore 4, 2) := by decide +kernel
theorem dX12_stuck_108 : decode cX12_stuck 108 = .ok (.iinc 5 1, 3) := by decide +kernel
theorem dX12_stuck_111 : decode cX12_stuck 111 = .ok (.iinc 6 1, 3) := by decide +kernel
theorem dX12_stuck_114 : decode cX12_stuck 114 = .ok (.goto (-76), 3) := by decide +kernel
theorem dX12_stuck_117 : decode cX12_stuck 117 = .ok (.iload_n 1, 1) := by decide +kernel
theorem dX12_stuck_118 : decode cX12_stuck 118 = .ok (.ifCond .ne 10, 3) := by decide +kernel
theorem dX12_stuck_121 : decode cX12_stuck 121 = .ok (.iload_n 3, 1) := by decide +kernel
theorem dX12_stuck_122 : decode cX12_stuck 122 = .ok (.invokestatic 157, 3) := by decide +kernel
theorem dX12_stuck_125 : decode cX12_stuck 125 = .ok (.goto 24, 3) := by decide +kernel
theorem dX12_stuck_128 : decode cX12_stuck 128 = .ok (.iload_n 1, 1) := by decide +kernel
theorem dX12_stuck_129 : decode cX12_stuck 129 = .ok (.iconst 1, 1) := by decide +kernel
theorem dX12_stuck_130 : decode cX12_stuck 130 = .ok (.if_icmp .ne 7, 3) := by decide +kernel
theorem dX12_stuck_133 : decode cX12_stuck 133 = .ok (.iload_n 3, 1) := by decide +kernel
theorem dX12_stuck_134 : decode cX12_stuck 134 = .ok (.goto 15, 3) := by decide +kernel
theorem dX12_stuck_137 : decode cX12_stuck 137 = .ok (.iload_n 1, 1) := by decide +kernel
theorem dX12_stuck_138 : decode cX12_stuck 138 = .ok (.iconst 2, 1) := by decide +kernel
theorem dX12_stuck_139 : decode cX12_stuck 139 = .ok (.if_icmp .ne 8, 3) := by decide +kernel
theorem dX12_stuck_142 : decode cX12_stuck 142 = .ok (.iload 5, 2) := by decide +kernel
theorem dX12_stuck_144 : decode cX12_stuck 144 = .ok (.goto 5, 3) := by decide +kernel
theorem dX12_stuck_147 : decode cX12_stuck 147 = .ok (.iload 4, 2) := by decide +kernel
theorem dX12_stuck_149 : decode cX12_stuck 149 = .ok (.ireturn, 1) := by decide +kernel
theorem dX12_slide_0 : decode cX12_slide 0 = .ok (.aload_n 0, 1) := by decide +kernel
theorem dX12_slide_1 : decode cX12_slide 1 = .ok (.invokevirtual 341, 3) := by decide +kernel
theorem dX12_slide_4 : decode cX12_slide 4 = .ok (.iconst 0, 1) := by decide +kernel
theorem dX12_slide_5 : decode cX12_slide 5 = .ok (.istore_n 2, 1) := by decide +kernel
theorem dX12_slide_6 : decode cX12_slide 6 = .ok (.iload_n 2, 1) := by decide +kernel
theorem dX12_slide_7 : decode cX12_slide 7 = .ok (.aload_n 0, 1) := by decide +kernel
theorem dX12_slide_8 : decode cX12_slide 8 = .ok (.getfield 148, 3) := by decide +kernel
theorem dX12_slide_11 : decode cX12_slide 11 = .ok (.if_icmp .ge 29, 3) := by decide +kernel
theorem dX12_slide_14 : decode cX12_slide 14 = .ok (.aload_n 0, 1) := by decide +kernel
theorem dX12_slide_15 : decode cX12_slide 15 = .ok (.getfield 59, 3) := by decide +kernel
theorem dX12_slide_18 : decode cX12_slide 18 = .ok (.iload_n 2, 1) := by decide +kernel
theorem dX12_slide_19 : decode cX12_slide 19 = .ok (.aload_n 0, 1) := by decide +kernel
theorem dX12_slide_20 : decode cX12_slide 20 = .ok (.iload_n 2, 1) := by decide +kernel
theorem dX12_slide_21 : decode cX12_slide 21 = .ok (.invokevirtual 178, 3) := by decide +kernel
theorem dX12_slide_24 : decode cX12_slide 24 = .ok (.ifCond .eq 7, 3) := by decide +kernel
theorem dX12_slide_27 : decode cX12_slide 27 = .ok (.iconst (-1), 1) := by decide +kernel
theorem dX12_slide_28 : decode cX12_slide 28 = .ok (.goto 5, 3) := by decide +kernel
theorem dX12_slide_31 : decode cX12_slide 31 = .ok (.bipush (-2), 2) := by decide +kernel
theorem dX12_slide_33 : decode cX12_slide 33 = .ok (.iastore, 1) := by decide +kernel
theorem dX12_slide_34 : decode cX12_slide 34 = .ok (.iinc 2 1, 3) := by decide +kernel
theorem dX12_slide_37 : decode cX12_slide 37 = .ok (.goto (-31), 3) := by decide +kernel
theorem dX12_slide_40 : decode cX12_slide 40 = .ok (.iconst 0, 1) := by decide +kernel
theorem dX12_slide_41 : decode cX12_slide 41 = .ok (.istore_n 2, 1) := by decide +kernel
theorem dX12_slide_42 : decode cX12_slide 42 = .ok (.iload_n 2, 1) := by decide +kernel
theorem dX12_slide_43 : decode cX12_slide 43 = .ok (.iload_n 1, 1) := by decide +kernel
theorem dX12_slide_44 : decode cX12_slide 44 = .ok (.iadd, 1) := by decide +kernel
theorem dX12_slide_45 : decode cX12_slide 45 = .ok (.aload_n 0, 1) := by decide +kernel
theorem dX12_slide_46 : decode cX12_slide 46 = .ok (.getfield 22, 3) := by decide +kernel
theorem dX12_slide_49 : decode cX12_slide 49 = .ok (.iconst 1, 1) := by decide +kernel
theorem dX12_slide_50 : decode cX12_slide 50 = .ok (.iaload, 1) := by decide +kernel
theorem dX12_slide_51 : decode cX12_slide 51 = .ok (.if_icmp .gt 70, 3) := by decide +kernel
theorem dX12_slide_54 : decode cX12_slide 54 = .ok (.aload_n 0, 1) := by decide +kernel
theorem dX12_slide_55 : decode cX12_slide 55 = .ok (.aload_n 0, 1) := by decide +kernel
theorem dX12_slide_56 : decode cX12_slide 56 = .ok (.getfield 22, 3) := by decide +kernel
theorem dX12_slide_59 : decode cX12_slide 59 = .ok (.iconst 0, 1) := by decide +kernel
theorem dX12_slide_60 : decode cX12_slide 60 = .ok (.iaload, 1) := by decide +kernel
theorem dX12_slide_61 : decode cX12_slide 61 = .ok (.iload_n 2, 1) := by decide +kernel
theorem dX12_slide_62 : decode cX12_slide 62 = .ok (.imul, 1) := by decide +kernel
theorem dX12_slide_63 : decode cX12_slide 63 = .ok (.aload_n 0, 1) := by decide +kernel
theorem dX12_slide_64 : decode cX12_slide 64 = .ok (.getfield 22, 3) := by decide +kernel
theorem dX12_slide_67 : decode cX12_slide 67 = .ok (.iconst 0, 1) := by decide +kernel
theorem dX12_slide_68 : decode cX12_slide 68 = .ok (.iaload, 1) := by decide +kernel
theorem dX12_slide_69 : decode cX12_slide 69 = .ok (.iload_n 2, 1) := by decide +kernel
theorem dX12_slide_70 : decode cX12_slide 70 = .ok (.iload_n 1, 1) := by decide +kernel
theorem dX12_slide_71 : decode cX12_slide 71 = .ok (.iadd, 1) := by decide +kernel
theorem dX12_slide_72 : decode cX12_slide 72 = .ok (.imul, 1) := by decide +kernel
theorem dX12_slide_73 : decode cX12_slide 73 = .ok (.invokevirtual 273, 3) := by decide +kernel
theorem dX12_slide_76 : decode cX12_slide 76 = .ok (.istore_n 3, 1) := by decide +kernel
theorem dX12_slide_77 : decode cX12_slide 77 = .ok (.iload_n 3, 1) := by decide +kernel
theorem dX12_slide_78 : decode cX12_slide 78 = .ok (.iconst (-1), 1) := by decide +kernel
theorem dX12_slide_79 : decode cX12_slide 79 = .ok (.if_icmp .eq 36, 3) := by decide +kernel
theorem dX12_slide_82 : decode cX12_slide 82 = .ok (.aload_n 0, 1) := by decide +kernel
theorem dX12_slide_83 : decode cX12_slide 83 = .ok (.getfield 59, 3) := by decide +kernel
theorem dX12_slide_86 : decode cX12_slide 86 = .ok (.iload_n 3, 1) := by decide +kernel
theorem dX12_slide_87 : decode cX12_slide 87 = .ok (.iload_n 2, 1) := by decide +kernel
theorem dX12_slide_88 : decode cX12_slide 88 = .ok (.iastore, 1) := by decide +kernel
theorem dX12_slide_89 : decode cX12_slide 89 = .ok (.aload_n 0, 1) := by decide +kernel
theorem dX12_slide_90 : decode cX12_slide 90 = .ok (.aload_n 0, 1) := by decide +kernel
theorem dX12_slide_91 : decode cX12_slide 91 = .ok (.getfield 22, 3) := by decide +kernel
theorem dX12_slide_94 : decode cX12_slide 94 = .ok (.iconst 0, 1) := by decide +kernel
theorem dX12_slide_95 : decode cX12_slide 95 = .ok (.iaload, 1) := by decide +kernel
theorem dX12_slide_96 : decode cX12_slide 96 = .ok (.iload_n 2, 1) := by decide +kernel
theorem dX12_slide_97 : decode cX12_slide 97 = .ok (.imul, 1) := by decide +kernel
theorem dX12_slide_98 : decode cX12_slide 98 = .ok (.aload_n 0, 1) := by decide +kernel
theorem dX12_slide_99 : decode cX12_slide 99 = .ok (.getfield 22, 3) := by decide +kernel
theorem dX12_slide_102 : decode cX12_slide 102 = .ok (.iconst 0, 1) := by decide +kernel
theorem dX12_slide_103 : decode cX12_slide 103 = .ok (.iaload, 1) := by decide +kernel
theorem dX12_slide_104 : decode cX12_slide 104 = .ok (.iload_n 2, 1) := by decide +kernel
theorem dX12_slide_105 : decode cX12_slide 105 = .ok (.iload_n 1, 1) := by decide +kernel
theorem dX12_slide_106 : decode cX12_slide 106 = .ok (.iadd, 1) := by decide +kernel
theorem dX12_slide_107 : decode cX12_slide 107 = .ok (.imul, 1) := by decide +kernel
theorem dX12_slide_108 : decode cX12_slide 108 = .ok (.invokevirtual 273, 3) := by decide +kernel
theorem dX12_slide_111 : decode cX12_slide 111 = .ok (.istore_n 3, 1) := by decide +kernel
theorem dX12_slide_112 : decode cX12_slide 112 = .ok (.goto (-35), 3) := by decide +kernel
theorem dX12_slide_115 : decode cX12_slide 115 = .ok (.iinc 2 1, 3) := by decide +kernel
theorem dX12_slide_118 : decode cX12_slide 118 = .ok (.goto (-76), 3) := by decide +kernel
theorem dX12_slide_121 : decode cX12_slide 121 = .ok (.aload_n 0, 1) := by decide +kernel
theorem dX12_slide_122 : decode cX12_slide 122 = .ok (.invokevirtual 213, 3) := by decide +kernel
theorem dX12_slide_125 : decode cX12_slide 125 = .ok (.istore_n 2, 1) := by decide +kernel
theorem dX12_slide_126 : decode cX12_slide 126 = .ok (.aload_n 0, 1) := by decide +kernel
theorem dX12_slide_127 : decode cX12_slide 127 = .ok (.invokevirtual 344, 3) := by decide +kernel
theorem dX12_slide_130 : decode cX12_slide 130 = .ok (.iload_n 2, 1) := by decide +kernel
theorem dX12_slide_131 : decode cX12_slide 131 = .ok (.ireturn, 1) := by decide +kernel
theorem dX12_slid_0 : decode cX12_slid 0 = .ok (.aload_n 0, 1) := by decide +kernel
theorem dX12_slid_1 : decode cX12_slid 1 = .ok (.invokevirtual 151, 3) := by decide +kernel
theorem dX12_slid_4 : decode cX12_slid 4 = .ok (.ifCond .eq 25, 3) := by decide +kernel
theorem dX12_slid_7 : decode cX12_slid 7 = .ok (.iload_n 1, 1) := by decide +kernel
theorem dX12_slid_8 : decode cX12_slid 8 = .ok (.iconst 1, 1) := by decide +kernel
theorem dX12_slid_9 : decode cX12_slid 9 = .ok (.aload_n 0, 1) := by decide +kernel
theorem dX12_slid_10 : decode cX12_slid 10 = .ok (.getfield 22, 3) := by decide +kernel
theorem dX12_slid_13 : decode cX12_slid 13 = .ok (.iconst 1, 1) := by decide +kernel
theorem dX12_slid_14 : decode cX12_slid 14 = .ok (.iaload, 1) := by decide +kernel
theorem dX12_slid_15 : decode cX12_slid 15 = .ok (.invokestatic 76, 3) := by decide +kernel
theorem dX12_slid_18 : decode cX12_slid 18 = .ok (.ifCond .eq 11, 3) := by decide +kernel
theorem dX12_slid_21 : decode cX12_slid 21 = .ok (.aload_n 0, 1) := by decide +kernel
theorem dX12_slid_22 : decode cX12_slid 22 = .ok (.iload_n 1, 1) := by decide +kernel
theorem dX12_slid_23 : decode cX12_slid 23 = .ok (.invokevirtual 363, 3) := by decide +kernel
theorem dX12_slid_26 : decode cX12_slid 26 = .ok (.goto 4, 3) := by decide +kernel
theorem dX12_slid_29 : decode cX12_slid 29 = .ok (.iconst (-1), 1) := by decide +kernel
theorem dX12_slid_30 : decode cX12_slid 30 = .ok (.ireturn, 1) := by decide +kernel
theorem dX12_slidAt_0 : decode cX12_slidAt 0 = .ok (.aload_n 0, 1) := by decide +kernel
theorem dX12_slidAt_1 : decode cX12_slidAt 1 = .ok (.iload_n 1, 1) := by decide +kernel
theorem dX12_slidAt_2 : decode cX12_slidAt 2 = .ok (.invokevirtual 228, 3) := by decide +kernel
theorem dX12_slidAt_5 : decode cX12_slidAt 5 = .ok (.ifCond .eq 17, 3) := by decide +kernel
theorem dX12_slidAt_8 : decode cX12_slidAt 8 = .ok (.iload_n 2, 1) := by decide +kernel
theorem dX12_slidAt_9 : decode cX12_slidAt 9 = .ok (.iconst 1, 1) := by decide +kernel
theorem dX12_slidAt_10 : decode cX12_slidAt 10 = .ok (.aload_n 0, 1) := by decide +kernel
theorem dX12_slidAt_11 : decode cX12_slidAt 11 = .ok (.getfield 22, 3) := by decide +kernel
theorem dX12_slidAt_14 : decode cX12_slidAt 14 = .ok (.iconst 1, 1) := by decide +kernel
theorem dX12_slidAt_15 : decode cX12_slidAt 15 = .ok (.iaload, 1) := by decide +kernel
theorem dX12_slidAt_16 : decode cX12_slidAt 16 = .ok (.invokestatic 76, 3) := by decide +kernel
theorem dX12_slidAt_19 : decode cX12_slidAt 19 = .ok (.ifCond .ne 5, 3) := by decide +kernel
theorem dX12_slidAt_22 : decode cX12_slidAt 22 = .ok (.iconst (-1), 1) := by decide +kernel
theorem dX12_slidAt_23 : decode cX12_slidAt 23 = .ok (.ireturn, 1) := by decide +kernel
theorem dX12_slidAt_24 : decode cX12_slidAt 24 = .ok (.aload_n 0, 1) := by decide +kernel
theorem dX12_slidAt_25 : decode cX12_slidAt 25 = .ok (.iload_n 2, 1) := by decide +kernel
theorem dX12_slidAt_26 : decode cX12_slidAt 26 = .ok (.invokevirtual 363, 3) := by decide +kernel
theorem dX12_slidAt_29 : decode cX12_slidAt 29 = .ok (.pop, 1) := by decide +kernel
theorem dX12_slidAt_30 : decode cX12_slidAt 30 = .ok (.aload_n 0, 1) := by decide +kernel
theorem dX12_slidAt_31 : decode cX12_slidAt 31 = .ok (.getfield 59, 3) := by decide +kernel
theorem dX12_slidAt_34 : decode cX12_slidAt 34 = .ok (.iload_n 1, 1) := by decide +kernel
theorem dX12_slidAt_35 : decode cX12_slidAt 35 = .ok (.iaload, 1) := by decide +kernel
theorem dX12_slidAt_36 : decode cX12_slidAt 36 = .ok (.ireturn, 1) := by decide +kernel
theorem dX12_blame_0 : decode cX12_blame 0 = .ok (.aload_n 0, 1) := by decide +kernel
theorem dX12_blame_1 : decode cX12_blame 1 = .ok (.iload_n 1, 1) := by decide +kernel
theorem dX12_blame_2 : decode cX12_blame 2 = .ok (.invokevirtual 228, 3) := by decide +kernel
theorem dX12_blame_5 : decode cX12_blame 5 = .ok (.ifCond .eq 11, 3) := by decide +kernel
theorem dX12_blame_8 : decode cX12_blame 8 = .ok (.aload_n 0, 1) := by decide +kernel
theorem dX12_blame_9 : decode cX12_blame 9 = .ok (.iload_n 1, 1) := by decide +kernel
theorem dX12_blame_10 : decode cX12_blame 10 = .ok (.invokevirtual 178, 3) := by decide +kernel
theorem dX12_blame_13 : decode cX12_blame 13 = .ok (.ifCond .ne 5, 3) := by decide +kernel
theorem dX12_blame_16 : decode cX12_blame 16 = .ok (.iconst (-1), 1) := by decide +kernel
theorem dX12_blame_17 : decode cX12_blame 17 = .ok (.ireturn, 1) := by decide +kernel
theorem dX12_blame_18 : decode cX12_blame 18 = .ok (.aload_n 0, 1) := by decide +kernel
theorem dX12_blame_19 : decode cX12_blame 19 = .ok (.invokevirtual 329, 3) := by decide +kernel
theorem dX12_blame_22 : decode cX12_blame 22 = .ok (.iconst 0, 1) := by decide +kernel
theorem dX12_blame_23 : decode cX12_blame 23 = .ok (.istore_n 2, 1) := by decide +kernel
theorem dX12_blame_24 : decode cX12_blame 24 = .ok (.iconst 0, 1) := by decide +kernel
theorem dX12_blame_25 : decode cX12_blame 25 = .ok (.istore_n 3, 1) := by decide +kernel
theorem dX12_blame_26 : decode cX12_blame 26 = .ok (.iload_n 3, 1) := by decide +kernel
theorem dX12_blame_27 : decode cX12_blame 27 = .ok (.aload_n 0, 1) := by decide +kernel
theorem dX12_blame_28 : decode cX12_blame 28 = .ok (.getfield 148, 3) := by decide +kernel
theorem dX12_blame_31 : decode cX12_blame 31 = .ok (.if_icmp .ge 47, 3) := by decide +kernel
theorem dX12_blame_34 : decode cX12_blame 34 = .ok (.iload_n 2, 1) := by decide +kernel
theorem dX12_blame_35 : decode cX12_blame 35 = .ok (.iload_n 3, 1) := by decide +kernel
theorem dX12_blame_36 : decode cX12_blame 36 = .ok (.iload_n 1, 1) := by decide +kernel
theorem dX12_blame_37 : decode cX12_blame 37 = .ok (.if_icmp .eq 32, 3) := by decide +kernel
theorem dX12_blame_40 : decode cX12_blame 40 = .ok (.aload_n 0, 1) := by decide +kernel
theorem dX12_blame_41 : decode cX12_blame 41 = .ok (.iload_n 3, 1) := by decide +kernel
theorem dX12_blame_42 : decode cX12_blame 42 = .ok (.invokevirtual 178, 3) := by decide +kernel
theorem dX12_blame_45 : decode cX12_blame 45 = .ok (.ifCond .eq 24, 3) := by decide +kernel
theorem dX12_blame_48 : decode cX12_blame 48 = .ok (.aload_n 0, 1) := by decide +kernel
theorem dX12_blame_49 : decode cX12_blame 49 = .ok (.iconst 1, 1) := by decide +kernel
theorem dX12_blame_50 : decode cX12_blame 50 = .ok (.iload_n 3, 1) := by decide +kernel
theorem dX12_blame_51 : decode cX12_blame 51 = .ok (.ishl, 1) := by decide +kernel
theorem dX12_blame_52 : decode cX12_blame 52 = .ok (.iconst 1, 1) := by decide +kernel
theorem dX12_blame_53 : decode cX12_blame 53 = .ok (.invokevirtual 356, 3) := by decide +kernel
theorem dX12_blame_56 : decode cX12_blame 56 = .ok (.iload_n 1, 1) := by decide +kernel
theorem dX12_blame_57 : decode cX12_blame 57 = .ok (.invokestatic 107, 3) := by decide +kernel
theorem dX12_blame_60 : decode cX12_blame 60 = .ok (.ifCond .eq 9, 3) := by decide +kernel
theorem dX12_blame_63 : decode cX12_blame 63 = .ok (.iconst 1, 1) := by decide +kernel
theorem dX12_blame_64 : decode cX12_blame 64 = .ok (.iload_n 3, 1) := by decide +kernel
theorem dX12_blame_65 : decode cX12_blame 65 = .ok (.ishl, 1) := by decide +kernel
theorem dX12_blame_66 : decode cX12_blame 66 = .ok (.goto 4, 3) := by decide +kernel
theorem dX12_blame_69 : decode cX12_blame 69 = .ok (.iconst 0, 1) := by decide +kernel
theorem dX12_blame_70 : decode cX12_blame 70 = .ok (.ior, 1) := by decide +kernel
theorem dX12_blame_71 : decode cX12_blame 71 = .ok (.istore_n 2, 1) := by decide +kernel
theorem dX12_blame_72 : decode cX12_blame 72 = .ok (.iinc 3 1, 3) := by decide +kernel
theorem dX12_blame_75 : decode cX12_blame 75 = .ok (.goto (-49), 3) := by decide +kernel
theorem dX12_blame_78 : decode cX12_blame 78 = .ok (.iload_n 2, 1) := by decide +kernel
theorem dX12_blame_79 : decode cX12_blame 79 = .ok (.ireturn, 1) := by decide +kernel
theorem dX12_bestOne_0 : decode cX12_bestOne 0 = .ok (.aload_n 0, 1) := by decide +kernel
theorem dX12_bestOne_1 : decode cX12_bestOne 1 = .ok (.invokevirtual 329, 3) := by decide +kernel
theorem dX12_bestOne_4 : decode cX12_bestOne 4 = .ok (.iconst (-1), 1) := by decide +kernel
theorem dX12_bestOne_5 : decode cX12_bestOne 5 = .ok (.istore_n 3, 1) := by decide +kernel
theorem dX12_bestOne_6 : decode cX12_bestOne 6 = .ok (.iconst 0, 1) := by decide +kernel
theorem dX12_bestOne_7 : decode cX12_bestOne 7 = .ok (.istore 4, 2) := by decide +kernel
theorem dX12_bestOne_9 : decode cX12_bestOne 9 = .ok (.iconst 0, 1) := by decide +kernel
theorem dX12_bestOne_10 : decode cX12_bestOne 10 = .ok (.istore 5, 2) := by decide +kernel
theorem dX12_bestOne_12 : decode cX12_bestOne 12 = .ok (.iload 5, 2) := by decide +kernel
theorem dX12_bestOne_14 : decode cX12_bestOne 14 = .ok (.aload_n 0, 1) := by decide +kernel
theorem dX12_bestOne_15 : decode cX12_bestOne 15 = .ok (.getfield 148, 3) := by decide +kernel
theorem dX12_bestOne_18 : decode cX12_bestOne 18 = .ok (.if_icmp .ge 51, 3) := by decide +kernel
theorem dX12_bestOne_21 : decode cX12_bestOne 21 = .ok (.aload_n 0, 1) := by decide +kernel
theorem dX12_bestOne_22 : decode cX12_bestOne 22 = .ok (.iload 5, 2) := by decide +kernel
theorem dX12_bestOne_24 : decode cX12_bestOne 24 = .ok (.invokevirtual 178, 3) := by decide +kernel
theorem dX12_bestOne_27 : decode cX12_bestOne 27 = .ok (.ifCond .eq 36, 3) := by decide +kernel
theorem dX12_bestOne_30 : decode cX12_bestOne 30 = .ok (.aload_n 0, 1) := by decide +kernel
theorem dX12_bestOne_31 : decode cX12_bestOne 31 = .ok (.iconst 1, 1) := by decide +kernel
theorem dX12_bestOne_32 : decode cX12_bestOne 32 = .ok (.iload 5, 2) := by decide +kernel
theorem dX12_bestOne_34 : decode cX12_bestOne 34 = .ok (.ishl, 1) := by decide +kernel
theorem dX12_bestOne_35 : decode cX12_bestOne 35 = .ok (.iload_n 1, 1) := by decide +kernel
theorem dX12_bestOne_36 : decode cX12_bestOne 36 = .ok (.invokevirtual 356, 3) := by decide +kernel
theorem dX12_bestOne_39 : decode cX12_bestOne 39 = .ok (.invokestatic 157, 3) := by decide +kernel
theorem dX12_bestOne_42 : decode cX12_bestOne 42 = .ok (.istore 6, 2) := by decide +kernel
theorem dX12_bestOne_44 : decode cX12_bestOne 44 = .ok (.iload_n 3, 1) := by decide +kernel
theorem dX12_bestOne_45 : decode cX12_bestOne 45 = .ok (.iconst (-1), 1) := by decide +kernel
theorem dX12_bestOne_46 : decode cX12_bestOne 46 = .ok (.if_icmp .eq 10, 3) := by decide +kernel
theorem dX12_bestOne_49 : decode cX12_bestOne 49 = .ok (.iload 6, 2) := by decide +kernel
theorem dX12_bestOne_51 : decode cX12_bestOne 51 = .ok (.iload 4, 2) := by decide +kernel
theorem dX12_bestOne_53 : decode cX12_bestOne 53 = .ok (.if_icmp .le 10, 3) := by decide +kernel
theorem dX12_bestOne_56 : decode cX12_bestOne 56 = .ok (.iload 5, 2) := by decide +kernel
theorem dX12_bestOne_58 : decode cX12_bestOne 58 = .ok (.istore_n 3, 1) := by decide +kernel
theorem dX12_bestOne_59 : decode cX12_bestOne 59 = .ok (.iload 6, 2) := by decide +kernel
theorem dX12_bestOne_61 : decode cX12_bestOne 61 = .ok (.istore 4, 2) := by decide +kernel
theorem dX12_bestOne_63 : decode cX12_bestOne 63 = .ok (.iinc 5 1, 3) := by decide +kernel
theorem dX12_bestOne_66 : decode cX12_bestOne 66 = .ok (.goto (-54), 3) := by decide +kernel
theorem dX12_bestOne_69 : decode cX12_bestOne 69 = .ok (.iload_n 2, 1) := by decide +kernel
theorem dX12_bestOne_70 : decode cX12_bestOne 70 = .ok (.ifCond .ne 7, 3) := by decide +kernel
theorem dX12_bestOne_73 : decode cX12_bestOne 73 = .ok (.iload_n 3, 1) := by decide +kernel
theorem dX12_bestOne_74 : decode cX12_bestOne 74 = .ok (.goto 5, 3) := by decide +kernel
theorem dX12_bestOne_77 : decode cX12_bestOne 77 = .ok (.iload 4, 2) := by decide +kernel
theorem dX12_bestOne_79 : decode cX12_bestOne 79 = .ok (.ireturn, 1) := by decide +kernel
theorem dX12_less_0 : decode cX12_less 0 = .ok (.aload_n 0, 1) := by decide +kernel
theorem dX12_less_1 : decode cX12_less 1 = .ok (.invokevirtual 151, 3) := by decide +kernel
theorem dX12_less_4 : decode cX12_less 4 = .ok (.ifCond .eq 21, 3) := by decide +kernel
theorem dX12_less_7 : decode cX12_less 7 = .ok (.iload_n 1, 1) := by decide +kernel
theorem dX12_less_8 : decode cX12_less 8 = .ok (.iconst 0, 1) := by decide +kernel
theorem dX12_less_9 : decode cX12_less 9 = .ok (.iconst 1, 1) := by decide +kernel
theorem dX12_less_10 : decode cX12_less 10 = .ok (.invokestatic 76, 3) := by decide +kernel
theorem dX12_less_13 : decode cX12_less 13 = .ok (.ifCond .eq 12, 3) := by decide +kernel
theorem dX12_less_16 : decode cX12_less 16 = .ok (.aload_n 0, 1) := by decide +kernel
theorem dX12_less_17 : decode cX12_less 17 = .ok (.iconst 0, 1) := by decide +kernel
theorem dX12_less_18 : decode cX12_less 18 = .ok (.iload_n 1, 1) := by decide +kernel
theorem dX12_less_19 : decode cX12_less 19 = .ok (.invokevirtual 366, 3) := by decide +kernel
theorem dX12_less_22 : decode cX12_less 22 = .ok (.goto 6, 3) := by decide +kernel
theorem dX12_less_25 : decode cX12_less 25 = .ok (.ldc_w 313, 3) := by decide +kernel
theorem dX12_less_28 : decode cX12_less 28 = .ok (.ireturn, 1) := by decide +kernel
theorem dX12_key_0 : decode cX12_key 0 = .ok (.aload_n 0, 1) := by decide +kernel
theorem dX12_key_1 : decode cX12_key 1 = .ok (.invokevirtual 151, 3) := by decide +kernel
theorem dX12_key_4 : decode cX12_key 4 = .ok (.ifCond .eq 21, 3) := by decide +kernel
theorem dX12_key_7 : decode cX12_key 7 = .ok (.iload_n 1, 1) := by decide +kernel
theorem dX12_key_8 : decode cX12_key 8 = .ok (.iconst 0, 1) := by decide +kernel
theorem dX12_key_9 : decode cX12_key 9 = .ok (.iconst 1, 1) := by decide +kernel
theorem dX12_key_10 : decode cX12_key 10 = .ok (.invokestatic 76, 3) := by decide +kernel
theorem dX12_key_13 : decode cX12_key 13 = .ok (.ifCond .eq 12, 3) := by decide +kernel
theorem dX12_key_16 : decode cX12_key 16 = .ok (.aload_n 0, 1) := by decide +kernel
theorem dX12_key_17 : decode cX12_key 17 = .ok (.iconst 1, 1) := by decide +kernel
theorem dX12_key_18 : decode cX12_key 18 = .ok (.iload_n 1, 1) := by decide +kernel
theorem dX12_key_19 : decode cX12_key 19 = .ok (.invokevirtual 366, 3) := by decide +kernel
theorem dX12_key_22 : decode cX12_key 22 = .ok (.goto 6, 3) := by decide +kernel
theorem dX12_key_25 : decode cX12_key 25 = .ok (.ldc_w 313, 3) := by decide +kernel
theorem dX12_key_28 : decode cX12_key 28 = .ok (.ireturn, 1) := by decide +kernel
theorem dX12_more_0 : decode cX12_more 0 = .ok (.aload_n 0, 1) := by decide +kernel
theorem dX12_more_1 : decode cX12_more 1 = .ok (.iload_n 1, 1) := by decide +kernel
theorem dX12_more_2 : decode cX12_more 2 = .ok (.invokevirtual 228, 3) := by decide +kernel
theorem dX12_more_5 : decode cX12_more 5 = .ok (.ifCond .eq 12, 3) := by decide +kernel
theorem dX12_more_8 : decode cX12_more 8 = .ok (.iload_n 2, 1) := by decide +kernel
theorem dX12_more_9 : decode cX12_more 9 = .ok (.iconst 0, 1) := by decide +kernel
theorem dX12_more_10 : decode cX12_more 10 = .ok (.iconst 1, 1) := by decide +kernel
theorem dX12_more_11 : decode cX12_more 11 = .ok (.invokestatic 76, 3) := by decide +kernel
theorem dX12_more_14 : decode cX12_more 14 = .ok (.ifCond .ne 7, 3) := by decide +kernel
theorem dX12_more_17 : decode cX12_more 17 = .ok (.ldc_w 313, 3) := by decide +kernel
theorem dX12_more_20 : decode cX12_more 20 = .ok (.ireturn, 1) := by decide +kernel
theorem dX12_more_21 : decode cX12_more 21 = .ok (.iconst (-1), 1) := by decide +kernel
theorem dX12_more_22 : decode cX12_more 22 = .ok (.istore_n 3, 1) := by decide +kernel
theorem dX12_more_23 : decode cX12_more 23 = .ok (.iconst 0, 1) := by decide +kernel
theorem dX12_more_24 : decode cX12_more 24 = .ok (.istore 4, 2) := by decide +kernel
theorem dX12_more_26 : decode cX12_more 26 = .ok (.aload_n 0, 1) := by decide +kernel
theorem dX12_more_27 : decode cX12_more 27 = .ok (.iload_n 1, 1) := by decide +kernel
theorem dX12_more_28 : decode cX12_more 28 = .ok (.invokevirtual 222, 3) := by decide +kernel
theorem dX12_more_31 : decode cX12_more 31 = .ok (.istore 5, 2) := by decide +kernel
theorem dX12_more_33 : decode cX12_more 33 = .ok (.iload 5, 2) := by decide +kernel
theorem dX12_more_35 : decode cX12_more 35 = .ok (.aload_n 0, 1) := by decide +kernel
theorem dX12_more_36 : decode cX12_more 36 = .ok (.iload_n 1, 1) := by decide +kernel
theorem dX12_more_37 : decode cX12_more 37 = .ok (.invokevirtual 222, 3) := by decide +kernel
theorem dX12_more_40 : decode cX12_more 40 = .ok (.aload_n 0, 1) := by decide +kernel
theorem dX12_more_41 : decode cX12_more 41 = .ok (.iload_n 1, 1) := by decide +kernel
theorem dX12_more_42 : decode cX12_more 42 = .ok (.invokevirtual 225, 3) := by decide +kernel
theorem dX12_more_45 : decode cX12_more 45 = .ok (.iadd, 1) := by decide +kernel
theorem dX12_more_46 : decode cX12_more 46 = .ok (.if_icmp .ge 73, 3) := by decide +kernel
theorem dX12_more_49 : decode cX12_more 49 = .ok (.aload_n 0, 1) := by decide +kernel
theorem dX12_more_50 : decode cX12_more 50 = .ok (.iload_n 1, 1) := by decide +kernel
theorem dX12_more_51 : decode cX12_more 51 = .ok (.iload 5, 2) := by decide +kernel
theorem dX12_more_53 : decode cX12_more 53 = .ok (.invokevirtual 181, 3) := by decide +kernel
theorem dX12_more_56 : decode cX12_more 56 = .ok (.ifCond .ne 57, 3) := by decide +kernel
theorem dX12_more_59 : decode cX12_more 59 = .ok (.aload_n 0, 1) := by decide +kernel
theorem dX12_more_60 : decode cX12_more 60 = .ok (.invokevirtual 329, 3) := by decide +kernel
theorem dX12_more_63 : decode cX12_more 63 = .ok (.aload_n 0, 1) := by decide +kernel
theorem dX12_more_64 : decode cX12_more 64 = .ok (.getfield 56, 3) := by decide +kernel
theorem dX12_more_67 : decode cX12_more 67 = .ok (.iload 5, 2) := by decide +kernel
theorem dX12_more_69 : decode cX12_more 69 = .ok (.dup2, 1) := by decide +kernel
theorem dX12_more_70 : decode cX12_more 70 = .ok (.iaload, 1) := by decide +kernel
theorem dX12_more_71 : decode cX12_more 71 = .ok (.iconst 1, 1) := by decide +kernel
theorem dX12_more_72 : decode cX12_more 72 = .ok (.iload_n 1, 1) := by decide +kernel
theorem dX12_more_73 : decode cX12_more 73 = .ok (.ishl, 1) := by decide +kernel
theorem dX12_more_74 : decode cX12_more 74 = .ok (.ior, 1) := by decide +kernel
theorem dX12_more_75 : decode cX12_more 75 = .ok (.iastore, 1) := by decide +kernel
theorem dX12_more_76 : decode cX12_more 76 = .ok (.aload_n 0, 1) := by decide +kernel
theorem dX12_more_77 : decode cX12_more 77 = .ok (.getfield 148, 3) := by decide +kernel
theorem dX12_more_80 : decode cX12_more 80 = .ok (.aload_n 0, 1) := by decide +kernel
theorem dX12_more_81 : decode cX12_more 81 = .ok (.aload_n 0, 1) := by decide +kernel
theorem dX12_more_82 : decode cX12_more 82 = .ok (.invokevirtual 332, 3) := by decide +kernel
theorem dX12_more_85 : decode cX12_more 85 = .ok (.invokevirtual 335, 3) := by decide +kernel
theorem dX12_more_88 : decode cX12_more 88 = .ok (.invokestatic 157, 3) := by decide +kernel
theorem dX12_more_91 : decode cX12_more 91 = .ok (.isub, 1) := by decide +kernel
theorem dX12_more_92 : decode cX12_more 92 = .ok (.istore 6, 2) := by decide +kernel
theorem dX12_more_94 : decode cX12_more 94 = .ok (.iload_n 3, 1) := by decide +kernel
theorem dX12_more_95 : decode cX12_more 95 = .ok (.iconst (-1), 1) := by decide +kernel
theorem dX12_more_96 : decode cX12_more 96 = .ok (.if_icmp .eq 10, 3) := by decide +kernel
theorem dX12_more_99 : decode cX12_more 99 = .ok (.iload 6, 2) := by decide +kernel
theorem dX12_more_101 : decode cX12_more 101 = .ok (.iload 4, 2) := by decide +kernel
theorem dX12_more_103 : decode cX12_more 103 = .ok (.if_icmp .le 10, 3) := by decide +kernel
theorem dX12_more_106 : decode cX12_more 106 = .ok (.iload 5, 2) := by decide +kernel
theorem dX12_more_108 : decode cX12_more 108 = .ok (.istore_n 3, 1) := by decide +kernel
theorem dX12_more_109 : decode cX12_more 109 = .ok (.iload 6, 2) := by decide +kernel
theorem dX12_more_111 : decode cX12_more 111 = .ok (.istore 4, 2) := by decide +kernel
theorem dX12_more_113 : decode cX12_more 113 = .ok (.iinc 5 1, 3) := by decide +kernel
theorem dX12_more_116 : decode cX12_more 116 = .ok (.goto (-83), 3) := by decide +kernel
theorem dX12_more_119 : decode cX12_more 119 = .ok (.iload_n 2, 1) := by decide +kernel
theorem dX12_more_120 : decode cX12_more 120 = .ok (.ifCond .ne 7, 3) := by decide +kernel
theorem dX12_more_123 : decode cX12_more 123 = .ok (.iload_n 3, 1) := by decide +kernel
theorem dX12_more_124 : decode cX12_more 124 = .ok (.goto 5, 3) := by decide +kernel
theorem dX12_more_127 : decode cX12_more 127 = .ok (.iload 4, 2) := by decide +kernel
theorem dX12_more_129 : decode cX12_more 129 = .ok (.ireturn, 1) := by decide +kernel
theorem dX12_jamFrom_0 : decode cX12_jamFrom 0 = .ok (.iload 5, 2) := by decide +kernel
theorem dX12_jamFrom_2 : decode cX12_jamFrom 2 = .ok (.ifCond .ne 5, 3) := by decide +kernel
theorem dX12_jamFrom_5 : decode cX12_jamFrom 5 = .ok (.iconst 0, 1) := by decide +kernel
theorem dX12_jamFrom_6 : decode cX12_jamFrom 6 = .ok (.ireturn, 1) := by decide +kernel
theorem dX12_jamFrom_7 : decode cX12_jamFrom 7 = .ok (.iload_n 2, 1) := by decide +kernel
theorem dX12_jamFrom_8 : decode cX12_jamFrom 8 = .ok (.iload_n 3, 1) := by decide +kernel
theorem dX12_jamFrom_9 : decode cX12_jamFrom 9 = .ok (.if_icmp .ne 25, 3) := by decide +kernel
theorem dX12_jamFrom_12 : decode cX12_jamFrom 12 = .ok (.aload_n 0, 1) := by decide +kernel
theorem dX12_jamFrom_13 : decode cX12_jamFrom 13 = .ok (.aload_n 0, 1) := by decide +kernel
theorem dX12_jamFrom_14 : decode cX12_jamFrom 14 = .ok (.invokevirtual 332, 3) := by decide +kernel
theorem dX12_jamFrom_17 : decode cX12_jamFrom 17 = .ok (.invokevirtual 335, 3) := by decide +kernel
theorem dX12_jamFrom_20 : decode cX12_jamFrom 20 = .ok (.iload_n 1, 1) := by decide +kernel
theorem dX12_jamFrom_21 : decode cX12_jamFrom 21 = .ok (.invokestatic 107, 3) := by decide +kernel
theorem dX12_jamFrom_24 : decode cX12_jamFrom 24 = .ok (.ifCond .eq 7, 3) := by decide +kernel
theorem dX12_jamFrom_27 : decode cX12_jamFrom 27 = .ok (.iconst 0, 1) := by decide +kernel
theorem dX12_jamFrom_28 : decode cX12_jamFrom 28 = .ok (.goto 5, 3) := by decide +kernel
theorem dX12_jamFrom_31 : decode cX12_jamFrom 31 = .ok (.iload 5, 2) := by decide +kernel
theorem dX12_jamFrom_33 : decode cX12_jamFrom 33 = .ok (.ireturn, 1) := by decide +kernel
theorem dX12_jamFrom_34 : decode cX12_jamFrom 34 = .ok (.iload 5, 2) := by decide +kernel
theorem dX12_jamFrom_36 : decode cX12_jamFrom 36 = .ok (.i2l, 1) := by decide +kernel
theorem dX12_jamFrom_37 : decode cX12_jamFrom 37 = .ok (.iload 4, 2) := by decide +kernel
theorem dX12_jamFrom_39 : decode cX12_jamFrom 39 = .ok (.i2l, 1) := by decide +kernel
theorem dX12_jamFrom_40 : decode cX12_jamFrom 40 = .ok (.lmul, 1) := by decide +kernel
theorem dX12_jamFrom_41 : decode cX12_jamFrom 41 = .ok (.ldc2_w 370, 3) := by decide +kernel
theorem dX12_jamFrom_44 : decode cX12_jamFrom 44 = .ok (.ldiv, 1) := by decide +kernel
theorem dX12_jamFrom_45 : decode cX12_jamFrom 45 = .ok (.l2i, 1) := by decide +kernel
theorem dX12_jamFrom_46 : decode cX12_jamFrom 46 = .ok (.istore 6, 2) := by decide +kernel
theorem dX12_jamFrom_48 : decode cX12_jamFrom 48 = .ok (.aload_n 0, 1) := by decide +kernel
theorem dX12_jamFrom_49 : decode cX12_jamFrom 49 = .ok (.dup, 1) := by decide +kernel
theorem dX12_jamFrom_50 : decode cX12_jamFrom 50 = .ok (.getfield 188, 3) := by decide +kernel
theorem dX12_jamFrom_53 : decode cX12_jamFrom 53 = .ok (.lconst 1, 1) := by decide +kernel
theorem dX12_jamFrom_54 : decode cX12_jamFrom 54 = .ok (.iload_n 2, 1) := by decide +kernel
theorem dX12_jamFrom_55 : decode cX12_jamFrom 55 = .ok (.lshl, 1) := by decide +kernel
theorem dX12_jamFrom_56 : decode cX12_jamFrom 56 = .ok (.lor, 1) := by decide +kernel
theorem dX12_jamFrom_57 : decode cX12_jamFrom 57 = .ok (.putfield 188, 3) := by decide +kernel
theorem dX12_jamFrom_60 : decode cX12_jamFrom 60 = .ok (.aload_n 0, 1) := by decide +kernel
theorem dX12_jamFrom_61 : decode cX12_jamFrom 61 = .ok (.iload_n 1, 1) := by decide +kernel
theorem dX12_jamFrom_62 : decode cX12_jamFrom 62 = .ok (.iload_n 2, 1) := by decide +kernel
theorem dX12_jamFrom_63 : decode cX12_jamFrom 63 = .ok (.iconst 1, 1) := by decide +kernel
theorem dX12_jamFrom_64 : decode cX12_jamFrom 64 = .ok (.iadd, 1) := by decide +kernel
theorem dX12_jamFrom_65 : decode cX12_jamFrom 65 = .ok (.iload_n 3, 1) := by decide +kernel
theorem dX12_jamFrom_66 : decode cX12_jamFrom 66 = .ok (.iload 4, 2) := by decide +kernel
theorem dX12_jamFrom_68 : decode cX12_jamFrom 68 = .ok (.iload 6, 2) := by decide +kernel
theorem dX12_jamFrom_70 : decode cX12_jamFrom 70 = .ok (.invokevirtual 372, 3) := by decide +kernel
theorem dX12_jamFrom_73 : decode cX12_jamFrom 73 = .ok (.istore 7, 2) := by decide +kernel
theorem dX12_jamFrom_75 : decode cX12_jamFrom 75 = .ok (.aload_n 0, 1) := by decide +kernel
theorem dX12_jamFrom_76 : decode cX12_jamFrom 76 = .ok (.dup, 1) := by decide +kernel
theorem dX12_jamFrom_77 : decode cX12_jamFrom 77 = .ok (.getfield 188, 3) := by decide +kernel
theorem dX12_jamFrom_80 : decode cX12_jamFrom 80 = .ok (.lconst 1, 1) := by decide +kernel
theorem dX12_jamFrom_81 : decode cX12_jamFrom 81 = .ok (.iload_n 2, 1) := by decide +kernel
theorem dX12_jamFrom_82 : decode cX12_jamFrom 82 = .ok (.lshl, 1) := by decide +kernel
theorem dX12_jamFrom_83 : decode cX12_jamFrom 83 = .ok (.ldc2_w 376, 3) := by decide +kernel
theorem dX12_jamFrom_86 : decode cX12_jamFrom 86 = .ok (.lxor, 1) := by decide +kernel
theorem dX12_jamFrom_87 : decode cX12_jamFrom 87 = .ok (.land, 1) := by decide +kernel
theorem dX12_jamFrom_88 : decode cX12_jamFrom 88 = .ok (.putfield 188, 3) := by decide +kernel
theorem dX12_jamFrom_91 : decode cX12_jamFrom 91 = .ok (.iload 7, 2) := by decide +kernel
theorem dX12_jamFrom_93 : decode cX12_jamFrom 93 = .ok (.aload_n 0, 1) := by decide +kernel
theorem dX12_jamFrom_94 : decode cX12_jamFrom 94 = .ok (.iload_n 1, 1) := by decide +kernel
theorem dX12_jamFrom_95 : decode cX12_jamFrom 95 = .ok (.iload_n 2, 1) := by decide +kernel
theorem dX12_jamFrom_96 : decode cX12_jamFrom 96 = .ok (.iconst 1, 1) := by decide +kernel
theorem dX12_jamFrom_97 : decode cX12_jamFrom 97 = .ok (.iadd, 1) := by decide +kernel
theorem dX12_jamFrom_98 : decode cX12_jamFrom 98 = .ok (.iload_n 3, 1) := by decide +kernel
theorem dX12_jamFrom_99 : decode cX12_jamFrom 99 = .ok (.iload 4, 2) := by decide +kernel
theorem dX12_jamFrom_101 : decode cX12_jamFrom 101 = .ok (.iload 5, 2) := by decide +kernel
theorem dX12_jamFrom_103 : decode cX12_jamFrom 103 = .ok (.iload 6, 2) := by decide +kernel
theorem dX12_jamFrom_105 : decode cX12_jamFrom 105 = .ok (.isub, 1) := by decide +kernel
theorem dX12_jamFrom_106 : decode cX12_jamFrom 106 = .ok (.invokevirtual 372, 3) := by decide +kernel
theorem dX12_jamFrom_109 : decode cX12_jamFrom 109 = .ok (.iadd, 1) := by decide +kernel
theorem dX12_jamFrom_110 : decode cX12_jamFrom 110 = .ok (.ireturn, 1) := by decide +kernel
theorem dX12_jam_0 : decode cX12_jam 0 = .ok (.aload_n 0, 1) := by decide +kernel
theorem dX12_jam_1 : decode cX12_jam 1 = .ok (.iload_n 1, 1) := by decide +kernel
theorem dX12_jam_2 : decode cX12_jam 2 = .ok (.invokevirtual 228, 3) := by decide +kernel
theorem dX12_jam_5 : decode cX12_jam 5 = .ok (.ifCond .eq 29, 3) := by decide +kernel
theorem dX12_jam_8 : decode cX12_jam 8 = .ok (.iload_n 2, 1) := by decide +kernel
theorem dX12_jam_9 : decode cX12_jam 9 = .ok (.iconst 0, 1) := by decide +kernel
theorem dX12_jam_10 : decode cX12_jam 10 = .ok (.aload_n 0, 1) := by decide +kernel
theorem dX12_jam_11 : decode cX12_jam 11 = .ok (.getfield 22, 3) := by decide +kernel
theorem dX12_jam_14 : decode cX12_jam 14 = .ok (.iconst 1, 1) := by decide +kernel
theorem dX12_jam_15 : decode cX12_jam 15 = .ok (.iaload, 1) := by decide +kernel
theorem dX12_jam_16 : decode cX12_jam 16 = .ok (.iconst 1, 1) := by decide +kernel
theorem dX12_jam_17 : decode cX12_jam 17 = .ok (.isub, 1) := by decide +kernel
theorem dX12_jam_18 : decode cX12_jam 18 = .ok (.invokestatic 76, 3) := by decide +kernel
theorem dX12_jam_21 : decode cX12_jam 21 = .ok (.ifCond .eq 13, 3) := by decide +kernel
theorem dX12_jam_24 : decode cX12_jam 24 = .ok (.iload_n 3, 1) := by decide +kernel
theorem dX12_jam_25 : decode cX12_jam 25 = .ok (.iconst 0, 1) := by decide +kernel
theorem dX12_jam_26 : decode cX12_jam 26 = .ok (.bipush 100, 2) := by decide +kernel
theorem dX12_jam_28 : decode cX12_jam 28 = .ok (.invokestatic 76, 3) := by decide +kernel
theorem dX12_jam_31 : decode cX12_jam 31 = .ok (.ifCond .ne 5, 3) := by decide +kernel
theorem dX12_jam_34 : decode cX12_jam 34 = .ok (.iconst (-1), 1) := by decide +kernel
theorem dX12_jam_35 : decode cX12_jam 35 = .ok (.ireturn, 1) := by decide +kernel
theorem dX12_jam_36 : decode cX12_jam 36 = .ok (.aload_n 0, 1) := by decide +kernel
theorem dX12_jam_37 : decode cX12_jam 37 = .ok (.invokevirtual 329, 3) := by decide +kernel
theorem dX12_jam_40 : decode cX12_jam 40 = .ok (.aload_n 0, 1) := by decide +kernel
theorem dX12_jam_41 : decode cX12_jam 41 = .ok (.iload_n 1, 1) := by decide +kernel
theorem dX12_jam_42 : decode cX12_jam 42 = .ok (.aload_n 0, 1) := by decide +kernel
theorem dX12_jam_43 : decode cX12_jam 43 = .ok (.getfield 22, 3) := by decide +kernel
theorem dX12_jam_46 : decode cX12_jam 46 = .ok (.iconst 0, 1) := by decide +kernel
theorem dX12_jam_47 : decode cX12_jam 47 = .ok (.iaload, 1) := by decide +kernel
theorem dX12_jam_48 : decode cX12_jam 48 = .ok (.iload_n 2, 1) := by decide +kernel
theorem dX12_jam_49 : decode cX12_jam 49 = .ok (.imul, 1) := by decide +kernel
theorem dX12_jam_50 : decode cX12_jam 50 = .ok (.aload_n 0, 1) := by decide +kernel
theorem dX12_jam_51 : decode cX12_jam 51 = .ok (.getfield 22, 3) := by decide +kernel
theorem dX12_jam_54 : decode cX12_jam 54 = .ok (.iconst 0, 1) := by decide +kernel
theorem dX12_jam_55 : decode cX12_jam 55 = .ok (.iaload, 1) := by decide +kernel
theorem dX12_jam_56 : decode cX12_jam 56 = .ok (.iload_n 2, 1) := by decide +kernel
theorem dX12_jam_57 : decode cX12_jam 57 = .ok (.iconst 1, 1) := by decide +kernel
theorem dX12_jam_58 : decode cX12_jam 58 = .ok (.iadd, 1) := by decide +kernel
theorem dX12_jam_59 : decode cX12_jam 59 = .ok (.imul, 1) := by decide +kernel
theorem dX12_jam_60 : decode cX12_jam 60 = .ok (.iload_n 3, 1) := by decide +kernel
theorem dX12_jam_61 : decode cX12_jam 61 = .ok (.ldc_w 378, 3) := by decide +kernel
theorem dX12_jam_64 : decode cX12_jam 64 = .ok (.invokevirtual 372, 3) := by decide +kernel
theorem dX12_jam_67 : decode cX12_jam 67 = .ok (.ireturn, 1) := by decide +kernel
theorem dX12_timesOfAll_0 : decode cX12_timesOfAll 0 = .ok (.iconst 0, 1) := by decide +kernel
theorem dX12_timesOfAll_1 : decode cX12_timesOfAll 1 = .ok (.istore_n 1, 1) := by decide +kernel
theorem dX12_timesOfAll_2 : decode cX12_timesOfAll 2 = .ok (.iconst 1, 1) := by decide +kernel
theorem dX12_timesOfAll_3 : decode cX12_timesOfAll 3 = .ok (.istore_n 2, 1) := by decide +kernel
theorem dX12_timesOfAll_4 : decode cX12_timesOfAll 4 = .ok (.iload_n 2, 1) := by decide +kernel
theorem dX12_timesOfAll_5 : decode cX12_timesOfAll 5 = .ok (.bipush 6, 2) := by decide +kernel
theorem dX12_timesOfAll_7 : decode cX12_timesOfAll 7 = .ok (.if_icmp .gt 20, 3) := by decide +kernel
theorem dX12_timesOfAll_10 : decode cX12_timesOfAll 10 = .ok (.iload_n 1, 1) := by decide +kernel
theorem dX12_timesOfAll_11 : decode cX12_timesOfAll 11 = .ok (.iload_n 2, 1) := by decide +kernel
theorem dX12_timesOfAll_12 : decode cX12_timesOfAll 12 = .ok (.aload_n 0, 1) := by decide +kernel
theorem dX12_timesOfAll_13 : decode cX12_timesOfAll 13 = .ok (.getfield 28, 3) := by decide +kernel
theorem dX12_timesOfAll_16 : decode cX12_timesOfAll 16 = .ok (.iload_n 2, 1) := by decide +kernel
theorem dX12_timesOfAll_17 : decode cX12_timesOfAll 17 = .ok (.iaload, 1) := by decide +kernel
theorem dX12_timesOfAll_18 : decode cX12_timesOfAll 18 = .ok (.imul, 1) := by decide +kernel
theorem dX12_timesOfAll_19 : decode cX12_timesOfAll 19 = .ok (.iadd, 1) := by decide +kernel
theorem dX12_timesOfAll_20 : decode cX12_timesOfAll 20 = .ok (.istore_n 1, 1) := by decide +kernel
theorem dX12_timesOfAll_21 : decode cX12_timesOfAll 21 = .ok (.iinc 2 1, 3) := by decide +kernel
theorem dX12_timesOfAll_24 : decode cX12_timesOfAll 24 = .ok (.goto (-20), 3) := by decide +kernel
theorem dX12_timesOfAll_27 : decode cX12_timesOfAll 27 = .ok (.iload_n 1, 1) := by decide +kernel
theorem dX12_timesOfAll_28 : decode cX12_timesOfAll 28 = .ok (.ireturn, 1) := by decide +kernel
theorem dX12_shareOf_0 : decode cX12_shareOf 0 = .ok (.aload_n 0, 1) := by decide +kernel
theorem dX12_shareOf_1 : decode cX12_shareOf 1 = .ok (.invokevirtual 379, 3) := by decide +kernel
theorem dX12_shareOf_4 : decode cX12_shareOf 4 = .ok (.i2d, 1) := by decide +kernel
theorem dX12_shareOf_5 : decode cX12_shareOf 5 = .ok (.aload_n 0, 1) := by decide +kernel
theorem dX12_shareOf_6 : decode cX12_shareOf 6 = .ok (.invokevirtual 237, 3) := by decide +kernel
theorem dX12_shareOf_9 : decode cX12_shareOf 9 = .ok (.i2d, 1) := by decide +kernel
theorem dX12_shareOf_10 : decode cX12_shareOf 10 = .ok (.ddiv, 1) := by decide +kernel
theorem dX12_shareOf_11 : decode cX12_shareOf 11 = .ok (.dstore_n 3, 1) := by decide +kernel
theorem dX12_shareOf_12 : decode cX12_shareOf 12 = .ok (.dconst 1, 1) := by decide +kernel
theorem dX12_shareOf_13 : decode cX12_shareOf 13 = .ok (.dload_n 3, 1) := by decide +kernel
theorem dX12_shareOf_14 : decode cX12_shareOf 14 = .ok (.aload_n 0, 1) := by decide +kernel
theorem dX12_shareOf_15 : decode cX12_shareOf 15 = .ok (.getfield 22, 3) := by decide +kernel
theorem dX12_shareOf_18 : decode cX12_shareOf 18 = .ok (.iconst 0, 1) := by decide +kernel
theorem dX12_shareOf_19 : decode cX12_shareOf 19 = .ok (.iaload, 1) := by decide +kernel
theorem dX12_shareOf_20 : decode cX12_shareOf 20 = .ok (.i2d, 1) := by decide +kernel
theorem dX12_shareOf_21 : decode cX12_shareOf 21 = .ok (.ddiv, 1) := by decide +kernel
theorem dX12_shareOf_22 : decode cX12_shareOf 22 = .ok (.invokestatic 382, 3) := by decide +kernel
theorem dX12_shareOf_25 : decode cX12_shareOf 25 = .ok (.dstore 5, 2) := by decide +kernel
theorem dX12_shareOf_27 : decode cX12_shareOf 27 = .ok (.dconst 1, 1) := by decide +kernel
theorem dX12_shareOf_28 : decode cX12_shareOf 28 = .ok (.dstore 7, 2) := by decide +kernel
theorem dX12_shareOf_30 : decode cX12_shareOf 30 = .ok (.iconst 0, 1) := by decide +kernel
theorem dX12_shareOf_31 : decode cX12_shareOf 31 = .ok (.istore 9, 2) := by decide +kernel
theorem dX12_shareOf_33 : decode cX12_shareOf 33 = .ok (.iload 9, 2) := by decide +kernel
theorem dX12_shareOf_35 : decode cX12_shareOf 35 = .ok (.iload_n 2, 1) := by decide +kernel
theorem dX12_shareOf_36 : decode cX12_shareOf 36 = .ok (.if_icmp .ge 136, 3) := by decide +kernel
theorem dX12_shareOf_39 : decode cX12_shareOf 39 = .ok (.dconst 1, 1) := by decide +kernel
theorem dX12_shareOf_40 : decode cX12_shareOf 40 = .ok (.dload 5, 2) := by decide +kernel
theorem dX12_shareOf_42 : decode cX12_shareOf 42 = .ok (.dload 7, 2) := by decide +kernel
theorem dX12_shareOf_44 : decode cX12_shareOf 44 = .ok (.dmul, 1) := by decide +kernel
theorem dX12_shareOf_45 : decode cX12_shareOf 45 = .ok (.dsub, 1) := by decide +kernel
theorem dX12_shareOf_46 : decode cX12_shareOf 46 = .ok (.dstore 10, 2) := by decide +kernel
theorem dX12_shareOf_48 : decode cX12_shareOf 48 = .ok (.dconst 1, 1) := by decide +kernel
theorem dX12_shareOf_49 : decode cX12_shareOf 49 = .ok (.dstore 12, 2) := by decide +kernel
theorem dX12_shareOf_51 : decode cX12_shareOf 51 = .ok (.iconst 1, 1) := by decide +kernel
theorem dX12_shareOf_52 : decode cX12_shareOf 52 = .ok (.istore 14, 2) := by decide +kernel
theorem dX12_shareOf_54 : decode cX12_shareOf 54 = .ok (.iload 14, 2) := by decide +kernel
theorem dX12_shareOf_56 : decode cX12_shareOf 56 = .ok (.iload_n 1, 1) := by decide +kernel
theorem dX12_shareOf_57 : decode cX12_shareOf 57 = .ok (.if_icmp .ge 16, 3) := by decide +kernel
theorem dX12_shareOf_60 : decode cX12_shareOf 60 = .ok (.dload 12, 2) := by decide +kernel
theorem dX12_shareOf_62 : decode cX12_shareOf 62 = .ok (.dload 10, 2) := by decide +kernel
theorem dX12_shareOf_64 : decode cX12_shareOf 64 = .ok (.dmul, 1) := by decide +kernel
theorem dX12_shareOf_65 : decode cX12_shareOf 65 = .ok (.dstore 12, 2) := by decide +kernel
theorem dX12_shareOf_67 : decode cX12_shareOf 67 = .ok (.iinc 14 1, 3) := by decide +kernel
theorem dX12_shareOf_70 : decode cX12_shareOf 70 = .ok (.goto (-16), 3) := by decide +kernel
theorem dX12_shareOf_73 : decode cX12_shareOf 73 = .ok (.dconst 1, 1) := by decide +kernel
theorem dX12_shareOf_74 : decode cX12_shareOf 74 = .ok (.dload 12, 2) := by decide +kernel
theorem dX12_shareOf_76 : decode cX12_shareOf 76 = .ok (.dsub, 1) := by decide +kernel
theorem dX12_shareOf_77 : decode cX12_shareOf 77 = .ok (.dstore 14, 2) := by decide +kernel
theorem dX12_shareOf_79 : decode cX12_shareOf 79 = .ok (.dconst 0, 1) := by decide +kernel
theorem dX12_shareOf_80 : decode cX12_shareOf 80 = .ok (.dstore 16, 2) := by decide +kernel
theorem dX12_shareOf_82 : decode cX12_shareOf 82 = .ok (.iconst 1, 1) := by decide +kernel
theorem dX12_shareOf_83 : decode cX12_shareOf 83 = .ok (.istore 18, 2) := by decide +kernel
theorem dX12_shareOf_85 : decode cX12_shareOf 85 = .ok (.iload 18, 2) := by decide +kernel
theorem dX12_shareOf_87 : decode cX12_shareOf 87 = .ok (.bipush 6, 2) := by decide +kernel
theorem dX12_shareOf_89 : decode cX12_shareOf 89 = .ok (.if_icmp .gt 67, 3) := by decide +kernel
theorem dX12_shareOf_92 : decode cX12_shareOf 92 = .ok (.iload 18, 2) := by decide +kernel
theorem dX12_shareOf_94 : decode cX12_shareOf 94 = .ok (.aload_n 0, 1) := by decide +kernel
theorem dX12_shareOf_95 : decode cX12_shareOf 95 = .ok (.getfield 28, 3) := by decide +kernel
theorem dX12_shareOf_98 : decode cX12_shareOf 98 = .ok (.iload 18, 2) := by decide +kernel
theorem dX12_shareOf_100 : decode cX12_shareOf 100 = .ok (.iaload, 1) := by decide +kernel
theorem dX12_shareOf_101 : decode cX12_shareOf 101 = .ok (.imul, 1) := by decide +kernel
theorem dX12_shareOf_102 : decode cX12_shareOf 102 = .ok (.i2d, 1) := by decide +kernel
theorem dX12_shareOf_103 : decode cX12_shareOf 103 = .ok (.dstore 19, 2) := by decide +kernel
theorem dX12_shareOf_105 : decode cX12_shareOf 105 = .ok (.iconst 1, 1) := by decide +kernel
theorem dX12_shareOf_106 : decode cX12_shareOf 106 = .ok (.istore 21, 2) := by decide +kernel
theorem dX12_shareOf_108 : decode cX12_shareOf 108 = .ok (.iload 21, 2) := by decide +kernel
theorem dX12_shareOf_110 : decode cX12_shareOf 110 = .ok (.iload 18, 2) := by decide +kernel
theorem dX12_shareOf_112 : decode cX12_shareOf 112 = .ok (.if_icmp .ge 16, 3) := by decide +kernel
theorem dX12_shareOf_115 : decode cX12_shareOf 115 = .ok (.dload 19, 2) := by decide +kernel
theorem dX12_shareOf_117 : decode cX12_shareOf 117 = .ok (.dload 14, 2) := by decide +kernel
theorem dX12_shareOf_119 : decode cX12_shareOf 119 = .ok (.dmul, 1) := by decide +kernel
theorem dX12_shareOf_120 : decode cX12_shareOf 120 = .ok (.dstore 19, 2) := by decide +kernel
theorem dX12_shareOf_122 : decode cX12_shareOf 122 = .ok (.iinc 21 1, 3) := by decide +kernel
theorem dX12_shareOf_125 : decode cX12_shareOf 125 = .ok (.goto (-17), 3) := by decide +kernel
theorem dX12_shareOf_128 : decode cX12_shareOf 128 = .ok (.aload_n 0, 1) := by decide +kernel
theorem dX12_shareOf_129 : decode cX12_shareOf 129 = .ok (.getfield 28, 3) := by decide +kernel
theorem dX12_shareOf_132 : decode cX12_shareOf 132 = .ok (.iload 18, 2) := by decide +kernel
theorem dX12_shareOf_134 : decode cX12_shareOf 134 = .ok (.iaload, 1) := by decide +kernel
theorem dX12_shareOf_135 : decode cX12_shareOf 135 = .ok (.ifCond .le 11, 3) := by decide +kernel
theorem dX12_shareOf_138 : decode cX12_shareOf 138 = .ok (.dload 16, 2) := by decide +kernel
theorem dX12_shareOf_140 : decode cX12_shareOf 140 = .ok (.dload 19, 2) := by decide +kernel
theorem dX12_shareOf_142 : decode cX12_shareOf 142 = .ok (.dadd, 1) := by decide +kernel
theorem dX12_shareOf_143 : decode cX12_shareOf 143 = .ok (.goto 5, 3) := by decide +kernel
theorem dX12_shareOf_146 : decode cX12_shareOf 146 = .ok (.dload 16, 2) := by decide +kernel
theorem dX12_shareOf_148 : decode cX12_shareOf 148 = .ok (.dstore 16, 2) := by decide +kernel
theorem dX12_shareOf_150 : decode cX12_shareOf 150 = .ok (.iinc 18 1, 3) := by decide +kernel
theorem dX12_shareOf_153 : decode cX12_shareOf 153 = .ok (.goto (-68), 3) := by decide +kernel
theorem dX12_shareOf_156 : decode cX12_shareOf 156 = .ok (.dload 16, 2) := by decide +kernel
theorem dX12_shareOf_158 : decode cX12_shareOf 158 = .ok (.aload_n 0, 1) := by decide +kernel
theorem dX12_shareOf_159 : decode cX12_shareOf 159 = .ok (.invokevirtual 379, 3) := by decide +kernel
theorem dX12_shareOf_162 : decode cX12_shareOf 162 = .ok (.i2d, 1) := by decide +kernel
theorem dX12_shareOf_163 : decode cX12_shareOf 163 = .ok (.ddiv, 1) := by decide +kernel
theorem dX12_shareOf_164 : decode cX12_shareOf 164 = .ok (.dstore 7, 2) := by decide +kernel
theorem dX12_shareOf_166 : decode cX12_shareOf 166 = .ok (.iinc 9 1, 3) := by decide +kernel
theorem dX12_shareOf_169 : decode cX12_shareOf 169 = .ok (.goto (-136), 3) := by decide +kernel
theorem dX12_shareOf_172 : decode cX12_shareOf 172 = .ok (.dload 7, 2) := by decide +kernel
theorem dX12_shareOf_174 : decode cX12_shareOf 174 = .ok (.dreturn, 1) := by decide +kernel
theorem dX12_share_0 : decode cX12_share 0 = .ok (.aload_n 0, 1) := by decide +kernel
theorem dX12_share_1 : decode cX12_share 1 = .ok (.invokevirtual 151, 3) := by decide +kernel
theorem dX12_share_4 : decode cX12_share 4 = .ok (.ifCond .eq 42, 3) := by decide +kernel
theorem dX12_share_7 : decode cX12_share 7 = .ok (.aload_n 0, 1) := by decide +kernel
theorem dX12_share_8 : decode cX12_share 8 = .ok (.invokevirtual 237, 3) := by decide +kernel
theorem dX12_share_11 : decode cX12_share 11 = .ok (.ifCond .le 35, 3) := by decide +kernel
theorem dX12_share_14 : decode cX12_share 14 = .ok (.iload_n 1, 1) := by decide +kernel
theorem dX12_share_15 : decode cX12_share 15 = .ok (.iconst 1, 1) := by decide +kernel
theorem dX12_share_16 : decode cX12_share 16 = .ok (.bipush 60, 2) := by decide +kernel
theorem dX12_share_18 : decode cX12_share 18 = .ok (.invokestatic 76, 3) := by decide +kernel
theorem dX12_share_21 : decode cX12_share 21 = .ok (.ifCond .eq 25, 3) := by decide +kernel
theorem dX12_share_24 : decode cX12_share 24 = .ok (.iload_n 2, 1) := by decide +kernel
theorem dX12_share_25 : decode cX12_share 25 = .ok (.iconst 0, 1) := by decide +kernel
theorem dX12_share_26 : decode cX12_share 26 = .ok (.bipush 40, 2) := by decide +kernel
theorem dX12_share_28 : decode cX12_share 28 = .ok (.invokestatic 76, 3) := by decide +kernel
theorem dX12_share_31 : decode cX12_share 31 = .ok (.ifCond .eq 15, 3) := by decide +kernel
theorem dX12_share_34 : decode cX12_share 34 = .ok (.aload_n 0, 1) := by decide +kernel
theorem dX12_share_35 : decode cX12_share 35 = .ok (.iload_n 1, 1) := by decide +kernel
theorem dX12_share_36 : decode cX12_share 36 = .ok (.iload_n 2, 1) := by decide +kernel
theorem dX12_share_37 : decode cX12_share 37 = .ok (.invokevirtual 385, 3) := by decide +kernel
theorem dX12_share_40 : decode cX12_share 40 = .ok (.invokestatic 389, 3) := by decide +kernel
theorem dX12_share_43 : decode cX12_share 43 = .ok (.goto 6, 3) := by decide +kernel
theorem dX12_share_46 : decode cX12_share 46 = .ok (.ldc2_w 376, 3) := by decide +kernel
theorem dX12_share_49 : decode cX12_share 49 = .ok (.lreturn, 1) := by decide +kernel
theorem dX12_limit_0 : decode cX12_limit 0 = .ok (.aload_n 0, 1) := by decide +kernel
theorem dX12_limit_1 : decode cX12_limit 1 = .ok (.invokevirtual 151, 3) := by decide +kernel
theorem dX12_limit_4 : decode cX12_limit 4 = .ok (.ifCond .eq 10, 3) := by decide +kernel
theorem dX12_limit_7 : decode cX12_limit 7 = .ok (.aload_n 0, 1) := by decide +kernel
theorem dX12_limit_8 : decode cX12_limit 8 = .ok (.invokevirtual 237, 3) := by decide +kernel
theorem dX12_limit_11 : decode cX12_limit 11 = .ok (.ifCond .ne 5, 3) := by decide +kernel
theorem dX12_limit_14 : decode cX12_limit 14 = .ok (.iconst (-1), 1) := by decide +kernel
theorem dX12_limit_15 : decode cX12_limit 15 = .ok (.ireturn, 1) := by decide +kernel
theorem dX12_limit_16 : decode cX12_limit 16 = .ok (.bipush 60, 2) := by decide +kernel
theorem dX12_limit_18 : decode cX12_limit 18 = .ok (.istore_n 1, 1) := by decide +kernel
theorem dX12_limit_19 : decode cX12_limit 19 = .ok (.iload_n 1, 1) := by decide +kernel
theorem dX12_limit_20 : decode cX12_limit 20 = .ok (.ifCond .le 25, 3) := by decide +kernel
theorem dX12_limit_23 : decode cX12_limit 23 = .ok (.aload_n 0, 1) := by decide +kernel
theorem dX12_limit_24 : decode cX12_limit 24 = .ok (.iload_n 1, 1) := by decide +kernel
theorem dX12_limit_25 : decode cX12_limit 25 = .ok (.bipush 40, 2) := by decide +kernel
theorem dX12_limit_27 : decode cX12_limit 27 = .ok (.invokevirtual 385, 3) := by decide +kernel
theorem dX12_limit_30 : decode cX12_limit 30 = .ok (.ldc2_w 395, 3) := by decide +kernel
theorem dX12_limit_33 : decode cX12_limit 33 = .ok (.dcmp .g, 1) := by decide +kernel
theorem dX12_limit_34 : decode cX12_limit 34 = .ok (.ifCond .ge 5, 3) := by decide +kernel
theorem dX12_limit_37 : decode cX12_limit 37 = .ok (.iload_n 1, 1) := by decide +kernel
theorem dX12_limit_38 : decode cX12_limit 38 = .ok (.ireturn, 1) := by decide +kernel
theorem dX12_limit_39 : decode cX12_limit 39 = .ok (.iinc 1 (-1), 3) := by decide +kernel
theorem dX12_limit_42 : decode cX12_limit 42 = .ok (.goto (-23), 3) := by decide +kernel
theorem dX12_limit_45 : decode cX12_limit 45 = .ok (.iconst (-1), 1) := by decide +kernel
theorem dX12_limit_46 : decode cX12_limit 46 = .ok (.ireturn, 1) := by decide +kernel
theorem dX12_sample_0 : decode cX12_sample 0 = .ok (.aload_n 0, 1) := by decide +kernel
theorem dX12_sample_1 : decode cX12_sample 1 = .ok (.invokevirtual 151, 3) := by decide +kernel
theorem dX12_sample_4 : decode cX12_sample 4 = .ok (.ifCond .eq 10, 3) := by decide +kernel
theorem dX12_sample_7 : decode cX12_sample 7 = .ok (.aload_n 0, 1) := by decide +kernel
theorem dX12_sample_8 : decode cX12_sample 8 = .ok (.invokevirtual 237, 3) := by decide +kernel
theorem dX12_sample_11 : decode cX12_sample 11 = .ok (.ifCond .ne 5, 3) := by decide +kernel
theorem dX12_sample_14 : decode cX12_sample 14 = .ok (.iconst (-1), 1) := by decide +kernel
theorem dX12_sample_15 : decode cX12_sample 15 = .ok (.ireturn, 1) := by decide +kernel
theorem dX12_sample_16 : decode cX12_sample 16 = .ok (.aload_n 0, 1) := by decide +kernel
theorem dX12_sample_17 : decode cX12_sample 17 = .ok (.lload_n 1, 1) := by decide +kernel
theorem dX12_sample_18 : decode cX12_sample 18 = .ok (.putfield 252, 3) := by decide +kernel
theorem dX12_sample_21 : decode cX12_sample 21 = .ok (.aload_n 0, 1) := by decide +kernel
theorem dX12_sample_22 : decode cX12_sample 22 = .ok (.invokevirtual 262, 3) := by decide +kernel
theorem dX12_sample_25 : decode cX12_sample 25 = .ok (.ireturn, 1) := by decide +kernel
theorem dX12_isScript_0 : decode cX12_isScript 0 = .ok (.iload_n 1, 1) := by decide +kernel
theorem dX12_isScript_1 : decode cX12_isScript 1 = .ok (.iconst 0, 1) := by decide +kernel
theorem dX12_isScript_2 : decode cX12_isScript 2 = .ok (.aload_n 0, 1) := by decide +kernel
theorem dX12_isScript_3 : decode cX12_isScript 3 = .ok (.getfield 175, 3) := by decide +kernel
theorem dX12_isScript_6 : decode cX12_isScript 6 = .ok (.iconst 1, 1) := by decide +kernel
theorem dX12_isScript_7 : decode cX12_isScript 7 = .ok (.isub, 1) := by decide +kernel
theorem dX12_isScript_8 : decode cX12_isScript 8 = .ok (.invokestatic 76, 3) := by decide +kernel
theorem dX12_isScript_11 : decode cX12_isScript 11 = .ok (.ireturn, 1) := by decide +kernel
theorem dX12_step_0 : decode cX12_step 0 = .ok (.aload_n 0, 1) := by decide +kernel
theorem dX12_step_1 : decode cX12_step 1 = .ok (.iload_n 1, 1) := by decide +kernel
theorem dX12_step_2 : decode cX12_step 2 = .ok (.invokevirtual 397, 3) := by decide +kernel
theorem dX12_step_5 : decode cX12_step 5 = .ok (.ifCond .eq 46, 3) := by decide +kernel
theorem dX12_step_8 : decode cX12_step 8 = .ok (.iload_n 2, 1) := by decide +kernel
theorem dX12_step_9 : decode cX12_step 9 = .ok (.iconst 0, 1) := by decide +kernel
theorem dX12_step_10 : decode cX12_step 10 = .ok (.aload_n 0, 1) := by decide +kernel
theorem dX12_step_11 : decode cX12_step 11 = .ok (.getfield 34, 3) := by decide +kernel
theorem dX12_step_14 : decode cX12_step 14 = .ok (.iload_n 1, 1) := by decide +kernel
theorem dX12_step_15 : decode cX12_step 15 = .ok (.iaload, 1) := by decide +kernel
theorem dX12_step_16 : decode cX12_step 16 = .ok (.iconst 1, 1) := by decide +kernel
theorem dX12_step_17 : decode cX12_step 17 = .ok (.isub, 1) := by decide +kernel
theorem dX12_step_18 : decode cX12_step 18 = .ok (.invokestatic 76, 3) := by decide +kernel
theorem dX12_step_21 : decode cX12_step 21 = .ok (.ifCond .eq 30, 3) := by decide +kernel
theorem dX12_step_24 : decode cX12_step 24 = .ok (.iload_n 3, 1) := by decide +kernel
theorem dX12_step_25 : decode cX12_step 25 = .ok (.iconst 0, 1) := by decide +kernel
theorem dX12_step_26 : decode cX12_step 26 = .ok (.iconst 1, 1) := by decide +kernel
theorem dX12_step_27 : decode cX12_step 27 = .ok (.invokestatic 76, 3) := by decide +kernel
theorem dX12_step_30 : decode cX12_step 30 = .ok (.ifCond .eq 21, 3) := by decide +kernel
theorem dX12_step_33 : decode cX12_step 33 = .ok (.aload_n 0, 1) := by decide +kernel
theorem dX12_step_34 : decode cX12_step 34 = .ok (.getfield 31, 3) := by decide +kernel
theorem dX12_step_37 : decode cX12_step 37 = .ok (.iconst 2, 1) := by decide +kernel
theorem dX12_step_38 : decode cX12_step 38 = .ok (.bipush 16, 2) := by decide +kernel
theorem dX12_step_40 : decode cX12_step 40 = .ok (.iload_n 1, 1) := by decide +kernel
theorem dX12_step_41 : decode cX12_step 41 = .ok (.imul, 1) := by decide +kernel
theorem dX12_step_42 : decode cX12_step 42 = .ok (.iload_n 2, 1) := by decide +kernel
theorem dX12_step_43 : decode cX12_step 43 = .ok (.iadd, 1) := by decide +kernel
theorem dX12_step_44 : decode cX12_step 44 = .ok (.imul, 1) := by decide +kernel
theorem dX12_step_45 : decode cX12_step 45 = .ok (.iload_n 3, 1) := by decide +kernel
theorem dX12_step_46 : decode cX12_step 46 = .ok (.iadd, 1) := by decide +kernel
theorem dX12_step_47 : decode cX12_step 47 = .ok (.iaload, 1) := by decide +kernel
theorem dX12_step_48 : decode cX12_step 48 = .ok (.goto 6, 3) := by decide +kernel
theorem dX12_step_51 : decode cX12_step 51 = .ok (.ldc_w 313, 3) := by decide +kernel
theorem dX12_step_54 : decode cX12_step 54 = .ok (.ireturn, 1) := by decide +kernel
theorem dX12_actOf_0 : decode cX12_actOf 0 = .ok (.iload_n 0, 1) := by decide +kernel
theorem dX12_actOf_1 : decode cX12_actOf 1 = .ok (.iconst 4, 1) := by decide +kernel
theorem dX12_actOf_2 : decode cX12_actOf 2 = .ok (.if_icmp .ne 8, 3) := by decide +kernel
theorem dX12_actOf_5 : decode cX12_actOf 5 = .ok (.bipush 6, 2) := by decide +kernel
theorem dX12_actOf_7 : decode cX12_actOf 7 = .ok (.goto 13, 3) := by decide +kernel
theorem dX12_actOf_10 : decode cX12_actOf 10 = .ok (.iload_n 0, 1) := by decide +kernel
theorem dX12_actOf_11 : decode cX12_actOf 11 = .ok (.iconst 5, 1) := by decide +kernel
theorem dX12_actOf_12 : decode cX12_actOf 12 = .ok (.if_icmp .ne 7, 3) := by decide +kernel
theorem dX12_actOf_15 : decode cX12_actOf 15 = .ok (.iconst 5, 1) := by decide +kernel
theorem dX12_actOf_16 : decode cX12_actOf 16 = .ok (.goto 4, 3) := by decide +kernel
theorem dX12_actOf_19 : decode cX12_actOf 19 = .ok (.iload_n 0, 1) := by decide +kernel
theorem dX12_actOf_20 : decode cX12_actOf 20 = .ok (.ireturn, 1) := by decide +kernel
theorem dX12_goSteps_0 : decode cX12_goSteps 0 = .ok (.iconst 0, 1) := by decide +kernel
theorem dX12_goSteps_1 : decode cX12_goSteps 1 = .ok (.istore_n 3, 1) := by decide +kernel
theorem dX12_goSteps_2 : decode cX12_goSteps 2 = .ok (.iload_n 3, 1) := by decide +kernel
theorem dX12_goSteps_3 : decode cX12_goSteps 3 = .ok (.aload_n 0, 1) := by decide +kernel
theorem dX12_goSteps_4 : decode cX12_goSteps 4 = .ok (.getfield 34, 3) := by decide +kernel
theorem dX12_goSteps_7 : decode cX12_goSteps 7 = .ok (.iload_n 1, 1) := by decide +kernel
theorem dX12_goSteps_8 : decode cX12_goSteps 8 = .ok (.iaload, 1) := by decide +kernel
theorem dX12_goSteps_9 : decode cX12_goSteps 9 = .ok (.if_icmp .ge 92, 3) := by decide +kernel
theorem dX12_goSteps_12 : decode cX12_goSteps 12 = .ok (.aload_n 0, 1) := by decide +kernel
theorem dX12_goSteps_13 : decode cX12_goSteps 13 = .ok (.getfield 31, 3) := by decide +kernel
theorem dX12_goSteps_16 : decode cX12_goSteps 16 = .ok (.iconst 2, 1) := by decide +kernel
theorem dX12_goSteps_17 : decode cX12_goSteps 17 = .ok (.bipush 16, 2) := by decide +kernel
theorem dX12_goSteps_19 : decode cX12_goSteps 19 = .ok (.iload_n 1, 1) := by decide +kernel
theorem dX12_goSteps_20 : decode cX12_goSteps 20 = .ok (.imul, 1) := by decide +kernel
theorem dX12_goSteps_21 : decode cX12_goSteps 21 = .ok (.iload_n 3, 1) := by decide +kernel
theorem dX12_goSteps_22 : decode cX12_goSteps 22 = .ok (.iadd, 1) := by decide +kernel
theorem dX12_goSteps_23 : decode cX12_goSteps 23 = .ok (.imul, 1) := by decide +kernel
theorem dX12_goSteps_24 : decode cX12_goSteps 24 = .ok (.iaload, 1) := by decide +kernel
theorem dX12_goSteps_25 : decode cX12_goSteps 25 = .ok (.invokestatic 400, 3) := by decide +kernel
theorem dX12_goSteps_28 : decode cX12_goSteps 28 = .ok (.istore 4, 2) := by decide +kernel
theorem dX12_goSteps_30 : decode cX12_goSteps 30 = .ok (.aload_n 0, 1) := by decide +kernel
theorem dX12_goSteps_31 : decode cX12_goSteps 31 = .ok (.getfield 31, 3) := by decide +kernel
theorem dX12_goSteps_34 : decode cX12_goSteps 34 = .ok (.iconst 2, 1) := by decide +kernel
theorem dX12_goSteps_35 : decode cX12_goSteps 35 = .ok (.bipush 16, 2) := by decide +kernel
theorem dX12_goSteps_37 : decode cX12_goSteps 37 = .ok (.iload_n 1, 1) := by decide +kernel
theorem dX12_goSteps_38 : decode cX12_goSteps 38 = .ok (.imul, 1) := by decide +kernel
theorem dX12_goSteps_39 : decode cX12_goSteps 39 = .ok (.iload_n 3, 1) := by decide +kernel
theorem dX12_goSteps_40 : decode cX12_goSteps 40 = .ok (.iadd, 1) := by decide +kernel
theorem dX12_goSteps_41 : decode cX12_goSteps 41 = .ok (.imul, 1) := by decide +kernel
theorem dX12_goSteps_42 : decode cX12_goSteps 42 = .ok (.iconst 1, 1) := by decide +kernel
theorem dX12_goSteps_43 : decode cX12_goSteps 43 = .ok (.iadd, 1) := by decide +kernel
theorem dX12_goSteps_44 : decode cX12_goSteps 44 = .ok (.iaload, 1) := by decide +kernel
theorem dX12_goSteps_45 : decode cX12_goSteps 45 = .ok (.istore 5, 2) := by decide +kernel
theorem dX12_goSteps_47 : decode cX12_goSteps 47 = .ok (.aload_n 0, 1) := by decide +kernel
theorem dX12_goSteps_48 : decode cX12_goSteps 48 = .ok (.iload 4, 2) := by decide +kernel
theorem dX12_goSteps_50 : decode cX12_goSteps 50 = .ok (.iload 5, 2) := by decide +kernel
theorem dX12_goSteps_52 : decode cX12_goSteps 52 = .ok (.iconst 0, 1) := by decide +kernel
theorem dX12_goSteps_53 : decode cX12_goSteps 53 = .ok (.invokevirtual 296, 3) := by decide +kernel
theorem dX12_goSteps_56 : decode cX12_goSteps 56 = .ok (.iconst (-1), 1) := by decide +kernel
theorem dX12_goSteps_57 : decode cX12_goSteps 57 = .ok (.if_icmp .eq 5, 3) := by decide +kernel
theorem dX12_goSteps_60 : decode cX12_goSteps 60 = .ok (.iload_n 3, 1) := by decide +kernel
theorem dX12_goSteps_61 : decode cX12_goSteps 61 = .ok (.ireturn, 1) := by decide +kernel
theorem dX12_goSteps_62 : decode cX12_goSteps 62 = .ok (.iload_n 2, 1) := by decide +kernel
theorem dX12_goSteps_63 : decode cX12_goSteps 63 = .ok (.ifCond .eq 19, 3) := by decide +kernel
theorem dX12_goSteps_66 : decode cX12_goSteps 66 = .ok (.aload_n 0, 1) := by decide +kernel
theorem dX12_goSteps_67 : decode cX12_goSteps 67 = .ok (.iload 4, 2) := by decide +kernel
theorem dX12_goSteps_69 : decode cX12_goSteps 69 = .ok (.iload 5, 2) := by decide +kernel
theorem dX12_goSteps_71 : decode cX12_goSteps 71 = .ok (.iconst 0, 1) := by decide +kernel
theorem dX12_goSteps_72 : decode cX12_goSteps 72 = .ok (.iload 5, 2) := by decide +kernel
theorem dX12_goSteps_74 : decode cX12_goSteps 74 = .ok (.i2l, 1) := by decide +kernel
theorem dX12_goSteps_75 : decode cX12_goSteps 75 = .ok (.invokevirtual 300, 3) := by decide +kernel
theorem dX12_goSteps_78 : decode cX12_goSteps 78 = .ok (.pop, 1) := by decide +kernel
theorem dX12_goSteps_79 : decode cX12_goSteps 79 = .ok (.goto 16, 3) := by decide +kernel
theorem dX12_goSteps_82 : decode cX12_goSteps 82 = .ok (.aload_n 0, 1) := by decide +kernel
theorem dX12_goSteps_83 : decode cX12_goSteps 83 = .ok (.iload 4, 2) := by decide +kernel
theorem dX12_goSteps_85 : decode cX12_goSteps 85 = .ok (.iload 5, 2) := by decide +kernel
theorem dX12_goSteps_87 : decode cX12_goSteps 87 = .ok (.iconst 0, 1) := by decide +kernel
theorem dX12_goSteps_88 : decode cX12_goSteps 88 = .ok (.iload 5, 2) := by decide +kernel
theorem dX12_goSteps_90 : decode cX12_goSteps 90 = .ok (.i2l, 1) := by decide +kernel
theorem dX12_goSteps_91 : decode cX12_goSteps 91 = .ok (.invokevirtual 289, 3) := by decide +kernel
theorem dX12_goSteps_94 : decode cX12_goSteps 94 = .ok (.pop, 1) := by decide +kernel
theorem dX12_goSteps_95 : decode cX12_goSteps 95 = .ok (.iinc 3 1, 3) := by decide +kernel
theorem dX12_goSteps_98 : decode cX12_goSteps 98 = .ok (.goto (-96), 3) := by decide +kernel
theorem dX12_goSteps_101 : decode cX12_goSteps 101 = .ok (.iload_n 3, 1) := by decide +kernel
theorem dX12_goSteps_102 : decode cX12_goSteps 102 = .ok (.ireturn, 1) := by decide +kernel
theorem dX12_run_0 : decode cX12_run 0 = .ok (.aload_n 0, 1) := by decide +kernel
theorem dX12_run_1 : decode cX12_run 1 = .ok (.iload_n 1, 1) := by decide +kernel
theorem dX12_run_2 : decode cX12_run 2 = .ok (.invokevirtual 397, 3) := by decide +kernel
theorem dX12_run_5 : decode cX12_run 5 = .ok (.ifCond .eq 19, 3) := by decide +kernel
theorem dX12_run_8 : decode cX12_run 8 = .ok (.aload_n 0, 1) := by decide +kernel
theorem dX12_run_9 : decode cX12_run 9 = .ok (.invokevirtual 151, 3) := by decide +kernel
theorem dX12_run_12 : decode cX12_run 12 = .ok (.ifCond .eq 12, 3) := by decide +kernel
theorem dX12_run_15 : decode cX12_run 15 = .ok (.iload_n 2, 1) := by decide +kernel
theorem dX12_run_16 : decode cX12_run 16 = .ok (.iconst 0, 1) := by decide +kernel
theorem dX12_run_17 : decode cX12_run 17 = .ok (.iconst 1, 1) := by decide +kernel
theorem dX12_run_18 : decode cX12_run 18 = .ok (.invokestatic 76, 3) := by decide +kernel
theorem dX12_run_21 : decode cX12_run 21 = .ok (.ifCond .ne 7, 3) := by decide +kernel
theorem dX12_run_24 : decode cX12_run 24 = .ok (.ldc_w 313, 3) := by decide +kernel
theorem dX12_run_27 : decode cX12_run 27 = .ok (.ireturn, 1) := by decide +kernel
theorem dX12_run_28 : decode cX12_run 28 = .ok (.aload_n 0, 1) := by decide +kernel
theorem dX12_run_29 : decode cX12_run 29 = .ok (.invokevirtual 341, 3) := by decide +kernel
theorem dX12_run_32 : decode cX12_run 32 = .ok (.aload_n 0, 1) := by decide +kernel
theorem dX12_run_33 : decode cX12_run 33 = .ok (.iload_n 1, 1) := by decide +kernel
theorem dX12_run_34 : decode cX12_run 34 = .ok (.iconst 0, 1) := by decide +kernel
theorem dX12_run_35 : decode cX12_run 35 = .ok (.invokevirtual 403, 3) := by decide +kernel
theorem dX12_run_38 : decode cX12_run 38 = .ok (.istore_n 3, 1) := by decide +kernel
theorem dX12_run_39 : decode cX12_run 39 = .ok (.aload_n 0, 1) := by decide +kernel
theorem dX12_run_40 : decode cX12_run 40 = .ok (.invokevirtual 219, 3) := by decide +kernel
theorem dX12_run_43 : decode cX12_run 43 = .ok (.istore 4, 2) := by decide +kernel
theorem dX12_run_45 : decode cX12_run 45 = .ok (.aload_n 0, 1) := by decide +kernel
theorem dX12_run_46 : decode cX12_run 46 = .ok (.invokevirtual 344, 3) := by decide +kernel
theorem dX12_run_49 : decode cX12_run 49 = .ok (.iload_n 2, 1) := by decide +kernel
theorem dX12_run_50 : decode cX12_run 50 = .ok (.iconst 1, 1) := by decide +kernel
theorem dX12_run_51 : decode cX12_run 51 = .ok (.if_icmp .ne 8, 3) := by decide +kernel
theorem dX12_run_54 : decode cX12_run 54 = .ok (.iload 4, 2) := by decide +kernel
theorem dX12_run_56 : decode cX12_run 56 = .ok (.goto 18, 3) := by decide +kernel
theorem dX12_run_59 : decode cX12_run 59 = .ok (.iload_n 3, 1) := by decide +kernel
theorem dX12_run_60 : decode cX12_run 60 = .ok (.aload_n 0, 1) := by decide +kernel
theorem dX12_run_61 : decode cX12_run 61 = .ok (.getfield 34, 3) := by decide +kernel
theorem dX12_run_64 : decode cX12_run 64 = .ok (.iload_n 1, 1) := by decide +kernel
theorem dX12_run_65 : decode cX12_run 65 = .ok (.iaload, 1) := by decide +kernel
theorem dX12_run_66 : decode cX12_run 66 = .ok (.if_icmp .ne 7, 3) := by decide +kernel
theorem dX12_run_69 : decode cX12_run 69 = .ok (.iconst (-1), 1) := by decide +kernel
theorem dX12_run_70 : decode cX12_run 70 = .ok (.goto 4, 3) := by decide +kernel
theorem dX12_run_73 : decode cX12_run 73 = .ok (.iload_n 3, 1) := by decide +kernel
theorem dX12_run_74 : decode cX12_run 74 = .ok (.ireturn, 1) := by decide +kernel
theorem dX12_perform_0 : decode cX12_perform 0 = .ok (.aload_n 0, 1) := by decide +kernel
theorem dX12_perform_1 : decode cX12_perform 1 = .ok (.iload_n 1, 1) := by decide +kernel
theorem dX12_perform_2 : decode cX12_perform 2 = .ok (.invokevirtual 397, 3) := by decide +kernel
theorem dX12_perform_5 : decode cX12_perform 5 = .ok (.ifCond .eq 19, 3) := by decide +kernel
theorem dX12_perform_8 : decode cX12_perform 8 = .ok (.aload_n 0, 1) := by decide +kernel
theorem dX12_perform_9 : decode cX12_perform 9 = .ok (.invokevirtual 151, 3) := by decide +kernel
theorem dX12_perform_12 : decode cX12_perform 12 = .ok (.ifCond .eq 12, 3) := by decide +kernel
theorem dX12_perform_15 : decode cX12_perform 15 = .ok (.aload_n 0, 1) := by decide +kernel
theorem dX12_perform_16 : decode cX12_perform 16 = .ok (.iload_n 1, 1) := by decide +kernel
theorem dX12_perform_17 : decode cX12_perform 17 = .ok (.iconst 1, 1) := by decide +kernel
theorem dX12_perform_18 : decode cX12_perform 18 = .ok (.invokevirtual 403, 3) := by decide +kernel
theorem dX12_perform_21 : decode cX12_perform 21 = .ok (.goto 4, 3) := by decide +kernel
theorem dX12_perform_24 : decode cX12_perform 24 = .ok (.iconst (-1), 1) := by decide +kernel
theorem dX12_perform_25 : decode cX12_perform 25 = .ok (.ireturn, 1) := by decide +kernel
theorem dX12_fullestSlot_0 : decode cX12_fullestSlot 0 = .ok (.iconst 0, 1) := by decide +kernel
theorem dX12_fullestSlot_1 : decode cX12_fullestSlot 1 = .ok (.istore_n 1, 1) := by decide +kernel
theorem dX12_fullestSlot_2 : decode cX12_fullestSlot 2 = .ok (.iconst 1, 1) := by decide +kernel
theorem dX12_fullestSlot_3 : decode cX12_fullestSlot 3 = .ok (.istore_n 2, 1) := by decide +kernel
theorem dX12_fullestSlot_4 : decode cX12_fullestSlot 4 = .ok (.iload_n 2, 1) := by decide +kernel
theorem dX12_fullestSlot_5 : decode cX12_fullestSlot 5 = .ok (.aload_n 0, 1) := by decide +kernel
theorem dX12_fullestSlot_6 : decode cX12_fullestSlot 6 = .ok (.invokevirtual 154, 3) := by decide +kernel
theorem dX12_fullestSlot_9 : decode cX12_fullestSlot 9 = .ok (.if_icmp .ge 28, 3) := by decide +kernel
theorem dX12_fullestSlot_12 : decode cX12_fullestSlot 12 = .ok (.aload_n 0, 1) := by decide +kernel
theorem dX12_fullestSlot_13 : decode cX12_fullestSlot 13 = .ok (.iload_n 2, 1) := by decide +kernel
theorem dX12_fullestSlot_14 : decode cX12_fullestSlot 14 = .ok (.invokevirtual 326, 3) := by decide +kernel
theorem dX12_fullestSlot_17 : decode cX12_fullestSlot 17 = .ok (.aload_n 0, 1) := by decide +kernel
theorem dX12_fullestSlot_18 : decode cX12_fullestSlot 18 = .ok (.iload_n 1, 1) := by decide +kernel
theorem dX12_fullestSlot_19 : decode cX12_fullestSlot 19 = .ok (.invokevirtual 326, 3) := by decide +kernel
theorem dX12_fullestSlot_22 : decode cX12_fullestSlot 22 = .ok (.if_icmp .le 7, 3) := by decide +kernel
theorem dX12_fullestSlot_25 : decode cX12_fullestSlot 25 = .ok (.iload_n 2, 1) := by decide +kernel
theorem dX12_fullestSlot_26 : decode cX12_fullestSlot 26 = .ok (.goto 4, 3) := by decide +kernel
theorem dX12_fullestSlot_29 : decode cX12_fullestSlot 29 = .ok (.iload_n 1, 1) := by decide +kernel
theorem dX12_fullestSlot_30 : decode cX12_fullestSlot 30 = .ok (.istore_n 1, 1) := by decide +kernel
theorem dX12_fullestSlot_31 : decode cX12_fullestSlot 31 = .ok (.iinc 2 1, 3) := by decide +kernel
theorem dX12_fullestSlot_34 : decode cX12_fullestSlot 34 = .ok (.goto (-30), 3) := by decide +kernel
theorem dX12_fullestSlot_37 : decode cX12_fullestSlot 37 = .ok (.iload_n 1, 1) := by decide +kernel
theorem dX12_fullestSlot_38 : decode cX12_fullestSlot 38 = .ok (.ireturn, 1) := by decide +kernel
theorem dX12_busiest_0 : decode cX12_busiest 0 = .ok (.iconst 0, 1) := by decide +kernel
theorem dX12_busiest_1 : decode cX12_busiest 1 = .ok (.istore_n 1, 1) := by decide +kernel
theorem dX12_busiest_2 : decode cX12_busiest 2 = .ok (.iconst 1, 1) := by decide +kernel
theorem dX12_busiest_3 : decode cX12_busiest 3 = .ok (.istore_n 2, 1) := by decide +kernel
theorem dX12_busiest_4 : decode cX12_busiest 4 = .ok (.iload_n 2, 1) := by decide +kernel
theorem dX12_busiest_5 : decode cX12_busiest 5 = .ok (.aload_n 0, 1) := by decide +kernel
theorem dX12_busiest_6 : decode cX12_busiest 6 = .ok (.getfield 148, 3) := by decide +kernel
theorem dX12_busiest_9 : decode cX12_busiest 9 = .ok (.if_icmp .ge 28, 3) := by decide +kernel
theorem dX12_busiest_12 : decode cX12_busiest 12 = .ok (.aload_n 0, 1) := by decide +kernel
theorem dX12_busiest_13 : decode cX12_busiest 13 = .ok (.iload_n 2, 1) := by decide +kernel
theorem dX12_busiest_14 : decode cX12_busiest 14 = .ok (.invokevirtual 270, 3) := by decide +kernel
theorem dX12_busiest_17 : decode cX12_busiest 17 = .ok (.aload_n 0, 1) := by decide +kernel
theorem dX12_busiest_18 : decode cX12_busiest 18 = .ok (.iload_n 1, 1) := by decide +kernel
theorem dX12_busiest_19 : decode cX12_busiest 19 = .ok (.invokevirtual 270, 3) := by decide +kernel
theorem dX12_busiest_22 : decode cX12_busiest 22 = .ok (.if_icmp .le 7, 3) := by decide +kernel
theorem dX12_busiest_25 : decode cX12_busiest 25 = .ok (.iload_n 2, 1) := by decide +kernel
theorem dX12_busiest_26 : decode cX12_busiest 26 = .ok (.goto 4, 3) := by decide +kernel
theorem dX12_busiest_29 : decode cX12_busiest 29 = .ok (.iload_n 1, 1) := by decide +kernel
theorem dX12_busiest_30 : decode cX12_busiest 30 = .ok (.istore_n 1, 1) := by decide +kernel
theorem dX12_busiest_31 : decode cX12_busiest 31 = .ok (.iinc 2 1, 3) := by decide +kernel
theorem dX12_busiest_34 : decode cX12_busiest 34 = .ok (.goto (-30), 3) := by decide +kernel
theorem dX12_busiest_37 : decode cX12_busiest 37 = .ok (.iload_n 1, 1) := by decide +kernel
theorem dX12_busiest_38 : decode cX12_busiest 38 = .ok (.ireturn, 1) := by decide +kernel
theorem dX12_strongest_0 : decode cX12_strongest 0 = .ok (.iconst 0, 1) := by decide +kernel
theorem dX12_strongest_1 : decode cX12_strongest 1 = .ok (.istore_n 1, 1) := by decide +kernel
theorem dX12_strongest_2 : decode cX12_strongest 2 = .ok (.iconst 1, 1) := by decide +kernel
theorem dX12_strongest_3 : decode cX12_strongest 3 = .ok (.istore_n 2, 1) := by decide +kernel
theorem dX12_strongest_4 : decode cX12_strongest 4 = .ok (.iload_n 2, 1) := by decide +kernel
theorem dX12_strongest_5 : decode cX12_strongest 5 = .ok (.aload_n 0, 1) := by decide +kernel
theorem dX12_strongest_6 : decode cX12_strongest 6 = .ok (.getfield 148, 3) := by decide +kernel
theorem dX12_strongest_9 : decode cX12_strongest 9 = .ok (.if_icmp .ge 31, 3) := by decide +kernel
theorem dX12_strongest_12 : decode cX12_strongest 12 = .ok (.aload_n 0, 1) := by decide +kernel
theorem dX12_strongest_13 : decode cX12_strongest 13 = .ok (.getfield 43, 3) := by decide +kernel
theorem dX12_strongest_16 : decode cX12_strongest 16 = .ok (.iload_n 2, 1) := by decide +kernel
theorem dX12_strongest_17 : decode cX12_strongest 17 = .ok (.faload, 1) := by decide +kernel
theorem dX12_strongest_18 : decode cX12_strongest 18 = .ok (.aload_n 0, 1) := by decide +kernel
theorem dX12_strongest_19 : decode cX12_strongest 19 = .ok (.getfield 43, 3) := by decide +kernel
theorem dX12_strongest_22 : decode cX12_strongest 22 = .ok (.iload_n 1, 1) := by decide +kernel
theorem dX12_strongest_23 : decode cX12_strongest 23 = .ok (.faload, 1) := by decide +kernel
theorem dX12_strongest_24 : decode cX12_strongest 24 = .ok (.fcmp .l, 1) := by decide +kernel
theorem dX12_strongest_25 : decode cX12_strongest 25 = .ok (.ifCond .le 7, 3) := by decide +kernel
theorem dX12_strongest_28 : decode cX12_strongest 28 = .ok (.iload_n 2, 1) := by decide +kernel
theorem dX12_strongest_29 : decode cX12_strongest 29 = .ok (.goto 4, 3) := by decide +kernel
theorem dX12_strongest_32 : decode cX12_strongest 32 = .ok (.iload_n 1, 1) := by decide +kernel
theorem dX12_strongest_33 : decode cX12_strongest 33 = .ok (.istore_n 1, 1) := by decide +kernel
theorem dX12_strongest_34 : decode cX12_strongest 34 = .ok (.iinc 2 1, 3) := by decide +kernel
theorem dX12_strongest_37 : decode cX12_strongest 37 = .ok (.goto (-33), 3) := by decide +kernel
theorem dX12_strongest_40 : decode cX12_strongest 40 = .ok (.iload_n 1, 1) := by decide +kernel
theorem dX12_strongest_41 : decode cX12_strongest 41 = .ok (.ireturn, 1) := by decide +kernel
theorem dX12_slotsWith_0 : decode cX12_slotsWith 0 = .ok (.iconst 0, 1) := by decide +kernel
theorem dX12_slotsWith_1 : decode cX12_slotsWith 1 = .ok (.istore_n 2, 1) := by decide +kernel
theorem dX12_slotsWith_2 : decode cX12_slotsWith 2 = .ok (.iconst 0, 1) := by decide +kernel
theorem dX12_slotsWith_3 : decode cX12_slotsWith 3 = .ok (.istore_n 3, 1) := by decide +kernel
theorem dX12_slotsWith_4 : decode cX12_slotsWith 4 = .ok (.iload_n 3, 1) := by decide +kernel
theorem dX12_slotsWith_5 : decode cX12_slotsWith 5 = .ok (.aload_n 0, 1) := by decide +kernel
theorem dX12_slotsWith_6 : decode cX12_slotsWith 6 = .ok (.invokevirtual 154, 3) := by decide +kernel
theorem dX12_slotsWith_9 : decode cX12_slotsWith 9 = .ok (.if_icmp .ge 26, 3) := by decide +kernel
theorem dX12_slotsWith_12 : decode cX12_slotsWith 12 = .ok (.iload_n 2, 1) := by decide +kernel
theorem dX12_slotsWith_13 : decode cX12_slotsWith 13 = .ok (.aload_n 0, 1) := by decide +kernel
theorem dX12_slotsWith_14 : decode cX12_slotsWith 14 = .ok (.iload_n 3, 1) := by decide +kernel
theorem dX12_slotsWith_15 : decode cX12_slotsWith 15 = .ok (.invokevirtual 326, 3) := by decide +kernel
theorem dX12_slotsWith_18 : decode cX12_slotsWith 18 = .ok (.iload_n 1, 1) := by decide +kernel
theorem dX12_slotsWith_19 : decode cX12_slotsWith 19 = .ok (.if_icmp .ne 7, 3) := by decide +kernel
theorem dX12_slotsWith_22 : decode cX12_slotsWith 22 = .ok (.iconst 1, 1) := by decide +kernel
theorem dX12_slotsWith_23 : decode cX12_slotsWith 23 = .ok (.goto 4, 3) := by decide +kernel
theorem dX12_slotsWith_26 : decode cX12_slotsWith 26 = .ok (.iconst 0, 1) := by decide +kernel
theorem dX12_slotsWith_27 : decode cX12_slotsWith 27 = .ok (.iadd, 1) := by decide +kernel
theorem dX12_slotsWith_28 : decode cX12_slotsWith 28 = .ok (.istore_n 2, 1) := by decide +kernel
theorem dX12_slotsWith_29 : decode cX12_slotsWith 29 = .ok (.iinc 3 1, 3) := by decide +kernel
theorem dX12_slotsWith_32 : decode cX12_slotsWith 32 = .ok (.goto (-28), 3) := by decide +kernel
theorem dX12_slotsWith_35 : decode cX12_slotsWith 35 = .ok (.iload_n 2, 1) := by decide +kernel
theorem dX12_slotsWith_36 : decode cX12_slotsWith 36 = .ok (.ireturn, 1) := by decide +kernel
theorem dX12_copiesOfAll_0 : decode cX12_copiesOfAll 0 = .ok (.iconst 0, 1) := by decide +kernel
theorem dX12_copiesOfAll_1 : decode cX12_copiesOfAll 1 = .ok (.istore_n 1, 1) := by decide +kernel
theorem dX12_copiesOfAll_2 : decode cX12_copiesOfAll 2 = .ok (.iconst 0, 1) := by decide +kernel
theorem dX12_copiesOfAll_3 : decode cX12_copiesOfAll 3 = .ok (.istore_n 2, 1) := by decide +kernel
theorem dX12_copiesOfAll_4 : decode cX12_copiesOfAll 4 = .ok (.iload_n 2, 1) := by decide +kernel
theorem dX12_copiesOfAll_5 : decode cX12_copiesOfAll 5 = .ok (.aload_n 0, 1) := by decide +kernel
theorem dX12_copiesOfAll_6 : decode cX12_copiesOfAll 6 = .ok (.getfield 148, 3) := by decide +kernel
theorem dX12_copiesOfAll_9 : decode cX12_copiesOfAll 9 = .ok (.if_icmp .ge 17, 3) := by decide +kernel
theorem dX12_copiesOfAll_12 : decode cX12_copiesOfAll 12 = .ok (.iload_n 1, 1) := by decide +kernel
theorem dX12_copiesOfAll_13 : decode cX12_copiesOfAll 13 = .ok (.aload_n 0, 1) := by decide +kernel
theorem dX12_copiesOfAll_14 : decode cX12_copiesOfAll 14 = .ok (.iload_n 2, 1) := by decide +kernel
theorem dX12_copiesOfAll_15 : decode cX12_copiesOfAll 15 = .ok (.invokevirtual 270, 3) := by decide +kernel
theorem dX12_copiesOfAll_18 : decode cX12_copiesOfAll 18 = .ok (.iadd, 1) := by decide +kernel
theorem dX12_copiesOfAll_19 : decode cX12_copiesOfAll 19 = .ok (.istore_n 1, 1) := by decide +kernel
theorem dX12_copiesOfAll_20 : decode cX12_copiesOfAll 20 = .ok (.iinc 2 1, 3) := by decide +kernel
theorem dX12_copiesOfAll_23 : decode cX12_copiesOfAll 23 = .ok (.goto (-19), 3) := by decide +kernel
theorem dX12_copiesOfAll_26 : decode cX12_copiesOfAll 26 = .ok (.iload_n 1, 1) := by decide +kernel
theorem dX12_copiesOfAll_27 : decode cX12_copiesOfAll 27 = .ok (.ireturn, 1) := by decide +kernel
theorem dX12_most_0 : decode cX12_most 0 = .ok (.aload_n 0, 1) := by decide +kernel
theorem dX12_most_1 : decode cX12_most 1 = .ok (.invokevirtual 151, 3) := by decide +kernel
theorem dX12_most_4 : decode cX12_most 4 = .ok (.ifCond .eq 13, 3) := by decide +kernel
theorem dX12_most_7 : decode cX12_most 7 = .ok (.iload_n 1, 1) := by decide +kernel
theorem dX12_most_8 : decode cX12_most 8 = .ok (.iconst 0, 1) := by decide +kernel
theorem dX12_most_9 : decode cX12_most 9 = .ok (.bipush 8, 2) := by decide +kernel
theorem dX12_most_11 : decode cX12_most 11 = .ok (.invokestatic 76, 3) := by decide +kernel
theorem dX12_most_14 : decode cX12_most 14 = .ok (.ifCond .ne 7, 3) := by decide +kernel
theorem dX12_most_17 : decode cX12_most 17 = .ok (.ldc_w 313, 3) := by decide +kernel
theorem dX12_most_20 : decode cX12_most 20 = .ok (.ireturn, 1) := by decide +kernel
theorem dX12_most_21 : decode cX12_most 21 = .ok (.iload_n 1, 1) := by decide +kernel
theorem dX12_most_22 : decode cX12_most 22 = .ok (.tableswitch 116 0 7 #[46, 51, 56, 61, 66, 72, 78, 83], 46) := by decide +kernel
theorem dX12_most_68 : decode cX12_most 68 = .ok (.aload_n 0, 1) := by decide +kernel
theorem dX12_most_69 : decode cX12_most 69 = .ok (.invokevirtual 213, 3) := by decide +kernel
theorem dX12_most_72 : decode cX12_most 72 = .ok (.ireturn, 1) := by decide +kernel
theorem dX12_most_73 : decode cX12_most 73 = .ok (.aload_n 0, 1) := by decide +kernel
theorem dX12_most_74 : decode cX12_most 74 = .ok (.invokevirtual 406, 3) := by decide +kernel
theorem dX12_most_77 : decode cX12_most 77 = .ok (.ireturn, 1) := by decide +kernel
theorem dX12_most_78 : decode cX12_most 78 = .ok (.aload_n 0, 1) := by decide +kernel
theorem dX12_most_79 : decode cX12_most 79 = .ok (.invokevirtual 409, 3) := by decide +kernel
theorem dX12_most_82 : decode cX12_most 82 = .ok (.ireturn, 1) := by decide +kernel
theorem dX12_most_83 : decode cX12_most 83 = .ok (.aload_n 0, 1) := by decide +kernel
theorem dX12_most_84 : decode cX12_most 84 = .ok (.invokevirtual 412, 3) := by decide +kernel
theorem dX12_most_87 : decode cX12_most 87 = .ok (.ireturn, 1) := by decide +kernel
theorem dX12_most_88 : decode cX12_most 88 = .ok (.aload_n 0, 1) := by decide +kernel
theorem dX12_most_89 : decode cX12_most 89 = .ok (.iconst 0, 1) := by decide +kernel
theorem dX12_most_90 : decode cX12_most 90 = .ok (.invokevirtual 415, 3) := by decide +kernel
theorem dX12_most_93 : decode cX12_most 93 = .ok (.ireturn, 1) := by decide +kernel
theorem dX12_most_94 : decode cX12_most 94 = .ok (.aload_n 0, 1) := by decide +kernel
theorem dX12_most_95 : decode cX12_most 95 = .ok (.iconst 1, 1) := by decide +kernel
theorem dX12_most_96 : decode cX12_most 96 = .ok (.invokevirtual 415, 3) := by decide +kernel
theorem dX12_most_99 : decode cX12_most 99 = .ok (.ireturn, 1) := by decide +kernel
theorem dX12_most_100 : decode cX12_most 100 = .ok (.aload_n 0, 1) := by decide +kernel
theorem dX12_most_101 : decode cX12_most 101 = .ok (.invokevirtual 418, 3) := by decide +kernel
theorem dX12_most_104 : decode cX12_most 104 = .ok (.ireturn, 1) := by decide +kernel
theorem dX12_most_105 : decode cX12_most 105 = .ok (.aload_n 0, 1) := by decide +kernel
theorem dX12_most_106 : decode cX12_most 106 = .ok (.getfield 37, 3) := by decide +kernel
theorem dX12_most_109 : decode cX12_most 109 = .ok (.aload_n 0, 1) := by decide +kernel
theorem dX12_most_110 : decode cX12_most 110 = .ok (.iconst 0, 1) := by decide +kernel
theorem dX12_most_111 : decode cX12_most 111 = .ok (.invokevirtual 246, 3) := by decide +kernel
theorem dX12_most_114 : decode cX12_most 114 = .ok (.iaload, 1) := by decide +kernel
theorem dX12_most_115 : decode cX12_most 115 = .ok (.aload_n 0, 1) := by decide +kernel
theorem dX12_most_116 : decode cX12_most 116 = .ok (.getfield 37, 3) := by decide +kernel
theorem dX12_most_119 : decode cX12_most 119 = .ok (.aload_n 0, 1) := by decide +kernel
theorem dX12_most_120 : decode cX12_most 120 = .ok (.iconst 1, 1) := by decide +kernel
theorem dX12_most_121 : decode cX12_most 121 = .ok (.invokevirtual 246, 3) := by decide +kernel
theorem dX12_most_124 : decode cX12_most 124 = .ok (.iaload, 1) := by decide +kernel
theorem dX12_most_125 : decode cX12_most 125 = .ok (.iadd, 1) := by decide +kernel
theorem dX12_most_126 : decode cX12_most 126 = .ok (.aload_n 0, 1) := by decide +kernel
theorem dX12_most_127 : decode cX12_most 127 = .ok (.getfield 37, 3) := by decide +kernel
theorem dX12_most_130 : decode cX12_most 130 = .ok (.aload_n 0, 1) := by decide +kernel
theorem dX12_most_131 : decode cX12_most 131 = .ok (.iconst 2, 1) := by decide +kernel
theorem dX12_most_132 : decode cX12_most 132 = .ok (.invokevirtual 246, 3) := by decide +kernel
theorem dX12_most_135 : decode cX12_most 135 = .ok (.iaload, 1) := by decide +kernel
theorem dX12_most_136 : decode cX12_most 136 = .ok (.iadd, 1) := by decide +kernel
theorem dX12_most_137 : decode cX12_most 137 = .ok (.ireturn, 1) := by decide +kernel
theorem dX12_most_138 : decode cX12_most 138 = .ok (.aload_n 0, 1) := by decide +kernel
theorem dX12_most_139 : decode cX12_most 139 = .ok (.invokevirtual 421, 3) := by decide +kernel
theorem dX12_most_142 : decode cX12_most 142 = .ok (.ireturn, 1) := by decide +kernel
theorem dX12_image_0 : decode cX12_image 0 = .ok (.aload_n 0, 1) := by decide +kernel
theorem dX12_image_1 : decode cX12_image 1 = .ok (.invokevirtual 151, 3) := by decide +kernel
theorem dX12_image_4 : decode cX12_image 4 = .ok (.ifCond .ne 5, 3) := by decide +kernel
theorem dX12_image_7 : decode cX12_image 7 = .ok (.iconst (-1), 1) := by decide +kernel
theorem dX12_image_8 : decode cX12_image 8 = .ok (.ireturn, 1) := by decide +kernel
theorem dX12_image_9 : decode cX12_image 9 = .ok (.iconst 0, 1) := by decide +kernel
theorem dX12_image_10 : decode cX12_image 10 = .ok (.istore_n 1, 1) := by decide +kernel
theorem dX12_image_11 : decode cX12_image 11 = .ok (.iload_n 1, 1) := by decide +kernel
theorem dX12_image_12 : decode cX12_image 12 = .ok (.sipush 245, 3) := by decide +kernel
theorem dX12_image_15 : decode cX12_image 15 = .ok (.if_icmp .ge 21, 3) := by decide +kernel
theorem dX12_image_18 : decode cX12_image 18 = .ok (.aload_n 0, 1) := by decide +kernel
theorem dX12_image_19 : decode cX12_image 19 = .ok (.getfield 62, 3) := by decide +kernel
theorem dX12_image_22 : decode cX12_image 22 = .ok (.iload_n 1, 1) := by decide +kernel
theorem dX12_image_23 : decode cX12_image 23 = .ok (.aload_n 0, 1) := by decide +kernel
theorem dX12_image_24 : decode cX12_image 24 = .ok (.getfield 37, 3) := by decide +kernel
theorem dX12_image_27 : decode cX12_image 27 = .ok (.iload_n 1, 1) := by decide +kernel
theorem dX12_image_28 : decode cX12_image 28 = .ok (.iaload, 1) := by decide +kernel
theorem dX12_image_29 : decode cX12_image 29 = .ok (.iastore, 1) := by decide +kernel
theorem dX12_image_30 : decode cX12_image 30 = .ok (.iinc 1 1, 3) := by decide +kernel
theorem dX12_image_33 : decode cX12_image 33 = .ok (.goto (-22), 3) := by decide +kernel
theorem dX12_image_36 : decode cX12_image 36 = .ok (.aload_n 0, 1) := by decide +kernel
theorem dX12_image_37 : decode cX12_image 37 = .ok (.iconst 1, 1) := by decide +kernel
theorem dX12_image_38 : decode cX12_image 38 = .ok (.putfield 168, 3) := by decide +kernel
theorem dX12_image_41 : decode cX12_image 41 = .ok (.aload_n 0, 1) := by decide +kernel
theorem dX12_image_42 : decode cX12_image 42 = .ok (.invokevirtual 219, 3) := by decide +kernel
theorem dX12_image_45 : decode cX12_image 45 = .ok (.ireturn, 1) := by decide +kernel
theorem dX12_back_0 : decode cX12_back 0 = .ok (.aload_n 0, 1) := by decide +kernel
theorem dX12_back_1 : decode cX12_back 1 = .ok (.getfield 168, 3) := by decide +kernel
theorem dX12_back_4 : decode cX12_back 4 = .ok (.ifCond .ne 5, 3) := by decide +kernel
theorem dX12_back_7 : decode cX12_back 7 = .ok (.iconst (-1), 1) := by decide +kernel
theorem dX12_back_8 : decode cX12_back 8 = .ok (.ireturn, 1) := by decide +kernel
theorem dX12_back_9 : decode cX12_back 9 = .ok (.iconst 0, 1) := by decide +kernel
theorem dX12_back_10 : decode cX12_back 10 = .ok (.istore_n 1, 1) := by decide +kernel
theorem dX12_back_11 : decode cX12_back 11 = .ok (.iload_n 1, 1) := by decide +kernel
theorem dX12_back_12 : decode cX12_back 12 = .ok (.sipush 245, 3) := by decide +kernel
theorem dX12_back_15 : decode cX12_back 15 = .ok (.if_icmp .ge 21, 3) := by decide +kernel
theorem dX12_back_18 : decode cX12_back 18 = .ok (.aload_n 0, 1) := by decide +kernel
theorem dX12_back_19 : decode cX12_back 19 = .ok (.getfield 37, 3) := by decide +kernel
theorem dX12_back_22 : decode cX12_back 22 = .ok (.iload_n 1, 1) := by decide +kernel
theorem dX12_back_23 : decode cX12_back 23 = .ok (.aload_n 0, 1) := by decide +kernel
theorem dX12_back_24 : decode cX12_back 24 = .ok (.getfield 62, 3) := by decide +kernel
theorem dX12_back_27 : decode cX12_back 27 = .ok (.iload_n 1, 1) := by decide +kernel
theorem dX12_back_28 : decode cX12_back 28 = .ok (.iaload, 1) := by decide +kernel
theorem dX12_back_29 : decode cX12_back 29 = .ok (.iastore, 1) := by decide +kernel
theorem dX12_back_30 : decode cX12_back 30 = .ok (.iinc 1 1, 3) := by decide +kernel
theorem dX12_back_33 : decode cX12_back 33 = .ok (.goto (-22), 3) := by decide +kernel
theorem dX12_back_36 : decode cX12_back 36 = .ok (.aload_n 0, 1) := by decide +kernel
theorem dX12_back_37 : decode cX12_back 37 = .ok (.iconst 0, 1) := by decide +kernel
theorem dX12_back_38 : decode cX12_back 38 = .ok (.putfield 165, 3) := by decide +kernel
theorem dX12_back_41 : decode cX12_back 41 = .ok (.aload_n 0, 1) := by decide +kernel
theorem dX12_back_42 : decode cX12_back 42 = .ok (.invokevirtual 219, 3) := by decide +kernel
theorem dX12_back_45 : decode cX12_back 45 = .ok (.ireturn, 1) := by decide +kernel
theorem dX12_count_0 : decode cX12_count 0 = .ok (.iload_n 1, 1) := by decide +kernel
theorem dX12_count_1 : decode cX12_count 1 = .ok (.tableswitch 63 0 4 #[35, 40, 45, 50, 58], 35) := by decide +kernel
theorem dX12_count_36 : decode cX12_count 36 = .ok (.aload_n 0, 1) := by decide +kernel
theorem dX12_count_37 : decode cX12_count 37 = .ok (.getfield 148, 3) := by decide +kernel
theorem dX12_count_40 : decode cX12_count 40 = .ok (.ireturn, 1) := by decide +kernel
theorem dX12_count_41 : decode cX12_count 41 = .ok (.aload_n 0, 1) := by decide +kernel
theorem dX12_count_42 : decode cX12_count 42 = .ok (.getfield 175, 3) := by decide +kernel
theorem dX12_count_45 : decode cX12_count 45 = .ok (.ireturn, 1) := by decide +kernel
theorem dX12_count_46 : decode cX12_count 46 = .ok (.aload_n 0, 1) := by decide +kernel
theorem dX12_count_47 : decode cX12_count 47 = .ok (.getfield 73, 3) := by decide +kernel
theorem dX12_count_50 : decode cX12_count 50 = .ok (.ireturn, 1) := by decide +kernel
theorem dX12_count_51 : decode cX12_count 51 = .ok (.aload_n 0, 1) := by decide +kernel
theorem dX12_count_52 : decode cX12_count 52 = .ok (.getfield 37, 3) := by decide +kernel
theorem dX12_count_55 : decode cX12_count 55 = .ok (.bipush 64, 2) := by decide +kernel
theorem dX12_count_57 : decode cX12_count 57 = .ok (.iaload, 1) := by decide +kernel
theorem dX12_count_58 : decode cX12_count 58 = .ok (.ireturn, 1) := by decide +kernel
theorem dX12_count_59 : decode cX12_count 59 = .ok (.aload_n 0, 1) := by decide +kernel
theorem dX12_count_60 : decode cX12_count 60 = .ok (.getfield 165, 3) := by decide +kernel
theorem dX12_count_63 : decode cX12_count 63 = .ok (.ireturn, 1) := by decide +kernel
theorem dX12_count_64 : decode cX12_count 64 = .ok (.ldc_w 313, 3) := by decide +kernel
theorem dX12_count_67 : decode cX12_count 67 = .ok (.ireturn, 1) := by decide +kernel
theorem dJ11_isValidCodePoint_9a6ad_0 : decode cJ11_isValidCodePoint_9a6ad 0 = .ok (.iload_n 0, 1) := by decide +kernel
theorem dJ11_isValidCodePoint_9a6ad_1 : decode cJ11_isValidCodePoint_9a6ad 1 = .ok (.bipush 16, 2) := by decide +kernel
theorem dJ11_isValidCodePoint_9a6ad_3 : decode cJ11_isValidCodePoint_9a6ad 3 = .ok (.iushr, 1) := by decide +kernel
theorem dJ11_isValidCodePoint_9a6ad_4 : decode cJ11_isValidCodePoint_9a6ad 4 = .ok (.istore_n 1, 1) := by decide +kernel
theorem dJ11_isValidCodePoint_9a6ad_5 : decode cJ11_isValidCodePoint_9a6ad 5 = .ok (.iload_n 1, 1) := by decide +kernel
theorem dJ11_isValidCodePoint_9a6ad_6 : decode cJ11_isValidCodePoint_9a6ad 6 = .ok (.bipush 17, 2) := by decide +kernel
theorem dJ11_isValidCodePoint_9a6ad_8 : decode cJ11_isValidCodePoint_9a6ad 8 = .ok (.if_icmp .ge 7, 3) := by decide +kernel
theorem dJ11_isValidCodePoint_9a6ad_11 : decode cJ11_isValidCodePoint_9a6ad 11 = .ok (.iconst 1, 1) := by decide +kernel
theorem dJ11_isValidCodePoint_9a6ad_12 : decode cJ11_isValidCodePoint_9a6ad 12 = .ok (.goto 4, 3) := by decide +kernel
theorem dJ11_isValidCodePoint_9a6ad_15 : decode cJ11_isValidCodePoint_9a6ad 15 = .ok (.iconst 0, 1) := by decide +kernel
theorem dJ11_isValidCodePoint_9a6ad_16 : decode cJ11_isValidCodePoint_9a6ad 16 = .ok (.ireturn, 1) := by decide +kernel
theorem dJ11_highSurrogate_5068e_0 : decode cJ11_highSurrogate_5068e 0 = .ok (.iload_n 0, 1) := by decide +kernel
theorem dJ11_highSurrogate_5068e_1 : decode cJ11_highSurrogate_5068e 1 = .ok (.bipush 10, 2) := by decide +kernel
theorem dJ11_highSurrogate_5068e_3 : decode cJ11_highSurrogate_5068e 3 = .ok (.iushr, 1) := by decide +kernel
theorem dJ11_highSurrogate_5068e_4 : decode cJ11_highSurrogate_5068e 4 = .ok (.ldc 110, 2) := by decide +kernel
theorem dJ11_highSurrogate_5068e_6 : decode cJ11_highSurrogate_5068e 6 = .ok (.iadd, 1) := by decide +kernel
theorem dJ11_highSurrogate_5068e_7 : decode cJ11_highSurrogate_5068e 7 = .ok (.i2c, 1) := by decide +kernel
theorem dJ11_highSurrogate_5068e_8 : decode cJ11_highSurrogate_5068e 8 = .ok (.ireturn, 1) := by decide +kernel
theorem dJ11_lowSurrogate_5068e_0 : decode cJ11_lowSurrogate_5068e 0 = .ok (.iload_n 0, 1) := by decide +kernel
theorem dJ11_lowSurrogate_5068e_1 : decode cJ11_lowSurrogate_5068e 1 = .ok (.sipush 1023, 3) := by decide +kernel
theorem dJ11_lowSurrogate_5068e_4 : decode cJ11_lowSurrogate_5068e 4 = .ok (.iand, 1) := by decide +kernel
theorem dJ11_lowSurrogate_5068e_5 : decode cJ11_lowSurrogate_5068e 5 = .ok (.ldc 76, 2) := by decide +kernel
theorem dJ11_lowSurrogate_5068e_7 : decode cJ11_lowSurrogate_5068e 7 = .ok (.iadd, 1) := by decide +kernel
theorem dJ11_lowSurrogate_5068e_8 : decode cJ11_lowSurrogate_5068e 8 = .ok (.i2c, 1) := by decide +kernel
theorem dJ11_lowSurrogate_5068e_9 : decode cJ11_lowSurrogate_5068e 9 = .ok (.ireturn, 1) := by decide +kernel
theorem dJxe99ae_isNaN_b9ae7_0 : decode cJxe99ae_isNaN_b9ae7 0 = .ok (.dload_n 0, 1) := by decide +kernel
theorem dJxe99ae_isNaN_b9ae7_1 : decode cJxe99ae_isNaN_b9ae7 1 = .ok (.dload_n 0, 1) := by decide +kernel
theorem dJxe99ae_isNaN_b9ae7_2 : decode cJxe99ae_isNaN_b9ae7 2 = .ok (.dcmp .l, 1) := by decide +kernel
theorem dJxe99ae_isNaN_b9ae7_3 : decode cJxe99ae_isNaN_b9ae7 3 = .ok (.ifCond .eq 7, 3) := by decide +kernel
theorem dJxe99ae_isNaN_b9ae7_6 : decode cJxe99ae_isNaN_b9ae7 6 = .ok (.iconst 1, 1) := by decide +kernel
theorem dJxe99ae_isNaN_b9ae7_7 : decode cJxe99ae_isNaN_b9ae7 7 = .ok (.goto 4, 3) := by decide +kernel
theorem dJxe99ae_isNaN_b9ae7_10 : decode cJxe99ae_isNaN_b9ae7 10 = .ok (.iconst 0, 1) := by decide +kernel
theorem dJxe99ae_isNaN_b9ae7_11 : decode cJxe99ae_isNaN_b9ae7 11 = .ok (.ireturn, 1) := by decide +kernel
theorem dJxe99ae_doubleToLongBits_ccdee_0 : decode cJxe99ae_doubleToLongBits_ccdee 0 = .ok (.dload_n 0, 1) := by decide +kernel
theorem dJxe99ae_doubleToLongBits_ccdee_1 : decode cJxe99ae_doubleToLongBits_ccdee 1 = .ok (.invokestatic 122, 3) := by decide +kernel
theorem dJxe99ae_doubleToLongBits_ccdee_4 : decode cJxe99ae_doubleToLongBits_ccdee 4 = .ok (.ifCond .ne 8, 3) := by decide +kernel
theorem dJxe99ae_doubleToLongBits_ccdee_7 : decode cJxe99ae_doubleToLongBits_ccdee 7 = .ok (.dload_n 0, 1) := by decide +kernel
theorem dJxe99ae_doubleToLongBits_ccdee_8 : decode cJxe99ae_doubleToLongBits_ccdee 8 = .ok (.invokestatic 134, 3) := by decide +kernel
theorem dJxe99ae_doubleToLongBits_ccdee_11 : decode cJxe99ae_doubleToLongBits_ccdee 11 = .ok (.lreturn, 1) := by decide +kernel
theorem dJxe99ae_doubleToLongBits_ccdee_12 : decode cJxe99ae_doubleToLongBits_ccdee 12 = .ok (.ldc2_w 137, 3) := by decide +kernel
theorem dJxe99ae_doubleToLongBits_ccdee_15 : decode cJxe99ae_doubleToLongBits_ccdee 15 = .ok (.lreturn, 1) := by decide +kernel
theorem dJxf58ca_isNaN_12338_0 : decode cJxf58ca_isNaN_12338 0 = .ok (.fload_n 0, 1) := by decide +kernel
theorem dJxf58ca_isNaN_12338_1 : decode cJxf58ca_isNaN_12338 1 = .ok (.fload_n 0, 1) := by decide +kernel
theorem dJxf58ca_isNaN_12338_2 : decode cJxf58ca_isNaN_12338 2 = .ok (.fcmp .l, 1) := by decide +kernel
theorem dJxf58ca_isNaN_12338_3 : decode cJxf58ca_isNaN_12338 3 = .ok (.ifCond .eq 7, 3) := by decide +kernel
theorem dJxf58ca_isNaN_12338_6 : decode cJxf58ca_isNaN_12338 6 = .ok (.iconst 1, 1) := by decide +kernel
theorem dJxf58ca_isNaN_12338_7 : decode cJxf58ca_isNaN_12338 7 = .ok (.goto 4, 3) := by decide +kernel
theorem dJxf58ca_isNaN_12338_10 : decode cJxf58ca_isNaN_12338 10 = .ok (.iconst 0, 1) := by decide +kernel
theorem dJxf58ca_isNaN_12338_11 : decode cJxf58ca_isNaN_12338 11 = .ok (.ireturn, 1) := by decide +kernel
theorem dJxf58ca_floatToIntBits_5c35a_0 : decode cJxf58ca_floatToIntBits_5c35a 0 = .ok (.fload_n 0, 1) := by decide +kernel
theorem dJxf58ca_floatToIntBits_5c35a_1 : decode cJxf58ca_floatToIntBits_5c35a 1 = .ok (.invokestatic 59, 3) := by decide +kernel
theorem dJxf58ca_floatToIntBits_5c35a_4 : decode cJxf58ca_floatToIntBits_5c35a 4 = .ok (.ifCond .ne 8, 3) := by decide +kernel
theorem dJxf58ca_floatToIntBits_5c35a_7 : decode cJxf58ca_floatToIntBits_5c35a 7 = .ok (.fload_n 0, 1) := by decide +kernel
theorem dJxf58ca_floatToIntBits_5c35a_8 : decode cJxf58ca_floatToIntBits_5c35a 8 = .ok (.invokestatic 74, 3) := by decide +kernel
theorem dJxf58ca_floatToIntBits_5c35a_11 : decode cJxf58ca_floatToIntBits_5c35a 11 = .ok (.ireturn, 1) := by decide +kernel
theorem dJxf58ca_floatToIntBits_5c35a_12 : decode cJxf58ca_floatToIntBits_5c35a 12 = .ok (.ldc 77, 2) := by decide +kernel
theorem dJxf58ca_floatToIntBits_5c35a_14 : decode cJxf58ca_floatToIntBits_5c35a 14 = .ok (.ireturn, 1) := by decide +kernel
theorem dJ6_numberOfLeadingZeros_0f7a4_0 : decode cJ6_numberOfLeadingZeros_0f7a4 0 = .ok (.iload_n 0, 1) := by decide +kernel
theorem dJ6_numberOfLeadingZeros_0f7a4_1 : decode cJ6_numberOfLeadingZeros_0f7a4 1 = .ok (.ifCond .gt 14, 3) := by decide +kernel
theorem dJ6_numberOfLeadingZeros_0f7a4_4 : decode cJ6_numberOfLeadingZeros_0f7a4 4 = .ok (.iload_n 0, 1) := by decide +kernel
theorem dJ6_numberOfLeadingZeros_0f7a4_5 : decode cJ6_numberOfLeadingZeros_0f7a4 5 = .ok (.ifCond .ne 8, 3) := by decide +kernel
theorem dJ6_numberOfLeadingZeros_0f7a4_8 : decode cJ6_numberOfLeadingZeros_0f7a4 8 = .ok (.bipush 32, 2) := by decide +kernel
theorem dJ6_numberOfLeadingZeros_0f7a4_10 : decode cJ6_numberOfLeadingZeros_0f7a4 10 = .ok (.goto 4, 3) := by decide +kernel
theorem dJ6_numberOfLeadingZeros_0f7a4_13 : decode cJ6_numberOfLeadingZeros_0f7a4 13 = .ok (.iconst 0, 1) := by decide +kernel
theorem dJ6_numberOfLeadingZeros_0f7a4_14 : decode cJ6_numberOfLeadingZeros_0f7a4 14 = .ok (.ireturn, 1) := by decide +kernel
theorem dJ6_numberOfLeadingZeros_0f7a4_15 : decode cJ6_numberOfLeadingZeros_0f7a4 15 = .ok (.bipush 31, 2) := by decide +kernel
theorem dJ6_numberOfLeadingZeros_0f7a4_17 : decode cJ6_numberOfLeadingZeros_0f7a4 17 = .ok (.istore_n 1, 1) := by decide +kernel
theorem dJ6_numberOfLeadingZeros_0f7a4_18 : decode cJ6_numberOfLeadingZeros_0f7a4 18 = .ok (.iload_n 0, 1) := by decide +kernel
theorem dJ6_numberOfLeadingZeros_0f7a4_19 : decode cJ6_numberOfLeadingZeros_0f7a4 19 = .ok (.ldc_w 264, 3) := by decide +kernel
theorem dJ6_numberOfLeadingZeros_0f7a4_22 : decode cJ6_numberOfLeadingZeros_0f7a4 22 = .ok (.if_icmp .lt 11, 3) := by decide +kernel
theorem dJ6_numberOfLeadingZeros_0f7a4_25 : decode cJ6_numberOfLeadingZeros_0f7a4 25 = .ok (.iinc 1 (-16), 3) := by decide +kernel
theorem dJ6_numberOfLeadingZeros_0f7a4_28 : decode cJ6_numberOfLeadingZeros_0f7a4 28 = .ok (.iload_n 0, 1) := by decide +kernel
theorem dJ6_numberOfLeadingZeros_0f7a4_29 : decode cJ6_numberOfLeadingZeros_0f7a4 29 = .ok (.bipush 16, 2) := by decide +kernel
theorem dJ6_numberOfLeadingZeros_0f7a4_31 : decode cJ6_numberOfLeadingZeros_0f7a4 31 = .ok (.iushr, 1) := by decide +kernel
