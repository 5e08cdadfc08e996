theorem dX9_tried_216 : decode cX9_tried 216 = .ok (.getfield 108, 3) := by decide +kernel
theorem dX9_tried_219 : decode cX9_tried 219 = .ok (.invokevirtual 328, 3) := by decide +kernel
theorem dX9_tried_222 : decode cX9_tried 222 = .ok (.isub, 1) := by decide +kernel
theorem dX9_tried_223 : decode cX9_tried 223 = .ok (.ireturn, 1) := by decide +kernel
theorem dX9_undo_0 : decode cX9_undo 0 = .ok (.aload_n 0, 1) := by decide +kernel
theorem dX9_undo_1 : decode cX9_undo 1 = .ok (.getfield 58, 3) := by decide +kernel
theorem dX9_undo_4 : decode cX9_undo 4 = .ok (.getfield 96, 3) := by decide +kernel
theorem dX9_undo_7 : decode cX9_undo 7 = .ok (.ifCond .ne 5, 3) := by decide +kernel
theorem dX9_undo_10 : decode cX9_undo 10 = .ok (.iconst (-1), 1) := by decide +kernel
theorem dX9_undo_11 : decode cX9_undo 11 = .ok (.ireturn, 1) := by decide +kernel
theorem dX9_undo_12 : decode cX9_undo 12 = .ok (.aload_n 0, 1) := by decide +kernel
theorem dX9_undo_13 : decode cX9_undo 13 = .ok (.getfield 58, 3) := by decide +kernel
theorem dX9_undo_16 : decode cX9_undo 16 = .ok (.aload_n 0, 1) := by decide +kernel
theorem dX9_undo_17 : decode cX9_undo 17 = .ok (.getfield 38, 3) := by decide +kernel
theorem dX9_undo_20 : decode cX9_undo 20 = .ok (.invokevirtual 331, 3) := by decide +kernel
theorem dX9_undo_23 : decode cX9_undo 23 = .ok (.aload_n 0, 1) := by decide +kernel
theorem dX9_undo_24 : decode cX9_undo 24 = .ok (.getfield 58, 3) := by decide +kernel
theorem dX9_undo_27 : decode cX9_undo 27 = .ok (.getfield 96, 3) := by decide +kernel
theorem dX9_undo_30 : decode cX9_undo 30 = .ok (.ireturn, 1) := by decide +kernel
theorem dX9_keep_0 : decode cX9_keep 0 = .ok (.aload_n 0, 1) := by decide +kernel
theorem dX9_keep_1 : decode cX9_keep 1 = .ok (.getfield 42, 3) := by decide +kernel
theorem dX9_keep_4 : decode cX9_keep 4 = .ok (.aload_n 0, 1) := by decide +kernel
theorem dX9_keep_5 : decode cX9_keep 5 = .ok (.getfield 38, 3) := by decide +kernel
theorem dX9_keep_8 : decode cX9_keep 8 = .ok (.invokevirtual 335, 3) := by decide +kernel
theorem dX9_keep_11 : decode cX9_keep 11 = .ok (.aload_n 0, 1) := by decide +kernel
theorem dX9_keep_12 : decode cX9_keep 12 = .ok (.iconst 1, 1) := by decide +kernel
theorem dX9_keep_13 : decode cX9_keep 13 = .ok (.putfield 69, 3) := by decide +kernel
theorem dX9_keep_16 : decode cX9_keep 16 = .ok (.aload_n 0, 1) := by decide +kernel
theorem dX9_keep_17 : decode cX9_keep 17 = .ok (.getfield 38, 3) := by decide +kernel
theorem dX9_keep_20 : decode cX9_keep 20 = .ok (.getfield 230, 3) := by decide +kernel
theorem dX9_keep_23 : decode cX9_keep 23 = .ok (.ireturn, 1) := by decide +kernel
theorem dX9_back_0 : decode cX9_back 0 = .ok (.aload_n 0, 1) := by decide +kernel
theorem dX9_back_1 : decode cX9_back 1 = .ok (.getfield 69, 3) := by decide +kernel
theorem dX9_back_4 : decode cX9_back 4 = .ok (.ifCond .ne 5, 3) := by decide +kernel
theorem dX9_back_7 : decode cX9_back 7 = .ok (.iconst (-1), 1) := by decide +kernel
theorem dX9_back_8 : decode cX9_back 8 = .ok (.ireturn, 1) := by decide +kernel
theorem dX9_back_9 : decode cX9_back 9 = .ok (.aload_n 0, 1) := by decide +kernel
theorem dX9_back_10 : decode cX9_back 10 = .ok (.getfield 38, 3) := by decide +kernel
theorem dX9_back_13 : decode cX9_back 13 = .ok (.aload_n 0, 1) := by decide +kernel
theorem dX9_back_14 : decode cX9_back 14 = .ok (.getfield 42, 3) := by decide +kernel
theorem dX9_back_17 : decode cX9_back 17 = .ok (.invokevirtual 335, 3) := by decide +kernel
theorem dX9_back_20 : decode cX9_back 20 = .ok (.aload_n 0, 1) := by decide +kernel
theorem dX9_back_21 : decode cX9_back 21 = .ok (.getfield 58, 3) := by decide +kernel
theorem dX9_back_24 : decode cX9_back 24 = .ok (.iconst 0, 1) := by decide +kernel
theorem dX9_back_25 : decode cX9_back 25 = .ok (.putfield 96, 3) := by decide +kernel
theorem dX9_back_28 : decode cX9_back 28 = .ok (.aload_n 0, 1) := by decide +kernel
theorem dX9_back_29 : decode cX9_back 29 = .ok (.getfield 38, 3) := by decide +kernel
theorem dX9_back_32 : decode cX9_back 32 = .ok (.getfield 230, 3) := by decide +kernel
theorem dX9_back_35 : decode cX9_back 35 = .ok (.ireturn, 1) := by decide +kernel
theorem dX9_count_0 : decode cX9_count 0 = .ok (.iload_n 1, 1) := by decide +kernel
theorem dX9_count_1 : decode cX9_count 1 = .ok (.tableswitch 226 0 13 #[71, 79, 87, 95, 106, 114, 122, 138, 154, 170, 186, 202, 210, 218], 71) := by decide +kernel
theorem dX9_count_72 : decode cX9_count 72 = .ok (.aload_n 0, 1) := by decide +kernel
theorem dX9_count_73 : decode cX9_count 73 = .ok (.getfield 28, 3) := by decide +kernel
theorem dX9_count_76 : decode cX9_count 76 = .ok (.getfield 108, 3) := by decide +kernel
theorem dX9_count_79 : decode cX9_count 79 = .ok (.ireturn, 1) := by decide +kernel
theorem dX9_count_80 : decode cX9_count 80 = .ok (.aload_n 0, 1) := by decide +kernel
theorem dX9_count_81 : decode cX9_count 81 = .ok (.getfield 28, 3) := by decide +kernel
theorem dX9_count_84 : decode cX9_count 84 = .ok (.getfield 118, 3) := by decide +kernel
theorem dX9_count_87 : decode cX9_count 87 = .ok (.ireturn, 1) := by decide +kernel
theorem dX9_count_88 : decode cX9_count 88 = .ok (.aload_n 0, 1) := by decide +kernel
theorem dX9_count_89 : decode cX9_count 89 = .ok (.getfield 28, 3) := by decide +kernel
theorem dX9_count_92 : decode cX9_count 92 = .ok (.getfield 338, 3) := by decide +kernel
theorem dX9_count_95 : decode cX9_count 95 = .ok (.ireturn, 1) := by decide +kernel
theorem dX9_count_96 : decode cX9_count 96 = .ok (.aload_n 0, 1) := by decide +kernel
theorem dX9_count_97 : decode cX9_count 97 = .ok (.getfield 28, 3) := by decide +kernel
theorem dX9_count_100 : decode cX9_count 100 = .ok (.getfield 198, 3) := by decide +kernel
theorem dX9_count_103 : decode cX9_count 103 = .ok (.getfield 341, 3) := by decide +kernel
theorem dX9_count_106 : decode cX9_count 106 = .ok (.ireturn, 1) := by decide +kernel
theorem dX9_count_107 : decode cX9_count 107 = .ok (.aload_n 0, 1) := by decide +kernel
theorem dX9_count_108 : decode cX9_count 108 = .ok (.getfield 38, 3) := by decide +kernel
theorem dX9_count_111 : decode cX9_count 111 = .ok (.getfield 230, 3) := by decide +kernel
theorem dX9_count_114 : decode cX9_count 114 = .ok (.ireturn, 1) := by decide +kernel
theorem dX9_count_115 : decode cX9_count 115 = .ok (.aload_n 0, 1) := by decide +kernel
theorem dX9_count_116 : decode cX9_count 116 = .ok (.getfield 38, 3) := by decide +kernel
theorem dX9_count_119 : decode cX9_count 119 = .ok (.getfield 344, 3) := by decide +kernel
theorem dX9_count_122 : decode cX9_count 122 = .ok (.ireturn, 1) := by decide +kernel
theorem dX9_count_123 : decode cX9_count 123 = .ok (.aload_n 0, 1) := by decide +kernel
theorem dX9_count_124 : decode cX9_count 124 = .ok (.getfield 38, 3) := by decide +kernel
theorem dX9_count_127 : decode cX9_count 127 = .ok (.iconst 0, 1) := by decide +kernel
theorem dX9_count_128 : decode cX9_count 128 = .ok (.aload_n 0, 1) := by decide +kernel
theorem dX9_count_129 : decode cX9_count 129 = .ok (.getfield 28, 3) := by decide +kernel
theorem dX9_count_132 : decode cX9_count 132 = .ok (.getfield 108, 3) := by decide +kernel
theorem dX9_count_135 : decode cX9_count 135 = .ok (.invokevirtual 328, 3) := by decide +kernel
theorem dX9_count_138 : decode cX9_count 138 = .ok (.ireturn, 1) := by decide +kernel
theorem dX9_count_139 : decode cX9_count 139 = .ok (.aload_n 0, 1) := by decide +kernel
theorem dX9_count_140 : decode cX9_count 140 = .ok (.getfield 38, 3) := by decide +kernel
theorem dX9_count_143 : decode cX9_count 143 = .ok (.iconst 1, 1) := by decide +kernel
theorem dX9_count_144 : decode cX9_count 144 = .ok (.aload_n 0, 1) := by decide +kernel
theorem dX9_count_145 : decode cX9_count 145 = .ok (.getfield 28, 3) := by decide +kernel
theorem dX9_count_148 : decode cX9_count 148 = .ok (.getfield 108, 3) := by decide +kernel
theorem dX9_count_151 : decode cX9_count 151 = .ok (.invokevirtual 328, 3) := by decide +kernel
theorem dX9_count_154 : decode cX9_count 154 = .ok (.ireturn, 1) := by decide +kernel
theorem dX9_count_155 : decode cX9_count 155 = .ok (.aload_n 0, 1) := by decide +kernel
theorem dX9_count_156 : decode cX9_count 156 = .ok (.getfield 38, 3) := by decide +kernel
theorem dX9_count_159 : decode cX9_count 159 = .ok (.iconst 2, 1) := by decide +kernel
theorem dX9_count_160 : decode cX9_count 160 = .ok (.aload_n 0, 1) := by decide +kernel
theorem dX9_count_161 : decode cX9_count 161 = .ok (.getfield 28, 3) := by decide +kernel
theorem dX9_count_164 : decode cX9_count 164 = .ok (.getfield 108, 3) := by decide +kernel
theorem dX9_count_167 : decode cX9_count 167 = .ok (.invokevirtual 328, 3) := by decide +kernel
theorem dX9_count_170 : decode cX9_count 170 = .ok (.ireturn, 1) := by decide +kernel
theorem dX9_count_171 : decode cX9_count 171 = .ok (.aload_n 0, 1) := by decide +kernel
theorem dX9_count_172 : decode cX9_count 172 = .ok (.getfield 38, 3) := by decide +kernel
theorem dX9_count_175 : decode cX9_count 175 = .ok (.iconst 3, 1) := by decide +kernel
theorem dX9_count_176 : decode cX9_count 176 = .ok (.aload_n 0, 1) := by decide +kernel
theorem dX9_count_177 : decode cX9_count 177 = .ok (.getfield 28, 3) := by decide +kernel
theorem dX9_count_180 : decode cX9_count 180 = .ok (.getfield 108, 3) := by decide +kernel
theorem dX9_count_183 : decode cX9_count 183 = .ok (.invokevirtual 328, 3) := by decide +kernel
theorem dX9_count_186 : decode cX9_count 186 = .ok (.ireturn, 1) := by decide +kernel
theorem dX9_count_187 : decode cX9_count 187 = .ok (.aload_n 0, 1) := by decide +kernel
theorem dX9_count_188 : decode cX9_count 188 = .ok (.getfield 38, 3) := by decide +kernel
theorem dX9_count_191 : decode cX9_count 191 = .ok (.iconst 4, 1) := by decide +kernel
theorem dX9_count_192 : decode cX9_count 192 = .ok (.aload_n 0, 1) := by decide +kernel
theorem dX9_count_193 : decode cX9_count 193 = .ok (.getfield 28, 3) := by decide +kernel
theorem dX9_count_196 : decode cX9_count 196 = .ok (.getfield 108, 3) := by decide +kernel
theorem dX9_count_199 : decode cX9_count 199 = .ok (.invokevirtual 328, 3) := by decide +kernel
theorem dX9_count_202 : decode cX9_count 202 = .ok (.ireturn, 1) := by decide +kernel
theorem dX9_count_203 : decode cX9_count 203 = .ok (.aload_n 0, 1) := by decide +kernel
theorem dX9_count_204 : decode cX9_count 204 = .ok (.getfield 51, 3) := by decide +kernel
theorem dX9_count_207 : decode cX9_count 207 = .ok (.getfield 297, 3) := by decide +kernel
theorem dX9_count_210 : decode cX9_count 210 = .ok (.ireturn, 1) := by decide +kernel
theorem dX9_count_211 : decode cX9_count 211 = .ok (.aload_n 0, 1) := by decide +kernel
theorem dX9_count_212 : decode cX9_count 212 = .ok (.getfield 51, 3) := by decide +kernel
theorem dX9_count_215 : decode cX9_count 215 = .ok (.invokevirtual 347, 3) := by decide +kernel
theorem dX9_count_218 : decode cX9_count 218 = .ok (.ireturn, 1) := by decide +kernel
theorem dX9_count_219 : decode cX9_count 219 = .ok (.aload_n 0, 1) := by decide +kernel
theorem dX9_count_220 : decode cX9_count 220 = .ok (.getfield 58, 3) := by decide +kernel
theorem dX9_count_223 : decode cX9_count 223 = .ok (.getfield 96, 3) := by decide +kernel
theorem dX9_count_226 : decode cX9_count 226 = .ok (.ireturn, 1) := by decide +kernel
theorem dX9_count_227 : decode cX9_count 227 = .ok (.iconst (-1), 1) := by decide +kernel
theorem dX9_count_228 : decode cX9_count 228 = .ok (.ireturn, 1) := by decide +kernel
theorem dX9_isMan_0 : decode cX9_isMan 0 = .ok (.iload_n 1, 1) := by decide +kernel
theorem dX9_isMan_1 : decode cX9_isMan 1 = .ok (.iconst 0, 1) := by decide +kernel
theorem dX9_isMan_2 : decode cX9_isMan 2 = .ok (.aload_n 0, 1) := by decide +kernel
theorem dX9_isMan_3 : decode cX9_isMan 3 = .ok (.getfield 28, 3) := by decide +kernel
theorem dX9_isMan_6 : decode cX9_isMan 6 = .ok (.getfield 108, 3) := by decide +kernel
theorem dX9_isMan_9 : decode cX9_isMan 9 = .ok (.iconst 1, 1) := by decide +kernel
theorem dX9_isMan_10 : decode cX9_isMan 10 = .ok (.isub, 1) := by decide +kernel
theorem dX9_isMan_11 : decode cX9_isMan 11 = .ok (.invokestatic 194, 3) := by decide +kernel
theorem dX9_isMan_14 : decode cX9_isMan 14 = .ok (.ireturn, 1) := by decide +kernel
theorem dX9_isDeed_0 : decode cX9_isDeed 0 = .ok (.iload_n 1, 1) := by decide +kernel
theorem dX9_isDeed_1 : decode cX9_isDeed 1 = .ok (.iconst 0, 1) := by decide +kernel
theorem dX9_isDeed_2 : decode cX9_isDeed 2 = .ok (.aload_n 0, 1) := by decide +kernel
theorem dX9_isDeed_3 : decode cX9_isDeed 3 = .ok (.getfield 28, 3) := by decide +kernel
theorem dX9_isDeed_6 : decode cX9_isDeed 6 = .ok (.getfield 118, 3) := by decide +kernel
theorem dX9_isDeed_9 : decode cX9_isDeed 9 = .ok (.iconst 1, 1) := by decide +kernel
theorem dX9_isDeed_10 : decode cX9_isDeed 10 = .ok (.isub, 1) := by decide +kernel
theorem dX9_isDeed_11 : decode cX9_isDeed 11 = .ok (.invokestatic 194, 3) := by decide +kernel
theorem dX9_isDeed_14 : decode cX9_isDeed 14 = .ok (.ireturn, 1) := by decide +kernel
theorem dX9_isWithin_0 : decode cX9_isWithin 0 = .ok (.iload_n 0, 1) := by decide +kernel
theorem dX9_isWithin_1 : decode cX9_isWithin 1 = .ok (.iload_n 1, 1) := by decide +kernel
theorem dX9_isWithin_2 : decode cX9_isWithin 2 = .ok (.if_icmp .lt 12, 3) := by decide +kernel
theorem dX9_isWithin_5 : decode cX9_isWithin 5 = .ok (.iload_n 0, 1) := by decide +kernel
theorem dX9_isWithin_6 : decode cX9_isWithin 6 = .ok (.iload_n 2, 1) := by decide +kernel
theorem dX9_isWithin_7 : decode cX9_isWithin 7 = .ok (.if_icmp .gt 7, 3) := by decide +kernel
theorem dX9_isWithin_10 : decode cX9_isWithin 10 = .ok (.iconst 1, 1) := by decide +kernel
theorem dX9_isWithin_11 : decode cX9_isWithin 11 = .ok (.goto 4, 3) := by decide +kernel
theorem dX9_isWithin_14 : decode cX9_isWithin 14 = .ok (.iconst 0, 1) := by decide +kernel
theorem dX9_isWithin_15 : decode cX9_isWithin 15 = .ok (.ireturn, 1) := by decide +kernel
theorem dX9_placeOf_0 : decode cX9_placeOf 0 = .ok (.iconst 0, 1) := by decide +kernel
theorem dX9_placeOf_1 : decode cX9_placeOf 1 = .ok (.istore_n 3, 1) := by decide +kernel
theorem dX9_placeOf_2 : decode cX9_placeOf 2 = .ok (.iload_n 3, 1) := by decide +kernel
theorem dX9_placeOf_3 : decode cX9_placeOf 3 = .ok (.iload_n 2, 1) := by decide +kernel
theorem dX9_placeOf_4 : decode cX9_placeOf 4 = .ok (.if_icmp .ge 24, 3) := by decide +kernel
theorem dX9_placeOf_7 : decode cX9_placeOf 7 = .ok (.iload_n 3, 1) := by decide +kernel
theorem dX9_placeOf_8 : decode cX9_placeOf 8 = .ok (.aload_n 1, 1) := by decide +kernel
theorem dX9_placeOf_9 : decode cX9_placeOf 9 = .ok (.arraylength, 1) := by decide +kernel
theorem dX9_placeOf_10 : decode cX9_placeOf 10 = .ok (.if_icmp .ge 18, 3) := by decide +kernel
theorem dX9_placeOf_13 : decode cX9_placeOf 13 = .ok (.aload_n 1, 1) := by decide +kernel
theorem dX9_placeOf_14 : decode cX9_placeOf 14 = .ok (.iload_n 3, 1) := by decide +kernel
theorem dX9_placeOf_15 : decode cX9_placeOf 15 = .ok (.iaload, 1) := by decide +kernel
theorem dX9_placeOf_16 : decode cX9_placeOf 16 = .ok (.iload_n 0, 1) := by decide +kernel
theorem dX9_placeOf_17 : decode cX9_placeOf 17 = .ok (.if_icmp .ne 5, 3) := by decide +kernel
theorem dX9_placeOf_20 : decode cX9_placeOf 20 = .ok (.iload_n 3, 1) := by decide +kernel
theorem dX9_placeOf_21 : decode cX9_placeOf 21 = .ok (.ireturn, 1) := by decide +kernel
theorem dX9_placeOf_22 : decode cX9_placeOf 22 = .ok (.iinc 3 1, 3) := by decide +kernel
theorem dX9_placeOf_25 : decode cX9_placeOf 25 = .ok (.goto (-23), 3) := by decide +kernel
theorem dX9_placeOf_28 : decode cX9_placeOf 28 = .ok (.iconst (-1), 1) := by decide +kernel
theorem dX9_placeOf_29 : decode cX9_placeOf 29 = .ok (.ireturn, 1) := by decide +kernel
theorem dX9_commonDivisor_0 : decode cX9_commonDivisor 0 = .ok (.iload_n 0, 1) := by decide +kernel
theorem dX9_commonDivisor_1 : decode cX9_commonDivisor 1 = .ok (.istore_n 2, 1) := by decide +kernel
theorem dX9_commonDivisor_2 : decode cX9_commonDivisor 2 = .ok (.iload_n 1, 1) := by decide +kernel
theorem dX9_commonDivisor_3 : decode cX9_commonDivisor 3 = .ok (.istore_n 3, 1) := by decide +kernel
theorem dX9_commonDivisor_4 : decode cX9_commonDivisor 4 = .ok (.iconst 0, 1) := by decide +kernel
theorem dX9_commonDivisor_5 : decode cX9_commonDivisor 5 = .ok (.istore 4, 2) := by decide +kernel
theorem dX9_commonDivisor_7 : decode cX9_commonDivisor 7 = .ok (.iload 4, 2) := by decide +kernel
theorem dX9_commonDivisor_9 : decode cX9_commonDivisor 9 = .ok (.bipush 64, 2) := by decide +kernel
theorem dX9_commonDivisor_11 : decode cX9_commonDivisor 11 = .ok (.if_icmp .ge 23, 3) := by decide +kernel
theorem dX9_commonDivisor_14 : decode cX9_commonDivisor 14 = .ok (.iload_n 3, 1) := by decide +kernel
theorem dX9_commonDivisor_15 : decode cX9_commonDivisor 15 = .ok (.ifCond .eq 19, 3) := by decide +kernel
theorem dX9_commonDivisor_18 : decode cX9_commonDivisor 18 = .ok (.iload_n 2, 1) := by decide +kernel
theorem dX9_commonDivisor_19 : decode cX9_commonDivisor 19 = .ok (.iload_n 3, 1) := by decide +kernel
theorem dX9_commonDivisor_20 : decode cX9_commonDivisor 20 = .ok (.irem, 1) := by decide +kernel
theorem dX9_commonDivisor_21 : decode cX9_commonDivisor 21 = .ok (.istore 5, 2) := by decide +kernel
theorem dX9_commonDivisor_23 : decode cX9_commonDivisor 23 = .ok (.iload_n 3, 1) := by decide +kernel
theorem dX9_commonDivisor_24 : decode cX9_commonDivisor 24 = .ok (.istore_n 2, 1) := by decide +kernel
theorem dX9_commonDivisor_25 : decode cX9_commonDivisor 25 = .ok (.iload 5, 2) := by decide +kernel
theorem dX9_commonDivisor_27 : decode cX9_commonDivisor 27 = .ok (.istore_n 3, 1) := by decide +kernel
theorem dX9_commonDivisor_28 : decode cX9_commonDivisor 28 = .ok (.iinc 4 1, 3) := by decide +kernel
theorem dX9_commonDivisor_31 : decode cX9_commonDivisor 31 = .ok (.goto (-24), 3) := by decide +kernel
theorem dX9_commonDivisor_34 : decode cX9_commonDivisor 34 = .ok (.iload_n 2, 1) := by decide +kernel
theorem dX9_commonDivisor_35 : decode cX9_commonDivisor 35 = .ok (.ireturn, 1) := by decide +kernel
theorem dX9_isWetAsItGoes_0 : decode cX9_isWetAsItGoes 0 = .ok (.aload_n 0, 1) := by decide +kernel
theorem dX9_isWetAsItGoes_1 : decode cX9_isWetAsItGoes 1 = .ok (.getfield 28, 3) := by decide +kernel
theorem dX9_isWetAsItGoes_4 : decode cX9_isWetAsItGoes 4 = .ok (.getfield 233, 3) := by decide +kernel
theorem dX9_isWetAsItGoes_7 : decode cX9_isWetAsItGoes 7 = .ok (.bipush 50, 2) := by decide +kernel
theorem dX9_isWetAsItGoes_9 : decode cX9_isWetAsItGoes 9 = .ok (.if_icmp .lt 7, 3) := by decide +kernel
theorem dX9_isWetAsItGoes_12 : decode cX9_isWetAsItGoes 12 = .ok (.iconst 1, 1) := by decide +kernel
theorem dX9_isWetAsItGoes_13 : decode cX9_isWetAsItGoes 13 = .ok (.goto 4, 3) := by decide +kernel
theorem dX9_isWetAsItGoes_16 : decode cX9_isWetAsItGoes 16 = .ok (.iconst 0, 1) := by decide +kernel
theorem dX9_isWetAsItGoes_17 : decode cX9_isWetAsItGoes 17 = .ok (.ireturn, 1) := by decide +kernel
theorem dX9_lookAhead_0 : decode cX9_lookAhead 0 = .ok (.aload_n 0, 1) := by decide +kernel
theorem dX9_lookAhead_1 : decode cX9_lookAhead 1 = .ok (.getfield 45, 3) := by decide +kernel
theorem dX9_lookAhead_4 : decode cX9_lookAhead 4 = .ok (.aload_n 0, 1) := by decide +kernel
theorem dX9_lookAhead_5 : decode cX9_lookAhead 5 = .ok (.getfield 38, 3) := by decide +kernel
theorem dX9_lookAhead_8 : decode cX9_lookAhead 8 = .ok (.invokevirtual 335, 3) := by decide +kernel
theorem dX9_lookAhead_11 : decode cX9_lookAhead 11 = .ok (.aload_n 0, 1) := by decide +kernel
theorem dX9_lookAhead_12 : decode cX9_lookAhead 12 = .ok (.getfield 45, 3) := by decide +kernel
theorem dX9_lookAhead_15 : decode cX9_lookAhead 15 = .ok (.aload_n 0, 1) := by decide +kernel
theorem dX9_lookAhead_16 : decode cX9_lookAhead 16 = .ok (.getfield 28, 3) := by decide +kernel
theorem dX9_lookAhead_19 : decode cX9_lookAhead 19 = .ok (.getfield 198, 3) := by decide +kernel
theorem dX9_lookAhead_22 : decode cX9_lookAhead 22 = .ok (.invokevirtual 274, 3) := by decide +kernel
theorem dX9_lookAhead_25 : decode cX9_lookAhead 25 = .ok (.ifCond .eq 7, 3) := by decide +kernel
theorem dX9_lookAhead_28 : decode cX9_lookAhead 28 = .ok (.iconst (-1), 1) := by decide +kernel
theorem dX9_lookAhead_29 : decode cX9_lookAhead 29 = .ok (.goto 4, 3) := by decide +kernel
theorem dX9_lookAhead_32 : decode cX9_lookAhead 32 = .ok (.iload_n 1, 1) := by decide +kernel
theorem dX9_lookAhead_33 : decode cX9_lookAhead 33 = .ok (.putfield 350, 3) := by decide +kernel
theorem dX9_lookAhead_36 : decode cX9_lookAhead 36 = .ok (.aload_n 0, 1) := by decide +kernel
theorem dX9_lookAhead_37 : decode cX9_lookAhead 37 = .ok (.getfield 45, 3) := by decide +kernel
theorem dX9_lookAhead_40 : decode cX9_lookAhead 40 = .ok (.getfield 132, 3) := by decide +kernel
theorem dX9_lookAhead_43 : decode cX9_lookAhead 43 = .ok (.iload_n 1, 1) := by decide +kernel
theorem dX9_lookAhead_44 : decode cX9_lookAhead 44 = .ok (.aaload, 1) := by decide +kernel
theorem dX9_lookAhead_45 : decode cX9_lookAhead 45 = .ok (.areturn, 1) := by decide +kernel
theorem dX9_lookAtAll_0 : decode cX9_lookAtAll 0 = .ok (.aload_n 0, 1) := by decide +kernel
theorem dX9_lookAtAll_1 : decode cX9_lookAtAll 1 = .ok (.getfield 45, 3) := by decide +kernel
theorem dX9_lookAtAll_4 : decode cX9_lookAtAll 4 = .ok (.aload_n 0, 1) := by decide +kernel
theorem dX9_lookAtAll_5 : decode cX9_lookAtAll 5 = .ok (.getfield 38, 3) := by decide +kernel
theorem dX9_lookAtAll_8 : decode cX9_lookAtAll 8 = .ok (.invokevirtual 335, 3) := by decide +kernel
theorem dX9_lookAtAll_11 : decode cX9_lookAtAll 11 = .ok (.return_, 1) := by decide +kernel
theorem dX9_passAsItGoes_0 : decode cX9_passAsItGoes 0 = .ok (.aload_n 0, 1) := by decide +kernel
theorem dX9_passAsItGoes_1 : decode cX9_passAsItGoes 1 = .ok (.invokevirtual 313, 3) := by decide +kernel
theorem dX9_passAsItGoes_4 : decode cX9_passAsItGoes 4 = .ok (.istore_n 2, 1) := by decide +kernel
theorem dX9_passAsItGoes_5 : decode cX9_passAsItGoes 5 = .ok (.iconst 0, 1) := by decide +kernel
theorem dX9_passAsItGoes_6 : decode cX9_passAsItGoes 6 = .ok (.istore_n 3, 1) := by decide +kernel
theorem dX9_passAsItGoes_7 : decode cX9_passAsItGoes 7 = .ok (.iload_n 3, 1) := by decide +kernel
theorem dX9_passAsItGoes_8 : decode cX9_passAsItGoes 8 = .ok (.iload_n 1, 1) := by decide +kernel
theorem dX9_passAsItGoes_9 : decode cX9_passAsItGoes 9 = .ok (.if_icmp .ge 21, 3) := by decide +kernel
theorem dX9_passAsItGoes_12 : decode cX9_passAsItGoes 12 = .ok (.aload_n 0, 1) := by decide +kernel
theorem dX9_passAsItGoes_13 : decode cX9_passAsItGoes 13 = .ok (.getfield 45, 3) := by decide +kernel
theorem dX9_passAsItGoes_16 : decode cX9_passAsItGoes 16 = .ok (.aload_n 0, 1) := by decide +kernel
theorem dX9_passAsItGoes_17 : decode cX9_passAsItGoes 17 = .ok (.getfield 28, 3) := by decide +kernel
theorem dX9_passAsItGoes_20 : decode cX9_passAsItGoes 20 = .ok (.iload_n 2, 1) := by decide +kernel
theorem dX9_passAsItGoes_21 : decode cX9_passAsItGoes 21 = .ok (.invokevirtual 239, 3) := by decide +kernel
theorem dX9_passAsItGoes_24 : decode cX9_passAsItGoes 24 = .ok (.iinc 3 1, 3) := by decide +kernel
theorem dX9_passAsItGoes_27 : decode cX9_passAsItGoes 27 = .ok (.goto (-20), 3) := by decide +kernel
theorem dX9_passAsItGoes_30 : decode cX9_passAsItGoes 30 = .ok (.return_, 1) := by decide +kernel
theorem dX9_daysToPot_0 : decode cX9_daysToPot 0 = .ok (.aload_n 0, 1) := by decide +kernel
theorem dX9_daysToPot_1 : decode cX9_daysToPot 1 = .ok (.getfield 28, 3) := by decide +kernel
theorem dX9_daysToPot_4 : decode cX9_daysToPot 4 = .ok (.getfield 353, 3) := by decide +kernel
theorem dX9_daysToPot_7 : decode cX9_daysToPot 7 = .ok (.ifCond .le 29, 3) := by decide +kernel
theorem dX9_daysToPot_10 : decode cX9_daysToPot 10 = .ok (.aload_n 0, 1) := by decide +kernel
theorem dX9_daysToPot_11 : decode cX9_daysToPot 11 = .ok (.getfield 28, 3) := by decide +kernel
theorem dX9_daysToPot_14 : decode cX9_daysToPot 14 = .ok (.getfield 353, 3) := by decide +kernel
theorem dX9_daysToPot_17 : decode cX9_daysToPot 17 = .ok (.aload_n 0, 1) := by decide +kernel
theorem dX9_daysToPot_18 : decode cX9_daysToPot 18 = .ok (.getfield 38, 3) := by decide +kernel
theorem dX9_daysToPot_21 : decode cX9_daysToPot 21 = .ok (.getfield 230, 3) := by decide +kernel
theorem dX9_daysToPot_24 : decode cX9_daysToPot 24 = .ok (.aload_n 0, 1) := by decide +kernel
theorem dX9_daysToPot_25 : decode cX9_daysToPot 25 = .ok (.getfield 28, 3) := by decide +kernel
theorem dX9_daysToPot_28 : decode cX9_daysToPot 28 = .ok (.getfield 353, 3) := by decide +kernel
theorem dX9_daysToPot_31 : decode cX9_daysToPot 31 = .ok (.irem, 1) := by decide +kernel
theorem dX9_daysToPot_32 : decode cX9_daysToPot 32 = .ok (.isub, 1) := by decide +kernel
theorem dX9_daysToPot_33 : decode cX9_daysToPot 33 = .ok (.goto 4, 3) := by decide +kernel
theorem dX9_daysToPot_36 : decode cX9_daysToPot 36 = .ok (.iconst 1, 1) := by decide +kernel
theorem dX9_daysToPot_37 : decode cX9_daysToPot 37 = .ok (.ireturn, 1) := by decide +kernel
theorem dX9_winsWith_0 : decode cX9_winsWith 0 = .ok (.aload_n 0, 1) := by decide +kernel
theorem dX9_winsWith_1 : decode cX9_winsWith 1 = .ok (.invokevirtual 268, 3) := by decide +kernel
theorem dX9_winsWith_4 : decode cX9_winsWith 4 = .ok (.aload_n 0, 1) := by decide +kernel
theorem dX9_winsWith_5 : decode cX9_winsWith 5 = .ok (.getfield 45, 3) := by decide +kernel
theorem dX9_winsWith_8 : decode cX9_winsWith 8 = .ok (.getfield 132, 3) := by decide +kernel
theorem dX9_winsWith_11 : decode cX9_winsWith 11 = .ok (.iload_n 1, 1) := by decide +kernel
theorem dX9_winsWith_12 : decode cX9_winsWith 12 = .ok (.aaload, 1) := by decide +kernel
theorem dX9_winsWith_13 : decode cX9_winsWith 13 = .ok (.dup, 1) := by decide +kernel
theorem dX9_winsWith_14 : decode cX9_winsWith 14 = .ok (.getfield 153, 3) := by decide +kernel
theorem dX9_winsWith_17 : decode cX9_winsWith 17 = .ok (.iload_n 2, 1) := by decide +kernel
theorem dX9_winsWith_18 : decode cX9_winsWith 18 = .ok (.iadd, 1) := by decide +kernel
theorem dX9_winsWith_19 : decode cX9_winsWith 19 = .ok (.putfield 153, 3) := by decide +kernel
theorem dX9_winsWith_22 : decode cX9_winsWith 22 = .ok (.aload_n 0, 1) := by decide +kernel
theorem dX9_winsWith_23 : decode cX9_winsWith 23 = .ok (.invokevirtual 313, 3) := by decide +kernel
theorem dX9_winsWith_26 : decode cX9_winsWith 26 = .ok (.istore_n 3, 1) := by decide +kernel
theorem dX9_winsWith_27 : decode cX9_winsWith 27 = .ok (.aload_n 0, 1) := by decide +kernel
theorem dX9_winsWith_28 : decode cX9_winsWith 28 = .ok (.invokevirtual 264, 3) := by decide +kernel
theorem dX9_winsWith_31 : decode cX9_winsWith 31 = .ok (.istore 4, 2) := by decide +kernel
theorem dX9_winsWith_33 : decode cX9_winsWith 33 = .ok (.iconst 0, 1) := by decide +kernel
theorem dX9_winsWith_34 : decode cX9_winsWith 34 = .ok (.istore 5, 2) := by decide +kernel
theorem dX9_winsWith_36 : decode cX9_winsWith 36 = .ok (.iload 5, 2) := by decide +kernel
theorem dX9_winsWith_38 : decode cX9_winsWith 38 = .ok (.iload 4, 2) := by decide +kernel
theorem dX9_winsWith_40 : decode cX9_winsWith 40 = .ok (.if_icmp .ge 21, 3) := by decide +kernel
theorem dX9_winsWith_43 : decode cX9_winsWith 43 = .ok (.aload_n 0, 1) := by decide +kernel
theorem dX9_winsWith_44 : decode cX9_winsWith 44 = .ok (.getfield 45, 3) := by decide +kernel
theorem dX9_winsWith_47 : decode cX9_winsWith 47 = .ok (.aload_n 0, 1) := by decide +kernel
theorem dX9_winsWith_48 : decode cX9_winsWith 48 = .ok (.getfield 28, 3) := by decide +kernel
theorem dX9_winsWith_51 : decode cX9_winsWith 51 = .ok (.iload_n 3, 1) := by decide +kernel
theorem dX9_winsWith_52 : decode cX9_winsWith 52 = .ok (.invokevirtual 239, 3) := by decide +kernel
theorem dX9_winsWith_55 : decode cX9_winsWith 55 = .ok (.iinc 5 1, 3) := by decide +kernel
theorem dX9_winsWith_58 : decode cX9_winsWith 58 = .ok (.goto (-22), 3) := by decide +kernel
theorem dX9_winsWith_61 : decode cX9_winsWith 61 = .ok (.aload_n 0, 1) := by decide +kernel
theorem dX9_winsWith_62 : decode cX9_winsWith 62 = .ok (.getfield 45, 3) := by decide +kernel
theorem dX9_winsWith_65 : decode cX9_winsWith 65 = .ok (.getfield 271, 3) := by decide +kernel
theorem dX9_winsWith_68 : decode cX9_winsWith 68 = .ok (.iload_n 1, 1) := by decide +kernel
theorem dX9_winsWith_69 : decode cX9_winsWith 69 = .ok (.if_icmp .ne 7, 3) := by decide +kernel
theorem dX9_winsWith_72 : decode cX9_winsWith 72 = .ok (.iconst 1, 1) := by decide +kernel
theorem dX9_winsWith_73 : decode cX9_winsWith 73 = .ok (.goto 4, 3) := by decide +kernel
theorem dX9_winsWith_76 : decode cX9_winsWith 76 = .ok (.iconst 0, 1) := by decide +kernel
theorem dX9_winsWith_77 : decode cX9_winsWith 77 = .ok (.ireturn, 1) := by decide +kernel
theorem dX9_neededOneByOne_0 : decode cX9_neededOneByOne 0 = .ok (.iconst 0, 1) := by decide +kernel
theorem dX9_neededOneByOne_1 : decode cX9_neededOneByOne 1 = .ok (.istore_n 2, 1) := by decide +kernel
theorem dX9_neededOneByOne_2 : decode cX9_neededOneByOne 2 = .ok (.iload_n 2, 1) := by decide +kernel
theorem dX9_neededOneByOne_3 : decode cX9_neededOneByOne 3 = .ok (.sipush 999, 3) := by decide +kernel
theorem dX9_neededOneByOne_6 : decode cX9_neededOneByOne 6 = .ok (.if_icmp .gt 20, 3) := by decide +kernel
theorem dX9_neededOneByOne_9 : decode cX9_neededOneByOne 9 = .ok (.aload_n 0, 1) := by decide +kernel
theorem dX9_neededOneByOne_10 : decode cX9_neededOneByOne 10 = .ok (.iload_n 1, 1) := by decide +kernel
theorem dX9_neededOneByOne_11 : decode cX9_neededOneByOne 11 = .ok (.iload_n 2, 1) := by decide +kernel
theorem dX9_neededOneByOne_12 : decode cX9_neededOneByOne 12 = .ok (.invokevirtual 356, 3) := by decide +kernel
theorem dX9_neededOneByOne_15 : decode cX9_neededOneByOne 15 = .ok (.ifCond .eq 5, 3) := by decide +kernel
theorem dX9_neededOneByOne_18 : decode cX9_neededOneByOne 18 = .ok (.iload_n 2, 1) := by decide +kernel
theorem dX9_neededOneByOne_19 : decode cX9_neededOneByOne 19 = .ok (.ireturn, 1) := by decide +kernel
theorem dX9_neededOneByOne_20 : decode cX9_neededOneByOne 20 = .ok (.iinc 2 1, 3) := by decide +kernel
theorem dX9_neededOneByOne_23 : decode cX9_neededOneByOne 23 = .ok (.goto (-21), 3) := by decide +kernel
theorem dX9_neededOneByOne_26 : decode cX9_neededOneByOne 26 = .ok (.bipush (-2), 2) := by decide +kernel
theorem dX9_neededOneByOne_28 : decode cX9_neededOneByOne 28 = .ok (.ireturn, 1) := by decide +kernel
theorem dX9_neededByHalves_0 : decode cX9_neededByHalves 0 = .ok (.aload_n 0, 1) := by decide +kernel
theorem dX9_neededByHalves_1 : decode cX9_neededByHalves 1 = .ok (.iload_n 1, 1) := by decide +kernel
theorem dX9_neededByHalves_2 : decode cX9_neededByHalves 2 = .ok (.sipush 999, 3) := by decide +kernel
theorem dX9_neededByHalves_5 : decode cX9_neededByHalves 5 = .ok (.invokevirtual 356, 3) := by decide +kernel
theorem dX9_neededByHalves_8 : decode cX9_neededByHalves 8 = .ok (.ifCond .ne 6, 3) := by decide +kernel
theorem dX9_neededByHalves_11 : decode cX9_neededByHalves 11 = .ok (.bipush (-2), 2) := by decide +kernel
theorem dX9_neededByHalves_13 : decode cX9_neededByHalves 13 = .ok (.ireturn, 1) := by decide +kernel
theorem dX9_neededByHalves_14 : decode cX9_neededByHalves 14 = .ok (.iconst 0, 1) := by decide +kernel
theorem dX9_neededByHalves_15 : decode cX9_neededByHalves 15 = .ok (.istore_n 2, 1) := by decide +kernel
theorem dX9_neededByHalves_16 : decode cX9_neededByHalves 16 = .ok (.sipush 999, 3) := by decide +kernel
theorem dX9_neededByHalves_19 : decode cX9_neededByHalves 19 = .ok (.istore_n 3, 1) := by decide +kernel
theorem dX9_neededByHalves_20 : decode cX9_neededByHalves 20 = .ok (.iconst 0, 1) := by decide +kernel
theorem dX9_neededByHalves_21 : decode cX9_neededByHalves 21 = .ok (.istore 4, 2) := by decide +kernel
theorem dX9_neededByHalves_23 : decode cX9_neededByHalves 23 = .ok (.iload 4, 2) := by decide +kernel
theorem dX9_neededByHalves_25 : decode cX9_neededByHalves 25 = .ok (.bipush 12, 2) := by decide +kernel
theorem dX9_neededByHalves_27 : decode cX9_neededByHalves 27 = .ok (.if_icmp .ge 42, 3) := by decide +kernel
theorem dX9_neededByHalves_30 : decode cX9_neededByHalves 30 = .ok (.iload_n 2, 1) := by decide +kernel
theorem dX9_neededByHalves_31 : decode cX9_neededByHalves 31 = .ok (.iload_n 3, 1) := by decide +kernel
theorem dX9_neededByHalves_32 : decode cX9_neededByHalves 32 = .ok (.if_icmp .ge 37, 3) := by decide +kernel
theorem dX9_neededByHalves_35 : decode cX9_neededByHalves 35 = .ok (.iload_n 2, 1) := by decide +kernel
theorem dX9_neededByHalves_36 : decode cX9_neededByHalves 36 = .ok (.iload_n 3, 1) := by decide +kernel
theorem dX9_neededByHalves_37 : decode cX9_neededByHalves 37 = .ok (.iadd, 1) := by decide +kernel
theorem dX9_neededByHalves_38 : decode cX9_neededByHalves 38 = .ok (.iconst 2, 1) := by decide +kernel
theorem dX9_neededByHalves_39 : decode cX9_neededByHalves 39 = .ok (.idiv, 1) := by decide +kernel
theorem dX9_neededByHalves_40 : decode cX9_neededByHalves 40 = .ok (.istore 5, 2) := by decide +kernel
theorem dX9_neededByHalves_42 : decode cX9_neededByHalves 42 = .ok (.aload_n 0, 1) := by decide +kernel
theorem dX9_neededByHalves_43 : decode cX9_neededByHalves 43 = .ok (.iload_n 1, 1) := by decide +kernel
theorem dX9_neededByHalves_44 : decode cX9_neededByHalves 44 = .ok (.iload 5, 2) := by decide +kernel
theorem dX9_neededByHalves_46 : decode cX9_neededByHalves 46 = .ok (.invokevirtual 356, 3) := by decide +kernel
theorem dX9_neededByHalves_49 : decode cX9_neededByHalves 49 = .ok (.ifCond .eq 9, 3) := by decide +kernel
theorem dX9_neededByHalves_52 : decode cX9_neededByHalves 52 = .ok (.iload 5, 2) := by decide +kernel
theorem dX9_neededByHalves_54 : decode cX9_neededByHalves 54 = .ok (.istore_n 3, 1) := by decide +kernel
theorem dX9_neededByHalves_55 : decode cX9_neededByHalves 55 = .ok (.goto 8, 3) := by decide +kernel
theorem dX9_neededByHalves_58 : decode cX9_neededByHalves 58 = .ok (.iload 5, 2) := by decide +kernel
theorem dX9_neededByHalves_60 : decode cX9_neededByHalves 60 = .ok (.iconst 1, 1) := by decide +kernel
theorem dX9_neededByHalves_61 : decode cX9_neededByHalves 61 = .ok (.iadd, 1) := by decide +kernel
theorem dX9_neededByHalves_62 : decode cX9_neededByHalves 62 = .ok (.istore_n 2, 1) := by decide +kernel
theorem dX9_neededByHalves_63 : decode cX9_neededByHalves 63 = .ok (.iinc 4 1, 3) := by decide +kernel
theorem dX9_neededByHalves_66 : decode cX9_neededByHalves 66 = .ok (.goto (-43), 3) := by decide +kernel
theorem dX9_neededByHalves_69 : decode cX9_neededByHalves 69 = .ok (.iload_n 3, 1) := by decide +kernel
theorem dX9_neededByHalves_70 : decode cX9_neededByHalves 70 = .ok (.ireturn, 1) := by decide +kernel
theorem dX9_chooseFurther_0 : decode cX9_chooseFurther 0 = .ok (.iconst 0, 1) := by decide +kernel
theorem dX9_chooseFurther_1 : decode cX9_chooseFurther 1 = .ok (.istore_n 3, 1) := by decide +kernel
theorem dX9_chooseFurther_2 : decode cX9_chooseFurther 2 = .ok (.iload_n 3, 1) := by decide +kernel
theorem dX9_chooseFurther_3 : decode cX9_chooseFurther 3 = .ok (.aload_n 0, 1) := by decide +kernel
theorem dX9_chooseFurther_4 : decode cX9_chooseFurther 4 = .ok (.getfield 62, 3) := by decide +kernel
theorem dX9_chooseFurther_7 : decode cX9_chooseFurther 7 = .ok (.arraylength, 1) := by decide +kernel
theorem dX9_chooseFurther_8 : decode cX9_chooseFurther 8 = .ok (.if_icmp .ge 80, 3) := by decide +kernel
theorem dX9_chooseFurther_11 : decode cX9_chooseFurther 11 = .ok (.aload_n 0, 1) := by decide +kernel
theorem dX9_chooseFurther_12 : decode cX9_chooseFurther 12 = .ok (.invokevirtual 268, 3) := by decide +kernel
theorem dX9_chooseFurther_15 : decode cX9_chooseFurther 15 = .ok (.aload_n 0, 1) := by decide +kernel
theorem dX9_chooseFurther_16 : decode cX9_chooseFurther 16 = .ok (.getfield 45, 3) := by decide +kernel
theorem dX9_chooseFurther_19 : decode cX9_chooseFurther 19 = .ok (.getfield 132, 3) := by decide +kernel
theorem dX9_chooseFurther_22 : decode cX9_chooseFurther 22 = .ok (.iload_n 1, 1) := by decide +kernel
theorem dX9_chooseFurther_23 : decode cX9_chooseFurther 23 = .ok (.aaload, 1) := by decide +kernel
theorem dX9_chooseFurther_24 : decode cX9_chooseFurther 24 = .ok (.dup, 1) := by decide +kernel
theorem dX9_chooseFurther_25 : decode cX9_chooseFurther 25 = .ok (.getfield 170, 3) := by decide +kernel
theorem dX9_chooseFurther_28 : decode cX9_chooseFurther 28 = .ok (.bipush 10, 2) := by decide +kernel
theorem dX9_chooseFurther_30 : decode cX9_chooseFurther 30 = .ok (.iload_n 3, 1) := by decide +kernel
theorem dX9_chooseFurther_31 : decode cX9_chooseFurther 31 = .ok (.iconst 5, 1) := by decide +kernel
theorem dX9_chooseFurther_32 : decode cX9_chooseFurther 32 = .ok (.idiv, 1) := by decide +kernel
theorem dX9_chooseFurther_33 : decode cX9_chooseFurther 33 = .ok (.imul, 1) := by decide +kernel
theorem dX9_chooseFurther_34 : decode cX9_chooseFurther 34 = .ok (.iadd, 1) := by decide +kernel
theorem dX9_chooseFurther_35 : decode cX9_chooseFurther 35 = .ok (.putfield 170, 3) := by decide +kernel
theorem dX9_chooseFurther_38 : decode cX9_chooseFurther 38 = .ok (.aload_n 0, 1) := by decide +kernel
theorem dX9_chooseFurther_39 : decode cX9_chooseFurther 39 = .ok (.getfield 45, 3) := by decide +kernel
theorem dX9_chooseFurther_42 : decode cX9_chooseFurther 42 = .ok (.getfield 132, 3) := by decide +kernel
theorem dX9_chooseFurther_45 : decode cX9_chooseFurther 45 = .ok (.iload_n 2, 1) := by decide +kernel
theorem dX9_chooseFurther_46 : decode cX9_chooseFurther 46 = .ok (.aaload, 1) := by decide +kernel
theorem dX9_chooseFurther_47 : decode cX9_chooseFurther 47 = .ok (.dup, 1) := by decide +kernel
theorem dX9_chooseFurther_48 : decode cX9_chooseFurther 48 = .ok (.getfield 170, 3) := by decide +kernel
theorem dX9_chooseFurther_51 : decode cX9_chooseFurther 51 = .ok (.bipush 10, 2) := by decide +kernel
theorem dX9_chooseFurther_53 : decode cX9_chooseFurther 53 = .ok (.iload_n 3, 1) := by decide +kernel
theorem dX9_chooseFurther_54 : decode cX9_chooseFurther 54 = .ok (.iconst 5, 1) := by decide +kernel
theorem dX9_chooseFurther_55 : decode cX9_chooseFurther 55 = .ok (.irem, 1) := by decide +kernel
theorem dX9_chooseFurther_56 : decode cX9_chooseFurther 56 = .ok (.imul, 1) := by decide +kernel
theorem dX9_chooseFurther_57 : decode cX9_chooseFurther 57 = .ok (.iadd, 1) := by decide +kernel
theorem dX9_chooseFurther_58 : decode cX9_chooseFurther 58 = .ok (.putfield 170, 3) := by decide +kernel
theorem dX9_chooseFurther_61 : decode cX9_chooseFurther 61 = .ok (.aload_n 0, 1) := by decide +kernel
theorem dX9_chooseFurther_62 : decode cX9_chooseFurther 62 = .ok (.aload_n 0, 1) := by decide +kernel
theorem dX9_chooseFurther_63 : decode cX9_chooseFurther 63 = .ok (.invokevirtual 264, 3) := by decide +kernel
theorem dX9_chooseFurther_66 : decode cX9_chooseFurther 66 = .ok (.invokevirtual 247, 3) := by decide +kernel
theorem dX9_chooseFurther_69 : decode cX9_chooseFurther 69 = .ok (.aload_n 0, 1) := by decide +kernel
theorem dX9_chooseFurther_70 : decode cX9_chooseFurther 70 = .ok (.getfield 62, 3) := by decide +kernel
theorem dX9_chooseFurther_73 : decode cX9_chooseFurther 73 = .ok (.iload_n 3, 1) := by decide +kernel
theorem dX9_chooseFurther_74 : decode cX9_chooseFurther 74 = .ok (.aload_n 0, 1) := by decide +kernel
theorem dX9_chooseFurther_75 : decode cX9_chooseFurther 75 = .ok (.getfield 45, 3) := by decide +kernel
theorem dX9_chooseFurther_78 : decode cX9_chooseFurther 78 = .ok (.getfield 271, 3) := by decide +kernel
theorem dX9_chooseFurther_81 : decode cX9_chooseFurther 81 = .ok (.iastore, 1) := by decide +kernel
theorem dX9_chooseFurther_82 : decode cX9_chooseFurther 82 = .ok (.iinc 3 1, 3) := by decide +kernel
theorem dX9_chooseFurther_85 : decode cX9_chooseFurther 85 = .ok (.goto (-83), 3) := by decide +kernel
theorem dX9_chooseFurther_88 : decode cX9_chooseFurther 88 = .ok (.return_, 1) := by decide +kernel
theorem dX9_gain_0 : decode cX9_gain 0 = .ok (.aload_n 0, 1) := by decide +kernel
theorem dX9_gain_1 : decode cX9_gain 1 = .ok (.getfield 62, 3) := by decide +kernel
theorem dX9_gain_4 : decode cX9_gain 4 = .ok (.iload_n 3, 1) := by decide +kernel
theorem dX9_gain_5 : decode cX9_gain 5 = .ok (.iaload, 1) := by decide +kernel
theorem dX9_gain_6 : decode cX9_gain 6 = .ok (.iload_n 1, 1) := by decide +kernel
theorem dX9_gain_7 : decode cX9_gain 7 = .ok (.if_icmp .ne 13, 3) := by decide +kernel
theorem dX9_gain_10 : decode cX9_gain 10 = .ok (.aload_n 0, 1) := by decide +kernel
theorem dX9_gain_11 : decode cX9_gain 11 = .ok (.getfield 28, 3) := by decide +kernel
theorem dX9_gain_14 : decode cX9_gain 14 = .ok (.getfield 360, 3) := by decide +kernel
theorem dX9_gain_17 : decode cX9_gain 17 = .ok (.goto 4, 3) := by decide +kernel
theorem dX9_gain_20 : decode cX9_gain 20 = .ok (.iconst 0, 1) := by decide +kernel
theorem dX9_gain_21 : decode cX9_gain 21 = .ok (.iconst 3, 1) := by decide +kernel
theorem dX9_gain_22 : decode cX9_gain 22 = .ok (.iload_n 2, 1) := by decide +kernel
theorem dX9_gain_23 : decode cX9_gain 23 = .ok (.imul, 1) := by decide +kernel
theorem dX9_gain_24 : decode cX9_gain 24 = .ok (.isub, 1) := by decide +kernel
theorem dX9_gain_25 : decode cX9_gain 25 = .ok (.ireturn, 1) := by decide +kernel
theorem dX9_isRest_0 : decode cX9_isRest 0 = .ok (.iload_n 3, 1) := by decide +kernel
theorem dX9_isRest_1 : decode cX9_isRest 1 = .ok (.iconst 5, 1) := by decide +kernel
theorem dX9_isRest_2 : decode cX9_isRest 2 = .ok (.idiv, 1) := by decide +kernel
theorem dX9_isRest_3 : decode cX9_isRest 3 = .ok (.istore 4, 2) := by decide +kernel
theorem dX9_isRest_5 : decode cX9_isRest 5 = .ok (.iload_n 3, 1) := by decide +kernel
theorem dX9_isRest_6 : decode cX9_isRest 6 = .ok (.iconst 5, 1) := by decide +kernel
theorem dX9_isRest_7 : decode cX9_isRest 7 = .ok (.irem, 1) := by decide +kernel
theorem dX9_isRest_8 : decode cX9_isRest 8 = .ok (.istore 5, 2) := by decide +kernel
theorem dX9_isRest_10 : decode cX9_isRest 10 = .ok (.iconst 0, 1) := by decide +kernel
theorem dX9_isRest_11 : decode cX9_isRest 11 = .ok (.istore 6, 2) := by decide +kernel
theorem dX9_isRest_13 : decode cX9_isRest 13 = .ok (.iload 6, 2) := by decide +kernel
theorem dX9_isRest_15 : decode cX9_isRest 15 = .ok (.iconst 5, 1) := by decide +kernel
theorem dX9_isRest_16 : decode cX9_isRest 16 = .ok (.if_icmp .ge 61, 3) := by decide +kernel
theorem dX9_isRest_19 : decode cX9_isRest 19 = .ok (.aload_n 0, 1) := by decide +kernel
theorem dX9_isRest_20 : decode cX9_isRest 20 = .ok (.iload_n 1, 1) := by decide +kernel
theorem dX9_isRest_21 : decode cX9_isRest 21 = .ok (.iload 6, 2) := by decide +kernel
theorem dX9_isRest_23 : decode cX9_isRest 23 = .ok (.iload 6, 2) := by decide +kernel
theorem dX9_isRest_25 : decode cX9_isRest 25 = .ok (.iconst 5, 1) := by decide +kernel
theorem dX9_isRest_26 : decode cX9_isRest 26 = .ok (.imul, 1) := by decide +kernel
theorem dX9_isRest_27 : decode cX9_isRest 27 = .ok (.iload 5, 2) := by decide +kernel
theorem dX9_isRest_29 : decode cX9_isRest 29 = .ok (.iadd, 1) := by decide +kernel
theorem dX9_isRest_30 : decode cX9_isRest 30 = .ok (.invokevirtual 363, 3) := by decide +kernel
theorem dX9_isRest_33 : decode cX9_isRest 33 = .ok (.aload_n 0, 1) := by decide +kernel
theorem dX9_isRest_34 : decode cX9_isRest 34 = .ok (.iload_n 1, 1) := by decide +kernel
theorem dX9_isRest_35 : decode cX9_isRest 35 = .ok (.iload 4, 2) := by decide +kernel
theorem dX9_isRest_37 : decode cX9_isRest 37 = .ok (.iload_n 3, 1) := by decide +kernel
theorem dX9_isRest_38 : decode cX9_isRest 38 = .ok (.invokevirtual 363, 3) := by decide +kernel
theorem dX9_isRest_41 : decode cX9_isRest 41 = .ok (.if_icmp .gt 28, 3) := by decide +kernel
theorem dX9_isRest_44 : decode cX9_isRest 44 = .ok (.aload_n 0, 1) := by decide +kernel
theorem dX9_isRest_45 : decode cX9_isRest 45 = .ok (.iload_n 2, 1) := by decide +kernel
theorem dX9_isRest_46 : decode cX9_isRest 46 = .ok (.iload 6, 2) := by decide +kernel
theorem dX9_isRest_48 : decode cX9_isRest 48 = .ok (.iload 4, 2) := by decide +kernel
theorem dX9_isRest_50 : decode cX9_isRest 50 = .ok (.iconst 5, 1) := by decide +kernel
theorem dX9_isRest_51 : decode cX9_isRest 51 = .ok (.imul, 1) := by decide +kernel
theorem dX9_isRest_52 : decode cX9_isRest 52 = .ok (.iload 6, 2) := by decide +kernel
theorem dX9_isRest_54 : decode cX9_isRest 54 = .ok (.iadd, 1) := by decide +kernel
theorem dX9_isRest_55 : decode cX9_isRest 55 = .ok (.invokevirtual 363, 3) := by decide +kernel
theorem dX9_isRest_58 : decode cX9_isRest 58 = .ok (.aload_n 0, 1) := by decide +kernel
theorem dX9_isRest_59 : decode cX9_isRest 59 = .ok (.iload_n 2, 1) := by decide +kernel
theorem dX9_isRest_60 : decode cX9_isRest 60 = .ok (.iload 5, 2) := by decide +kernel
theorem dX9_isRest_62 : decode cX9_isRest 62 = .ok (.iload_n 3, 1) := by decide +kernel
theorem dX9_isRest_63 : decode cX9_isRest 63 = .ok (.invokevirtual 363, 3) := by decide +kernel
theorem dX9_isRest_66 : decode cX9_isRest 66 = .ok (.if_icmp .le 5, 3) := by decide +kernel
theorem dX9_isRest_69 : decode cX9_isRest 69 = .ok (.iconst 0, 1) := by decide +kernel
theorem dX9_isRest_70 : decode cX9_isRest 70 = .ok (.ireturn, 1) := by decide +kernel
theorem dX9_isRest_71 : decode cX9_isRest 71 = .ok (.iinc 6 1, 3) := by decide +kernel
theorem dX9_isRest_74 : decode cX9_isRest 74 = .ok (.goto (-61), 3) := by decide +kernel
theorem dX9_isRest_77 : decode cX9_isRest 77 = .ok (.iconst 1, 1) := by decide +kernel
theorem dX9_isRest_78 : decode cX9_isRest 78 = .ok (.ireturn, 1) := by decide +kernel
theorem dX9_agreesWithNotes_0 : decode cX9_agreesWithNotes 0 = .ok (.aload_n 0, 1) := by decide +kernel
theorem dX9_agreesWithNotes_1 : decode cX9_agreesWithNotes 1 = .ok (.getfield 45, 3) := by decide +kernel
theorem dX9_agreesWithNotes_4 : decode cX9_agreesWithNotes 4 = .ok (.aload_n 0, 1) := by decide +kernel
theorem dX9_agreesWithNotes_5 : decode cX9_agreesWithNotes 5 = .ok (.getfield 28, 3) := by decide +kernel
theorem dX9_agreesWithNotes_8 : decode cX9_agreesWithNotes 8 = .ok (.invokevirtual 89, 3) := by decide +kernel
theorem dX9_agreesWithNotes_11 : decode cX9_agreesWithNotes 11 = .ok (.aload_n 0, 1) := by decide +kernel
theorem dX9_agreesWithNotes_12 : decode cX9_agreesWithNotes 12 = .ok (.getfield 45, 3) := by decide +kernel
theorem dX9_agreesWithNotes_15 : decode cX9_agreesWithNotes 15 = .ok (.getfield 132, 3) := by decide +kernel
theorem dX9_agreesWithNotes_18 : decode cX9_agreesWithNotes 18 = .ok (.iload_n 1, 1) := by decide +kernel
theorem dX9_agreesWithNotes_19 : decode cX9_agreesWithNotes 19 = .ok (.aaload, 1) := by decide +kernel
theorem dX9_agreesWithNotes_20 : decode cX9_agreesWithNotes 20 = .ok (.getfield 191, 3) := by decide +kernel
theorem dX9_agreesWithNotes_23 : decode cX9_agreesWithNotes 23 = .ok (.iload_n 2, 1) := by decide +kernel
theorem dX9_agreesWithNotes_24 : decode cX9_agreesWithNotes 24 = .ok (.iload_n 3, 1) := by decide +kernel
theorem dX9_agreesWithNotes_25 : decode cX9_agreesWithNotes 25 = .ok (.iastore, 1) := by decide +kernel
theorem dX9_agreesWithNotes_26 : decode cX9_agreesWithNotes 26 = .ok (.aload_n 0, 1) := by decide +kernel
theorem dX9_agreesWithNotes_27 : decode cX9_agreesWithNotes 27 = .ok (.getfield 51, 3) := by decide +kernel
theorem dX9_agreesWithNotes_30 : decode cX9_agreesWithNotes 30 = .ok (.invokevirtual 367, 3) := by decide +kernel
theorem dX9_agreesWithNotes_33 : decode cX9_agreesWithNotes 33 = .ok (.istore 4, 2) := by decide +kernel
theorem dX9_agreesWithNotes_35 : decode cX9_agreesWithNotes 35 = .ok (.iconst 1, 1) := by decide +kernel
theorem dX9_agreesWithNotes_36 : decode cX9_agreesWithNotes 36 = .ok (.istore 5, 2) := by decide +kernel
theorem dX9_agreesWithNotes_38 : decode cX9_agreesWithNotes 38 = .ok (.iload 5, 2) := by decide +kernel
theorem dX9_agreesWithNotes_40 : decode cX9_agreesWithNotes 40 = .ok (.iload 4, 2) := by decide +kernel
theorem dX9_agreesWithNotes_42 : decode cX9_agreesWithNotes 42 = .ok (.if_icmp .gt 32, 3) := by decide +kernel
theorem dX9_agreesWithNotes_45 : decode cX9_agreesWithNotes 45 = .ok (.aload_n 0, 1) := by decide +kernel
theorem dX9_agreesWithNotes_46 : decode cX9_agreesWithNotes 46 = .ok (.iconst 1, 1) := by decide +kernel
theorem dX9_agreesWithNotes_47 : decode cX9_agreesWithNotes 47 = .ok (.invokevirtual 247, 3) := by decide +kernel
theorem dX9_agreesWithNotes_50 : decode cX9_agreesWithNotes 50 = .ok (.aload_n 0, 1) := by decide +kernel
theorem dX9_agreesWithNotes_51 : decode cX9_agreesWithNotes 51 = .ok (.getfield 51, 3) := by decide +kernel
theorem dX9_agreesWithNotes_54 : decode cX9_agreesWithNotes 54 = .ok (.iload 5, 2) := by decide +kernel
theorem dX9_agreesWithNotes_56 : decode cX9_agreesWithNotes 56 = .ok (.aload_n 0, 1) := by decide +kernel
theorem dX9_agreesWithNotes_57 : decode cX9_agreesWithNotes 57 = .ok (.getfield 45, 3) := by decide +kernel
theorem dX9_agreesWithNotes_60 : decode cX9_agreesWithNotes 60 = .ok (.invokevirtual 370, 3) := by decide +kernel
theorem dX9_agreesWithNotes_63 : decode cX9_agreesWithNotes 63 = .ok (.ifCond .ne 5, 3) := by decide +kernel
theorem dX9_agreesWithNotes_66 : decode cX9_agreesWithNotes 66 = .ok (.iconst 0, 1) := by decide +kernel
theorem dX9_agreesWithNotes_67 : decode cX9_agreesWithNotes 67 = .ok (.ireturn, 1) := by decide +kernel
theorem dX9_agreesWithNotes_68 : decode cX9_agreesWithNotes 68 = .ok (.iinc 5 1, 3) := by decide +kernel
theorem dX9_agreesWithNotes_71 : decode cX9_agreesWithNotes 71 = .ok (.goto (-33), 3) := by decide +kernel
theorem dX9_agreesWithNotes_74 : decode cX9_agreesWithNotes 74 = .ok (.iconst 1, 1) := by decide +kernel
theorem dX9_agreesWithNotes_75 : decode cX9_agreesWithNotes 75 = .ok (.ireturn, 1) := by decide +kernel
theorem dX9_findFewest_0 : decode cX9_findFewest 0 = .ok (.iconst 1, 1) := by decide +kernel
theorem dX9_findFewest_1 : decode cX9_findFewest 1 = .ok (.istore_n 2, 1) := by decide +kernel
theorem dX9_findFewest_2 : decode cX9_findFewest 2 = .ok (.aload_n 0, 1) := by decide +kernel
theorem dX9_findFewest_3 : decode cX9_findFewest 3 = .ok (.getfield 28, 3) := by decide +kernel
theorem dX9_findFewest_6 : decode cX9_findFewest 6 = .ok (.getfield 118, 3) := by decide +kernel
theorem dX9_findFewest_9 : decode cX9_findFewest 9 = .ok (.iconst 4, 1) := by decide +kernel
theorem dX9_findFewest_10 : decode cX9_findFewest 10 = .ok (.invokestatic 374, 3) := by decide +kernel
theorem dX9_findFewest_13 : decode cX9_findFewest 13 = .ok (.istore_n 3, 1) := by decide +kernel
theorem dX9_findFewest_14 : decode cX9_findFewest 14 = .ok (.iconst 0, 1) := by decide +kernel
theorem dX9_findFewest_15 : decode cX9_findFewest 15 = .ok (.istore 4, 2) := by decide +kernel
theorem dX9_findFewest_17 : decode cX9_findFewest 17 = .ok (.iload 4, 2) := by decide +kernel
theorem dX9_findFewest_19 : decode cX9_findFewest 19 = .ok (.iload_n 3, 1) := by decide +kernel
theorem dX9_findFewest_20 : decode cX9_findFewest 20 = .ok (.if_icmp .ge 13, 3) := by decide +kernel
theorem dX9_findFewest_23 : decode cX9_findFewest 23 = .ok (.iload_n 2, 1) := by decide +kernel
theorem dX9_findFewest_24 : decode cX9_findFewest 24 = .ok (.iconst 5, 1) := by decide +kernel
theorem dX9_findFewest_25 : decode cX9_findFewest 25 = .ok (.imul, 1) := by decide +kernel
theorem dX9_findFewest_26 : decode cX9_findFewest 26 = .ok (.istore_n 2, 1) := by decide +kernel
theorem dX9_findFewest_27 : decode cX9_findFewest 27 = .ok (.iinc 4 1, 3) := by decide +kernel
theorem dX9_findFewest_30 : decode cX9_findFewest 30 = .ok (.goto (-13), 3) := by decide +kernel
theorem dX9_findFewest_33 : decode cX9_findFewest 33 = .ok (.aload_n 1, 1) := by decide +kernel
theorem dX9_findFewest_34 : decode cX9_findFewest 34 = .ok (.getfield 136, 3) := by decide +kernel
theorem dX9_findFewest_37 : decode cX9_findFewest 37 = .ok (.aload_n 1, 1) := by decide +kernel
theorem dX9_findFewest_38 : decode cX9_findFewest 38 = .ok (.getfield 141, 3) := by decide +kernel
theorem dX9_findFewest_41 : decode cX9_findFewest 41 = .ok (.isub, 1) := by decide +kernel
theorem dX9_findFewest_42 : decode cX9_findFewest 42 = .ok (.aload_n 0, 1) := by decide +kernel
theorem dX9_findFewest_43 : decode cX9_findFewest 43 = .ok (.getfield 28, 3) := by decide +kernel
theorem dX9_findFewest_46 : decode cX9_findFewest 46 = .ok (.aload_n 0, 1) := by decide +kernel
theorem dX9_findFewest_47 : decode cX9_findFewest 47 = .ok (.getfield 28, 3) := by decide +kernel
theorem dX9_findFewest_50 : decode cX9_findFewest 50 = .ok (.getfield 185, 3) := by decide +kernel
theorem dX9_findFewest_53 : decode cX9_findFewest 53 = .ok (.aload_n 1, 1) := by decide +kernel
theorem dX9_findFewest_54 : decode cX9_findFewest 54 = .ok (.getfield 191, 3) := by decide +kernel
theorem dX9_findFewest_57 : decode cX9_findFewest 57 = .ok (.invokevirtual 377, 3) := by decide +kernel
theorem dX9_findFewest_60 : decode cX9_findFewest 60 = .ok (.isub, 1) := by decide +kernel
theorem dX9_findFewest_61 : decode cX9_findFewest 61 = .ok (.istore 4, 2) := by decide +kernel
theorem dX9_findFewest_63 : decode cX9_findFewest 63 = .ok (.iconst (-1), 1) := by decide +kernel
theorem dX9_findFewest_64 : decode cX9_findFewest 64 = .ok (.istore 5, 2) := by decide +kernel
theorem dX9_findFewest_66 : decode cX9_findFewest 66 = .ok (.iconst 0, 1) := by decide +kernel
theorem dX9_findFewest_67 : decode cX9_findFewest 67 = .ok (.istore 6, 2) := by decide +kernel
theorem dX9_findFewest_69 : decode cX9_findFewest 69 = .ok (.iconst 0, 1) := by decide +kernel
theorem dX9_findFewest_70 : decode cX9_findFewest 70 = .ok (.istore 7, 2) := by decide +kernel
theorem dX9_findFewest_72 : decode cX9_findFewest 72 = .ok (.iload 7, 2) := by decide +kernel
theorem dX9_findFewest_74 : decode cX9_findFewest 74 = .ok (.iload_n 2, 1) := by decide +kernel
theorem dX9_findFewest_75 : decode cX9_findFewest 75 = .ok (.if_icmp .ge 63, 3) := by decide +kernel
theorem dX9_findFewest_78 : decode cX9_findFewest 78 = .ok (.iload 7, 2) := by decide +kernel
theorem dX9_findFewest_80 : decode cX9_findFewest 80 = .ok (.iload_n 3, 1) := by decide +kernel
theorem dX9_findFewest_81 : decode cX9_findFewest 81 = .ok (.aload_n 0, 1) := by decide +kernel
theorem dX9_findFewest_82 : decode cX9_findFewest 82 = .ok (.getfield 28, 3) := by decide +kernel
theorem dX9_findFewest_85 : decode cX9_findFewest 85 = .ok (.getfield 188, 3) := by decide +kernel
theorem dX9_findFewest_88 : decode cX9_findFewest 88 = .ok (.invokestatic 381, 3) := by decide +kernel
theorem dX9_findFewest_91 : decode cX9_findFewest 91 = .ok (.istore 8, 2) := by decide +kernel
theorem dX9_findFewest_93 : decode cX9_findFewest 93 = .ok (.iload 5, 2) := by decide +kernel
theorem dX9_findFewest_95 : decode cX9_findFewest 95 = .ok (.iconst (-1), 1) := by decide +kernel
theorem dX9_findFewest_96 : decode cX9_findFewest 96 = .ok (.if_icmp .eq 10, 3) := by decide +kernel
theorem dX9_findFewest_99 : decode cX9_findFewest 99 = .ok (.iload 8, 2) := by decide +kernel
theorem dX9_findFewest_101 : decode cX9_findFewest 101 = .ok (.iload 6, 2) := by decide +kernel
theorem dX9_findFewest_103 : decode cX9_findFewest 103 = .ok (.if_icmp .ge 29, 3) := by decide +kernel
theorem dX9_findFewest_106 : decode cX9_findFewest 106 = .ok (.iload 7, 2) := by decide +kernel
theorem dX9_findFewest_108 : decode cX9_findFewest 108 = .ok (.iload_n 3, 1) := by decide +kernel
theorem dX9_findFewest_109 : decode cX9_findFewest 109 = .ok (.aload_n 0, 1) := by decide +kernel
theorem dX9_findFewest_110 : decode cX9_findFewest 110 = .ok (.getfield 28, 3) := by decide +kernel
theorem dX9_findFewest_113 : decode cX9_findFewest 113 = .ok (.getfield 185, 3) := by decide +kernel
theorem dX9_findFewest_116 : decode cX9_findFewest 116 = .ok (.invokestatic 381, 3) := by decide +kernel
theorem dX9_findFewest_119 : decode cX9_findFewest 119 = .ok (.iload 4, 2) := by decide +kernel
theorem dX9_findFewest_121 : decode cX9_findFewest 121 = .ok (.if_icmp .lt 11, 3) := by decide +kernel
theorem dX9_findFewest_124 : decode cX9_findFewest 124 = .ok (.iload 7, 2) := by decide +kernel
theorem dX9_findFewest_126 : decode cX9_findFewest 126 = .ok (.istore 5, 2) := by decide +kernel
theorem dX9_findFewest_128 : decode cX9_findFewest 128 = .ok (.iload 8, 2) := by decide +kernel
theorem dX9_findFewest_130 : decode cX9_findFewest 130 = .ok (.istore 6, 2) := by decide +kernel
theorem dX9_findFewest_132 : decode cX9_findFewest 132 = .ok (.iinc 7 1, 3) := by decide +kernel
theorem dX9_findFewest_135 : decode cX9_findFewest 135 = .ok (.goto (-63), 3) := by decide +kernel
theorem dX9_findFewest_138 : decode cX9_findFewest 138 = .ok (.iload 5, 2) := by decide +kernel
theorem dX9_findFewest_140 : decode cX9_findFewest 140 = .ok (.iconst (-1), 1) := by decide +kernel
theorem dX9_findFewest_141 : decode cX9_findFewest 141 = .ok (.if_icmp .ne 5, 3) := by decide +kernel
theorem dX9_findFewest_144 : decode cX9_findFewest 144 = .ok (.iconst 0, 1) := by decide +kernel
theorem dX9_findFewest_145 : decode cX9_findFewest 145 = .ok (.ireturn, 1) := by decide +kernel
theorem dX9_findFewest_146 : decode cX9_findFewest 146 = .ok (.iload 5, 2) := by decide +kernel
theorem dX9_findFewest_148 : decode cX9_findFewest 148 = .ok (.istore 7, 2) := by decide +kernel
theorem dX9_findFewest_150 : decode cX9_findFewest 150 = .ok (.iload_n 3, 1) := by decide +kernel
theorem dX9_findFewest_151 : decode cX9_findFewest 151 = .ok (.iconst 1, 1) := by decide +kernel
theorem dX9_findFewest_152 : decode cX9_findFewest 152 = .ok (.isub, 1) := by decide +kernel
theorem dX9_findFewest_153 : decode cX9_findFewest 153 = .ok (.istore 8, 2) := by decide +kernel
theorem dX9_findFewest_155 : decode cX9_findFewest 155 = .ok (.iload 8, 2) := by decide +kernel
theorem dX9_findFewest_157 : decode cX9_findFewest 157 = .ok (.ifCond .lt 26, 3) := by decide +kernel
theorem dX9_findFewest_160 : decode cX9_findFewest 160 = .ok (.aload_n 0, 1) := by decide +kernel
theorem dX9_findFewest_161 : decode cX9_findFewest 161 = .ok (.getfield 66, 3) := by decide +kernel
theorem dX9_findFewest_164 : decode cX9_findFewest 164 = .ok (.iload 8, 2) := by decide +kernel
theorem dX9_findFewest_166 : decode cX9_findFewest 166 = .ok (.iload 7, 2) := by decide +kernel
theorem dX9_findFewest_168 : decode cX9_findFewest 168 = .ok (.iconst 5, 1) := by decide +kernel
theorem dX9_findFewest_169 : decode cX9_findFewest 169 = .ok (.irem, 1) := by decide +kernel
theorem dX9_findFewest_170 : decode cX9_findFewest 170 = .ok (.iastore, 1) := by decide +kernel
theorem dX9_findFewest_171 : decode cX9_findFewest 171 = .ok (.iload 7, 2) := by decide +kernel
theorem dX9_findFewest_173 : decode cX9_findFewest 173 = .ok (.iconst 5, 1) := by decide +kernel
theorem dX9_findFewest_174 : decode cX9_findFewest 174 = .ok (.idiv, 1) := by decide +kernel
theorem dX9_findFewest_175 : decode cX9_findFewest 175 = .ok (.istore 7, 2) := by decide +kernel
theorem dX9_findFewest_177 : decode cX9_findFewest 177 = .ok (.iinc 8 (-1), 3) := by decide +kernel
theorem dX9_findFewest_180 : decode cX9_findFewest 180 = .ok (.goto (-25), 3) := by decide +kernel
theorem dX9_findFewest_183 : decode cX9_findFewest 183 = .ok (.aload_n 0, 1) := by decide +kernel
theorem dX9_findFewest_184 : decode cX9_findFewest 184 = .ok (.getfield 66, 3) := by decide +kernel
theorem dX9_findFewest_187 : decode cX9_findFewest 187 = .ok (.iconst 4, 1) := by decide +kernel
theorem dX9_findFewest_188 : decode cX9_findFewest 188 = .ok (.iload 6, 2) := by decide +kernel
theorem dX9_findFewest_190 : decode cX9_findFewest 190 = .ok (.iastore, 1) := by decide +kernel
theorem dX9_findFewest_191 : decode cX9_findFewest 191 = .ok (.iconst 1, 1) := by decide +kernel
theorem dX9_findFewest_192 : decode cX9_findFewest 192 = .ok (.ireturn, 1) := by decide +kernel
theorem dX9_amount_0 : decode cX9_amount 0 = .ok (.iload_n 0, 1) := by decide +kernel
theorem dX9_amount_1 : decode cX9_amount 1 = .ok (.istore_n 3, 1) := by decide +kernel
theorem dX9_amount_2 : decode cX9_amount 2 = .ok (.iconst 0, 1) := by decide +kernel
theorem dX9_amount_3 : decode cX9_amount 3 = .ok (.istore 4, 2) := by decide +kernel
theorem dX9_amount_5 : decode cX9_amount 5 = .ok (.iload_n 1, 1) := by decide +kernel
theorem dX9_amount_6 : decode cX9_amount 6 = .ok (.iconst 1, 1) := by decide +kernel
theorem dX9_amount_7 : decode cX9_amount 7 = .ok (.isub, 1) := by decide +kernel
theorem dX9_amount_8 : decode cX9_amount 8 = .ok (.istore 5, 2) := by decide +kernel
theorem dX9_amount_10 : decode cX9_amount 10 = .ok (.iload 5, 2) := by decide +kernel
theorem dX9_amount_12 : decode cX9_amount 12 = .ok (.ifCond .lt 26, 3) := by decide +kernel
theorem dX9_amount_15 : decode cX9_amount 15 = .ok (.iload 4, 2) := by decide +kernel
theorem dX9_amount_17 : decode cX9_amount 17 = .ok (.iload_n 3, 1) := by decide +kernel
theorem dX9_amount_18 : decode cX9_amount 18 = .ok (.iconst 5, 1) := by decide +kernel
theorem dX9_amount_19 : decode cX9_amount 19 = .ok (.irem, 1) := by decide +kernel
theorem dX9_amount_20 : decode cX9_amount 20 = .ok (.aload_n 2, 1) := by decide +kernel
theorem dX9_amount_21 : decode cX9_amount 21 = .ok (.iload 5, 2) := by decide +kernel
theorem dX9_amount_23 : decode cX9_amount 23 = .ok (.iaload, 1) := by decide +kernel
theorem dX9_amount_24 : decode cX9_amount 24 = .ok (.imul, 1) := by decide +kernel
theorem dX9_amount_25 : decode cX9_amount 25 = .ok (.iadd, 1) := by decide +kernel
theorem dX9_amount_26 : decode cX9_amount 26 = .ok (.istore 4, 2) := by decide +kernel
theorem dX9_amount_28 : decode cX9_amount 28 = .ok (.iload_n 3, 1) := by decide +kernel
theorem dX9_amount_29 : decode cX9_amount 29 = .ok (.iconst 5, 1) := by decide +kernel
theorem dX9_amount_30 : decode cX9_amount 30 = .ok (.idiv, 1) := by decide +kernel
theorem dX9_amount_31 : decode cX9_amount 31 = .ok (.istore_n 3, 1) := by decide +kernel
theorem dX9_amount_32 : decode cX9_amount 32 = .ok (.iinc 5 (-1), 3) := by decide +kernel
theorem dX9_amount_35 : decode cX9_amount 35 = .ok (.goto (-25), 3) := by decide +kernel
theorem dX9_amount_38 : decode cX9_amount 38 = .ok (.iload 4, 2) := by decide +kernel
theorem dX9_amount_40 : decode cX9_amount 40 = .ok (.ireturn, 1) := by decide +kernel
theorem dX10_init_0 : decode cX10_init 0 = .ok (.aload_n 0, 1) := by decide +kernel
theorem dX10_init_1 : decode cX10_init 1 = .ok (.invokespecial 1, 3) := by decide +kernel
theorem dX10_init_4 : decode cX10_init 4 = .ok (.aload_n 0, 1) := by decide +kernel
theorem dX10_init_5 : decode cX10_init 5 = .ok (.sipush 700, 3) := by decide +kernel
theorem dX10_init_8 : decode cX10_init 8 = .ok (.newarray .int, 2) := by decide +kernel
theorem dX10_init_10 : decode cX10_init 10 = .ok (.putfield 7, 3) := by decide +kernel
theorem dX10_init_13 : decode cX10_init 13 = .ok (.aload_n 0, 1) := by decide +kernel
theorem dX10_init_14 : decode cX10_init 14 = .ok (.bipush 20, 2) := by decide +kernel
theorem dX10_init_16 : decode cX10_init 16 = .ok (.newarray .int, 2) := by decide +kernel
theorem dX10_init_18 : decode cX10_init 18 = .ok (.dup, 1) := by decide +kernel
theorem dX10_init_19 : decode cX10_init 19 = .ok (.iconst 0, 1) := by decide +kernel
theorem dX10_init_20 : decode cX10_init 20 = .ok (.iconst 0, 1) := by decide +kernel
theorem dX10_init_21 : decode cX10_init 21 = .ok (.iastore, 1) := by decide +kernel
theorem dX10_init_22 : decode cX10_init 22 = .ok (.dup, 1) := by decide +kernel
theorem dX10_init_23 : decode cX10_init 23 = .ok (.iconst 1, 1) := by decide +kernel
theorem dX10_init_24 : decode cX10_init 24 = .ok (.iconst 0, 1) := by decide +kernel
theorem dX10_init_25 : decode cX10_init 25 = .ok (.iastore, 1) := by decide +kernel
theorem dX10_init_26 : decode cX10_init 26 = .ok (.dup, 1) := by decide +kernel
theorem dX10_init_27 : decode cX10_init 27 = .ok (.iconst 2, 1) := by decide +kernel
theorem dX10_init_28 : decode cX10_init 28 = .ok (.iconst 0, 1) := by decide +kernel
theorem dX10_init_29 : decode cX10_init 29 = .ok (.iastore, 1) := by decide +kernel
theorem dX10_init_30 : decode cX10_init 30 = .ok (.dup, 1) := by decide +kernel
theorem dX10_init_31 : decode cX10_init 31 = .ok (.iconst 3, 1) := by decide +kernel
theorem dX10_init_32 : decode cX10_init 32 = .ok (.iconst 0, 1) := by decide +kernel
theorem dX10_init_33 : decode cX10_init 33 = .ok (.iastore, 1) := by decide +kernel
theorem dX10_init_34 : decode cX10_init 34 = .ok (.dup, 1) := by decide +kernel
theorem dX10_init_35 : decode cX10_init 35 = .ok (.iconst 4, 1) := by decide +kernel
theorem dX10_init_36 : decode cX10_init 36 = .ok (.bipush 7, 2) := by decide +kernel
theorem dX10_init_38 : decode cX10_init 38 = .ok (.iastore, 1) := by decide +kernel
theorem dX10_init_39 : decode cX10_init 39 = .ok (.dup, 1) := by decide +kernel
theorem dX10_init_40 : decode cX10_init 40 = .ok (.iconst 5, 1) := by decide +kernel
theorem dX10_init_41 : decode cX10_init 41 = .ok (.iconst 0, 1) := by decide +kernel
theorem dX10_init_42 : decode cX10_init 42 = .ok (.iastore, 1) := by decide +kernel
theorem dX10_init_43 : decode cX10_init 43 = .ok (.dup, 1) := by decide +kernel
theorem dX10_init_44 : decode cX10_init 44 = .ok (.bipush 6, 2) := by decide +kernel
theorem dX10_init_46 : decode cX10_init 46 = .ok (.iconst 0, 1) := by decide +kernel
theorem dX10_init_47 : decode cX10_init 47 = .ok (.iastore, 1) := by decide +kernel
theorem dX10_init_48 : decode cX10_init 48 = .ok (.dup, 1) := by decide +kernel
theorem dX10_init_49 : decode cX10_init 49 = .ok (.bipush 7, 2) := by decide +kernel
theorem dX10_init_51 : decode cX10_init 51 = .ok (.iconst 0, 1) := by decide +kernel
theorem dX10_init_52 : decode cX10_init 52 = .ok (.iastore, 1) := by decide +kernel
theorem dX10_init_53 : decode cX10_init 53 = .ok (.dup, 1) := by decide +kernel
theorem dX10_init_54 : decode cX10_init 54 = .ok (.bipush 8, 2) := by decide +kernel
theorem dX10_init_56 : decode cX10_init 56 = .ok (.iconst 0, 1) := by decide +kernel
theorem dX10_init_57 : decode cX10_init 57 = .ok (.iastore, 1) := by decide +kernel
theorem dX10_init_58 : decode cX10_init 58 = .ok (.dup, 1) := by decide +kernel
theorem dX10_init_59 : decode cX10_init 59 = .ok (.bipush 9, 2) := by decide +kernel
theorem dX10_init_61 : decode cX10_init 61 = .ok (.iconst 0, 1) := by decide +kernel
theorem dX10_init_62 : decode cX10_init 62 = .ok (.iastore, 1) := by decide +kernel
theorem dX10_init_63 : decode cX10_init 63 = .ok (.dup, 1) := by decide +kernel
theorem dX10_init_64 : decode cX10_init 64 = .ok (.bipush 10, 2) := by decide +kernel
theorem dX10_init_66 : decode cX10_init 66 = .ok (.iconst 0, 1) := by decide +kernel
theorem dX10_init_67 : decode cX10_init 67 = .ok (.iastore, 1) := by decide +kernel
theorem dX10_init_68 : decode cX10_init 68 = .ok (.dup, 1) := by decide +kernel
theorem dX10_init_69 : decode cX10_init 69 = .ok (.bipush 11, 2) := by decide +kernel
theorem dX10_init_71 : decode cX10_init 71 = .ok (.iconst 0, 1) := by decide +kernel
theorem dX10_init_72 : decode cX10_init 72 = .ok (.iastore, 1) := by decide +kernel
theorem dX10_init_73 : decode cX10_init 73 = .ok (.dup, 1) := by decide +kernel
theorem dX10_init_74 : decode cX10_init 74 = .ok (.bipush 12, 2) := by decide +kernel
theorem dX10_init_76 : decode cX10_init 76 = .ok (.iconst 0, 1) := by decide +kernel
theorem dX10_init_77 : decode cX10_init 77 = .ok (.iastore, 1) := by decide +kernel
theorem dX10_init_78 : decode cX10_init 78 = .ok (.dup, 1) := by decide +kernel
theorem dX10_init_79 : decode cX10_init 79 = .ok (.bipush 13, 2) := by decide +kernel
theorem dX10_init_81 : decode cX10_init 81 = .ok (.iconst 0, 1) := by decide +kernel
theorem dX10_init_82 : decode cX10_init 82 = .ok (.iastore, 1) := by decide +kernel
theorem dX10_init_83 : decode cX10_init 83 = .ok (.dup, 1) := by decide +kernel
theorem dX10_init_84 : decode cX10_init 84 = .ok (.bipush 14, 2) := by decide +kernel
theorem dX10_init_86 : decode cX10_init 86 = .ok (.bipush 7, 2) := by decide +kernel
theorem dX10_init_88 : decode cX10_init 88 = .ok (.iastore, 1) := by decide +kernel
theorem dX10_init_89 : decode cX10_init 89 = .ok (.dup, 1) := by decide +kernel
theorem dX10_init_90 : decode cX10_init 90 = .ok (.bipush 15, 2) := by decide +kernel
theorem dX10_init_92 : decode cX10_init 92 = .ok (.iconst 0, 1) := by decide +kernel
theorem dX10_init_93 : decode cX10_init 93 = .ok (.iastore, 1) := by decide +kernel
theorem dX10_init_94 : decode cX10_init 94 = .ok (.dup, 1) := by decide +kernel
theorem dX10_init_95 : decode cX10_init 95 = .ok (.bipush 16, 2) := by decide +kernel
theorem dX10_init_97 : decode cX10_init 97 = .ok (.iconst 0, 1) := by decide +kernel
theorem dX10_init_98 : decode cX10_init 98 = .ok (.iastore, 1) := by decide +kernel
theorem dX10_init_99 : decode cX10_init 99 = .ok (.dup, 1) := by decide +kernel
theorem dX10_init_100 : decode cX10_init 100 = .ok (.bipush 17, 2) := by decide +kernel
theorem dX10_init_102 : decode cX10_init 102 = .ok (.iconst 0, 1) := by decide +kernel
theorem dX10_init_103 : decode cX10_init 103 = .ok (.iastore, 1) := by decide +kernel
theorem dX10_init_104 : decode cX10_init 104 = .ok (.dup, 1) := by decide +kernel
theorem dX10_init_105 : decode cX10_init 105 = .ok (.bipush 18, 2) := by decide +kernel
theorem dX10_init_107 : decode cX10_init 107 = .ok (.iconst 0, 1) := by decide +kernel
theorem dX10_init_108 : decode cX10_init 108 = .ok (.iastore, 1) := by decide +kernel
theorem dX10_init_109 : decode cX10_init 109 = .ok (.dup, 1) := by decide +kernel
theorem dX10_init_110 : decode cX10_init 110 = .ok (.bipush 19, 2) := by decide +kernel
theorem dX10_init_112 : decode cX10_init 112 = .ok (.iconst 0, 1) := by decide +kernel
theorem dX10_init_113 : decode cX10_init 113 = .ok (.iastore, 1) := by decide +kernel
theorem dX10_init_114 : decode cX10_init 114 = .ok (.putfield 13, 3) := by decide +kernel
theorem dX10_init_117 : decode cX10_init 117 = .ok (.aload_n 0, 1) := by decide +kernel
theorem dX10_init_118 : decode cX10_init 118 = .ok (.bipush 10, 2) := by decide +kernel
theorem dX10_init_120 : decode cX10_init 120 = .ok (.newarray .int, 2) := by decide +kernel
theorem dX10_init_122 : decode cX10_init 122 = .ok (.putfield 16, 3) := by decide +kernel
theorem dX10_init_125 : decode cX10_init 125 = .ok (.aload_n 0, 1) := by decide +kernel
theorem dX10_init_126 : decode cX10_init 126 = .ok (.bipush 10, 2) := by decide +kernel
theorem dX10_init_128 : decode cX10_init 128 = .ok (.newarray .int, 2) := by decide +kernel
theorem dX10_init_130 : decode cX10_init 130 = .ok (.putfield 19, 3) := by decide +kernel
theorem dX10_init_133 : decode cX10_init 133 = .ok (.aload_n 0, 1) := by decide +kernel
theorem dX10_init_134 : decode cX10_init 134 = .ok (.bipush 10, 2) := by decide +kernel
theorem dX10_init_136 : decode cX10_init 136 = .ok (.newarray .int, 2) := by decide +kernel
theorem dX10_init_138 : decode cX10_init 138 = .ok (.putfield 22, 3) := by decide +kernel
theorem dX10_init_141 : decode cX10_init 141 = .ok (.aload_n 0, 1) := by decide +kernel
theorem dX10_init_142 : decode cX10_init 142 = .ok (.bipush 10, 2) := by decide +kernel
theorem dX10_init_144 : decode cX10_init 144 = .ok (.newarray .int, 2) := by decide +kernel
theorem dX10_init_146 : decode cX10_init 146 = .ok (.putfield 25, 3) := by decide +kernel
theorem dX10_init_149 : decode cX10_init 149 = .ok (.aload_n 0, 1) := by decide +kernel
theorem dX10_init_150 : decode cX10_init 150 = .ok (.bipush 12, 2) := by decide +kernel
theorem dX10_init_152 : decode cX10_init 152 = .ok (.newarray .int, 2) := by decide +kernel
theorem dX10_init_154 : decode cX10_init 154 = .ok (.putfield 28, 3) := by decide +kernel
theorem dX10_init_157 : decode cX10_init 157 = .ok (.aload_n 0, 1) := by decide +kernel
theorem dX10_init_158 : decode cX10_init 158 = .ok (.bipush 12, 2) := by decide +kernel
theorem dX10_init_160 : decode cX10_init 160 = .ok (.newarray .int, 2) := by decide +kernel
theorem dX10_init_162 : decode cX10_init 162 = .ok (.putfield 31, 3) := by decide +kernel
theorem dX10_init_165 : decode cX10_init 165 = .ok (.aload_n 0, 1) := by decide +kernel
theorem dX10_init_166 : decode cX10_init 166 = .ok (.bipush 12, 2) := by decide +kernel
theorem dX10_init_168 : decode cX10_init 168 = .ok (.newarray .int, 2) := by decide +kernel
theorem dX10_init_170 : decode cX10_init 170 = .ok (.putfield 34, 3) := by decide +kernel
theorem dX10_init_173 : decode cX10_init 173 = .ok (.aload_n 0, 1) := by decide +kernel
theorem dX10_init_174 : decode cX10_init 174 = .ok (.bipush 12, 2) := by decide +kernel
theorem dX10_init_176 : decode cX10_init 176 = .ok (.newarray .int, 2) := by decide +kernel
theorem dX10_init_178 : decode cX10_init 178 = .ok (.putfield 37, 3) := by decide +kernel
theorem dX10_init_181 : decode cX10_init 181 = .ok (.aload_n 0, 1) := by decide +kernel
theorem dX10_init_182 : decode cX10_init 182 = .ok (.bipush 60, 2) := by decide +kernel
theorem dX10_init_184 : decode cX10_init 184 = .ok (.newarray .int, 2) := by decide +kernel
theorem dX10_init_186 : decode cX10_init 186 = .ok (.putfield 40, 3) := by decide +kernel
theorem dX10_init_189 : decode cX10_init 189 = .ok (.aload_n 0, 1) := by decide +kernel
theorem dX10_init_190 : decode cX10_init 190 = .ok (.bipush 6, 2) := by decide +kernel
theorem dX10_init_192 : decode cX10_init 192 = .ok (.newarray .int, 2) := by decide +kernel
theorem dX10_init_194 : decode cX10_init 194 = .ok (.putfield 43, 3) := by decide +kernel
theorem dX10_init_197 : decode cX10_init 197 = .ok (.aload_n 0, 1) := by decide +kernel
theorem dX10_init_198 : decode cX10_init 198 = .ok (.bipush 6, 2) := by decide +kernel
theorem dX10_init_200 : decode cX10_init 200 = .ok (.newarray .int, 2) := by decide +kernel
theorem dX10_init_202 : decode cX10_init 202 = .ok (.putfield 46, 3) := by decide +kernel
theorem dX10_init_205 : decode cX10_init 205 = .ok (.aload_n 0, 1) := by decide +kernel
theorem dX10_init_206 : decode cX10_init 206 = .ok (.sipush 128, 3) := by decide +kernel
theorem dX10_init_209 : decode cX10_init 209 = .ok (.newarray .int, 2) := by decide +kernel
theorem dX10_init_211 : decode cX10_init 211 = .ok (.putfield 49, 3) := by decide +kernel
theorem dX10_init_214 : decode cX10_init 214 = .ok (.aload_n 0, 1) := by decide +kernel
theorem dX10_init_215 : decode cX10_init 215 = .ok (.sipush 128, 3) := by decide +kernel
theorem dX10_init_218 : decode cX10_init 218 = .ok (.newarray .int, 2) := by decide +kernel
theorem dX10_init_220 : decode cX10_init 220 = .ok (.putfield 52, 3) := by decide +kernel
theorem dX10_init_223 : decode cX10_init 223 = .ok (.aload_n 0, 1) := by decide +kernel
theorem dX10_init_224 : decode cX10_init 224 = .ok (.iconst (-1), 1) := by decide +kernel
theorem dX10_init_225 : decode cX10_init 225 = .ok (.putfield 55, 3) := by decide +kernel
theorem dX10_init_228 : decode cX10_init 228 = .ok (.aload_n 0, 1) := by decide +kernel
theorem dX10_init_229 : decode cX10_init 229 = .ok (.bipush 7, 2) := by decide +kernel
theorem dX10_init_231 : decode cX10_init 231 = .ok (.newarray .long, 2) := by decide +kernel
theorem dX10_init_233 : decode cX10_init 233 = .ok (.putfield 59, 3) := by decide +kernel
theorem dX10_init_236 : decode cX10_init 236 = .ok (.aload_n 0, 1) := by decide +kernel
theorem dX10_init_237 : decode cX10_init 237 = .ok (.bipush 64, 2) := by decide +kernel
theorem dX10_init_239 : decode cX10_init 239 = .ok (.newarray .long, 2) := by decide +kernel
theorem dX10_init_241 : decode cX10_init 241 = .ok (.putfield 63, 3) := by decide +kernel
theorem dX10_init_244 : decode cX10_init 244 = .ok (.aload_n 0, 1) := by decide +kernel
theorem dX10_init_245 : decode cX10_init 245 = .ok (.bipush 23, 2) := by decide +kernel
theorem dX10_init_247 : decode cX10_init 247 = .ok (.newarray .int, 2) := by decide +kernel
theorem dX10_init_249 : decode cX10_init 249 = .ok (.putfield 66, 3) := by decide +kernel
theorem dX10_init_252 : decode cX10_init 252 = .ok (.aload_n 0, 1) := by decide +kernel
theorem dX10_init_253 : decode cX10_init 253 = .ok (.bipush 23, 2) := by decide +kernel
theorem dX10_init_255 : decode cX10_init 255 = .ok (.newarray .int, 2) := by decide +kernel
theorem dX10_init_257 : decode cX10_init 257 = .ok (.putfield 69, 3) := by decide +kernel
theorem dX10_init_260 : decode cX10_init 260 = .ok (.aload_n 0, 1) := by decide +kernel
theorem dX10_init_261 : decode cX10_init 261 = .ok (.bipush 23, 2) := by decide +kernel
theorem dX10_init_263 : decode cX10_init 263 = .ok (.newarray .int, 2) := by decide +kernel
theorem dX10_init_265 : decode cX10_init 265 = .ok (.putfield 72, 3) := by decide +kernel
theorem dX10_init_268 : decode cX10_init 268 = .ok (.aload_n 0, 1) := by decide +kernel
theorem dX10_init_269 : decode cX10_init 269 = .ok (.bipush 115, 2) := by decide +kernel
theorem dX10_init_271 : decode cX10_init 271 = .ok (.newarray .int, 2) := by decide +kernel
theorem dX10_init_273 : decode cX10_init 273 = .ok (.putfield 75, 3) := by decide +kernel
theorem dX10_init_276 : decode cX10_init 276 = .ok (.aload_n 0, 1) := by decide +kernel
theorem dX10_init_277 : decode cX10_init 277 = .ok (.bipush 115, 2) := by decide +kernel
theorem dX10_init_279 : decode cX10_init 279 = .ok (.newarray .int, 2) := by decide +kernel
theorem dX10_init_281 : decode cX10_init 281 = .ok (.putfield 78, 3) := by decide +kernel
theorem dX10_init_284 : decode cX10_init 284 = .ok (.aload_n 0, 1) := by decide +kernel
theorem dX10_init_285 : decode cX10_init 285 = .ok (.bipush 115, 2) := by decide +kernel
theorem dX10_init_287 : decode cX10_init 287 = .ok (.newarray .int, 2) := by decide +kernel
theorem dX10_init_289 : decode cX10_init 289 = .ok (.putfield 81, 3) := by decide +kernel
theorem dX10_init_292 : decode cX10_init 292 = .ok (.aload_n 0, 1) := by decide +kernel
theorem dX10_init_293 : decode cX10_init 293 = .ok (.bipush 115, 2) := by decide +kernel
theorem dX10_init_295 : decode cX10_init 295 = .ok (.newarray .int, 2) := by decide +kernel
theorem dX10_init_297 : decode cX10_init 297 = .ok (.putfield 84, 3) := by decide +kernel
theorem dX10_init_300 : decode cX10_init 300 = .ok (.aload_n 0, 1) := by decide +kernel
theorem dX10_init_301 : decode cX10_init 301 = .ok (.bipush 115, 2) := by decide +kernel
theorem dX10_init_303 : decode cX10_init 303 = .ok (.newarray .int, 2) := by decide +kernel
theorem dX10_init_305 : decode cX10_init 305 = .ok (.putfield 87, 3) := by decide +kernel
theorem dX10_init_308 : decode cX10_init 308 = .ok (.aload_n 0, 1) := by decide +kernel
theorem dX10_init_309 : decode cX10_init 309 = .ok (.bipush 115, 2) := by decide +kernel
theorem dX10_init_311 : decode cX10_init 311 = .ok (.newarray .int, 2) := by decide +kernel
theorem dX10_init_313 : decode cX10_init 313 = .ok (.putfield 90, 3) := by decide +kernel
theorem dX10_init_316 : decode cX10_init 316 = .ok (.aload_n 0, 1) := by decide +kernel
theorem dX10_init_317 : decode cX10_init 317 = .ok (.bipush 115, 2) := by decide +kernel
theorem dX10_init_319 : decode cX10_init 319 = .ok (.newarray .int, 2) := by decide +kernel
theorem dX10_init_321 : decode cX10_init 321 = .ok (.putfield 93, 3) := by decide +kernel
theorem dX10_init_324 : decode cX10_init 324 = .ok (.aload_n 0, 1) := by decide +kernel
theorem dX10_init_325 : decode cX10_init 325 = .ok (.bipush 115, 2) := by decide +kernel
theorem dX10_init_327 : decode cX10_init 327 = .ok (.newarray .int, 2) := by decide +kernel
theorem dX10_init_329 : decode cX10_init 329 = .ok (.putfield 96, 3) := by decide +kernel
theorem dX10_init_332 : decode cX10_init 332 = .ok (.aload_n 0, 1) := by decide +kernel
theorem dX10_init_333 : decode cX10_init 333 = .ok (.bipush 115, 2) := by decide +kernel
theorem dX10_init_335 : decode cX10_init 335 = .ok (.newarray .int, 2) := by decide +kernel
theorem dX10_init_337 : decode cX10_init 337 = .ok (.putfield 99, 3) := by decide +kernel
theorem dX10_init_340 : decode cX10_init 340 = .ok (.aload_n 0, 1) := by decide +kernel
theorem dX10_init_341 : decode cX10_init 341 = .ok (.bipush 115, 2) := by decide +kernel
theorem dX10_init_343 : decode cX10_init 343 = .ok (.newarray .int, 2) := by decide +kernel
theorem dX10_init_345 : decode cX10_init 345 = .ok (.putfield 102, 3) := by decide +kernel
theorem dX10_init_348 : decode cX10_init 348 = .ok (.aload_n 0, 1) := by decide +kernel
theorem dX10_init_349 : decode cX10_init 349 = .ok (.bipush 115, 2) := by decide +kernel
theorem dX10_init_351 : decode cX10_init 351 = .ok (.newarray .int, 2) := by decide +kernel
theorem dX10_init_353 : decode cX10_init 353 = .ok (.putfield 105, 3) := by decide +kernel
theorem dX10_init_356 : decode cX10_init 356 = .ok (.aload_n 0, 1) := by decide +kernel
theorem dX10_init_357 : decode cX10_init 357 = .ok (.sipush 690, 3) := by decide +kernel
theorem dX10_init_360 : decode cX10_init 360 = .ok (.newarray .int, 2) := by decide +kernel
theorem dX10_init_362 : decode cX10_init 362 = .ok (.putfield 108, 3) := by decide +kernel
theorem dX10_init_365 : decode cX10_init 365 = .ok (.aload_n 0, 1) := by decide +kernel
theorem dX10_init_366 : decode cX10_init 366 = .ok (.iconst (-1), 1) := by decide +kernel
theorem dX10_init_367 : decode cX10_init 367 = .ok (.putfield 111, 3) := by decide +kernel
theorem dX10_init_370 : decode cX10_init 370 = .ok (.aload_n 0, 1) := by decide +kernel
theorem dX10_init_371 : decode cX10_init 371 = .ok (.bipush 25, 2) := by decide +kernel
theorem dX10_init_373 : decode cX10_init 373 = .ok (.newarray .int, 2) := by decide +kernel
theorem dX10_init_375 : decode cX10_init 375 = .ok (.putfield 114, 3) := by decide +kernel
theorem dX10_init_378 : decode cX10_init 378 = .ok (.aload_n 0, 1) := by decide +kernel
theorem dX10_init_379 : decode cX10_init 379 = .ok (.bipush 25, 2) := by decide +kernel
theorem dX10_init_381 : decode cX10_init 381 = .ok (.newarray .int, 2) := by decide +kernel
theorem dX10_init_383 : decode cX10_init 383 = .ok (.putfield 117, 3) := by decide +kernel
theorem dX10_init_386 : decode cX10_init 386 = .ok (.aload_n 0, 1) := by decide +kernel
theorem dX10_init_387 : decode cX10_init 387 = .ok (.iconst (-1), 1) := by decide +kernel
theorem dX10_init_388 : decode cX10_init 388 = .ok (.putfield 120, 3) := by decide +kernel
theorem dX10_init_391 : decode cX10_init 391 = .ok (.aload_n 0, 1) := by decide +kernel
theorem dX10_init_392 : decode cX10_init 392 = .ok (.bipush 24, 2) := by decide +kernel
theorem dX10_init_394 : decode cX10_init 394 = .ok (.newarray .int, 2) := by decide +kernel
theorem dX10_init_396 : decode cX10_init 396 = .ok (.putfield 123, 3) := by decide +kernel
theorem dX10_init_399 : decode cX10_init 399 = .ok (.aload_n 0, 1) := by decide +kernel
theorem dX10_init_400 : decode cX10_init 400 = .ok (.bipush 24, 2) := by decide +kernel
theorem dX10_init_402 : decode cX10_init 402 = .ok (.newarray .int, 2) := by decide +kernel
theorem dX10_init_404 : decode cX10_init 404 = .ok (.putfield 126, 3) := by decide +kernel
theorem dX10_init_407 : decode cX10_init 407 = .ok (.aload_n 0, 1) := by decide +kernel
theorem dX10_init_408 : decode cX10_init 408 = .ok (.bipush 24, 2) := by decide +kernel
theorem dX10_init_410 : decode cX10_init 410 = .ok (.newarray .int, 2) := by decide +kernel
theorem dX10_init_412 : decode cX10_init 412 = .ok (.putfield 129, 3) := by decide +kernel
theorem dX10_init_415 : decode cX10_init 415 = .ok (.aload_n 0, 1) := by decide +kernel
theorem dX10_init_416 : decode cX10_init 416 = .ok (.bipush 24, 2) := by decide +kernel
theorem dX10_init_418 : decode cX10_init 418 = .ok (.newarray .boolean, 2) := by decide +kernel
theorem dX10_init_420 : decode cX10_init 420 = .ok (.putfield 132, 3) := by decide +kernel
theorem dX10_init_423 : decode cX10_init 423 = .ok (.aload_n 0, 1) := by decide +kernel
theorem dX10_init_424 : decode cX10_init 424 = .ok (.bipush 24, 2) := by decide +kernel
theorem dX10_init_426 : decode cX10_init 426 = .ok (.newarray .int, 2) := by decide +kernel
theorem dX10_init_428 : decode cX10_init 428 = .ok (.putfield 136, 3) := by decide +kernel
theorem dX10_init_431 : decode cX10_init 431 = .ok (.aload_n 0, 1) := by decide +kernel
theorem dX10_init_432 : decode cX10_init 432 = .ok (.bipush 24, 2) := by decide +kernel
theorem dX10_init_434 : decode cX10_init 434 = .ok (.newarray .boolean, 2) := by decide +kernel
theorem dX10_init_436 : decode cX10_init 436 = .ok (.putfield 139, 3) := by decide +kernel
theorem dX10_init_439 : decode cX10_init 439 = .ok (.aload_n 0, 1) := by decide +kernel
theorem dX10_init_440 : decode cX10_init 440 = .ok (.invokevirtual 142, 3) := by decide +kernel
theorem dX10_init_443 : decode cX10_init 443 = .ok (.return_, 1) := by decide +kernel
theorem dX10_thrown_0 : decode cX10_thrown 0 = .ok (.aload_n 0, 1) := by decide +kernel
theorem dX10_thrown_1 : decode cX10_thrown 1 = .ok (.getfield 145, 3) := by decide +kernel
theorem dX10_thrown_4 : decode cX10_thrown 4 = .ok (.ireturn, 1) := by decide +kernel
theorem dX10_feed_0 : decode cX10_feed 0 = .ok (.aload_n 0, 1) := by decide +kernel
theorem dX10_feed_1 : decode cX10_feed 1 = .ok (.iconst 0, 1) := by decide +kernel
theorem dX10_feed_2 : decode cX10_feed 2 = .ok (.putfield 145, 3) := by decide +kernel
theorem dX10_feed_5 : decode cX10_feed 5 = .ok (.aload_n 0, 1) := by decide +kernel
theorem dX10_feed_6 : decode cX10_feed 6 = .ok (.getfield 148, 3) := by decide +kernel
theorem dX10_feed_9 : decode cX10_feed 9 = .ok (.sipush 680, 3) := by decide +kernel
theorem dX10_feed_12 : decode cX10_feed 12 = .ok (.if_icmp .le 5, 3) := by decide +kernel
theorem dX10_feed_15 : decode cX10_feed 15 = .ok (.iconst (-1), 1) := by decide +kernel
theorem dX10_feed_16 : decode cX10_feed 16 = .ok (.ireturn, 1) := by decide +kernel
theorem dX10_feed_17 : decode cX10_feed 17 = .ok (.iconst 0, 1) := by decide +kernel
theorem dX10_feed_18 : decode cX10_feed 18 = .ok (.istore 6, 2) := by decide +kernel
theorem dX10_feed_20 : decode cX10_feed 20 = .ok (.iload 6, 2) := by decide +kernel
theorem dX10_feed_22 : decode cX10_feed 22 = .ok (.bipush 20, 2) := by decide +kernel
theorem dX10_feed_24 : decode cX10_feed 24 = .ok (.if_icmp .ge 86, 3) := by decide +kernel
theorem dX10_feed_27 : decode cX10_feed 27 = .ok (.iload 6, 2) := by decide +kernel
theorem dX10_feed_29 : decode cX10_feed 29 = .ok (.iconst 4, 1) := by decide +kernel
theorem dX10_feed_30 : decode cX10_feed 30 = .ok (.if_icmp .ge 7, 3) := by decide +kernel
theorem dX10_feed_33 : decode cX10_feed 33 = .ok (.iload_n 1, 1) := by decide +kernel
theorem dX10_feed_34 : decode cX10_feed 34 = .ok (.goto 39, 3) := by decide +kernel
theorem dX10_feed_37 : decode cX10_feed 37 = .ok (.iload 6, 2) := by decide +kernel
theorem dX10_feed_39 : decode cX10_feed 39 = .ok (.bipush 8, 2) := by decide +kernel
theorem dX10_feed_41 : decode cX10_feed 41 = .ok (.if_icmp .ge 7, 3) := by decide +kernel
theorem dX10_feed_44 : decode cX10_feed 44 = .ok (.iload_n 2, 1) := by decide +kernel
theorem dX10_feed_45 : decode cX10_feed 45 = .ok (.goto 28, 3) := by decide +kernel
theorem dX10_feed_48 : decode cX10_feed 48 = .ok (.iload 6, 2) := by decide +kernel
theorem dX10_feed_50 : decode cX10_feed 50 = .ok (.bipush 12, 2) := by decide +kernel
theorem dX10_feed_52 : decode cX10_feed 52 = .ok (.if_icmp .ge 7, 3) := by decide +kernel
theorem dX10_feed_55 : decode cX10_feed 55 = .ok (.iload_n 3, 1) := by decide +kernel
theorem dX10_feed_56 : decode cX10_feed 56 = .ok (.goto 17, 3) := by decide +kernel
theorem dX10_feed_59 : decode cX10_feed 59 = .ok (.iload 6, 2) := by decide +kernel
theorem dX10_feed_61 : decode cX10_feed 61 = .ok (.bipush 16, 2) := by decide +kernel
theorem dX10_feed_63 : decode cX10_feed 63 = .ok (.if_icmp .ge 8, 3) := by decide +kernel
theorem dX10_feed_66 : decode cX10_feed 66 = .ok (.iload 4, 2) := by decide +kernel
theorem dX10_feed_68 : decode cX10_feed 68 = .ok (.goto 5, 3) := by decide +kernel
theorem dX10_feed_71 : decode cX10_feed 71 = .ok (.iload 5, 2) := by decide +kernel
theorem dX10_feed_73 : decode cX10_feed 73 = .ok (.istore 7, 2) := by decide +kernel
theorem dX10_feed_75 : decode cX10_feed 75 = .ok (.aload_n 0, 1) := by decide +kernel
theorem dX10_feed_76 : decode cX10_feed 76 = .ok (.getfield 7, 3) := by decide +kernel
theorem dX10_feed_79 : decode cX10_feed 79 = .ok (.aload_n 0, 1) := by decide +kernel
theorem dX10_feed_80 : decode cX10_feed 80 = .ok (.getfield 148, 3) := by decide +kernel
theorem dX10_feed_83 : decode cX10_feed 83 = .ok (.iload 6, 2) := by decide +kernel
theorem dX10_feed_85 : decode cX10_feed 85 = .ok (.iadd, 1) := by decide +kernel
theorem dX10_feed_86 : decode cX10_feed 86 = .ok (.iload 7, 2) := by decide +kernel
theorem dX10_feed_88 : decode cX10_feed 88 = .ok (.bipush 24, 2) := by decide +kernel
theorem dX10_feed_90 : decode cX10_feed 90 = .ok (.bipush 8, 2) := by decide +kernel
theorem dX10_feed_92 : decode cX10_feed 92 = .ok (.iload 6, 2) := by decide +kernel
theorem dX10_feed_94 : decode cX10_feed 94 = .ok (.iconst 4, 1) := by decide +kernel
theorem dX10_feed_95 : decode cX10_feed 95 = .ok (.irem, 1) := by decide +kernel
theorem dX10_feed_96 : decode cX10_feed 96 = .ok (.imul, 1) := by decide +kernel
theorem dX10_feed_97 : decode cX10_feed 97 = .ok (.isub, 1) := by decide +kernel
theorem dX10_feed_98 : decode cX10_feed 98 = .ok (.ishr, 1) := by decide +kernel
theorem dX10_feed_99 : decode cX10_feed 99 = .ok (.sipush 255, 3) := by decide +kernel
theorem dX10_feed_102 : decode cX10_feed 102 = .ok (.iand, 1) := by decide +kernel
theorem dX10_feed_103 : decode cX10_feed 103 = .ok (.iastore, 1) := by decide +kernel
theorem dX10_feed_104 : decode cX10_feed 104 = .ok (.iinc 6 1, 3) := by decide +kernel
theorem dX10_feed_107 : decode cX10_feed 107 = .ok (.goto (-87), 3) := by decide +kernel
theorem dX10_feed_110 : decode cX10_feed 110 = .ok (.aload_n 0, 1) := by decide +kernel
theorem dX10_feed_111 : decode cX10_feed 111 = .ok (.dup, 1) := by decide +kernel
theorem dX10_feed_112 : decode cX10_feed 112 = .ok (.getfield 148, 3) := by decide +kernel
theorem dX10_feed_115 : decode cX10_feed 115 = .ok (.bipush 20, 2) := by decide +kernel
theorem dX10_feed_117 : decode cX10_feed 117 = .ok (.iadd, 1) := by decide +kernel
theorem dX10_feed_118 : decode cX10_feed 118 = .ok (.putfield 148, 3) := by decide +kernel
theorem dX10_feed_121 : decode cX10_feed 121 = .ok (.aload_n 0, 1) := by decide +kernel
theorem dX10_feed_122 : decode cX10_feed 122 = .ok (.getfield 148, 3) := by decide +kernel
theorem dX10_feed_125 : decode cX10_feed 125 = .ok (.ireturn, 1) := by decide +kernel
theorem dX10_here_0 : decode cX10_here 0 = .ok (.aload_n 0, 1) := by decide +kernel
theorem dX10_here_1 : decode cX10_here 1 = .ok (.getfield 151, 3) := by decide +kernel
theorem dX10_here_4 : decode cX10_here 4 = .ok (.aload_n 0, 1) := by decide +kernel
theorem dX10_here_5 : decode cX10_here 5 = .ok (.getfield 154, 3) := by decide +kernel
theorem dX10_here_8 : decode cX10_here 8 = .ok (.if_icmp .ge 15, 3) := by decide +kernel
theorem dX10_here_11 : decode cX10_here 11 = .ok (.aload_n 0, 1) := by decide +kernel
theorem dX10_here_12 : decode cX10_here 12 = .ok (.getfield 7, 3) := by decide +kernel
theorem dX10_here_15 : decode cX10_here 15 = .ok (.aload_n 0, 1) := by decide +kernel
theorem dX10_here_16 : decode cX10_here 16 = .ok (.getfield 151, 3) := by decide +kernel
theorem dX10_here_19 : decode cX10_here 19 = .ok (.iaload, 1) := by decide +kernel
theorem dX10_here_20 : decode cX10_here 20 = .ok (.goto 4, 3) := by decide +kernel
theorem dX10_here_23 : decode cX10_here 23 = .ok (.iconst (-1), 1) := by decide +kernel
theorem dX10_here_24 : decode cX10_here 24 = .ok (.ireturn, 1) := by decide +kernel
theorem dX10_isSmall_0 : decode cX10_isSmall 0 = .ok (.iload_n 0, 1) := by decide +kernel
theorem dX10_isSmall_1 : decode cX10_isSmall 1 = .ok (.bipush 97, 2) := by decide +kernel
theorem dX10_isSmall_3 : decode cX10_isSmall 3 = .ok (.if_icmp .lt 13, 3) := by decide +kernel
theorem dX10_isSmall_6 : decode cX10_isSmall 6 = .ok (.iload_n 0, 1) := by decide +kernel
theorem dX10_isSmall_7 : decode cX10_isSmall 7 = .ok (.bipush 122, 2) := by decide +kernel
theorem dX10_isSmall_9 : decode cX10_isSmall 9 = .ok (.if_icmp .gt 7, 3) := by decide +kernel
theorem dX10_isSmall_12 : decode cX10_isSmall 12 = .ok (.iconst 1, 1) := by decide +kernel
theorem dX10_isSmall_13 : decode cX10_isSmall 13 = .ok (.goto 4, 3) := by decide +kernel
theorem dX10_isSmall_16 : decode cX10_isSmall 16 = .ok (.iconst 0, 1) := by decide +kernel
theorem dX10_isSmall_17 : decode cX10_isSmall 17 = .ok (.ireturn, 1) := by decide +kernel
theorem dX10_isDigit_0 : decode cX10_isDigit 0 = .ok (.iload_n 0, 1) := by decide +kernel
theorem dX10_isDigit_1 : decode cX10_isDigit 1 = .ok (.bipush 48, 2) := by decide +kernel
theorem dX10_isDigit_3 : decode cX10_isDigit 3 = .ok (.if_icmp .lt 13, 3) := by decide +kernel
theorem dX10_isDigit_6 : decode cX10_isDigit 6 = .ok (.iload_n 0, 1) := by decide +kernel
theorem dX10_isDigit_7 : decode cX10_isDigit 7 = .ok (.bipush 57, 2) := by decide +kernel
theorem dX10_isDigit_9 : decode cX10_isDigit 9 = .ok (.if_icmp .gt 7, 3) := by decide +kernel
theorem dX10_isDigit_12 : decode cX10_isDigit 12 = .ok (.iconst 1, 1) := by decide +kernel
theorem dX10_isDigit_13 : decode cX10_isDigit 13 = .ok (.goto 4, 3) := by decide +kernel
theorem dX10_isDigit_16 : decode cX10_isDigit 16 = .ok (.iconst 0, 1) := by decide +kernel
theorem dX10_isDigit_17 : decode cX10_isDigit 17 = .ok (.ireturn, 1) := by decide +kernel
theorem dX10_token_0 : decode cX10_token 0 = .ok (.aload_n 0, 1) := by decide +kernel
theorem dX10_token_1 : decode cX10_token 1 = .ok (.invokevirtual 157, 3) := by decide +kernel
theorem dX10_token_4 : decode cX10_token 4 = .ok (.bipush 10, 2) := by decide +kernel
theorem dX10_token_6 : decode cX10_token 6 = .ok (.if_icmp .eq 12, 3) := by decide +kernel
theorem dX10_token_9 : decode cX10_token 9 = .ok (.aload_n 0, 1) := by decide +kernel
theorem dX10_token_10 : decode cX10_token 10 = .ok (.invokevirtual 157, 3) := by decide +kernel
theorem dX10_token_13 : decode cX10_token 13 = .ok (.bipush 32, 2) := by decide +kernel
theorem dX10_token_15 : decode cX10_token 15 = .ok (.if_icmp .ne 16, 3) := by decide +kernel
theorem dX10_token_18 : decode cX10_token 18 = .ok (.aload_n 0, 1) := by decide +kernel
theorem dX10_token_19 : decode cX10_token 19 = .ok (.dup, 1) := by decide +kernel
theorem dX10_token_20 : decode cX10_token 20 = .ok (.getfield 151, 3) := by decide +kernel
theorem dX10_token_23 : decode cX10_token 23 = .ok (.iconst 1, 1) := by decide +kernel
theorem dX10_token_24 : decode cX10_token 24 = .ok (.iadd, 1) := by decide +kernel
theorem dX10_token_25 : decode cX10_token 25 = .ok (.putfield 151, 3) := by decide +kernel
theorem dX10_token_28 : decode cX10_token 28 = .ok (.goto (-28), 3) := by decide +kernel
theorem dX10_token_31 : decode cX10_token 31 = .ok (.aload_n 0, 1) := by decide +kernel
theorem dX10_token_32 : decode cX10_token 32 = .ok (.aload_n 0, 1) := by decide +kernel
theorem dX10_token_33 : decode cX10_token 33 = .ok (.getfield 151, 3) := by decide +kernel
theorem dX10_token_36 : decode cX10_token 36 = .ok (.putfield 161, 3) := by decide +kernel
theorem dX10_token_39 : decode cX10_token 39 = .ok (.aload_n 0, 1) := by decide +kernel
theorem dX10_token_40 : decode cX10_token 40 = .ok (.invokevirtual 157, 3) := by decide +kernel
theorem dX10_token_43 : decode cX10_token 43 = .ok (.istore_n 1, 1) := by decide +kernel
theorem dX10_token_44 : decode cX10_token 44 = .ok (.iload_n 1, 1) := by decide +kernel
theorem dX10_token_45 : decode cX10_token 45 = .ok (.iconst (-1), 1) := by decide +kernel
theorem dX10_token_46 : decode cX10_token 46 = .ok (.if_icmp .ne 11, 3) := by decide +kernel
theorem dX10_token_49 : decode cX10_token 49 = .ok (.aload_n 0, 1) := by decide +kernel
theorem dX10_token_50 : decode cX10_token 50 = .ok (.iconst 4, 1) := by decide +kernel
theorem dX10_token_51 : decode cX10_token 51 = .ok (.putfield 164, 3) := by decide +kernel
theorem dX10_token_54 : decode cX10_token 54 = .ok (.goto 171, 3) := by decide +kernel
theorem dX10_token_57 : decode cX10_token 57 = .ok (.iload_n 1, 1) := by decide +kernel
theorem dX10_token_58 : decode cX10_token 58 = .ok (.invokestatic 167, 3) := by decide +kernel
theorem dX10_token_61 : decode cX10_token 61 = .ok (.ifCond .eq 84, 3) := by decide +kernel
theorem dX10_token_64 : decode cX10_token 64 = .ok (.aload_n 0, 1) := by decide +kernel
theorem dX10_token_65 : decode cX10_token 65 = .ok (.invokevirtual 157, 3) := by decide +kernel
theorem dX10_token_68 : decode cX10_token 68 = .ok (.invokestatic 167, 3) := by decide +kernel
theorem dX10_token_71 : decode cX10_token 71 = .ok (.ifCond .eq 16, 3) := by decide +kernel
theorem dX10_token_74 : decode cX10_token 74 = .ok (.aload_n 0, 1) := by decide +kernel
theorem dX10_token_75 : decode cX10_token 75 = .ok (.dup, 1) := by decide +kernel
theorem dX10_token_76 : decode cX10_token 76 = .ok (.getfield 151, 3) := by decide +kernel
theorem dX10_token_79 : decode cX10_token 79 = .ok (.iconst 1, 1) := by decide +kernel
theorem dX10_token_80 : decode cX10_token 80 = .ok (.iadd, 1) := by decide +kernel
theorem dX10_token_81 : decode cX10_token 81 = .ok (.putfield 151, 3) := by decide +kernel
theorem dX10_token_84 : decode cX10_token 84 = .ok (.goto (-20), 3) := by decide +kernel
theorem dX10_token_87 : decode cX10_token 87 = .ok (.aload_n 0, 1) := by decide +kernel
theorem dX10_token_88 : decode cX10_token 88 = .ok (.aload_n 0, 1) := by decide +kernel
theorem dX10_token_89 : decode cX10_token 89 = .ok (.invokevirtual 171, 3) := by decide +kernel
theorem dX10_token_92 : decode cX10_token 92 = .ok (.putfield 174, 3) := by decide +kernel
theorem dX10_token_95 : decode cX10_token 95 = .ok (.aload_n 0, 1) := by decide +kernel
theorem dX10_token_96 : decode cX10_token 96 = .ok (.aload_n 0, 1) := by decide +kernel
theorem dX10_token_97 : decode cX10_token 97 = .ok (.getfield 174, 3) := by decide +kernel
theorem dX10_token_100 : decode cX10_token 100 = .ok (.iconst (-1), 1) := by decide +kernel
theorem dX10_token_101 : decode cX10_token 101 = .ok (.if_icmp .eq 7, 3) := by decide +kernel
theorem dX10_token_104 : decode cX10_token 104 = .ok (.iconst 0, 1) := by decide +kernel
theorem dX10_token_105 : decode cX10_token 105 = .ok (.goto 22, 3) := by decide +kernel
theorem dX10_token_108 : decode cX10_token 108 = .ok (.aload_n 0, 1) := by decide +kernel
theorem dX10_token_109 : decode cX10_token 109 = .ok (.getfield 151, 3) := by decide +kernel
theorem dX10_token_112 : decode cX10_token 112 = .ok (.aload_n 0, 1) := by decide +kernel
theorem dX10_token_113 : decode cX10_token 113 = .ok (.getfield 161, 3) := by decide +kernel
theorem dX10_token_116 : decode cX10_token 116 = .ok (.isub, 1) := by decide +kernel
theorem dX10_token_117 : decode cX10_token 117 = .ok (.bipush 6, 2) := by decide +kernel
theorem dX10_token_119 : decode cX10_token 119 = .ok (.if_icmp .le 7, 3) := by decide +kernel
theorem dX10_token_122 : decode cX10_token 122 = .ok (.iconst 5, 1) := by decide +kernel
theorem dX10_token_123 : decode cX10_token 123 = .ok (.goto 4, 3) := by decide +kernel
theorem dX10_token_126 : decode cX10_token 126 = .ok (.iconst 1, 1) := by decide +kernel
theorem dX10_token_127 : decode cX10_token 127 = .ok (.putfield 164, 3) := by decide +kernel
theorem dX10_token_130 : decode cX10_token 130 = .ok (.aload_n 0, 1) := by decide +kernel
theorem dX10_token_131 : decode cX10_token 131 = .ok (.getfield 164, 3) := by decide +kernel
theorem dX10_token_134 : decode cX10_token 134 = .ok (.iconst 1, 1) := by decide +kernel
theorem dX10_token_135 : decode cX10_token 135 = .ok (.if_icmp .ne 90, 3) := by decide +kernel
theorem dX10_token_138 : decode cX10_token 138 = .ok (.aload_n 0, 1) := by decide +kernel
theorem dX10_token_139 : decode cX10_token 139 = .ok (.invokevirtual 177, 3) := by decide +kernel
theorem dX10_token_142 : decode cX10_token 142 = .ok (.goto 83, 3) := by decide +kernel
theorem dX10_token_145 : decode cX10_token 145 = .ok (.iload_n 1, 1) := by decide +kernel
theorem dX10_token_146 : decode cX10_token 146 = .ok (.invokestatic 180, 3) := by decide +kernel
theorem dX10_token_149 : decode cX10_token 149 = .ok (.ifCond .eq 71, 3) := by decide +kernel
theorem dX10_token_152 : decode cX10_token 152 = .ok (.aload_n 0, 1) := by decide +kernel
theorem dX10_token_153 : decode cX10_token 153 = .ok (.iconst 2, 1) := by decide +kernel
theorem dX10_token_154 : decode cX10_token 154 = .ok (.putfield 164, 3) := by decide +kernel
theorem dX10_token_157 : decode cX10_token 157 = .ok (.aload_n 0, 1) := by decide +kernel
theorem dX10_token_158 : decode cX10_token 158 = .ok (.iconst 0, 1) := by decide +kernel
theorem dX10_token_159 : decode cX10_token 159 = .ok (.putfield 174, 3) := by decide +kernel
theorem dX10_token_162 : decode cX10_token 162 = .ok (.aload_n 0, 1) := by decide +kernel
theorem dX10_token_163 : decode cX10_token 163 = .ok (.invokevirtual 157, 3) := by decide +kernel
theorem dX10_token_166 : decode cX10_token 166 = .ok (.invokestatic 180, 3) := by decide +kernel
theorem dX10_token_169 : decode cX10_token 169 = .ok (.ifCond .eq 56, 3) := by decide +kernel
theorem dX10_token_172 : decode cX10_token 172 = .ok (.aload_n 0, 1) := by decide +kernel
theorem dX10_token_173 : decode cX10_token 173 = .ok (.aload_n 0, 1) := by decide +kernel
theorem dX10_token_174 : decode cX10_token 174 = .ok (.getfield 174, 3) := by decide +kernel
theorem dX10_token_177 : decode cX10_token 177 = .ok (.ldc 183, 2) := by decide +kernel
theorem dX10_token_179 : decode cX10_token 179 = .ok (.if_icmp .le 10, 3) := by decide +kernel
theorem dX10_token_182 : decode cX10_token 182 = .ok (.aload_n 0, 1) := by decide +kernel
theorem dX10_token_183 : decode cX10_token 183 = .ok (.getfield 174, 3) := by decide +kernel
theorem dX10_token_186 : decode cX10_token 186 = .ok (.goto 18, 3) := by decide +kernel
theorem dX10_token_189 : decode cX10_token 189 = .ok (.bipush 10, 2) := by decide +kernel
theorem dX10_token_191 : decode cX10_token 191 = .ok (.aload_n 0, 1) := by decide +kernel
theorem dX10_token_192 : decode cX10_token 192 = .ok (.getfield 174, 3) := by decide +kernel
theorem dX10_token_195 : decode cX10_token 195 = .ok (.imul, 1) := by decide +kernel
theorem dX10_token_196 : decode cX10_token 196 = .ok (.aload_n 0, 1) := by decide +kernel
theorem dX10_token_197 : decode cX10_token 197 = .ok (.invokevirtual 157, 3) := by decide +kernel
theorem dX10_token_200 : decode cX10_token 200 = .ok (.iadd, 1) := by decide +kernel
theorem dX10_token_201 : decode cX10_token 201 = .ok (.bipush 48, 2) := by decide +kernel
theorem dX10_token_203 : decode cX10_token 203 = .ok (.isub, 1) := by decide +kernel
theorem dX10_token_204 : decode cX10_token 204 = .ok (.putfield 174, 3) := by decide +kernel
theorem dX10_token_207 : decode cX10_token 207 = .ok (.aload_n 0, 1) := by decide +kernel
theorem dX10_token_208 : decode cX10_token 208 = .ok (.dup, 1) := by decide +kernel
theorem dX10_token_209 : decode cX10_token 209 = .ok (.getfield 151, 3) := by decide +kernel
theorem dX10_token_212 : decode cX10_token 212 = .ok (.iconst 1, 1) := by decide +kernel
theorem dX10_token_213 : decode cX10_token 213 = .ok (.iadd, 1) := by decide +kernel
theorem dX10_token_214 : decode cX10_token 214 = .ok (.putfield 151, 3) := by decide +kernel
theorem dX10_token_217 : decode cX10_token 217 = .ok (.goto (-55), 3) := by decide +kernel
theorem dX10_token_220 : decode cX10_token 220 = .ok (.aload_n 0, 1) := by decide +kernel
theorem dX10_token_221 : decode cX10_token 221 = .ok (.iload_n 1, 1) := by decide +kernel
theorem dX10_token_222 : decode cX10_token 222 = .ok (.invokevirtual 184, 3) := by decide +kernel
theorem dX10_token_225 : decode cX10_token 225 = .ok (.return_, 1) := by decide +kernel
theorem dX10_sign_0 : decode cX10_sign 0 = .ok (.aload_n 0, 1) := by decide +kernel
theorem dX10_sign_1 : decode cX10_sign 1 = .ok (.dup, 1) := by decide +kernel
theorem dX10_sign_2 : decode cX10_sign 2 = .ok (.getfield 151, 3) := by decide +kernel
theorem dX10_sign_5 : decode cX10_sign 5 = .ok (.iconst 1, 1) := by decide +kernel
theorem dX10_sign_6 : decode cX10_sign 6 = .ok (.iadd, 1) := by decide +kernel
theorem dX10_sign_7 : decode cX10_sign 7 = .ok (.putfield 151, 3) := by decide +kernel
theorem dX10_sign_10 : decode cX10_sign 10 = .ok (.aload_n 0, 1) := by decide +kernel
theorem dX10_sign_11 : decode cX10_sign 11 = .ok (.iload_n 1, 1) := by decide +kernel
theorem dX10_sign_12 : decode cX10_sign 12 = .ok (.bipush 59, 2) := by decide +kernel
theorem dX10_sign_14 : decode cX10_sign 14 = .ok (.if_icmp .eq 57, 3) := by decide +kernel
theorem dX10_sign_17 : decode cX10_sign 17 = .ok (.iload_n 1, 1) := by decide +kernel
theorem dX10_sign_18 : decode cX10_sign 18 = .ok (.bipush 40, 2) := by decide +kernel
theorem dX10_sign_20 : decode cX10_sign 20 = .ok (.if_icmp .eq 51, 3) := by decide +kernel
theorem dX10_sign_23 : decode cX10_sign 23 = .ok (.iload_n 1, 1) := by decide +kernel
theorem dX10_sign_24 : decode cX10_sign 24 = .ok (.bipush 41, 2) := by decide +kernel
theorem dX10_sign_26 : decode cX10_sign 26 = .ok (.if_icmp .eq 45, 3) := by decide +kernel
theorem dX10_sign_29 : decode cX10_sign 29 = .ok (.iload_n 1, 1) := by decide +kernel
theorem dX10_sign_30 : decode cX10_sign 30 = .ok (.bipush 43, 2) := by decide +kernel
theorem dX10_sign_32 : decode cX10_sign 32 = .ok (.if_icmp .eq 39, 3) := by decide +kernel
theorem dX10_sign_35 : decode cX10_sign 35 = .ok (.iload_n 1, 1) := by decide +kernel
theorem dX10_sign_36 : decode cX10_sign 36 = .ok (.bipush 45, 2) := by decide +kernel
theorem dX10_sign_38 : decode cX10_sign 38 = .ok (.if_icmp .eq 33, 3) := by decide +kernel
theorem dX10_sign_41 : decode cX10_sign 41 = .ok (.iload_n 1, 1) := by decide +kernel
theorem dX10_sign_42 : decode cX10_sign 42 = .ok (.bipush 42, 2) := by decide +kernel
theorem dX10_sign_44 : decode cX10_sign 44 = .ok (.if_icmp .eq 27, 3) := by decide +kernel
theorem dX10_sign_47 : decode cX10_sign 47 = .ok (.iload_n 1, 1) := by decide +kernel
theorem dX10_sign_48 : decode cX10_sign 48 = .ok (.bipush 47, 2) := by decide +kernel
theorem dX10_sign_50 : decode cX10_sign 50 = .ok (.if_icmp .eq 21, 3) := by decide +kernel
theorem dX10_sign_53 : decode cX10_sign 53 = .ok (.iload_n 1, 1) := by decide +kernel
theorem dX10_sign_54 : decode cX10_sign 54 = .ok (.bipush 60, 2) := by decide +kernel
theorem dX10_sign_56 : decode cX10_sign 56 = .ok (.if_icmp .eq 15, 3) := by decide +kernel
theorem dX10_sign_59 : decode cX10_sign 59 = .ok (.iload_n 1, 1) := by decide +kernel
theorem dX10_sign_60 : decode cX10_sign 60 = .ok (.bipush 61, 2) := by decide +kernel
theorem dX10_sign_62 : decode cX10_sign 62 = .ok (.if_icmp .eq 9, 3) := by decide +kernel
theorem dX10_sign_65 : decode cX10_sign 65 = .ok (.iload_n 1, 1) := by decide +kernel
theorem dX10_sign_66 : decode cX10_sign 66 = .ok (.bipush 62, 2) := by decide +kernel
theorem dX10_sign_68 : decode cX10_sign 68 = .ok (.if_icmp .ne 7, 3) := by decide +kernel
theorem dX10_sign_71 : decode cX10_sign 71 = .ok (.iconst 3, 1) := by decide +kernel
theorem dX10_sign_72 : decode cX10_sign 72 = .ok (.goto 4, 3) := by decide +kernel
theorem dX10_sign_75 : decode cX10_sign 75 = .ok (.iconst 5, 1) := by decide +kernel
theorem dX10_sign_76 : decode cX10_sign 76 = .ok (.putfield 164, 3) := by decide +kernel
theorem dX10_sign_79 : decode cX10_sign 79 = .ok (.aload_n 0, 1) := by decide +kernel
theorem dX10_sign_80 : decode cX10_sign 80 = .ok (.iload_n 1, 1) := by decide +kernel
theorem dX10_sign_81 : decode cX10_sign 81 = .ok (.putfield 174, 3) := by decide +kernel
theorem dX10_sign_84 : decode cX10_sign 84 = .ok (.iload_n 1, 1) := by decide +kernel
theorem dX10_sign_85 : decode cX10_sign 85 = .ok (.bipush 60, 2) := by decide +kernel
theorem dX10_sign_87 : decode cX10_sign 87 = .ok (.if_icmp .ne 19, 3) := by decide +kernel
theorem dX10_sign_90 : decode cX10_sign 90 = .ok (.aload_n 0, 1) := by decide +kernel
theorem dX10_sign_91 : decode cX10_sign 91 = .ok (.invokevirtual 157, 3) := by decide +kernel
theorem dX10_sign_94 : decode cX10_sign 94 = .ok (.bipush 61, 2) := by decide +kernel
theorem dX10_sign_96 : decode cX10_sign 96 = .ok (.if_icmp .ne 10, 3) := by decide +kernel
theorem dX10_sign_99 : decode cX10_sign 99 = .ok (.aload_n 0, 1) := by decide +kernel
theorem dX10_sign_100 : decode cX10_sign 100 = .ok (.sipush 256, 3) := by decide +kernel
theorem dX10_sign_103 : decode cX10_sign 103 = .ok (.putfield 174, 3) := by decide +kernel
theorem dX10_sign_106 : decode cX10_sign 106 = .ok (.iload_n 1, 1) := by decide +kernel
theorem dX10_sign_107 : decode cX10_sign 107 = .ok (.bipush 60, 2) := by decide +kernel
theorem dX10_sign_109 : decode cX10_sign 109 = .ok (.if_icmp .ne 19, 3) := by decide +kernel
theorem dX10_sign_112 : decode cX10_sign 112 = .ok (.aload_n 0, 1) := by decide +kernel
theorem dX10_sign_113 : decode cX10_sign 113 = .ok (.invokevirtual 157, 3) := by decide +kernel
theorem dX10_sign_116 : decode cX10_sign 116 = .ok (.bipush 62, 2) := by decide +kernel
theorem dX10_sign_118 : decode cX10_sign 118 = .ok (.if_icmp .ne 10, 3) := by decide +kernel
theorem dX10_sign_121 : decode cX10_sign 121 = .ok (.aload_n 0, 1) := by decide +kernel
theorem dX10_sign_122 : decode cX10_sign 122 = .ok (.sipush 257, 3) := by decide +kernel
theorem dX10_sign_125 : decode cX10_sign 125 = .ok (.putfield 174, 3) := by decide +kernel
theorem dX10_sign_128 : decode cX10_sign 128 = .ok (.iload_n 1, 1) := by decide +kernel
theorem dX10_sign_129 : decode cX10_sign 129 = .ok (.bipush 62, 2) := by decide +kernel
theorem dX10_sign_131 : decode cX10_sign 131 = .ok (.if_icmp .ne 19, 3) := by decide +kernel
theorem dX10_sign_134 : decode cX10_sign 134 = .ok (.aload_n 0, 1) := by decide +kernel
theorem dX10_sign_135 : decode cX10_sign 135 = .ok (.invokevirtual 157, 3) := by decide +kernel
theorem dX10_sign_138 : decode cX10_sign 138 = .ok (.bipush 61, 2) := by decide +kernel
theorem dX10_sign_140 : decode cX10_sign 140 = .ok (.if_icmp .ne 10, 3) := by decide +kernel
theorem dX10_sign_143 : decode cX10_sign 143 = .ok (.aload_n 0, 1) := by decide +kernel
theorem dX10_sign_144 : decode cX10_sign 144 = .ok (.sipush 258, 3) := by decide +kernel
theorem dX10_sign_147 : decode cX10_sign 147 = .ok (.putfield 174, 3) := by decide +kernel
theorem dX10_sign_150 : decode cX10_sign 150 = .ok (.aload_n 0, 1) := by decide +kernel
theorem dX10_sign_151 : decode cX10_sign 151 = .ok (.getfield 174, 3) := by decide +kernel
theorem dX10_sign_154 : decode cX10_sign 154 = .ok (.sipush 256, 3) := by decide +kernel
theorem dX10_sign_157 : decode cX10_sign 157 = .ok (.if_icmp .lt 13, 3) := by decide +kernel
theorem dX10_sign_160 : decode cX10_sign 160 = .ok (.aload_n 0, 1) := by decide +kernel
theorem dX10_sign_161 : decode cX10_sign 161 = .ok (.dup, 1) := by decide +kernel
theorem dX10_sign_162 : decode cX10_sign 162 = .ok (.getfield 151, 3) := by decide +kernel
theorem dX10_sign_165 : decode cX10_sign 165 = .ok (.iconst 1, 1) := by decide +kernel
theorem dX10_sign_166 : decode cX10_sign 166 = .ok (.iadd, 1) := by decide +kernel
theorem dX10_sign_167 : decode cX10_sign 167 = .ok (.putfield 151, 3) := by decide +kernel
theorem dX10_sign_170 : decode cX10_sign 170 = .ok (.return_, 1) := by decide +kernel
theorem dX10_word_0 : decode cX10_word 0 = .ok (.iconst 0, 1) := by decide +kernel
theorem dX10_word_1 : decode cX10_word 1 = .ok (.istore_n 1, 1) := by decide +kernel
theorem dX10_word_2 : decode cX10_word 2 = .ok (.iconst 0, 1) := by decide +kernel
theorem dX10_word_3 : decode cX10_word 3 = .ok (.istore_n 2, 1) := by decide +kernel
theorem dX10_word_4 : decode cX10_word 4 = .ok (.iload_n 2, 1) := by decide +kernel
theorem dX10_word_5 : decode cX10_word 5 = .ok (.ldc 188, 2) := by decide +kernel
theorem dX10_word_7 : decode cX10_word 7 = .ok (.invokevirtual 190, 3) := by decide +kernel
theorem dX10_word_10 : decode cX10_word 10 = .ok (.if_icmp .ge 113, 3) := by decide +kernel
theorem dX10_word_13 : decode cX10_word 13 = .ok (.iconst 0, 1) := by decide +kernel
theorem dX10_word_14 : decode cX10_word 14 = .ok (.istore_n 3, 1) := by decide +kernel
theorem dX10_word_15 : decode cX10_word 15 = .ok (.ldc 188, 2) := by decide +kernel
theorem dX10_word_17 : decode cX10_word 17 = .ok (.iload_n 2, 1) := by decide +kernel
theorem dX10_word_18 : decode cX10_word 18 = .ok (.iload_n 3, 1) := by decide +kernel
theorem dX10_word_19 : decode cX10_word 19 = .ok (.iadd, 1) := by decide +kernel
theorem dX10_word_20 : decode cX10_word 20 = .ok (.invokevirtual 195, 3) := by decide +kernel
theorem dX10_word_23 : decode cX10_word 23 = .ok (.bipush 32, 2) := by decide +kernel
theorem dX10_word_25 : decode cX10_word 25 = .ok (.if_icmp .eq 44, 3) := by decide +kernel
theorem dX10_word_28 : decode cX10_word 28 = .ok (.aload_n 0, 1) := by decide +kernel
theorem dX10_word_29 : decode cX10_word 29 = .ok (.getfield 161, 3) := by decide +kernel
theorem dX10_word_32 : decode cX10_word 32 = .ok (.iload_n 3, 1) := by decide +kernel
theorem dX10_word_33 : decode cX10_word 33 = .ok (.iadd, 1) := by decide +kernel
theorem dX10_word_34 : decode cX10_word 34 = .ok (.aload_n 0, 1) := by decide +kernel
theorem dX10_word_35 : decode cX10_word 35 = .ok (.getfield 151, 3) := by decide +kernel
theorem dX10_word_38 : decode cX10_word 38 = .ok (.if_icmp .ge 31, 3) := by decide +kernel
theorem dX10_word_41 : decode cX10_word 41 = .ok (.aload_n 0, 1) := by decide +kernel
theorem dX10_word_42 : decode cX10_word 42 = .ok (.getfield 7, 3) := by decide +kernel
theorem dX10_word_45 : decode cX10_word 45 = .ok (.aload_n 0, 1) := by decide +kernel
theorem dX10_word_46 : decode cX10_word 46 = .ok (.getfield 161, 3) := by decide +kernel
theorem dX10_word_49 : decode cX10_word 49 = .ok (.iload_n 3, 1) := by decide +kernel
theorem dX10_word_50 : decode cX10_word 50 = .ok (.iadd, 1) := by decide +kernel
theorem dX10_word_51 : decode cX10_word 51 = .ok (.iaload, 1) := by decide +kernel
theorem dX10_word_52 : decode cX10_word 52 = .ok (.ldc 188, 2) := by decide +kernel
theorem dX10_word_54 : decode cX10_word 54 = .ok (.iload_n 2, 1) := by decide +kernel
theorem dX10_word_55 : decode cX10_word 55 = .ok (.iload_n 3, 1) := by decide +kernel
theorem dX10_word_56 : decode cX10_word 56 = .ok (.iadd, 1) := by decide +kernel
theorem dX10_word_57 : decode cX10_word 57 = .ok (.invokevirtual 195, 3) := by decide +kernel
theorem dX10_word_60 : decode cX10_word 60 = .ok (.if_icmp .ne 9, 3) := by decide +kernel
theorem dX10_word_63 : decode cX10_word 63 = .ok (.iinc 3 1, 3) := by decide +kernel
theorem dX10_word_66 : decode cX10_word 66 = .ok (.goto (-51), 3) := by decide +kernel
theorem dX10_word_69 : decode cX10_word 69 = .ok (.ldc 188, 2) := by decide +kernel
theorem dX10_word_71 : decode cX10_word 71 = .ok (.iload_n 2, 1) := by decide +kernel
theorem dX10_word_72 : decode cX10_word 72 = .ok (.iload_n 3, 1) := by decide +kernel
theorem dX10_word_73 : decode cX10_word 73 = .ok (.iadd, 1) := by decide +kernel
theorem dX10_word_74 : decode cX10_word 74 = .ok (.invokevirtual 195, 3) := by decide +kernel
theorem dX10_word_77 : decode cX10_word 77 = .ok (.bipush 32, 2) := by decide +kernel
theorem dX10_word_79 : decode cX10_word 79 = .ok (.if_icmp .ne 18, 3) := by decide +kernel
theorem dX10_word_82 : decode cX10_word 82 = .ok (.aload_n 0, 1) := by decide +kernel
theorem dX10_word_83 : decode cX10_word 83 = .ok (.getfield 161, 3) := by decide +kernel
theorem dX10_word_86 : decode cX10_word 86 = .ok (.iload_n 3, 1) := by decide +kernel
theorem dX10_word_87 : decode cX10_word 87 = .ok (.iadd, 1) := by decide +kernel
theorem dX10_word_88 : decode cX10_word 88 = .ok (.aload_n 0, 1) := by decide +kernel
theorem dX10_word_89 : decode cX10_word 89 = .ok (.getfield 151, 3) := by decide +kernel
theorem dX10_word_92 : decode cX10_word 92 = .ok (.if_icmp .ne 5, 3) := by decide +kernel
theorem dX10_word_95 : decode cX10_word 95 = .ok (.iload_n 1, 1) := by decide +kernel
theorem dX10_word_96 : decode cX10_word 96 = .ok (.ireturn, 1) := by decide +kernel
theorem dX10_word_97 : decode cX10_word 97 = .ok (.ldc 188, 2) := by decide +kernel
theorem dX10_word_99 : decode cX10_word 99 = .ok (.iload_n 2, 1) := by decide +kernel
theorem dX10_word_100 : decode cX10_word 100 = .ok (.invokevirtual 195, 3) := by decide +kernel
theorem dX10_word_103 : decode cX10_word 103 = .ok (.bipush 32, 2) := by decide +kernel
theorem dX10_word_105 : decode cX10_word 105 = .ok (.if_icmp .eq 9, 3) := by decide +kernel
theorem dX10_word_108 : decode cX10_word 108 = .ok (.iinc 2 1, 3) := by decide +kernel
theorem dX10_word_111 : decode cX10_word 111 = .ok (.goto (-14), 3) := by decide +kernel
theorem dX10_word_114 : decode cX10_word 114 = .ok (.iinc 2 1, 3) := by decide +kernel
theorem dX10_word_117 : decode cX10_word 117 = .ok (.iinc 1 1, 3) := by decide +kernel
theorem dX10_word_120 : decode cX10_word 120 = .ok (.goto (-116), 3) := by decide +kernel
theorem dX10_word_123 : decode cX10_word 123 = .ok (.iconst (-1), 1) := by decide +kernel
theorem dX10_word_124 : decode cX10_word 124 = .ok (.ireturn, 1) := by decide +kernel
theorem dX10_name_0 : decode cX10_name 0 = .ok (.aload_n 0, 1) := by decide +kernel
theorem dX10_name_1 : decode cX10_name 1 = .ok (.iconst 0, 1) := by decide +kernel
theorem dX10_name_2 : decode cX10_name 2 = .ok (.putfield 174, 3) := by decide +kernel
theorem dX10_name_5 : decode cX10_name 5 = .ok (.iconst 0, 1) := by decide +kernel
theorem dX10_name_6 : decode cX10_name 6 = .ok (.istore_n 1, 1) := by decide +kernel
theorem dX10_name_7 : decode cX10_name 7 = .ok (.iload_n 1, 1) := by decide +kernel
theorem dX10_name_8 : decode cX10_name 8 = .ok (.bipush 6, 2) := by decide +kernel
theorem dX10_name_10 : decode cX10_name 10 = .ok (.if_icmp .ge 53, 3) := by decide +kernel
theorem dX10_name_13 : decode cX10_name 13 = .ok (.aload_n 0, 1) := by decide +kernel
theorem dX10_name_14 : decode cX10_name 14 = .ok (.aload_n 0, 1) := by decide +kernel
theorem dX10_name_15 : decode cX10_name 15 = .ok (.getfield 174, 3) := by decide +kernel
theorem dX10_name_18 : decode cX10_name 18 = .ok (.iconst 5, 1) := by decide +kernel
theorem dX10_name_19 : decode cX10_name 19 = .ok (.ishl, 1) := by decide +kernel
theorem dX10_name_20 : decode cX10_name 20 = .ok (.aload_n 0, 1) := by decide +kernel
theorem dX10_name_21 : decode cX10_name 21 = .ok (.getfield 161, 3) := by decide +kernel
theorem dX10_name_24 : decode cX10_name 24 = .ok (.iload_n 1, 1) := by decide +kernel
theorem dX10_name_25 : decode cX10_name 25 = .ok (.iadd, 1) := by decide +kernel
theorem dX10_name_26 : decode cX10_name 26 = .ok (.aload_n 0, 1) := by decide +kernel
theorem dX10_name_27 : decode cX10_name 27 = .ok (.getfield 151, 3) := by decide +kernel
theorem dX10_name_30 : decode cX10_name 30 = .ok (.if_icmp .ge 22, 3) := by decide +kernel
theorem dX10_name_33 : decode cX10_name 33 = .ok (.aload_n 0, 1) := by decide +kernel
theorem dX10_name_34 : decode cX10_name 34 = .ok (.getfield 7, 3) := by decide +kernel
theorem dX10_name_37 : decode cX10_name 37 = .ok (.aload_n 0, 1) := by decide +kernel
theorem dX10_name_38 : decode cX10_name 38 = .ok (.getfield 161, 3) := by decide +kernel
theorem dX10_name_41 : decode cX10_name 41 = .ok (.iload_n 1, 1) := by decide +kernel
theorem dX10_name_42 : decode cX10_name 42 = .ok (.iadd, 1) := by decide +kernel
theorem dX10_name_43 : decode cX10_name 43 = .ok (.iaload, 1) := by decide +kernel
theorem dX10_name_44 : decode cX10_name 44 = .ok (.bipush 97, 2) := by decide +kernel
theorem dX10_name_46 : decode cX10_name 46 = .ok (.isub, 1) := by decide +kernel
theorem dX10_name_47 : decode cX10_name 47 = .ok (.iconst 1, 1) := by decide +kernel
theorem dX10_name_48 : decode cX10_name 48 = .ok (.iadd, 1) := by decide +kernel
theorem dX10_name_49 : decode cX10_name 49 = .ok (.goto 4, 3) := by decide +kernel
theorem dX10_name_52 : decode cX10_name 52 = .ok (.iconst 0, 1) := by decide +kernel
theorem dX10_name_53 : decode cX10_name 53 = .ok (.ior, 1) := by decide +kernel
theorem dX10_name_54 : decode cX10_name 54 = .ok (.putfield 174, 3) := by decide +kernel
theorem dX10_name_57 : decode cX10_name 57 = .ok (.iinc 1 1, 3) := by decide +kernel
theorem dX10_name_60 : decode cX10_name 60 = .ok (.goto (-53), 3) := by decide +kernel
theorem dX10_name_63 : decode cX10_name 63 = .ok (.return_, 1) := by decide +kernel
theorem dX10_wrong_0 : decode cX10_wrong 0 = .ok (.aload_n 0, 1) := by decide +kernel
theorem dX10_wrong_1 : decode cX10_wrong 1 = .ok (.getfield 199, 3) := by decide +kernel
theorem dX10_wrong_4 : decode cX10_wrong 4 = .ok (.ifCond .eq 4, 3) := by decide +kernel
theorem dX10_wrong_7 : decode cX10_wrong 7 = .ok (.return_, 1) := by decide +kernel
theorem dX10_wrong_8 : decode cX10_wrong 8 = .ok (.aload_n 0, 1) := by decide +kernel
theorem dX10_wrong_9 : decode cX10_wrong 9 = .ok (.iload_n 1, 1) := by decide +kernel
theorem dX10_wrong_10 : decode cX10_wrong 10 = .ok (.putfield 199, 3) := by decide +kernel
theorem dX10_wrong_13 : decode cX10_wrong 13 = .ok (.aload_n 0, 1) := by decide +kernel
theorem dX10_wrong_14 : decode cX10_wrong 14 = .ok (.aload_n 0, 1) := by decide +kernel
theorem dX10_wrong_15 : decode cX10_wrong 15 = .ok (.getfield 161, 3) := by decide +kernel
theorem dX10_wrong_18 : decode cX10_wrong 18 = .ok (.putfield 202, 3) := by decide +kernel
theorem dX10_wrong_21 : decode cX10_wrong 21 = .ok (.return_, 1) := by decide +kernel
theorem dX10_isWord_0 : decode cX10_isWord 0 = .ok (.aload_n 0, 1) := by decide +kernel
theorem dX10_isWord_1 : decode cX10_isWord 1 = .ok (.getfield 199, 3) := by decide +kernel
theorem dX10_isWord_4 : decode cX10_isWord 4 = .ok (.ifCond .ne 22, 3) := by decide +kernel
theorem dX10_isWord_7 : decode cX10_isWord 7 = .ok (.aload_n 0, 1) := by decide +kernel
theorem dX10_isWord_8 : decode cX10_isWord 8 = .ok (.getfield 164, 3) := by decide +kernel
theorem dX10_isWord_11 : decode cX10_isWord 11 = .ok (.ifCond .ne 15, 3) := by decide +kernel
theorem dX10_isWord_14 : decode cX10_isWord 14 = .ok (.aload_n 0, 1) := by decide +kernel
theorem dX10_isWord_15 : decode cX10_isWord 15 = .ok (.getfield 174, 3) := by decide +kernel
theorem dX10_isWord_18 : decode cX10_isWord 18 = .ok (.iload_n 1, 1) := by decide +kernel
theorem dX10_isWord_19 : decode cX10_isWord 19 = .ok (.if_icmp .ne 7, 3) := by decide +kernel
theorem dX10_isWord_22 : decode cX10_isWord 22 = .ok (.iconst 1, 1) := by decide +kernel
theorem dX10_isWord_23 : decode cX10_isWord 23 = .ok (.goto 4, 3) := by decide +kernel
theorem dX10_isWord_26 : decode cX10_isWord 26 = .ok (.iconst 0, 1) := by decide +kernel
theorem dX10_isWord_27 : decode cX10_isWord 27 = .ok (.ireturn, 1) := by decide +kernel
theorem dX10_isSign_0 : decode cX10_isSign 0 = .ok (.aload_n 0, 1) := by decide +kernel
theorem dX10_isSign_1 : decode cX10_isSign 1 = .ok (.getfield 199, 3) := by decide +kernel
theorem dX10_isSign_4 : decode cX10_isSign 4 = .ok (.ifCond .ne 23, 3) := by decide +kernel
theorem dX10_isSign_7 : decode cX10_isSign 7 = .ok (.aload_n 0, 1) := by decide +kernel
theorem dX10_isSign_8 : decode cX10_isSign 8 = .ok (.getfield 164, 3) := by decide +kernel
theorem dX10_isSign_11 : decode cX10_isSign 11 = .ok (.iconst 3, 1) := by decide +kernel
theorem dX10_isSign_12 : decode cX10_isSign 12 = .ok (.if_icmp .ne 15, 3) := by decide +kernel
theorem dX10_isSign_15 : decode cX10_isSign 15 = .ok (.aload_n 0, 1) := by decide +kernel
theorem dX10_isSign_16 : decode cX10_isSign 16 = .ok (.getfield 174, 3) := by decide +kernel
theorem dX10_isSign_19 : decode cX10_isSign 19 = .ok (.iload_n 1, 1) := by decide +kernel
theorem dX10_isSign_20 : decode cX10_isSign 20 = .ok (.if_icmp .ne 7, 3) := by decide +kernel
theorem dX10_isSign_23 : decode cX10_isSign 23 = .ok (.iconst 1, 1) := by decide +kernel
theorem dX10_isSign_24 : decode cX10_isSign 24 = .ok (.goto 4, 3) := by decide +kernel
theorem dX10_isSign_27 : decode cX10_isSign 27 = .ok (.iconst 0, 1) := by decide +kernel
theorem dX10_isSign_28 : decode cX10_isSign 28 = .ok (.ireturn, 1) := by decide +kernel
theorem dX10_goOn_0 : decode cX10_goOn 0 = .ok (.aload_n 0, 1) := by decide +kernel
theorem dX10_goOn_1 : decode cX10_goOn 1 = .ok (.getfield 199, 3) := by decide +kernel
theorem dX10_goOn_4 : decode cX10_goOn 4 = .ok (.ifCond .ne 7, 3) := by decide +kernel
theorem dX10_goOn_7 : decode cX10_goOn 7 = .ok (.aload_n 0, 1) := by decide +kernel
theorem dX10_goOn_8 : decode cX10_goOn 8 = .ok (.invokevirtual 205, 3) := by decide +kernel
theorem dX10_goOn_11 : decode cX10_goOn 11 = .ok (.return_, 1) := by decide +kernel
theorem dX10_numeral_0 : decode cX10_numeral 0 = .ok (.aload_n 0, 1) := by decide +kernel
theorem dX10_numeral_1 : decode cX10_numeral 1 = .ok (.getfield 199, 3) := by decide +kernel
theorem dX10_numeral_4 : decode cX10_numeral 4 = .ok (.ifCond .eq 5, 3) := by decide +kernel
theorem dX10_numeral_7 : decode cX10_numeral 7 = .ok (.iload_n 1, 1) := by decide +kernel
theorem dX10_numeral_8 : decode cX10_numeral 8 = .ok (.ireturn, 1) := by decide +kernel
theorem dX10_numeral_9 : decode cX10_numeral 9 = .ok (.aload_n 0, 1) := by decide +kernel
theorem dX10_numeral_10 : decode cX10_numeral 10 = .ok (.getfield 164, 3) := by decide +kernel
theorem dX10_numeral_13 : decode cX10_numeral 13 = .ok (.iconst 2, 1) := by decide +kernel
theorem dX10_numeral_14 : decode cX10_numeral 14 = .ok (.if_icmp .eq 11, 3) := by decide +kernel
theorem dX10_numeral_17 : decode cX10_numeral 17 = .ok (.aload_n 0, 1) := by decide +kernel
theorem dX10_numeral_18 : decode cX10_numeral 18 = .ok (.iconst 1, 1) := by decide +kernel
theorem dX10_numeral_19 : decode cX10_numeral 19 = .ok (.invokevirtual 208, 3) := by decide +kernel
theorem dX10_numeral_22 : decode cX10_numeral 22 = .ok (.goto 24, 3) := by decide +kernel
theorem dX10_numeral_25 : decode cX10_numeral 25 = .ok (.aload_n 0, 1) := by decide +kernel
theorem dX10_numeral_26 : decode cX10_numeral 26 = .ok (.getfield 174, 3) := by decide +kernel
theorem dX10_numeral_29 : decode cX10_numeral 29 = .ok (.iload_n 1, 1) := by decide +kernel
theorem dX10_numeral_30 : decode cX10_numeral 30 = .ok (.if_icmp .lt 11, 3) := by decide +kernel
theorem dX10_numeral_33 : decode cX10_numeral 33 = .ok (.aload_n 0, 1) := by decide +kernel
theorem dX10_numeral_34 : decode cX10_numeral 34 = .ok (.getfield 174, 3) := by decide +kernel
theorem dX10_numeral_37 : decode cX10_numeral 37 = .ok (.iload_n 2, 1) := by decide +kernel
theorem dX10_numeral_38 : decode cX10_numeral 38 = .ok (.if_icmp .le 8, 3) := by decide +kernel
theorem dX10_numeral_41 : decode cX10_numeral 41 = .ok (.aload_n 0, 1) := by decide +kernel
theorem dX10_numeral_42 : decode cX10_numeral 42 = .ok (.iconst 2, 1) := by decide +kernel
theorem dX10_numeral_43 : decode cX10_numeral 43 = .ok (.invokevirtual 208, 3) := by decide +kernel
theorem dX10_numeral_46 : decode cX10_numeral 46 = .ok (.aload_n 0, 1) := by decide +kernel
theorem dX10_numeral_47 : decode cX10_numeral 47 = .ok (.getfield 199, 3) := by decide +kernel
theorem dX10_numeral_50 : decode cX10_numeral 50 = .ok (.ifCond .eq 5, 3) := by decide +kernel
theorem dX10_numeral_53 : decode cX10_numeral 53 = .ok (.iload_n 1, 1) := by decide +kernel
theorem dX10_numeral_54 : decode cX10_numeral 54 = .ok (.ireturn, 1) := by decide +kernel
theorem dX10_numeral_55 : decode cX10_numeral 55 = .ok (.aload_n 0, 1) := by decide +kernel
theorem dX10_numeral_56 : decode cX10_numeral 56 = .ok (.getfield 174, 3) := by decide +kernel
theorem dX10_numeral_59 : decode cX10_numeral 59 = .ok (.istore_n 3, 1) := by decide +kernel
theorem dX10_numeral_60 : decode cX10_numeral 60 = .ok (.aload_n 0, 1) := by decide +kernel
theorem dX10_numeral_61 : decode cX10_numeral 61 = .ok (.invokevirtual 205, 3) := by decide +kernel
theorem dX10_numeral_64 : decode cX10_numeral 64 = .ok (.iload_n 3, 1) := by decide +kernel
theorem dX10_numeral_65 : decode cX10_numeral 65 = .ok (.ireturn, 1) := by decide +kernel
theorem dX10_found_0 : decode cX10_found 0 = .ok (.iconst 0, 1) := by decide +kernel
theorem dX10_found_1 : decode cX10_found 1 = .ok (.istore 4, 2) := by decide +kernel
theorem dX10_found_3 : decode cX10_found 3 = .ok (.iload 4, 2) := by decide +kernel
theorem dX10_found_5 : decode cX10_found 5 = .ok (.iload_n 2, 1) := by decide +kernel
theorem dX10_found_6 : decode cX10_found 6 = .ok (.if_icmp .ge 22, 3) := by decide +kernel
theorem dX10_found_9 : decode cX10_found 9 = .ok (.aload_n 0, 1) := by decide +kernel
theorem dX10_found_10 : decode cX10_found 10 = .ok (.iload_n 1, 1) := by decide +kernel
theorem dX10_found_11 : decode cX10_found 11 = .ok (.iload 4, 2) := by decide +kernel
theorem dX10_found_13 : decode cX10_found 13 = .ok (.iadd, 1) := by decide +kernel
theorem dX10_found_14 : decode cX10_found 14 = .ok (.iaload, 1) := by decide +kernel
theorem dX10_found_15 : decode cX10_found 15 = .ok (.iload_n 3, 1) := by decide +kernel
theorem dX10_found_16 : decode cX10_found 16 = .ok (.if_icmp .ne 6, 3) := by decide +kernel
theorem dX10_found_19 : decode cX10_found 19 = .ok (.iload 4, 2) := by decide +kernel
theorem dX10_found_21 : decode cX10_found 21 = .ok (.ireturn, 1) := by decide +kernel
theorem dX10_found_22 : decode cX10_found 22 = .ok (.iinc 4 1, 3) := by decide +kernel
theorem dX10_found_25 : decode cX10_found 25 = .ok (.goto (-22), 3) := by decide +kernel
theorem dX10_found_28 : decode cX10_found 28 = .ok (.iconst (-1), 1) := by decide +kernel
theorem dX10_found_29 : decode cX10_found 29 = .ok (.ireturn, 1) := by decide +kernel
theorem dX10_fresh_0 : decode cX10_fresh 0 = .ok (.aload_n 0, 1) := by decide +kernel
theorem dX10_fresh_1 : decode cX10_fresh 1 = .ok (.getfield 199, 3) := by decide +kernel
theorem dX10_fresh_4 : decode cX10_fresh 4 = .ok (.ifCond .eq 5, 3) := by decide +kernel
theorem dX10_fresh_7 : decode cX10_fresh 7 = .ok (.iconst 0, 1) := by decide +kernel
theorem dX10_fresh_8 : decode cX10_fresh 8 = .ok (.ireturn, 1) := by decide +kernel
theorem dX10_fresh_9 : decode cX10_fresh 9 = .ok (.aload_n 0, 1) := by decide +kernel
theorem dX10_fresh_10 : decode cX10_fresh 10 = .ok (.getfield 164, 3) := by decide +kernel
theorem dX10_fresh_13 : decode cX10_fresh 13 = .ok (.iconst 1, 1) := by decide +kernel
theorem dX10_fresh_14 : decode cX10_fresh 14 = .ok (.if_icmp .eq 11, 3) := by decide +kernel
theorem dX10_fresh_17 : decode cX10_fresh 17 = .ok (.aload_n 0, 1) := by decide +kernel
theorem dX10_fresh_18 : decode cX10_fresh 18 = .ok (.iconst 1, 1) := by decide +kernel
theorem dX10_fresh_19 : decode cX10_fresh 19 = .ok (.invokevirtual 208, 3) := by decide +kernel
theorem dX10_fresh_22 : decode cX10_fresh 22 = .ok (.goto 22, 3) := by decide +kernel
theorem dX10_fresh_25 : decode cX10_fresh 25 = .ok (.aload_n 1, 1) := by decide +kernel
theorem dX10_fresh_26 : decode cX10_fresh 26 = .ok (.iload_n 2, 1) := by decide +kernel
theorem dX10_fresh_27 : decode cX10_fresh 27 = .ok (.iload_n 3, 1) := by decide +kernel
theorem dX10_fresh_28 : decode cX10_fresh 28 = .ok (.aload_n 0, 1) := by decide +kernel
theorem dX10_fresh_29 : decode cX10_fresh 29 = .ok (.getfield 174, 3) := by decide +kernel
theorem dX10_fresh_32 : decode cX10_fresh 32 = .ok (.invokestatic 211, 3) := by decide +kernel
theorem dX10_fresh_35 : decode cX10_fresh 35 = .ok (.iconst (-1), 1) := by decide +kernel
theorem dX10_fresh_36 : decode cX10_fresh 36 = .ok (.if_icmp .eq 8, 3) := by decide +kernel
theorem dX10_fresh_39 : decode cX10_fresh 39 = .ok (.aload_n 0, 1) := by decide +kernel
theorem dX10_fresh_40 : decode cX10_fresh 40 = .ok (.iconst 3, 1) := by decide +kernel
theorem dX10_fresh_41 : decode cX10_fresh 41 = .ok (.invokevirtual 208, 3) := by decide +kernel
theorem dX10_fresh_44 : decode cX10_fresh 44 = .ok (.aload_n 0, 1) := by decide +kernel
theorem dX10_fresh_45 : decode cX10_fresh 45 = .ok (.getfield 199, 3) := by decide +kernel
theorem dX10_fresh_48 : decode cX10_fresh 48 = .ok (.ifCond .eq 5, 3) := by decide +kernel
theorem dX10_fresh_51 : decode cX10_fresh 51 = .ok (.iconst 0, 1) := by decide +kernel
theorem dX10_fresh_52 : decode cX10_fresh 52 = .ok (.ireturn, 1) := by decide +kernel
theorem dX10_fresh_53 : decode cX10_fresh 53 = .ok (.aload_n 0, 1) := by decide +kernel
theorem dX10_fresh_54 : decode cX10_fresh 54 = .ok (.getfield 174, 3) := by decide +kernel
theorem dX10_fresh_57 : decode cX10_fresh 57 = .ok (.istore 4, 2) := by decide +kernel
theorem dX10_fresh_59 : decode cX10_fresh 59 = .ok (.aload_n 0, 1) := by decide +kernel
theorem dX10_fresh_60 : decode cX10_fresh 60 = .ok (.invokevirtual 205, 3) := by decide +kernel
theorem dX10_fresh_63 : decode cX10_fresh 63 = .ok (.iload 4, 2) := by decide +kernel
theorem dX10_fresh_65 : decode cX10_fresh 65 = .ok (.ireturn, 1) := by decide +kernel
theorem dX10_fresher_0 : decode cX10_fresher 0 = .ok (.aload_n 0, 1) := by decide +kernel
theorem dX10_fresher_1 : decode cX10_fresher 1 = .ok (.getfield 13, 3) := by decide +kernel
theorem dX10_fresher_4 : decode cX10_fresher 4 = .ok (.bipush 10, 2) := by decide +kernel
theorem dX10_fresher_6 : decode cX10_fresher 6 = .ok (.iload_n 1, 1) := by decide +kernel
theorem dX10_fresher_7 : decode cX10_fresher 7 = .ok (.iadd, 1) := by decide +kernel
theorem dX10_fresher_8 : decode cX10_fresher 8 = .ok (.iaload, 1) := by decide +kernel
theorem dX10_fresher_9 : decode cX10_fresher 9 = .ok (.ireturn, 1) := by decide +kernel
theorem dX10_reads_0 : decode cX10_reads 0 = .ok (.aload_n 0, 1) := by decide +kernel
theorem dX10_reads_1 : decode cX10_reads 1 = .ok (.getfield 13, 3) := by decide +kernel
theorem dX10_reads_4 : decode cX10_reads 4 = .ok (.bipush 10, 2) := by decide +kernel
theorem dX10_reads_6 : decode cX10_reads 6 = .ok (.iload_n 1, 1) := by decide +kernel
theorem dX10_reads_7 : decode cX10_reads 7 = .ok (.iadd, 1) := by decide +kernel
theorem dX10_reads_8 : decode cX10_reads 8 = .ok (.iload_n 2, 1) := by decide +kernel
theorem dX10_reads_9 : decode cX10_reads 9 = .ok (.iastore, 1) := by decide +kernel
theorem dX10_reads_10 : decode cX10_reads 10 = .ok (.return_, 1) := by decide +kernel
theorem dX10_toldAhead_0 : decode cX10_toldAhead 0 = .ok (.aload_n 0, 1) := by decide +kernel
theorem dX10_toldAhead_1 : decode cX10_toldAhead 1 = .ok (.getfield 199, 3) := by decide +kernel
theorem dX10_toldAhead_4 : decode cX10_toldAhead 4 = .ok (.ifCond .eq 5, 3) := by decide +kernel
theorem dX10_toldAhead_7 : decode cX10_toldAhead 7 = .ok (.iconst 0, 1) := by decide +kernel
theorem dX10_toldAhead_8 : decode cX10_toldAhead 8 = .ok (.ireturn, 1) := by decide +kernel
theorem dX10_toldAhead_9 : decode cX10_toldAhead 9 = .ok (.aload_n 0, 1) := by decide +kernel
theorem dX10_toldAhead_10 : decode cX10_toldAhead 10 = .ok (.getfield 164, 3) := by decide +kernel
theorem dX10_toldAhead_13 : decode cX10_toldAhead 13 = .ok (.iconst 1, 1) := by decide +kernel
theorem dX10_toldAhead_14 : decode cX10_toldAhead 14 = .ok (.if_icmp .eq 11, 3) := by decide +kernel
theorem dX10_toldAhead_17 : decode cX10_toldAhead 17 = .ok (.aload_n 0, 1) := by decide +kernel
theorem dX10_toldAhead_18 : decode cX10_toldAhead 18 = .ok (.iconst 1, 1) := by decide +kernel
theorem dX10_toldAhead_19 : decode cX10_toldAhead 19 = .ok (.invokevirtual 208, 3) := by decide +kernel
theorem dX10_toldAhead_22 : decode cX10_toldAhead 22 = .ok (.goto 22, 3) := by decide +kernel
theorem dX10_toldAhead_25 : decode cX10_toldAhead 25 = .ok (.aload_n 1, 1) := by decide +kernel
theorem dX10_toldAhead_26 : decode cX10_toldAhead 26 = .ok (.iload_n 2, 1) := by decide +kernel
theorem dX10_toldAhead_27 : decode cX10_toldAhead 27 = .ok (.iload_n 3, 1) := by decide +kernel
theorem dX10_toldAhead_28 : decode cX10_toldAhead 28 = .ok (.aload_n 0, 1) := by decide +kernel
theorem dX10_toldAhead_29 : decode cX10_toldAhead 29 = .ok (.getfield 174, 3) := by decide +kernel
theorem dX10_toldAhead_32 : decode cX10_toldAhead 32 = .ok (.invokestatic 211, 3) := by decide +kernel
theorem dX10_toldAhead_35 : decode cX10_toldAhead 35 = .ok (.iconst (-1), 1) := by decide +kernel
theorem dX10_toldAhead_36 : decode cX10_toldAhead 36 = .ok (.if_icmp .ne 8, 3) := by decide +kernel
theorem dX10_toldAhead_39 : decode cX10_toldAhead 39 = .ok (.aload_n 0, 1) := by decide +kernel
theorem dX10_toldAhead_40 : decode cX10_toldAhead 40 = .ok (.iconst 4, 1) := by decide +kernel
theorem dX10_toldAhead_41 : decode cX10_toldAhead 41 = .ok (.invokevirtual 208, 3) := by decide +kernel
theorem dX10_toldAhead_44 : decode cX10_toldAhead 44 = .ok (.aload_n 0, 1) := by decide +kernel
theorem dX10_toldAhead_45 : decode cX10_toldAhead 45 = .ok (.getfield 199, 3) := by decide +kernel
theorem dX10_toldAhead_48 : decode cX10_toldAhead 48 = .ok (.ifCond .eq 7, 3) := by decide +kernel
theorem dX10_toldAhead_51 : decode cX10_toldAhead 51 = .ok (.iconst 0, 1) := by decide +kernel
theorem dX10_toldAhead_52 : decode cX10_toldAhead 52 = .ok (.goto 13, 3) := by decide +kernel
theorem dX10_toldAhead_55 : decode cX10_toldAhead 55 = .ok (.aload_n 1, 1) := by decide +kernel
theorem dX10_toldAhead_56 : decode cX10_toldAhead 56 = .ok (.iload_n 2, 1) := by decide +kernel
theorem dX10_toldAhead_57 : decode cX10_toldAhead 57 = .ok (.iload_n 3, 1) := by decide +kernel
theorem dX10_toldAhead_58 : decode cX10_toldAhead 58 = .ok (.aload_n 0, 1) := by decide +kernel
