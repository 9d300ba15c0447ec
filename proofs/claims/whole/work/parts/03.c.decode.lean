theorem dX9_next_82 : decode cX9_next 82 = .ok (.bipush 8, 2) := by decide +kernel
theorem dX9_next_84 : decode cX9_next 84 = .ok (.if_icmp .ge 17, 3) := by decide +kernel
theorem dX9_next_87 : decode cX9_next 87 = .ok (.aload_n 0, 1) := by decide +kernel
theorem dX9_next_88 : decode cX9_next 88 = .ok (.getfield 17, 3) := by decide +kernel
theorem dX9_next_91 : decode cX9_next 91 = .ok (.aload_n 0, 1) := by decide +kernel
theorem dX9_next_92 : decode cX9_next 92 = .ok (.getfield 91, 3) := by decide +kernel
theorem dX9_next_95 : decode cX9_next 95 = .ok (.aload_n 0, 1) := by decide +kernel
theorem dX9_next_96 : decode cX9_next 96 = .ok (.iload_n 1, 1) := by decide +kernel
theorem dX9_next_97 : decode cX9_next 97 = .ok (.invokevirtual 84, 3) := by decide +kernel
theorem dX9_next_100 : decode cX9_next 100 = .ok (.iastore, 1) := by decide +kernel
theorem dX9_next_101 : decode cX9_next 101 = .ok (.aload_n 0, 1) := by decide +kernel
theorem dX9_next_102 : decode cX9_next 102 = .ok (.dup, 1) := by decide +kernel
theorem dX9_next_103 : decode cX9_next 103 = .ok (.getfield 91, 3) := by decide +kernel
theorem dX9_next_106 : decode cX9_next 106 = .ok (.iconst 1, 1) := by decide +kernel
theorem dX9_next_107 : decode cX9_next 107 = .ok (.iadd, 1) := by decide +kernel
theorem dX9_next_108 : decode cX9_next 108 = .ok (.putfield 91, 3) := by decide +kernel
theorem dX9_next_111 : decode cX9_next 111 = .ok (.iinc 1 1, 3) := by decide +kernel
theorem dX9_next_114 : decode cX9_next 114 = .ok (.goto (-47), 3) := by decide +kernel
theorem dX9_next_117 : decode cX9_next 117 = .ok (.aload_n 0, 1) := by decide +kernel
theorem dX9_next_118 : decode cX9_next 118 = .ok (.iload_n 1, 1) := by decide +kernel
theorem dX9_next_119 : decode cX9_next 119 = .ok (.putfield 81, 3) := by decide +kernel
theorem dX9_next_122 : decode cX9_next 122 = .ok (.aload_n 0, 1) := by decide +kernel
theorem dX9_next_123 : decode cX9_next 123 = .ok (.aload_n 0, 1) := by decide +kernel
theorem dX9_next_124 : decode cX9_next 124 = .ok (.getfield 91, 3) := by decide +kernel
theorem dX9_next_127 : decode cX9_next 127 = .ok (.bipush 8, 2) := by decide +kernel
theorem dX9_next_129 : decode cX9_next 129 = .ok (.if_icmp .le 7, 3) := by decide +kernel
theorem dX9_next_132 : decode cX9_next 132 = .ok (.iconst 1, 1) := by decide +kernel
theorem dX9_next_133 : decode cX9_next 133 = .ok (.goto 4, 3) := by decide +kernel
theorem dX9_next_136 : decode cX9_next 136 = .ok (.iconst 2, 1) := by decide +kernel
theorem dX9_next_137 : decode cX9_next 137 = .ok (.putfield 97, 3) := by decide +kernel
theorem dX9_next_140 : decode cX9_next 140 = .ok (.goto 107, 3) := by decide +kernel
theorem dX9_next_143 : decode cX9_next 143 = .ok (.iload_n 2, 1) := by decide +kernel
theorem dX9_next_144 : decode cX9_next 144 = .ok (.invokestatic 104, 3) := by decide +kernel
theorem dX9_next_147 : decode cX9_next 147 = .ok (.ifCond .eq 72, 3) := by decide +kernel
theorem dX9_next_150 : decode cX9_next 150 = .ok (.iconst 0, 1) := by decide +kernel
theorem dX9_next_151 : decode cX9_next 151 = .ok (.istore_n 3, 1) := by decide +kernel
theorem dX9_next_152 : decode cX9_next 152 = .ok (.aload_n 0, 1) := by decide +kernel
theorem dX9_next_153 : decode cX9_next 153 = .ok (.iload_n 1, 1) := by decide +kernel
theorem dX9_next_154 : decode cX9_next 154 = .ok (.invokevirtual 84, 3) := by decide +kernel
theorem dX9_next_157 : decode cX9_next 157 = .ok (.invokestatic 104, 3) := by decide +kernel
theorem dX9_next_160 : decode cX9_next 160 = .ok (.ifCond .eq 37, 3) := by decide +kernel
theorem dX9_next_163 : decode cX9_next 163 = .ok (.iload_n 3, 1) := by decide +kernel
theorem dX9_next_164 : decode cX9_next 164 = .ok (.iconst 3, 1) := by decide +kernel
theorem dX9_next_165 : decode cX9_next 165 = .ok (.if_icmp .ge 23, 3) := by decide +kernel
theorem dX9_next_168 : decode cX9_next 168 = .ok (.aload_n 0, 1) := by decide +kernel
theorem dX9_next_169 : decode cX9_next 169 = .ok (.bipush 10, 2) := by decide +kernel
theorem dX9_next_171 : decode cX9_next 171 = .ok (.aload_n 0, 1) := by decide +kernel
theorem dX9_next_172 : decode cX9_next 172 = .ok (.getfield 94, 3) := by decide +kernel
theorem dX9_next_175 : decode cX9_next 175 = .ok (.imul, 1) := by decide +kernel
theorem dX9_next_176 : decode cX9_next 176 = .ok (.aload_n 0, 1) := by decide +kernel
theorem dX9_next_177 : decode cX9_next 177 = .ok (.iload_n 1, 1) := by decide +kernel
theorem dX9_next_178 : decode cX9_next 178 = .ok (.invokevirtual 84, 3) := by decide +kernel
theorem dX9_next_181 : decode cX9_next 181 = .ok (.iadd, 1) := by decide +kernel
theorem dX9_next_182 : decode cX9_next 182 = .ok (.bipush 48, 2) := by decide +kernel
theorem dX9_next_184 : decode cX9_next 184 = .ok (.isub, 1) := by decide +kernel
theorem dX9_next_185 : decode cX9_next 185 = .ok (.putfield 94, 3) := by decide +kernel
theorem dX9_next_188 : decode cX9_next 188 = .ok (.iinc 3 1, 3) := by decide +kernel
theorem dX9_next_191 : decode cX9_next 191 = .ok (.iinc 1 1, 3) := by decide +kernel
theorem dX9_next_194 : decode cX9_next 194 = .ok (.goto (-42), 3) := by decide +kernel
theorem dX9_next_197 : decode cX9_next 197 = .ok (.aload_n 0, 1) := by decide +kernel
theorem dX9_next_198 : decode cX9_next 198 = .ok (.iload_n 1, 1) := by decide +kernel
theorem dX9_next_199 : decode cX9_next 199 = .ok (.putfield 81, 3) := by decide +kernel
theorem dX9_next_202 : decode cX9_next 202 = .ok (.aload_n 0, 1) := by decide +kernel
theorem dX9_next_203 : decode cX9_next 203 = .ok (.iload_n 3, 1) := by decide +kernel
theorem dX9_next_204 : decode cX9_next 204 = .ok (.iconst 3, 1) := by decide +kernel
theorem dX9_next_205 : decode cX9_next 205 = .ok (.if_icmp .le 7, 3) := by decide +kernel
theorem dX9_next_208 : decode cX9_next 208 = .ok (.iconst 1, 1) := by decide +kernel
theorem dX9_next_209 : decode cX9_next 209 = .ok (.goto 4, 3) := by decide +kernel
theorem dX9_next_212 : decode cX9_next 212 = .ok (.iconst 3, 1) := by decide +kernel
theorem dX9_next_213 : decode cX9_next 213 = .ok (.putfield 97, 3) := by decide +kernel
theorem dX9_next_216 : decode cX9_next 216 = .ok (.goto 31, 3) := by decide +kernel
theorem dX9_next_219 : decode cX9_next 219 = .ok (.aload_n 0, 1) := by decide +kernel
theorem dX9_next_220 : decode cX9_next 220 = .ok (.iload_n 1, 1) := by decide +kernel
theorem dX9_next_221 : decode cX9_next 221 = .ok (.iconst 1, 1) := by decide +kernel
theorem dX9_next_222 : decode cX9_next 222 = .ok (.iadd, 1) := by decide +kernel
theorem dX9_next_223 : decode cX9_next 223 = .ok (.putfield 81, 3) := by decide +kernel
theorem dX9_next_226 : decode cX9_next 226 = .ok (.aload_n 0, 1) := by decide +kernel
theorem dX9_next_227 : decode cX9_next 227 = .ok (.iload_n 2, 1) := by decide +kernel
theorem dX9_next_228 : decode cX9_next 228 = .ok (.bipush 59, 2) := by decide +kernel
theorem dX9_next_230 : decode cX9_next 230 = .ok (.if_icmp .eq 9, 3) := by decide +kernel
theorem dX9_next_233 : decode cX9_next 233 = .ok (.iload_n 2, 1) := by decide +kernel
theorem dX9_next_234 : decode cX9_next 234 = .ok (.bipush 44, 2) := by decide +kernel
theorem dX9_next_236 : decode cX9_next 236 = .ok (.if_icmp .ne 7, 3) := by decide +kernel
theorem dX9_next_239 : decode cX9_next 239 = .ok (.iload_n 2, 1) := by decide +kernel
theorem dX9_next_240 : decode cX9_next 240 = .ok (.goto 4, 3) := by decide +kernel
theorem dX9_next_243 : decode cX9_next 243 = .ok (.iconst 1, 1) := by decide +kernel
theorem dX9_next_244 : decode cX9_next 244 = .ok (.putfield 97, 3) := by decide +kernel
theorem dX9_next_247 : decode cX9_next 247 = .ok (.return_, 1) := by decide +kernel
theorem dX9_wrong_0 : decode cX9_wrong 0 = .ok (.aload_n 0, 1) := by decide +kernel
theorem dX9_wrong_1 : decode cX9_wrong 1 = .ok (.getfield 107, 3) := by decide +kernel
theorem dX9_wrong_4 : decode cX9_wrong 4 = .ok (.ifCond .eq 4, 3) := by decide +kernel
theorem dX9_wrong_7 : decode cX9_wrong 7 = .ok (.return_, 1) := by decide +kernel
theorem dX9_wrong_8 : decode cX9_wrong 8 = .ok (.aload_n 0, 1) := by decide +kernel
theorem dX9_wrong_9 : decode cX9_wrong 9 = .ok (.iconst 1, 1) := by decide +kernel
theorem dX9_wrong_10 : decode cX9_wrong 10 = .ok (.putfield 107, 3) := by decide +kernel
theorem dX9_wrong_13 : decode cX9_wrong 13 = .ok (.aload_n 0, 1) := by decide +kernel
theorem dX9_wrong_14 : decode cX9_wrong 14 = .ok (.iload_n 1, 1) := by decide +kernel
theorem dX9_wrong_15 : decode cX9_wrong 15 = .ok (.putfield 111, 3) := by decide +kernel
theorem dX9_wrong_18 : decode cX9_wrong 18 = .ok (.aload_n 0, 1) := by decide +kernel
theorem dX9_wrong_19 : decode cX9_wrong 19 = .ok (.iload_n 2, 1) := by decide +kernel
theorem dX9_wrong_20 : decode cX9_wrong 20 = .ok (.putfield 13, 3) := by decide +kernel
theorem dX9_wrong_23 : decode cX9_wrong 23 = .ok (.return_, 1) := by decide +kernel
theorem dX9_isWord_0 : decode cX9_isWord 0 = .ok (.aload_n 0, 1) := by decide +kernel
theorem dX9_isWord_1 : decode cX9_isWord 1 = .ok (.getfield 107, 3) := by decide +kernel
theorem dX9_isWord_4 : decode cX9_isWord 4 = .ok (.ifCond .ne 22, 3) := by decide +kernel
theorem dX9_isWord_7 : decode cX9_isWord 7 = .ok (.aload_n 0, 1) := by decide +kernel
theorem dX9_isWord_8 : decode cX9_isWord 8 = .ok (.getfield 97, 3) := by decide +kernel
theorem dX9_isWord_11 : decode cX9_isWord 11 = .ok (.iconst 2, 1) := by decide +kernel
theorem dX9_isWord_12 : decode cX9_isWord 12 = .ok (.if_icmp .ne 14, 3) := by decide +kernel
theorem dX9_isWord_15 : decode cX9_isWord 15 = .ok (.aload_n 0, 1) := by decide +kernel
theorem dX9_isWord_16 : decode cX9_isWord 16 = .ok (.getfield 91, 3) := by decide +kernel
theorem dX9_isWord_19 : decode cX9_isWord 19 = .ok (.aload_n 1, 1) := by decide +kernel
theorem dX9_isWord_20 : decode cX9_isWord 20 = .ok (.invokevirtual 114, 3) := by decide +kernel
theorem dX9_isWord_23 : decode cX9_isWord 23 = .ok (.if_icmp .eq 5, 3) := by decide +kernel
theorem dX9_isWord_26 : decode cX9_isWord 26 = .ok (.iconst 0, 1) := by decide +kernel
theorem dX9_isWord_27 : decode cX9_isWord 27 = .ok (.ireturn, 1) := by decide +kernel
theorem dX9_isWord_28 : decode cX9_isWord 28 = .ok (.iconst 1, 1) := by decide +kernel
theorem dX9_isWord_29 : decode cX9_isWord 29 = .ok (.istore_n 2, 1) := by decide +kernel
theorem dX9_isWord_30 : decode cX9_isWord 30 = .ok (.iconst 0, 1) := by decide +kernel
theorem dX9_isWord_31 : decode cX9_isWord 31 = .ok (.istore_n 3, 1) := by decide +kernel
theorem dX9_isWord_32 : decode cX9_isWord 32 = .ok (.iload_n 3, 1) := by decide +kernel
theorem dX9_isWord_33 : decode cX9_isWord 33 = .ok (.aload_n 0, 1) := by decide +kernel
theorem dX9_isWord_34 : decode cX9_isWord 34 = .ok (.getfield 91, 3) := by decide +kernel
theorem dX9_isWord_37 : decode cX9_isWord 37 = .ok (.if_icmp .ge 33, 3) := by decide +kernel
theorem dX9_isWord_40 : decode cX9_isWord 40 = .ok (.iload_n 2, 1) := by decide +kernel
theorem dX9_isWord_41 : decode cX9_isWord 41 = .ok (.ifCond .eq 21, 3) := by decide +kernel
theorem dX9_isWord_44 : decode cX9_isWord 44 = .ok (.aload_n 0, 1) := by decide +kernel
theorem dX9_isWord_45 : decode cX9_isWord 45 = .ok (.getfield 17, 3) := by decide +kernel
theorem dX9_isWord_48 : decode cX9_isWord 48 = .ok (.iload_n 3, 1) := by decide +kernel
theorem dX9_isWord_49 : decode cX9_isWord 49 = .ok (.iaload, 1) := by decide +kernel
theorem dX9_isWord_50 : decode cX9_isWord 50 = .ok (.aload_n 1, 1) := by decide +kernel
theorem dX9_isWord_51 : decode cX9_isWord 51 = .ok (.iload_n 3, 1) := by decide +kernel
theorem dX9_isWord_52 : decode cX9_isWord 52 = .ok (.invokevirtual 120, 3) := by decide +kernel
theorem dX9_isWord_55 : decode cX9_isWord 55 = .ok (.if_icmp .ne 7, 3) := by decide +kernel
theorem dX9_isWord_58 : decode cX9_isWord 58 = .ok (.iconst 1, 1) := by decide +kernel
theorem dX9_isWord_59 : decode cX9_isWord 59 = .ok (.goto 4, 3) := by decide +kernel
theorem dX9_isWord_62 : decode cX9_isWord 62 = .ok (.iconst 0, 1) := by decide +kernel
theorem dX9_isWord_63 : decode cX9_isWord 63 = .ok (.istore_n 2, 1) := by decide +kernel
theorem dX9_isWord_64 : decode cX9_isWord 64 = .ok (.iinc 3 1, 3) := by decide +kernel
theorem dX9_isWord_67 : decode cX9_isWord 67 = .ok (.goto (-35), 3) := by decide +kernel
theorem dX9_isWord_70 : decode cX9_isWord 70 = .ok (.iload_n 2, 1) := by decide +kernel
theorem dX9_isWord_71 : decode cX9_isWord 71 = .ok (.ireturn, 1) := by decide +kernel
theorem dX9_takes_0 : decode cX9_takes 0 = .ok (.aload_n 0, 1) := by decide +kernel
theorem dX9_takes_1 : decode cX9_takes 1 = .ok (.aload_n 1, 1) := by decide +kernel
theorem dX9_takes_2 : decode cX9_takes 2 = .ok (.invokevirtual 124, 3) := by decide +kernel
theorem dX9_takes_5 : decode cX9_takes 5 = .ok (.ifCond .ne 5, 3) := by decide +kernel
theorem dX9_takes_8 : decode cX9_takes 8 = .ok (.iconst 0, 1) := by decide +kernel
theorem dX9_takes_9 : decode cX9_takes 9 = .ok (.ireturn, 1) := by decide +kernel
theorem dX9_takes_10 : decode cX9_takes 10 = .ok (.aload_n 0, 1) := by decide +kernel
theorem dX9_takes_11 : decode cX9_takes 11 = .ok (.invokevirtual 128, 3) := by decide +kernel
theorem dX9_takes_14 : decode cX9_takes 14 = .ok (.iconst 1, 1) := by decide +kernel
theorem dX9_takes_15 : decode cX9_takes 15 = .ok (.ireturn, 1) := by decide +kernel
theorem dX9_must_0 : decode cX9_must 0 = .ok (.aload_n 0, 1) := by decide +kernel
theorem dX9_must_1 : decode cX9_must 1 = .ok (.getfield 107, 3) := by decide +kernel
theorem dX9_must_4 : decode cX9_must 4 = .ok (.ifCond .ne 20, 3) := by decide +kernel
theorem dX9_must_7 : decode cX9_must 7 = .ok (.aload_n 0, 1) := by decide +kernel
theorem dX9_must_8 : decode cX9_must 8 = .ok (.aload_n 1, 1) := by decide +kernel
theorem dX9_must_9 : decode cX9_must 9 = .ok (.invokevirtual 131, 3) := by decide +kernel
theorem dX9_must_12 : decode cX9_must 12 = .ok (.ifCond .ne 12, 3) := by decide +kernel
theorem dX9_must_15 : decode cX9_must 15 = .ok (.aload_n 0, 1) := by decide +kernel
theorem dX9_must_16 : decode cX9_must 16 = .ok (.iconst 1, 1) := by decide +kernel
theorem dX9_must_17 : decode cX9_must 17 = .ok (.aload_n 0, 1) := by decide +kernel
theorem dX9_must_18 : decode cX9_must 18 = .ok (.getfield 88, 3) := by decide +kernel
theorem dX9_must_21 : decode cX9_must 21 = .ok (.invokevirtual 134, 3) := by decide +kernel
theorem dX9_must_24 : decode cX9_must 24 = .ok (.return_, 1) := by decide +kernel
theorem dX9_number_0 : decode cX9_number 0 = .ok (.aload_n 0, 1) := by decide +kernel
theorem dX9_number_1 : decode cX9_number 1 = .ok (.getfield 107, 3) := by decide +kernel
theorem dX9_number_4 : decode cX9_number 4 = .ok (.ifCond .eq 5, 3) := by decide +kernel
theorem dX9_number_7 : decode cX9_number 7 = .ok (.iload_n 1, 1) := by decide +kernel
theorem dX9_number_8 : decode cX9_number 8 = .ok (.ireturn, 1) := by decide +kernel
theorem dX9_number_9 : decode cX9_number 9 = .ok (.aload_n 0, 1) := by decide +kernel
theorem dX9_number_10 : decode cX9_number 10 = .ok (.getfield 97, 3) := by decide +kernel
theorem dX9_number_13 : decode cX9_number 13 = .ok (.iconst 3, 1) := by decide +kernel
theorem dX9_number_14 : decode cX9_number 14 = .ok (.if_icmp .eq 14, 3) := by decide +kernel
theorem dX9_number_17 : decode cX9_number 17 = .ok (.aload_n 0, 1) := by decide +kernel
theorem dX9_number_18 : decode cX9_number 18 = .ok (.iconst 1, 1) := by decide +kernel
theorem dX9_number_19 : decode cX9_number 19 = .ok (.aload_n 0, 1) := by decide +kernel
theorem dX9_number_20 : decode cX9_number 20 = .ok (.getfield 88, 3) := by decide +kernel
theorem dX9_number_23 : decode cX9_number 23 = .ok (.invokevirtual 134, 3) := by decide +kernel
theorem dX9_number_26 : decode cX9_number 26 = .ok (.iload_n 1, 1) := by decide +kernel
theorem dX9_number_27 : decode cX9_number 27 = .ok (.ireturn, 1) := by decide +kernel
theorem dX9_number_28 : decode cX9_number 28 = .ok (.aload_n 0, 1) := by decide +kernel
theorem dX9_number_29 : decode cX9_number 29 = .ok (.getfield 94, 3) := by decide +kernel
theorem dX9_number_32 : decode cX9_number 32 = .ok (.istore_n 3, 1) := by decide +kernel
theorem dX9_number_33 : decode cX9_number 33 = .ok (.iload_n 3, 1) := by decide +kernel
theorem dX9_number_34 : decode cX9_number 34 = .ok (.iload_n 1, 1) := by decide +kernel
theorem dX9_number_35 : decode cX9_number 35 = .ok (.iload_n 2, 1) := by decide +kernel
theorem dX9_number_36 : decode cX9_number 36 = .ok (.invokestatic 138, 3) := by decide +kernel
theorem dX9_number_39 : decode cX9_number 39 = .ok (.ifCond .ne 14, 3) := by decide +kernel
theorem dX9_number_42 : decode cX9_number 42 = .ok (.aload_n 0, 1) := by decide +kernel
theorem dX9_number_43 : decode cX9_number 43 = .ok (.iconst 4, 1) := by decide +kernel
theorem dX9_number_44 : decode cX9_number 44 = .ok (.aload_n 0, 1) := by decide +kernel
theorem dX9_number_45 : decode cX9_number 45 = .ok (.getfield 88, 3) := by decide +kernel
theorem dX9_number_48 : decode cX9_number 48 = .ok (.invokevirtual 134, 3) := by decide +kernel
theorem dX9_number_51 : decode cX9_number 51 = .ok (.iload_n 1, 1) := by decide +kernel
theorem dX9_number_52 : decode cX9_number 52 = .ok (.ireturn, 1) := by decide +kernel
theorem dX9_number_53 : decode cX9_number 53 = .ok (.aload_n 0, 1) := by decide +kernel
theorem dX9_number_54 : decode cX9_number 54 = .ok (.invokevirtual 128, 3) := by decide +kernel
theorem dX9_number_57 : decode cX9_number 57 = .ok (.iload_n 3, 1) := by decide +kernel
theorem dX9_number_58 : decode cX9_number 58 = .ok (.ireturn, 1) := by decide +kernel
theorem dX9_told_0 : decode cX9_told 0 = .ok (.aload_n 0, 1) := by decide +kernel
theorem dX9_told_1 : decode cX9_told 1 = .ok (.aload_n 1, 1) := by decide +kernel
theorem dX9_told_2 : decode cX9_told 2 = .ok (.invokevirtual 142, 3) := by decide +kernel
theorem dX9_told_5 : decode cX9_told 5 = .ok (.aload_n 0, 1) := by decide +kernel
theorem dX9_told_6 : decode cX9_told 6 = .ok (.iload_n 2, 1) := by decide +kernel
theorem dX9_told_7 : decode cX9_told 7 = .ok (.iload_n 3, 1) := by decide +kernel
theorem dX9_told_8 : decode cX9_told 8 = .ok (.invokevirtual 146, 3) := by decide +kernel
theorem dX9_told_11 : decode cX9_told 11 = .ok (.ireturn, 1) := by decide +kernel
theorem dX9_hall_0 : decode cX9_hall 0 = .ok (.aload_n 0, 1) := by decide +kernel
theorem dX9_hall_1 : decode cX9_hall 1 = .ok (.invokevirtual 150, 3) := by decide +kernel
theorem dX9_hall_4 : decode cX9_hall 4 = .ok (.iload_n 1, 1) := by decide +kernel
theorem dX9_hall_5 : decode cX9_hall 5 = .ok (.iconst 0, 1) := by decide +kernel
theorem dX9_hall_6 : decode cX9_hall 6 = .ok (.aload_n 0, 1) := by decide +kernel
theorem dX9_hall_7 : decode cX9_hall 7 = .ok (.getfield 75, 3) := by decide +kernel
theorem dX9_hall_10 : decode cX9_hall 10 = .ok (.invokestatic 138, 3) := by decide +kernel
theorem dX9_hall_13 : decode cX9_hall 13 = .ok (.ifCond .ne 9, 3) := by decide +kernel
theorem dX9_hall_16 : decode cX9_hall 16 = .ok (.aload_n 0, 1) := by decide +kernel
theorem dX9_hall_17 : decode cX9_hall 17 = .ok (.iconst 2, 1) := by decide +kernel
theorem dX9_hall_18 : decode cX9_hall 18 = .ok (.invokevirtual 153, 3) := by decide +kernel
theorem dX9_hall_21 : decode cX9_hall 21 = .ok (.ireturn, 1) := by decide +kernel
theorem dX9_hall_22 : decode cX9_hall 22 = .ok (.aload_n 0, 1) := by decide +kernel
theorem dX9_hall_23 : decode cX9_hall 23 = .ok (.iconst 0, 1) := by decide +kernel
theorem dX9_hall_24 : decode cX9_hall 24 = .ok (.putfield 75, 3) := by decide +kernel
theorem dX9_hall_27 : decode cX9_hall 27 = .ok (.aload_n 0, 1) := by decide +kernel
theorem dX9_hall_28 : decode cX9_hall 28 = .ok (.iconst 0, 1) := by decide +kernel
theorem dX9_hall_29 : decode cX9_hall 29 = .ok (.putfield 111, 3) := by decide +kernel
theorem dX9_hall_32 : decode cX9_hall 32 = .ok (.aload_n 0, 1) := by decide +kernel
theorem dX9_hall_33 : decode cX9_hall 33 = .ok (.iconst 0, 1) := by decide +kernel
theorem dX9_hall_34 : decode cX9_hall 34 = .ok (.putfield 107, 3) := by decide +kernel
theorem dX9_hall_37 : decode cX9_hall 37 = .ok (.iconst 0, 1) := by decide +kernel
theorem dX9_hall_38 : decode cX9_hall 38 = .ok (.istore_n 2, 1) := by decide +kernel
theorem dX9_hall_39 : decode cX9_hall 39 = .ok (.iload_n 2, 1) := by decide +kernel
theorem dX9_hall_40 : decode cX9_hall 40 = .ok (.sipush 135, 3) := by decide +kernel
theorem dX9_hall_43 : decode cX9_hall 43 = .ok (.if_icmp .ge 16, 3) := by decide +kernel
theorem dX9_hall_46 : decode cX9_hall 46 = .ok (.aload_n 0, 1) := by decide +kernel
theorem dX9_hall_47 : decode cX9_hall 47 = .ok (.getfield 23, 3) := by decide +kernel
theorem dX9_hall_50 : decode cX9_hall 50 = .ok (.iload_n 2, 1) := by decide +kernel
theorem dX9_hall_51 : decode cX9_hall 51 = .ok (.iconst 0, 1) := by decide +kernel
theorem dX9_hall_52 : decode cX9_hall 52 = .ok (.iastore, 1) := by decide +kernel
theorem dX9_hall_53 : decode cX9_hall 53 = .ok (.iinc 2 1, 3) := by decide +kernel
theorem dX9_hall_56 : decode cX9_hall 56 = .ok (.goto (-17), 3) := by decide +kernel
theorem dX9_hall_59 : decode cX9_hall 59 = .ok (.iconst 0, 1) := by decide +kernel
theorem dX9_hall_60 : decode cX9_hall 60 = .ok (.istore_n 2, 1) := by decide +kernel
theorem dX9_hall_61 : decode cX9_hall 61 = .ok (.iload_n 2, 1) := by decide +kernel
theorem dX9_hall_62 : decode cX9_hall 62 = .ok (.iconst 5, 1) := by decide +kernel
theorem dX9_hall_63 : decode cX9_hall 63 = .ok (.if_icmp .ge 29, 3) := by decide +kernel
theorem dX9_hall_66 : decode cX9_hall 66 = .ok (.aload_n 0, 1) := by decide +kernel
theorem dX9_hall_67 : decode cX9_hall 67 = .ok (.getfield 23, 3) := by decide +kernel
theorem dX9_hall_70 : decode cX9_hall 70 = .ok (.iconst 2, 1) := by decide +kernel
theorem dX9_hall_71 : decode cX9_hall 71 = .ok (.iload_n 2, 1) := by decide +kernel
theorem dX9_hall_72 : decode cX9_hall 72 = .ok (.iadd, 1) := by decide +kernel
theorem dX9_hall_73 : decode cX9_hall 73 = .ok (.bipush 8, 2) := by decide +kernel
theorem dX9_hall_75 : decode cX9_hall 75 = .ok (.iastore, 1) := by decide +kernel
theorem dX9_hall_76 : decode cX9_hall 76 = .ok (.aload_n 0, 1) := by decide +kernel
theorem dX9_hall_77 : decode cX9_hall 77 = .ok (.getfield 23, 3) := by decide +kernel
theorem dX9_hall_80 : decode cX9_hall 80 = .ok (.bipush 7, 2) := by decide +kernel
theorem dX9_hall_82 : decode cX9_hall 82 = .ok (.iload_n 2, 1) := by decide +kernel
theorem dX9_hall_83 : decode cX9_hall 83 = .ok (.iadd, 1) := by decide +kernel
theorem dX9_hall_84 : decode cX9_hall 84 = .ok (.iconst 1, 1) := by decide +kernel
theorem dX9_hall_85 : decode cX9_hall 85 = .ok (.iastore, 1) := by decide +kernel
theorem dX9_hall_86 : decode cX9_hall 86 = .ok (.iinc 2 1, 3) := by decide +kernel
theorem dX9_hall_89 : decode cX9_hall 89 = .ok (.goto (-28), 3) := by decide +kernel
theorem dX9_hall_92 : decode cX9_hall 92 = .ok (.aload_n 0, 1) := by decide +kernel
theorem dX9_hall_93 : decode cX9_hall 93 = .ok (.iload_n 1, 1) := by decide +kernel
theorem dX9_hall_94 : decode cX9_hall 94 = .ok (.putfield 78, 3) := by decide +kernel
theorem dX9_hall_97 : decode cX9_hall 97 = .ok (.aload_n 0, 1) := by decide +kernel
theorem dX9_hall_98 : decode cX9_hall 98 = .ok (.iconst 0, 1) := by decide +kernel
theorem dX9_hall_99 : decode cX9_hall 99 = .ok (.putfield 81, 3) := by decide +kernel
theorem dX9_hall_102 : decode cX9_hall 102 = .ok (.aload_n 0, 1) := by decide +kernel
theorem dX9_hall_103 : decode cX9_hall 103 = .ok (.invokevirtual 128, 3) := by decide +kernel
theorem dX9_hall_106 : decode cX9_hall 106 = .ok (.aload_n 0, 1) := by decide +kernel
theorem dX9_hall_107 : decode cX9_hall 107 = .ok (.invokevirtual 156, 3) := by decide +kernel
theorem dX9_hall_110 : decode cX9_hall 110 = .ok (.aload_n 0, 1) := by decide +kernel
theorem dX9_hall_111 : decode cX9_hall 111 = .ok (.getfield 107, 3) := by decide +kernel
theorem dX9_hall_114 : decode cX9_hall 114 = .ok (.ifCond .ne 23, 3) := by decide +kernel
theorem dX9_hall_117 : decode cX9_hall 117 = .ok (.aload_n 0, 1) := by decide +kernel
theorem dX9_hall_118 : decode cX9_hall 118 = .ok (.getfield 97, 3) := by decide +kernel
theorem dX9_hall_121 : decode cX9_hall 121 = .ok (.bipush 59, 2) := by decide +kernel
theorem dX9_hall_123 : decode cX9_hall 123 = .ok (.if_icmp .ne 14, 3) := by decide +kernel
theorem dX9_hall_126 : decode cX9_hall 126 = .ok (.aload_n 0, 1) := by decide +kernel
theorem dX9_hall_127 : decode cX9_hall 127 = .ok (.invokevirtual 128, 3) := by decide +kernel
theorem dX9_hall_130 : decode cX9_hall 130 = .ok (.aload_n 0, 1) := by decide +kernel
theorem dX9_hall_131 : decode cX9_hall 131 = .ok (.invokevirtual 156, 3) := by decide +kernel
theorem dX9_hall_134 : decode cX9_hall 134 = .ok (.goto (-24), 3) := by decide +kernel
theorem dX9_hall_137 : decode cX9_hall 137 = .ok (.aload_n 0, 1) := by decide +kernel
theorem dX9_hall_138 : decode cX9_hall 138 = .ok (.getfield 107, 3) := by decide +kernel
theorem dX9_hall_141 : decode cX9_hall 141 = .ok (.ifCond .ne 19, 3) := by decide +kernel
theorem dX9_hall_144 : decode cX9_hall 144 = .ok (.aload_n 0, 1) := by decide +kernel
theorem dX9_hall_145 : decode cX9_hall 145 = .ok (.getfield 97, 3) := by decide +kernel
theorem dX9_hall_148 : decode cX9_hall 148 = .ok (.ifCond .eq 12, 3) := by decide +kernel
theorem dX9_hall_151 : decode cX9_hall 151 = .ok (.aload_n 0, 1) := by decide +kernel
theorem dX9_hall_152 : decode cX9_hall 152 = .ok (.iconst 1, 1) := by decide +kernel
theorem dX9_hall_153 : decode cX9_hall 153 = .ok (.aload_n 0, 1) := by decide +kernel
theorem dX9_hall_154 : decode cX9_hall 154 = .ok (.getfield 88, 3) := by decide +kernel
theorem dX9_hall_157 : decode cX9_hall 157 = .ok (.invokevirtual 134, 3) := by decide +kernel
theorem dX9_hall_160 : decode cX9_hall 160 = .ok (.aload_n 0, 1) := by decide +kernel
theorem dX9_hall_161 : decode cX9_hall 161 = .ok (.getfield 107, 3) := by decide +kernel
theorem dX9_hall_164 : decode cX9_hall 164 = .ok (.ifCond .ne 33, 3) := by decide +kernel
theorem dX9_hall_167 : decode cX9_hall 167 = .ok (.aload_n 0, 1) := by decide +kernel
theorem dX9_hall_168 : decode cX9_hall 168 = .ok (.getfield 23, 3) := by decide +kernel
theorem dX9_hall_171 : decode cX9_hall 171 = .ok (.bipush 80, 2) := by decide +kernel
theorem dX9_hall_173 : decode cX9_hall 173 = .ok (.iaload, 1) := by decide +kernel
theorem dX9_hall_174 : decode cX9_hall 174 = .ok (.ifCond .eq 13, 3) := by decide +kernel
theorem dX9_hall_177 : decode cX9_hall 177 = .ok (.aload_n 0, 1) := by decide +kernel
theorem dX9_hall_178 : decode cX9_hall 178 = .ok (.getfield 23, 3) := by decide +kernel
theorem dX9_hall_181 : decode cX9_hall 181 = .ok (.bipush 17, 2) := by decide +kernel
theorem dX9_hall_183 : decode cX9_hall 183 = .ok (.iaload, 1) := by decide +kernel
theorem dX9_hall_184 : decode cX9_hall 184 = .ok (.ifCond .ne 13, 3) := by decide +kernel
theorem dX9_hall_187 : decode cX9_hall 187 = .ok (.aload_n 0, 1) := by decide +kernel
theorem dX9_hall_188 : decode cX9_hall 188 = .ok (.bipush 6, 2) := by decide +kernel
theorem dX9_hall_190 : decode cX9_hall 190 = .ok (.aload_n 0, 1) := by decide +kernel
theorem dX9_hall_191 : decode cX9_hall 191 = .ok (.getfield 88, 3) := by decide +kernel
theorem dX9_hall_194 : decode cX9_hall 194 = .ok (.invokevirtual 134, 3) := by decide +kernel
theorem dX9_hall_197 : decode cX9_hall 197 = .ok (.aload_n 0, 1) := by decide +kernel
theorem dX9_hall_198 : decode cX9_hall 198 = .ok (.getfield 107, 3) := by decide +kernel
theorem dX9_hall_201 : decode cX9_hall 201 = .ok (.ifCond .eq 9, 3) := by decide +kernel
theorem dX9_hall_204 : decode cX9_hall 204 = .ok (.aload_n 0, 1) := by decide +kernel
theorem dX9_hall_205 : decode cX9_hall 205 = .ok (.iconst 4, 1) := by decide +kernel
theorem dX9_hall_206 : decode cX9_hall 206 = .ok (.invokevirtual 153, 3) := by decide +kernel
theorem dX9_hall_209 : decode cX9_hall 209 = .ok (.ireturn, 1) := by decide +kernel
theorem dX9_hall_210 : decode cX9_hall 210 = .ok (.iconst 0, 1) := by decide +kernel
theorem dX9_hall_211 : decode cX9_hall 211 = .ok (.istore_n 2, 1) := by decide +kernel
theorem dX9_hall_212 : decode cX9_hall 212 = .ok (.iload_n 2, 1) := by decide +kernel
theorem dX9_hall_213 : decode cX9_hall 213 = .ok (.sipush 135, 3) := by decide +kernel
theorem dX9_hall_216 : decode cX9_hall 216 = .ok (.if_icmp .ge 21, 3) := by decide +kernel
theorem dX9_hall_219 : decode cX9_hall 219 = .ok (.aload_n 0, 1) := by decide +kernel
theorem dX9_hall_220 : decode cX9_hall 220 = .ok (.getfield 20, 3) := by decide +kernel
theorem dX9_hall_223 : decode cX9_hall 223 = .ok (.iload_n 2, 1) := by decide +kernel
theorem dX9_hall_224 : decode cX9_hall 224 = .ok (.aload_n 0, 1) := by decide +kernel
theorem dX9_hall_225 : decode cX9_hall 225 = .ok (.getfield 23, 3) := by decide +kernel
theorem dX9_hall_228 : decode cX9_hall 228 = .ok (.iload_n 2, 1) := by decide +kernel
theorem dX9_hall_229 : decode cX9_hall 229 = .ok (.iaload, 1) := by decide +kernel
theorem dX9_hall_230 : decode cX9_hall 230 = .ok (.iastore, 1) := by decide +kernel
theorem dX9_hall_231 : decode cX9_hall 231 = .ok (.iinc 2 1, 3) := by decide +kernel
theorem dX9_hall_234 : decode cX9_hall 234 = .ok (.goto (-22), 3) := by decide +kernel
theorem dX9_hall_237 : decode cX9_hall 237 = .ok (.aload_n 0, 1) := by decide +kernel
theorem dX9_hall_238 : decode cX9_hall 238 = .ok (.iconst 1, 1) := by decide +kernel
theorem dX9_hall_239 : decode cX9_hall 239 = .ok (.putfield 159, 3) := by decide +kernel
theorem dX9_hall_242 : decode cX9_hall 242 = .ok (.aload_n 0, 1) := by decide +kernel
theorem dX9_hall_243 : decode cX9_hall 243 = .ok (.iconst 0, 1) := by decide +kernel
theorem dX9_hall_244 : decode cX9_hall 244 = .ok (.putfield 162, 3) := by decide +kernel
theorem dX9_hall_247 : decode cX9_hall 247 = .ok (.aload_n 0, 1) := by decide +kernel
theorem dX9_hall_248 : decode cX9_hall 248 = .ok (.iconst 0, 1) := by decide +kernel
theorem dX9_hall_249 : decode cX9_hall 249 = .ok (.iconst 0, 1) := by decide +kernel
theorem dX9_hall_250 : decode cX9_hall 250 = .ok (.invokevirtual 165, 3) := by decide +kernel
theorem dX9_hall_253 : decode cX9_hall 253 = .ok (.aload_n 0, 1) := by decide +kernel
theorem dX9_hall_254 : decode cX9_hall 254 = .ok (.getfield 20, 3) := by decide +kernel
theorem dX9_hall_257 : decode cX9_hall 257 = .ok (.bipush 17, 2) := by decide +kernel
theorem dX9_hall_259 : decode cX9_hall 259 = .ok (.iaload, 1) := by decide +kernel
theorem dX9_hall_260 : decode cX9_hall 260 = .ok (.ireturn, 1) := by decide +kernel
theorem dX9_begins_0 : decode cX9_begins 0 = .ok (.aload_n 0, 1) := by decide +kernel
theorem dX9_begins_1 : decode cX9_begins 1 = .ok (.aload_n 1, 1) := by decide +kernel
theorem dX9_begins_2 : decode cX9_begins 2 = .ok (.invokevirtual 124, 3) := by decide +kernel
theorem dX9_begins_5 : decode cX9_begins 5 = .ok (.ifCond .ne 5, 3) := by decide +kernel
theorem dX9_begins_8 : decode cX9_begins 8 = .ok (.iconst 0, 1) := by decide +kernel
theorem dX9_begins_9 : decode cX9_begins 9 = .ok (.ireturn, 1) := by decide +kernel
theorem dX9_begins_10 : decode cX9_begins 10 = .ok (.iload_n 2, 1) := by decide +kernel
theorem dX9_begins_11 : decode cX9_begins 11 = .ok (.ifCond .ne 12, 3) := by decide +kernel
theorem dX9_begins_14 : decode cX9_begins 14 = .ok (.aload_n 0, 1) := by decide +kernel
theorem dX9_begins_15 : decode cX9_begins 15 = .ok (.iload_n 3, 1) := by decide +kernel
theorem dX9_begins_16 : decode cX9_begins 16 = .ok (.aload_n 0, 1) := by decide +kernel
theorem dX9_begins_17 : decode cX9_begins 17 = .ok (.getfield 88, 3) := by decide +kernel
theorem dX9_begins_20 : decode cX9_begins 20 = .ok (.invokevirtual 134, 3) := by decide +kernel
theorem dX9_begins_23 : decode cX9_begins 23 = .ok (.iload 4, 2) := by decide +kernel
theorem dX9_begins_25 : decode cX9_begins 25 = .ok (.ifCond .eq 23, 3) := by decide +kernel
theorem dX9_begins_28 : decode cX9_begins 28 = .ok (.aload_n 0, 1) := by decide +kernel
theorem dX9_begins_29 : decode cX9_begins 29 = .ok (.getfield 23, 3) := by decide +kernel
theorem dX9_begins_32 : decode cX9_begins 32 = .ok (.bipush 80, 2) := by decide +kernel
theorem dX9_begins_34 : decode cX9_begins 34 = .ok (.iaload, 1) := by decide +kernel
theorem dX9_begins_35 : decode cX9_begins 35 = .ok (.ifCond .ne 13, 3) := by decide +kernel
theorem dX9_begins_38 : decode cX9_begins 38 = .ok (.aload_n 0, 1) := by decide +kernel
theorem dX9_begins_39 : decode cX9_begins 39 = .ok (.bipush 6, 2) := by decide +kernel
theorem dX9_begins_41 : decode cX9_begins 41 = .ok (.aload_n 0, 1) := by decide +kernel
theorem dX9_begins_42 : decode cX9_begins 42 = .ok (.getfield 88, 3) := by decide +kernel
theorem dX9_begins_45 : decode cX9_begins 45 = .ok (.invokevirtual 134, 3) := by decide +kernel
theorem dX9_begins_48 : decode cX9_begins 48 = .ok (.aload_n 0, 1) := by decide +kernel
theorem dX9_begins_49 : decode cX9_begins 49 = .ok (.getfield 107, 3) := by decide +kernel
theorem dX9_begins_52 : decode cX9_begins 52 = .ok (.ifCond .ne 7, 3) := by decide +kernel
theorem dX9_begins_55 : decode cX9_begins 55 = .ok (.aload_n 0, 1) := by decide +kernel
theorem dX9_begins_56 : decode cX9_begins 56 = .ok (.invokevirtual 128, 3) := by decide +kernel
theorem dX9_begins_59 : decode cX9_begins 59 = .ok (.iconst 1, 1) := by decide +kernel
theorem dX9_begins_60 : decode cX9_begins 60 = .ok (.ireturn, 1) := by decide +kernel
theorem dX9_readLine_0 : decode cX9_readLine 0 = .ok (.aload_n 0, 1) := by decide +kernel
theorem dX9_readLine_1 : decode cX9_readLine 1 = .ok (.ldc 168, 2) := by decide +kernel
theorem dX9_readLine_3 : decode cX9_readLine 3 = .ok (.aload_n 0, 1) := by decide +kernel
theorem dX9_readLine_4 : decode cX9_readLine 4 = .ok (.getfield 23, 3) := by decide +kernel
theorem dX9_readLine_7 : decode cX9_readLine 7 = .ok (.bipush 80, 2) := by decide +kernel
theorem dX9_readLine_9 : decode cX9_readLine 9 = .ok (.iaload, 1) := by decide +kernel
theorem dX9_readLine_10 : decode cX9_readLine 10 = .ok (.ifCond .ne 7, 3) := by decide +kernel
theorem dX9_readLine_13 : decode cX9_readLine 13 = .ok (.iconst 1, 1) := by decide +kernel
theorem dX9_readLine_14 : decode cX9_readLine 14 = .ok (.goto 4, 3) := by decide +kernel
theorem dX9_readLine_17 : decode cX9_readLine 17 = .ok (.iconst 0, 1) := by decide +kernel
theorem dX9_readLine_18 : decode cX9_readLine 18 = .ok (.iconst 3, 1) := by decide +kernel
theorem dX9_readLine_19 : decode cX9_readLine 19 = .ok (.iconst 0, 1) := by decide +kernel
theorem dX9_readLine_20 : decode cX9_readLine 20 = .ok (.invokevirtual 170, 3) := by decide +kernel
theorem dX9_readLine_23 : decode cX9_readLine 23 = .ok (.ifCond .eq 10, 3) := by decide +kernel
theorem dX9_readLine_26 : decode cX9_readLine 26 = .ok (.aload_n 0, 1) := by decide +kernel
theorem dX9_readLine_27 : decode cX9_readLine 27 = .ok (.invokevirtual 174, 3) := by decide +kernel
theorem dX9_readLine_30 : decode cX9_readLine 30 = .ok (.goto 167, 3) := by decide +kernel
theorem dX9_readLine_33 : decode cX9_readLine 33 = .ok (.aload_n 0, 1) := by decide +kernel
theorem dX9_readLine_34 : decode cX9_readLine 34 = .ok (.ldc 177, 2) := by decide +kernel
theorem dX9_readLine_36 : decode cX9_readLine 36 = .ok (.iconst 1, 1) := by decide +kernel
theorem dX9_readLine_37 : decode cX9_readLine 37 = .ok (.iconst 1, 1) := by decide +kernel
theorem dX9_readLine_38 : decode cX9_readLine 38 = .ok (.iconst 1, 1) := by decide +kernel
theorem dX9_readLine_39 : decode cX9_readLine 39 = .ok (.invokevirtual 170, 3) := by decide +kernel
theorem dX9_readLine_42 : decode cX9_readLine 42 = .ok (.ifCond .eq 10, 3) := by decide +kernel
theorem dX9_readLine_45 : decode cX9_readLine 45 = .ok (.aload_n 0, 1) := by decide +kernel
theorem dX9_readLine_46 : decode cX9_readLine 46 = .ok (.invokevirtual 179, 3) := by decide +kernel
theorem dX9_readLine_49 : decode cX9_readLine 49 = .ok (.goto 148, 3) := by decide +kernel
theorem dX9_readLine_52 : decode cX9_readLine 52 = .ok (.aload_n 0, 1) := by decide +kernel
theorem dX9_readLine_53 : decode cX9_readLine 53 = .ok (.ldc 182, 2) := by decide +kernel
theorem dX9_readLine_55 : decode cX9_readLine 55 = .ok (.aload_n 0, 1) := by decide +kernel
theorem dX9_readLine_56 : decode cX9_readLine 56 = .ok (.getfield 23, 3) := by decide +kernel
theorem dX9_readLine_59 : decode cX9_readLine 59 = .ok (.bipush 17, 2) := by decide +kernel
theorem dX9_readLine_61 : decode cX9_readLine 61 = .ok (.iaload, 1) := by decide +kernel
theorem dX9_readLine_62 : decode cX9_readLine 62 = .ok (.bipush 6, 2) := by decide +kernel
theorem dX9_readLine_64 : decode cX9_readLine 64 = .ok (.if_icmp .ge 7, 3) := by decide +kernel
theorem dX9_readLine_67 : decode cX9_readLine 67 = .ok (.iconst 1, 1) := by decide +kernel
theorem dX9_readLine_68 : decode cX9_readLine 68 = .ok (.goto 4, 3) := by decide +kernel
theorem dX9_readLine_71 : decode cX9_readLine 71 = .ok (.iconst 0, 1) := by decide +kernel
theorem dX9_readLine_72 : decode cX9_readLine 72 = .ok (.iconst 5, 1) := by decide +kernel
theorem dX9_readLine_73 : decode cX9_readLine 73 = .ok (.iconst 0, 1) := by decide +kernel
theorem dX9_readLine_74 : decode cX9_readLine 74 = .ok (.invokevirtual 170, 3) := by decide +kernel
theorem dX9_readLine_77 : decode cX9_readLine 77 = .ok (.ifCond .eq 10, 3) := by decide +kernel
theorem dX9_readLine_80 : decode cX9_readLine 80 = .ok (.aload_n 0, 1) := by decide +kernel
theorem dX9_readLine_81 : decode cX9_readLine 81 = .ok (.invokevirtual 184, 3) := by decide +kernel
theorem dX9_readLine_84 : decode cX9_readLine 84 = .ok (.goto 113, 3) := by decide +kernel
theorem dX9_readLine_87 : decode cX9_readLine 87 = .ok (.aload_n 0, 1) := by decide +kernel
theorem dX9_readLine_88 : decode cX9_readLine 88 = .ok (.ldc 187, 2) := by decide +kernel
theorem dX9_readLine_90 : decode cX9_readLine 90 = .ok (.aload_n 0, 1) := by decide +kernel
theorem dX9_readLine_91 : decode cX9_readLine 91 = .ok (.getfield 23, 3) := by decide +kernel
theorem dX9_readLine_94 : decode cX9_readLine 94 = .ok (.bipush 37, 2) := by decide +kernel
theorem dX9_readLine_96 : decode cX9_readLine 96 = .ok (.iaload, 1) := by decide +kernel
theorem dX9_readLine_97 : decode cX9_readLine 97 = .ok (.ifCond .ne 7, 3) := by decide +kernel
theorem dX9_readLine_100 : decode cX9_readLine 100 = .ok (.iconst 1, 1) := by decide +kernel
theorem dX9_readLine_101 : decode cX9_readLine 101 = .ok (.goto 4, 3) := by decide +kernel
theorem dX9_readLine_104 : decode cX9_readLine 104 = .ok (.iconst 0, 1) := by decide +kernel
theorem dX9_readLine_105 : decode cX9_readLine 105 = .ok (.iconst 3, 1) := by decide +kernel
theorem dX9_readLine_106 : decode cX9_readLine 106 = .ok (.iconst 1, 1) := by decide +kernel
theorem dX9_readLine_107 : decode cX9_readLine 107 = .ok (.invokevirtual 170, 3) := by decide +kernel
theorem dX9_readLine_110 : decode cX9_readLine 110 = .ok (.ifCond .eq 10, 3) := by decide +kernel
theorem dX9_readLine_113 : decode cX9_readLine 113 = .ok (.aload_n 0, 1) := by decide +kernel
theorem dX9_readLine_114 : decode cX9_readLine 114 = .ok (.invokevirtual 189, 3) := by decide +kernel
theorem dX9_readLine_117 : decode cX9_readLine 117 = .ok (.goto 80, 3) := by decide +kernel
theorem dX9_readLine_120 : decode cX9_readLine 120 = .ok (.aload_n 0, 1) := by decide +kernel
theorem dX9_readLine_121 : decode cX9_readLine 121 = .ok (.ldc 192, 2) := by decide +kernel
theorem dX9_readLine_123 : decode cX9_readLine 123 = .ok (.aload_n 0, 1) := by decide +kernel
theorem dX9_readLine_124 : decode cX9_readLine 124 = .ok (.getfield 23, 3) := by decide +kernel
theorem dX9_readLine_127 : decode cX9_readLine 127 = .ok (.bipush 38, 2) := by decide +kernel
theorem dX9_readLine_129 : decode cX9_readLine 129 = .ok (.iaload, 1) := by decide +kernel
theorem dX9_readLine_130 : decode cX9_readLine 130 = .ok (.ifCond .ne 7, 3) := by decide +kernel
theorem dX9_readLine_133 : decode cX9_readLine 133 = .ok (.iconst 1, 1) := by decide +kernel
theorem dX9_readLine_134 : decode cX9_readLine 134 = .ok (.goto 4, 3) := by decide +kernel
theorem dX9_readLine_137 : decode cX9_readLine 137 = .ok (.iconst 0, 1) := by decide +kernel
theorem dX9_readLine_138 : decode cX9_readLine 138 = .ok (.iconst 3, 1) := by decide +kernel
theorem dX9_readLine_139 : decode cX9_readLine 139 = .ok (.iconst 0, 1) := by decide +kernel
theorem dX9_readLine_140 : decode cX9_readLine 140 = .ok (.invokevirtual 170, 3) := by decide +kernel
theorem dX9_readLine_143 : decode cX9_readLine 143 = .ok (.ifCond .eq 10, 3) := by decide +kernel
theorem dX9_readLine_146 : decode cX9_readLine 146 = .ok (.aload_n 0, 1) := by decide +kernel
theorem dX9_readLine_147 : decode cX9_readLine 147 = .ok (.invokevirtual 194, 3) := by decide +kernel
theorem dX9_readLine_150 : decode cX9_readLine 150 = .ok (.goto 47, 3) := by decide +kernel
theorem dX9_readLine_153 : decode cX9_readLine 153 = .ok (.aload_n 0, 1) := by decide +kernel
theorem dX9_readLine_154 : decode cX9_readLine 154 = .ok (.ldc 197, 2) := by decide +kernel
theorem dX9_readLine_156 : decode cX9_readLine 156 = .ok (.aload_n 0, 1) := by decide +kernel
theorem dX9_readLine_157 : decode cX9_readLine 157 = .ok (.getfield 23, 3) := by decide +kernel
theorem dX9_readLine_160 : decode cX9_readLine 160 = .ok (.bipush 39, 2) := by decide +kernel
theorem dX9_readLine_162 : decode cX9_readLine 162 = .ok (.iaload, 1) := by decide +kernel
theorem dX9_readLine_163 : decode cX9_readLine 163 = .ok (.bipush 8, 2) := by decide +kernel
theorem dX9_readLine_165 : decode cX9_readLine 165 = .ok (.if_icmp .ge 7, 3) := by decide +kernel
theorem dX9_readLine_168 : decode cX9_readLine 168 = .ok (.iconst 1, 1) := by decide +kernel
theorem dX9_readLine_169 : decode cX9_readLine 169 = .ok (.goto 4, 3) := by decide +kernel
theorem dX9_readLine_172 : decode cX9_readLine 172 = .ok (.iconst 0, 1) := by decide +kernel
theorem dX9_readLine_173 : decode cX9_readLine 173 = .ok (.iconst 5, 1) := by decide +kernel
theorem dX9_readLine_174 : decode cX9_readLine 174 = .ok (.iconst 1, 1) := by decide +kernel
theorem dX9_readLine_175 : decode cX9_readLine 175 = .ok (.invokevirtual 170, 3) := by decide +kernel
theorem dX9_readLine_178 : decode cX9_readLine 178 = .ok (.ifCond .eq 10, 3) := by decide +kernel
theorem dX9_readLine_181 : decode cX9_readLine 181 = .ok (.aload_n 0, 1) := by decide +kernel
theorem dX9_readLine_182 : decode cX9_readLine 182 = .ok (.invokevirtual 199, 3) := by decide +kernel
theorem dX9_readLine_185 : decode cX9_readLine 185 = .ok (.goto 12, 3) := by decide +kernel
theorem dX9_readLine_188 : decode cX9_readLine 188 = .ok (.aload_n 0, 1) := by decide +kernel
theorem dX9_readLine_189 : decode cX9_readLine 189 = .ok (.iconst 1, 1) := by decide +kernel
theorem dX9_readLine_190 : decode cX9_readLine 190 = .ok (.aload_n 0, 1) := by decide +kernel
theorem dX9_readLine_191 : decode cX9_readLine 191 = .ok (.getfield 88, 3) := by decide +kernel
theorem dX9_readLine_194 : decode cX9_readLine 194 = .ok (.invokevirtual 134, 3) := by decide +kernel
theorem dX9_readLine_197 : decode cX9_readLine 197 = .ok (.return_, 1) := by decide +kernel
theorem dX9_hallLine_0 : decode cX9_hallLine 0 = .ok (.aload_n 0, 1) := by decide +kernel
theorem dX9_hallLine_1 : decode cX9_hallLine 1 = .ok (.getfield 107, 3) := by decide +kernel
theorem dX9_hallLine_4 : decode cX9_hallLine 4 = .ok (.ifCond .eq 4, 3) := by decide +kernel
theorem dX9_hallLine_7 : decode cX9_hallLine 7 = .ok (.return_, 1) := by decide +kernel
theorem dX9_hallLine_8 : decode cX9_hallLine 8 = .ok (.aload_n 0, 1) := by decide +kernel
theorem dX9_hallLine_9 : decode cX9_hallLine 9 = .ok (.getfield 23, 3) := by decide +kernel
theorem dX9_hallLine_12 : decode cX9_hallLine 12 = .ok (.iconst 0, 1) := by decide +kernel
theorem dX9_hallLine_13 : decode cX9_hallLine 13 = .ok (.aload_n 0, 1) := by decide +kernel
theorem dX9_hallLine_14 : decode cX9_hallLine 14 = .ok (.ldc 202, 2) := by decide +kernel
theorem dX9_hallLine_16 : decode cX9_hallLine 16 = .ok (.iconst 1, 1) := by decide +kernel
theorem dX9_hallLine_17 : decode cX9_hallLine 17 = .ok (.iconst 5, 1) := by decide +kernel
theorem dX9_hallLine_18 : decode cX9_hallLine 18 = .ok (.invokevirtual 204, 3) := by decide +kernel
theorem dX9_hallLine_21 : decode cX9_hallLine 21 = .ok (.iastore, 1) := by decide +kernel
theorem dX9_hallLine_22 : decode cX9_hallLine 22 = .ok (.aload_n 0, 1) := by decide +kernel
theorem dX9_hallLine_23 : decode cX9_hallLine 23 = .ok (.getfield 23, 3) := by decide +kernel
theorem dX9_hallLine_26 : decode cX9_hallLine 26 = .ok (.iconst 1, 1) := by decide +kernel
theorem dX9_hallLine_27 : decode cX9_hallLine 27 = .ok (.aload_n 0, 1) := by decide +kernel
theorem dX9_hallLine_28 : decode cX9_hallLine 28 = .ok (.ldc 208, 2) := by decide +kernel
theorem dX9_hallLine_30 : decode cX9_hallLine 30 = .ok (.iconst 0, 1) := by decide +kernel
theorem dX9_hallLine_31 : decode cX9_hallLine 31 = .ok (.bipush 8, 2) := by decide +kernel
theorem dX9_hallLine_33 : decode cX9_hallLine 33 = .ok (.invokevirtual 204, 3) := by decide +kernel
theorem dX9_hallLine_36 : decode cX9_hallLine 36 = .ok (.iastore, 1) := by decide +kernel
theorem dX9_hallLine_37 : decode cX9_hallLine 37 = .ok (.aload_n 0, 1) := by decide +kernel
theorem dX9_hallLine_38 : decode cX9_hallLine 38 = .ok (.getfield 107, 3) := by decide +kernel
theorem dX9_hallLine_41 : decode cX9_hallLine 41 = .ok (.ifCond .ne 11, 3) := by decide +kernel
theorem dX9_hallLine_44 : decode cX9_hallLine 44 = .ok (.aload_n 0, 1) := by decide +kernel
theorem dX9_hallLine_45 : decode cX9_hallLine 45 = .ok (.getfield 23, 3) := by decide +kernel
theorem dX9_hallLine_48 : decode cX9_hallLine 48 = .ok (.bipush 80, 2) := by decide +kernel
theorem dX9_hallLine_50 : decode cX9_hallLine 50 = .ok (.iconst 1, 1) := by decide +kernel
theorem dX9_hallLine_51 : decode cX9_hallLine 51 = .ok (.iastore, 1) := by decide +kernel
theorem dX9_hallLine_52 : decode cX9_hallLine 52 = .ok (.return_, 1) := by decide +kernel
theorem dX9_boxLine_0 : decode cX9_boxLine 0 = .ok (.aload_n 0, 1) := by decide +kernel
theorem dX9_boxLine_1 : decode cX9_boxLine 1 = .ok (.getfield 107, 3) := by decide +kernel
theorem dX9_boxLine_4 : decode cX9_boxLine 4 = .ok (.ifCond .eq 4, 3) := by decide +kernel
theorem dX9_boxLine_7 : decode cX9_boxLine 7 = .ok (.return_, 1) := by decide +kernel
theorem dX9_boxLine_8 : decode cX9_boxLine 8 = .ok (.aload_n 0, 1) := by decide +kernel
theorem dX9_boxLine_9 : decode cX9_boxLine 9 = .ok (.getfield 97, 3) := by decide +kernel
theorem dX9_boxLine_12 : decode cX9_boxLine 12 = .ok (.iconst 3, 1) := by decide +kernel
theorem dX9_boxLine_13 : decode cX9_boxLine 13 = .ok (.if_icmp .ne 36, 3) := by decide +kernel
theorem dX9_boxLine_16 : decode cX9_boxLine 16 = .ok (.aload_n 0, 1) := by decide +kernel
theorem dX9_boxLine_17 : decode cX9_boxLine 17 = .ok (.getfield 94, 3) := by decide +kernel
theorem dX9_boxLine_20 : decode cX9_boxLine 20 = .ok (.aload_n 0, 1) := by decide +kernel
theorem dX9_boxLine_21 : decode cX9_boxLine 21 = .ok (.getfield 23, 3) := by decide +kernel
theorem dX9_boxLine_24 : decode cX9_boxLine 24 = .ok (.iconst 0, 1) := by decide +kernel
theorem dX9_boxLine_25 : decode cX9_boxLine 25 = .ok (.iaload, 1) := by decide +kernel
theorem dX9_boxLine_26 : decode cX9_boxLine 26 = .ok (.if_icmp .ge 23, 3) := by decide +kernel
theorem dX9_boxLine_29 : decode cX9_boxLine 29 = .ok (.aload_n 0, 1) := by decide +kernel
theorem dX9_boxLine_30 : decode cX9_boxLine 30 = .ok (.getfield 23, 3) := by decide +kernel
theorem dX9_boxLine_33 : decode cX9_boxLine 33 = .ok (.bipush 12, 2) := by decide +kernel
theorem dX9_boxLine_35 : decode cX9_boxLine 35 = .ok (.aload_n 0, 1) := by decide +kernel
theorem dX9_boxLine_36 : decode cX9_boxLine 36 = .ok (.getfield 94, 3) := by decide +kernel
theorem dX9_boxLine_39 : decode cX9_boxLine 39 = .ok (.iadd, 1) := by decide +kernel
theorem dX9_boxLine_40 : decode cX9_boxLine 40 = .ok (.iaload, 1) := by decide +kernel
theorem dX9_boxLine_41 : decode cX9_boxLine 41 = .ok (.iconst 1, 1) := by decide +kernel
theorem dX9_boxLine_42 : decode cX9_boxLine 42 = .ok (.if_icmp .ne 7, 3) := by decide +kernel
theorem dX9_boxLine_45 : decode cX9_boxLine 45 = .ok (.iconst 1, 1) := by decide +kernel
theorem dX9_boxLine_46 : decode cX9_boxLine 46 = .ok (.goto 4, 3) := by decide +kernel
theorem dX9_boxLine_49 : decode cX9_boxLine 49 = .ok (.iconst 0, 1) := by decide +kernel
theorem dX9_boxLine_50 : decode cX9_boxLine 50 = .ok (.istore_n 1, 1) := by decide +kernel
theorem dX9_boxLine_51 : decode cX9_boxLine 51 = .ok (.iload_n 1, 1) := by decide +kernel
theorem dX9_boxLine_52 : decode cX9_boxLine 52 = .ok (.ifCond .eq 12, 3) := by decide +kernel
theorem dX9_boxLine_55 : decode cX9_boxLine 55 = .ok (.aload_n 0, 1) := by decide +kernel
theorem dX9_boxLine_56 : decode cX9_boxLine 56 = .ok (.iconst 3, 1) := by decide +kernel
theorem dX9_boxLine_57 : decode cX9_boxLine 57 = .ok (.aload_n 0, 1) := by decide +kernel
theorem dX9_boxLine_58 : decode cX9_boxLine 58 = .ok (.getfield 88, 3) := by decide +kernel
theorem dX9_boxLine_61 : decode cX9_boxLine 61 = .ok (.invokevirtual 134, 3) := by decide +kernel
theorem dX9_boxLine_64 : decode cX9_boxLine 64 = .ok (.aload_n 0, 1) := by decide +kernel
theorem dX9_boxLine_65 : decode cX9_boxLine 65 = .ok (.iconst 0, 1) := by decide +kernel
theorem dX9_boxLine_66 : decode cX9_boxLine 66 = .ok (.aload_n 0, 1) := by decide +kernel
theorem dX9_boxLine_67 : decode cX9_boxLine 67 = .ok (.getfield 23, 3) := by decide +kernel
theorem dX9_boxLine_70 : decode cX9_boxLine 70 = .ok (.iconst 0, 1) := by decide +kernel
theorem dX9_boxLine_71 : decode cX9_boxLine 71 = .ok (.iaload, 1) := by decide +kernel
theorem dX9_boxLine_72 : decode cX9_boxLine 72 = .ok (.iconst 1, 1) := by decide +kernel
theorem dX9_boxLine_73 : decode cX9_boxLine 73 = .ok (.isub, 1) := by decide +kernel
theorem dX9_boxLine_74 : decode cX9_boxLine 74 = .ok (.invokevirtual 146, 3) := by decide +kernel
theorem dX9_boxLine_77 : decode cX9_boxLine 77 = .ok (.istore_n 2, 1) := by decide +kernel
theorem dX9_boxLine_78 : decode cX9_boxLine 78 = .ok (.aload_n 0, 1) := by decide +kernel
theorem dX9_boxLine_79 : decode cX9_boxLine 79 = .ok (.getfield 107, 3) := by decide +kernel
theorem dX9_boxLine_82 : decode cX9_boxLine 82 = .ok (.ifCond .eq 4, 3) := by decide +kernel
theorem dX9_boxLine_85 : decode cX9_boxLine 85 = .ok (.return_, 1) := by decide +kernel
theorem dX9_boxLine_86 : decode cX9_boxLine 86 = .ok (.aload_n 0, 1) := by decide +kernel
theorem dX9_boxLine_87 : decode cX9_boxLine 87 = .ok (.getfield 23, 3) := by decide +kernel
theorem dX9_boxLine_90 : decode cX9_boxLine 90 = .ok (.iconst 2, 1) := by decide +kernel
theorem dX9_boxLine_91 : decode cX9_boxLine 91 = .ok (.iload_n 2, 1) := by decide +kernel
theorem dX9_boxLine_92 : decode cX9_boxLine 92 = .ok (.iadd, 1) := by decide +kernel
theorem dX9_boxLine_93 : decode cX9_boxLine 93 = .ok (.aload_n 0, 1) := by decide +kernel
theorem dX9_boxLine_94 : decode cX9_boxLine 94 = .ok (.ldc 209, 2) := by decide +kernel
theorem dX9_boxLine_96 : decode cX9_boxLine 96 = .ok (.iconst 1, 1) := by decide +kernel
theorem dX9_boxLine_97 : decode cX9_boxLine 97 = .ok (.bipush 8, 2) := by decide +kernel
theorem dX9_boxLine_99 : decode cX9_boxLine 99 = .ok (.invokevirtual 204, 3) := by decide +kernel
theorem dX9_boxLine_102 : decode cX9_boxLine 102 = .ok (.iastore, 1) := by decide +kernel
theorem dX9_boxLine_103 : decode cX9_boxLine 103 = .ok (.aload_n 0, 1) := by decide +kernel
theorem dX9_boxLine_104 : decode cX9_boxLine 104 = .ok (.getfield 23, 3) := by decide +kernel
theorem dX9_boxLine_107 : decode cX9_boxLine 107 = .ok (.bipush 7, 2) := by decide +kernel
theorem dX9_boxLine_109 : decode cX9_boxLine 109 = .ok (.iload_n 2, 1) := by decide +kernel
theorem dX9_boxLine_110 : decode cX9_boxLine 110 = .ok (.iadd, 1) := by decide +kernel
theorem dX9_boxLine_111 : decode cX9_boxLine 111 = .ok (.aload_n 0, 1) := by decide +kernel
theorem dX9_boxLine_112 : decode cX9_boxLine 112 = .ok (.ldc 211, 2) := by decide +kernel
theorem dX9_boxLine_114 : decode cX9_boxLine 114 = .ok (.iconst 1, 1) := by decide +kernel
theorem dX9_boxLine_115 : decode cX9_boxLine 115 = .ok (.iconst 3, 1) := by decide +kernel
theorem dX9_boxLine_116 : decode cX9_boxLine 116 = .ok (.invokevirtual 204, 3) := by decide +kernel
theorem dX9_boxLine_119 : decode cX9_boxLine 119 = .ok (.iastore, 1) := by decide +kernel
theorem dX9_boxLine_120 : decode cX9_boxLine 120 = .ok (.aload_n 0, 1) := by decide +kernel
theorem dX9_boxLine_121 : decode cX9_boxLine 121 = .ok (.getfield 23, 3) := by decide +kernel
theorem dX9_boxLine_124 : decode cX9_boxLine 124 = .ok (.bipush 12, 2) := by decide +kernel
theorem dX9_boxLine_126 : decode cX9_boxLine 126 = .ok (.iload_n 2, 1) := by decide +kernel
theorem dX9_boxLine_127 : decode cX9_boxLine 127 = .ok (.iadd, 1) := by decide +kernel
theorem dX9_boxLine_128 : decode cX9_boxLine 128 = .ok (.iconst 1, 1) := by decide +kernel
theorem dX9_boxLine_129 : decode cX9_boxLine 129 = .ok (.iastore, 1) := by decide +kernel
theorem dX9_boxLine_130 : decode cX9_boxLine 130 = .ok (.return_, 1) := by decide +kernel
theorem dX9_porterLine_0 : decode cX9_porterLine 0 = .ok (.aload_n 0, 1) := by decide +kernel
theorem dX9_porterLine_1 : decode cX9_porterLine 1 = .ok (.getfield 107, 3) := by decide +kernel
theorem dX9_porterLine_4 : decode cX9_porterLine 4 = .ok (.ifCond .eq 4, 3) := by decide +kernel
theorem dX9_porterLine_7 : decode cX9_porterLine 7 = .ok (.return_, 1) := by decide +kernel
theorem dX9_porterLine_8 : decode cX9_porterLine 8 = .ok (.aload_n 0, 1) := by decide +kernel
theorem dX9_porterLine_9 : decode cX9_porterLine 9 = .ok (.getfield 23, 3) := by decide +kernel
theorem dX9_porterLine_12 : decode cX9_porterLine 12 = .ok (.bipush 17, 2) := by decide +kernel
theorem dX9_porterLine_14 : decode cX9_porterLine 14 = .ok (.iaload, 1) := by decide +kernel
theorem dX9_porterLine_15 : decode cX9_porterLine 15 = .ok (.istore_n 1, 1) := by decide +kernel
theorem dX9_porterLine_16 : decode cX9_porterLine 16 = .ok (.aload_n 0, 1) := by decide +kernel
theorem dX9_porterLine_17 : decode cX9_porterLine 17 = .ok (.ldc 168, 2) := by decide +kernel
theorem dX9_porterLine_19 : decode cX9_porterLine 19 = .ok (.invokevirtual 124, 3) := by decide +kernel
theorem dX9_porterLine_22 : decode cX9_porterLine 22 = .ok (.ifCond .ne 48, 3) := by decide +kernel
theorem dX9_porterLine_25 : decode cX9_porterLine 25 = .ok (.aload_n 0, 1) := by decide +kernel
theorem dX9_porterLine_26 : decode cX9_porterLine 26 = .ok (.ldc 177, 2) := by decide +kernel
theorem dX9_porterLine_28 : decode cX9_porterLine 28 = .ok (.invokevirtual 124, 3) := by decide +kernel
theorem dX9_porterLine_31 : decode cX9_porterLine 31 = .ok (.ifCond .ne 39, 3) := by decide +kernel
theorem dX9_porterLine_34 : decode cX9_porterLine 34 = .ok (.aload_n 0, 1) := by decide +kernel
theorem dX9_porterLine_35 : decode cX9_porterLine 35 = .ok (.ldc 182, 2) := by decide +kernel
theorem dX9_porterLine_37 : decode cX9_porterLine 37 = .ok (.invokevirtual 124, 3) := by decide +kernel
theorem dX9_porterLine_40 : decode cX9_porterLine 40 = .ok (.ifCond .ne 30, 3) := by decide +kernel
theorem dX9_porterLine_43 : decode cX9_porterLine 43 = .ok (.aload_n 0, 1) := by decide +kernel
theorem dX9_porterLine_44 : decode cX9_porterLine 44 = .ok (.ldc 187, 2) := by decide +kernel
theorem dX9_porterLine_46 : decode cX9_porterLine 46 = .ok (.invokevirtual 124, 3) := by decide +kernel
theorem dX9_porterLine_49 : decode cX9_porterLine 49 = .ok (.ifCond .ne 21, 3) := by decide +kernel
theorem dX9_porterLine_52 : decode cX9_porterLine 52 = .ok (.aload_n 0, 1) := by decide +kernel
theorem dX9_porterLine_53 : decode cX9_porterLine 53 = .ok (.ldc 192, 2) := by decide +kernel
theorem dX9_porterLine_55 : decode cX9_porterLine 55 = .ok (.invokevirtual 124, 3) := by decide +kernel
theorem dX9_porterLine_58 : decode cX9_porterLine 58 = .ok (.ifCond .ne 12, 3) := by decide +kernel
theorem dX9_porterLine_61 : decode cX9_porterLine 61 = .ok (.aload_n 0, 1) := by decide +kernel
theorem dX9_porterLine_62 : decode cX9_porterLine 62 = .ok (.ldc 197, 2) := by decide +kernel
theorem dX9_porterLine_64 : decode cX9_porterLine 64 = .ok (.invokevirtual 124, 3) := by decide +kernel
theorem dX9_porterLine_67 : decode cX9_porterLine 67 = .ok (.ifCond .eq 7, 3) := by decide +kernel
theorem dX9_porterLine_70 : decode cX9_porterLine 70 = .ok (.iconst 1, 1) := by decide +kernel
theorem dX9_porterLine_71 : decode cX9_porterLine 71 = .ok (.goto 4, 3) := by decide +kernel
theorem dX9_porterLine_74 : decode cX9_porterLine 74 = .ok (.iconst 0, 1) := by decide +kernel
theorem dX9_porterLine_75 : decode cX9_porterLine 75 = .ok (.istore_n 2, 1) := by decide +kernel
theorem dX9_porterLine_76 : decode cX9_porterLine 76 = .ok (.aload_n 0, 1) := by decide +kernel
theorem dX9_porterLine_77 : decode cX9_porterLine 77 = .ok (.getfield 97, 3) := by decide +kernel
theorem dX9_porterLine_80 : decode cX9_porterLine 80 = .ok (.iconst 2, 1) := by decide +kernel
theorem dX9_porterLine_81 : decode cX9_porterLine 81 = .ok (.if_icmp .ne 7, 3) := by decide +kernel
theorem dX9_porterLine_84 : decode cX9_porterLine 84 = .ok (.iload_n 2, 1) := by decide +kernel
theorem dX9_porterLine_85 : decode cX9_porterLine 85 = .ok (.ifCond .eq 12, 3) := by decide +kernel
theorem dX9_porterLine_88 : decode cX9_porterLine 88 = .ok (.aload_n 0, 1) := by decide +kernel
theorem dX9_porterLine_89 : decode cX9_porterLine 89 = .ok (.iconst 1, 1) := by decide +kernel
theorem dX9_porterLine_90 : decode cX9_porterLine 90 = .ok (.aload_n 0, 1) := by decide +kernel
theorem dX9_porterLine_91 : decode cX9_porterLine 91 = .ok (.getfield 88, 3) := by decide +kernel
theorem dX9_porterLine_94 : decode cX9_porterLine 94 = .ok (.invokevirtual 134, 3) := by decide +kernel
theorem dX9_porterLine_97 : decode cX9_porterLine 97 = .ok (.iconst 0, 1) := by decide +kernel
theorem dX9_porterLine_98 : decode cX9_porterLine 98 = .ok (.istore_n 3, 1) := by decide +kernel
theorem dX9_porterLine_99 : decode cX9_porterLine 99 = .ok (.iload_n 3, 1) := by decide +kernel
theorem dX9_porterLine_100 : decode cX9_porterLine 100 = .ok (.iload_n 1, 1) := by decide +kernel
theorem dX9_porterLine_101 : decode cX9_porterLine 101 = .ok (.if_icmp .ge 108, 3) := by decide +kernel
theorem dX9_porterLine_104 : decode cX9_porterLine 104 = .ok (.aload_n 0, 1) := by decide +kernel
theorem dX9_porterLine_105 : decode cX9_porterLine 105 = .ok (.getfield 107, 3) := by decide +kernel
theorem dX9_porterLine_108 : decode cX9_porterLine 108 = .ok (.ifCond .ne 101, 3) := by decide +kernel
theorem dX9_porterLine_111 : decode cX9_porterLine 111 = .ok (.aload_n 0, 1) := by decide +kernel
theorem dX9_porterLine_112 : decode cX9_porterLine 112 = .ok (.getfield 23, 3) := by decide +kernel
theorem dX9_porterLine_115 : decode cX9_porterLine 115 = .ok (.bipush 81, 2) := by decide +kernel
theorem dX9_porterLine_117 : decode cX9_porterLine 117 = .ok (.iload_n 3, 1) := by decide +kernel
theorem dX9_porterLine_118 : decode cX9_porterLine 118 = .ok (.iadd, 1) := by decide +kernel
theorem dX9_porterLine_119 : decode cX9_porterLine 119 = .ok (.iaload, 1) := by decide +kernel
theorem dX9_porterLine_120 : decode cX9_porterLine 120 = .ok (.aload_n 0, 1) := by decide +kernel
theorem dX9_porterLine_121 : decode cX9_porterLine 121 = .ok (.getfield 91, 3) := by decide +kernel
theorem dX9_porterLine_124 : decode cX9_porterLine 124 = .ok (.if_icmp .ne 7, 3) := by decide +kernel
theorem dX9_porterLine_127 : decode cX9_porterLine 127 = .ok (.iconst 1, 1) := by decide +kernel
theorem dX9_porterLine_128 : decode cX9_porterLine 128 = .ok (.goto 4, 3) := by decide +kernel
theorem dX9_porterLine_131 : decode cX9_porterLine 131 = .ok (.iconst 0, 1) := by decide +kernel
theorem dX9_porterLine_132 : decode cX9_porterLine 132 = .ok (.istore 4, 2) := by decide +kernel
theorem dX9_porterLine_134 : decode cX9_porterLine 134 = .ok (.iconst 0, 1) := by decide +kernel
theorem dX9_porterLine_135 : decode cX9_porterLine 135 = .ok (.istore 5, 2) := by decide +kernel
theorem dX9_porterLine_137 : decode cX9_porterLine 137 = .ok (.iload 5, 2) := by decide +kernel
theorem dX9_porterLine_139 : decode cX9_porterLine 139 = .ok (.aload_n 0, 1) := by decide +kernel
theorem dX9_porterLine_140 : decode cX9_porterLine 140 = .ok (.getfield 91, 3) := by decide +kernel
theorem dX9_porterLine_143 : decode cX9_porterLine 143 = .ok (.if_icmp .ge 46, 3) := by decide +kernel
theorem dX9_porterLine_146 : decode cX9_porterLine 146 = .ok (.iload 4, 2) := by decide +kernel
theorem dX9_porterLine_148 : decode cX9_porterLine 148 = .ok (.ifCond .eq 41, 3) := by decide +kernel
theorem dX9_porterLine_151 : decode cX9_porterLine 151 = .ok (.aload_n 0, 1) := by decide +kernel
theorem dX9_porterLine_152 : decode cX9_porterLine 152 = .ok (.getfield 23, 3) := by decide +kernel
theorem dX9_porterLine_155 : decode cX9_porterLine 155 = .ok (.bipush 87, 2) := by decide +kernel
theorem dX9_porterLine_157 : decode cX9_porterLine 157 = .ok (.bipush 8, 2) := by decide +kernel
theorem dX9_porterLine_159 : decode cX9_porterLine 159 = .ok (.iload_n 3, 1) := by decide +kernel
theorem dX9_porterLine_160 : decode cX9_porterLine 160 = .ok (.imul, 1) := by decide +kernel
theorem dX9_porterLine_161 : decode cX9_porterLine 161 = .ok (.iadd, 1) := by decide +kernel
theorem dX9_porterLine_162 : decode cX9_porterLine 162 = .ok (.iload 5, 2) := by decide +kernel
theorem dX9_porterLine_164 : decode cX9_porterLine 164 = .ok (.iadd, 1) := by decide +kernel
theorem dX9_porterLine_165 : decode cX9_porterLine 165 = .ok (.iaload, 1) := by decide +kernel
theorem dX9_porterLine_166 : decode cX9_porterLine 166 = .ok (.aload_n 0, 1) := by decide +kernel
theorem dX9_porterLine_167 : decode cX9_porterLine 167 = .ok (.getfield 17, 3) := by decide +kernel
theorem dX9_porterLine_170 : decode cX9_porterLine 170 = .ok (.iload 5, 2) := by decide +kernel
theorem dX9_porterLine_172 : decode cX9_porterLine 172 = .ok (.iaload, 1) := by decide +kernel
theorem dX9_porterLine_173 : decode cX9_porterLine 173 = .ok (.if_icmp .ne 7, 3) := by decide +kernel
theorem dX9_porterLine_176 : decode cX9_porterLine 176 = .ok (.iconst 1, 1) := by decide +kernel
theorem dX9_porterLine_177 : decode cX9_porterLine 177 = .ok (.goto 4, 3) := by decide +kernel
theorem dX9_porterLine_180 : decode cX9_porterLine 180 = .ok (.iconst 0, 1) := by decide +kernel
theorem dX9_porterLine_181 : decode cX9_porterLine 181 = .ok (.istore 4, 2) := by decide +kernel
theorem dX9_porterLine_183 : decode cX9_porterLine 183 = .ok (.iinc 5 1, 3) := by decide +kernel
theorem dX9_porterLine_186 : decode cX9_porterLine 186 = .ok (.goto (-49), 3) := by decide +kernel
theorem dX9_porterLine_189 : decode cX9_porterLine 189 = .ok (.iload 4, 2) := by decide +kernel
theorem dX9_porterLine_191 : decode cX9_porterLine 191 = .ok (.ifCond .eq 12, 3) := by decide +kernel
theorem dX9_porterLine_194 : decode cX9_porterLine 194 = .ok (.aload_n 0, 1) := by decide +kernel
theorem dX9_porterLine_195 : decode cX9_porterLine 195 = .ok (.iconst 3, 1) := by decide +kernel
theorem dX9_porterLine_196 : decode cX9_porterLine 196 = .ok (.aload_n 0, 1) := by decide +kernel
theorem dX9_porterLine_197 : decode cX9_porterLine 197 = .ok (.getfield 88, 3) := by decide +kernel
theorem dX9_porterLine_200 : decode cX9_porterLine 200 = .ok (.invokevirtual 134, 3) := by decide +kernel
theorem dX9_porterLine_203 : decode cX9_porterLine 203 = .ok (.iinc 3 1, 3) := by decide +kernel
theorem dX9_porterLine_206 : decode cX9_porterLine 206 = .ok (.goto (-107), 3) := by decide +kernel
theorem dX9_porterLine_209 : decode cX9_porterLine 209 = .ok (.aload_n 0, 1) := by decide +kernel
theorem dX9_porterLine_210 : decode cX9_porterLine 210 = .ok (.getfield 107, 3) := by decide +kernel
theorem dX9_porterLine_213 : decode cX9_porterLine 213 = .ok (.ifCond .eq 4, 3) := by decide +kernel
theorem dX9_porterLine_216 : decode cX9_porterLine 216 = .ok (.return_, 1) := by decide +kernel
theorem dX9_porterLine_217 : decode cX9_porterLine 217 = .ok (.iconst 0, 1) := by decide +kernel
theorem dX9_porterLine_218 : decode cX9_porterLine 218 = .ok (.istore_n 3, 1) := by decide +kernel
theorem dX9_porterLine_219 : decode cX9_porterLine 219 = .ok (.iload_n 3, 1) := by decide +kernel
theorem dX9_porterLine_220 : decode cX9_porterLine 220 = .ok (.aload_n 0, 1) := by decide +kernel
theorem dX9_porterLine_221 : decode cX9_porterLine 221 = .ok (.getfield 91, 3) := by decide +kernel
theorem dX9_porterLine_224 : decode cX9_porterLine 224 = .ok (.if_icmp .ge 29, 3) := by decide +kernel
theorem dX9_porterLine_227 : decode cX9_porterLine 227 = .ok (.aload_n 0, 1) := by decide +kernel
theorem dX9_porterLine_228 : decode cX9_porterLine 228 = .ok (.getfield 23, 3) := by decide +kernel
theorem dX9_porterLine_231 : decode cX9_porterLine 231 = .ok (.bipush 87, 2) := by decide +kernel
theorem dX9_porterLine_233 : decode cX9_porterLine 233 = .ok (.bipush 8, 2) := by decide +kernel
theorem dX9_porterLine_235 : decode cX9_porterLine 235 = .ok (.iload_n 1, 1) := by decide +kernel
theorem dX9_porterLine_236 : decode cX9_porterLine 236 = .ok (.imul, 1) := by decide +kernel
theorem dX9_porterLine_237 : decode cX9_porterLine 237 = .ok (.iadd, 1) := by decide +kernel
theorem dX9_porterLine_238 : decode cX9_porterLine 238 = .ok (.iload_n 3, 1) := by decide +kernel
theorem dX9_porterLine_239 : decode cX9_porterLine 239 = .ok (.iadd, 1) := by decide +kernel
theorem dX9_porterLine_240 : decode cX9_porterLine 240 = .ok (.aload_n 0, 1) := by decide +kernel
theorem dX9_porterLine_241 : decode cX9_porterLine 241 = .ok (.getfield 17, 3) := by decide +kernel
theorem dX9_porterLine_244 : decode cX9_porterLine 244 = .ok (.iload_n 3, 1) := by decide +kernel
theorem dX9_porterLine_245 : decode cX9_porterLine 245 = .ok (.iaload, 1) := by decide +kernel
theorem dX9_porterLine_246 : decode cX9_porterLine 246 = .ok (.iastore, 1) := by decide +kernel
theorem dX9_porterLine_247 : decode cX9_porterLine 247 = .ok (.iinc 3 1, 3) := by decide +kernel
theorem dX9_porterLine_250 : decode cX9_porterLine 250 = .ok (.goto (-31), 3) := by decide +kernel
theorem dX9_porterLine_253 : decode cX9_porterLine 253 = .ok (.aload_n 0, 1) := by decide +kernel
theorem dX9_porterLine_254 : decode cX9_porterLine 254 = .ok (.getfield 23, 3) := by decide +kernel
theorem dX9_porterLine_257 : decode cX9_porterLine 257 = .ok (.bipush 81, 2) := by decide +kernel
theorem dX9_porterLine_259 : decode cX9_porterLine 259 = .ok (.iload_n 1, 1) := by decide +kernel
theorem dX9_porterLine_260 : decode cX9_porterLine 260 = .ok (.iadd, 1) := by decide +kernel
theorem dX9_porterLine_261 : decode cX9_porterLine 261 = .ok (.aload_n 0, 1) := by decide +kernel
theorem dX9_porterLine_262 : decode cX9_porterLine 262 = .ok (.getfield 91, 3) := by decide +kernel
theorem dX9_porterLine_265 : decode cX9_porterLine 265 = .ok (.iastore, 1) := by decide +kernel
theorem dX9_porterLine_266 : decode cX9_porterLine 266 = .ok (.aload_n 0, 1) := by decide +kernel
theorem dX9_porterLine_267 : decode cX9_porterLine 267 = .ok (.invokevirtual 128, 3) := by decide +kernel
theorem dX9_porterLine_270 : decode cX9_porterLine 270 = .ok (.aload_n 0, 1) := by decide +kernel
theorem dX9_porterLine_271 : decode cX9_porterLine 271 = .ok (.getfield 23, 3) := by decide +kernel
theorem dX9_porterLine_274 : decode cX9_porterLine 274 = .ok (.bipush 18, 2) := by decide +kernel
theorem dX9_porterLine_276 : decode cX9_porterLine 276 = .ok (.iload_n 1, 1) := by decide +kernel
theorem dX9_porterLine_277 : decode cX9_porterLine 277 = .ok (.iadd, 1) := by decide +kernel
theorem dX9_porterLine_278 : decode cX9_porterLine 278 = .ok (.aload_n 0, 1) := by decide +kernel
theorem dX9_porterLine_279 : decode cX9_porterLine 279 = .ok (.ldc 213, 2) := by decide +kernel
theorem dX9_porterLine_281 : decode cX9_porterLine 281 = .ok (.iconst 1, 1) := by decide +kernel
theorem dX9_porterLine_282 : decode cX9_porterLine 282 = .ok (.iconst 3, 1) := by decide +kernel
theorem dX9_porterLine_283 : decode cX9_porterLine 283 = .ok (.invokevirtual 204, 3) := by decide +kernel
theorem dX9_porterLine_286 : decode cX9_porterLine 286 = .ok (.iastore, 1) := by decide +kernel
theorem dX9_porterLine_287 : decode cX9_porterLine 287 = .ok (.aload_n 0, 1) := by decide +kernel
theorem dX9_porterLine_288 : decode cX9_porterLine 288 = .ok (.getfield 23, 3) := by decide +kernel
theorem dX9_porterLine_291 : decode cX9_porterLine 291 = .ok (.bipush 30, 2) := by decide +kernel
theorem dX9_porterLine_293 : decode cX9_porterLine 293 = .ok (.iload_n 1, 1) := by decide +kernel
theorem dX9_porterLine_294 : decode cX9_porterLine 294 = .ok (.iadd, 1) := by decide +kernel
theorem dX9_porterLine_295 : decode cX9_porterLine 295 = .ok (.bipush (-2), 2) := by decide +kernel
theorem dX9_porterLine_297 : decode cX9_porterLine 297 = .ok (.iastore, 1) := by decide +kernel
theorem dX9_porterLine_298 : decode cX9_porterLine 298 = .ok (.aload_n 0, 1) := by decide +kernel
theorem dX9_porterLine_299 : decode cX9_porterLine 299 = .ok (.ldc 215, 2) := by decide +kernel
theorem dX9_porterLine_301 : decode cX9_porterLine 301 = .ok (.invokevirtual 131, 3) := by decide +kernel
theorem dX9_porterLine_304 : decode cX9_porterLine 304 = .ok (.ifCond .eq 16, 3) := by decide +kernel
theorem dX9_porterLine_307 : decode cX9_porterLine 307 = .ok (.aload_n 0, 1) := by decide +kernel
theorem dX9_porterLine_308 : decode cX9_porterLine 308 = .ok (.getfield 23, 3) := by decide +kernel
theorem dX9_porterLine_311 : decode cX9_porterLine 311 = .ok (.bipush 24, 2) := by decide +kernel
theorem dX9_porterLine_313 : decode cX9_porterLine 313 = .ok (.iload_n 1, 1) := by decide +kernel
theorem dX9_porterLine_314 : decode cX9_porterLine 314 = .ok (.iadd, 1) := by decide +kernel
theorem dX9_porterLine_315 : decode cX9_porterLine 315 = .ok (.iconst 0, 1) := by decide +kernel
theorem dX9_porterLine_316 : decode cX9_porterLine 316 = .ok (.iastore, 1) := by decide +kernel
theorem dX9_porterLine_317 : decode cX9_porterLine 317 = .ok (.goto 97, 3) := by decide +kernel
theorem dX9_porterLine_320 : decode cX9_porterLine 320 = .ok (.aload_n 0, 1) := by decide +kernel
theorem dX9_porterLine_321 : decode cX9_porterLine 321 = .ok (.ldc 217, 2) := by decide +kernel
theorem dX9_porterLine_323 : decode cX9_porterLine 323 = .ok (.invokevirtual 131, 3) := by decide +kernel
theorem dX9_porterLine_326 : decode cX9_porterLine 326 = .ok (.ifCond .eq 16, 3) := by decide +kernel
theorem dX9_porterLine_329 : decode cX9_porterLine 329 = .ok (.aload_n 0, 1) := by decide +kernel
theorem dX9_porterLine_330 : decode cX9_porterLine 330 = .ok (.getfield 23, 3) := by decide +kernel
theorem dX9_porterLine_333 : decode cX9_porterLine 333 = .ok (.bipush 24, 2) := by decide +kernel
theorem dX9_porterLine_335 : decode cX9_porterLine 335 = .ok (.iload_n 1, 1) := by decide +kernel
theorem dX9_porterLine_336 : decode cX9_porterLine 336 = .ok (.iadd, 1) := by decide +kernel
theorem dX9_porterLine_337 : decode cX9_porterLine 337 = .ok (.iconst 1, 1) := by decide +kernel
theorem dX9_porterLine_338 : decode cX9_porterLine 338 = .ok (.iastore, 1) := by decide +kernel
theorem dX9_porterLine_339 : decode cX9_porterLine 339 = .ok (.goto 75, 3) := by decide +kernel
theorem dX9_porterLine_342 : decode cX9_porterLine 342 = .ok (.aload_n 0, 1) := by decide +kernel
theorem dX9_porterLine_343 : decode cX9_porterLine 343 = .ok (.ldc 219, 2) := by decide +kernel
theorem dX9_porterLine_345 : decode cX9_porterLine 345 = .ok (.invokevirtual 131, 3) := by decide +kernel
theorem dX9_porterLine_348 : decode cX9_porterLine 348 = .ok (.ifCond .eq 16, 3) := by decide +kernel
theorem dX9_porterLine_351 : decode cX9_porterLine 351 = .ok (.aload_n 0, 1) := by decide +kernel
theorem dX9_porterLine_352 : decode cX9_porterLine 352 = .ok (.getfield 23, 3) := by decide +kernel
theorem dX9_porterLine_355 : decode cX9_porterLine 355 = .ok (.bipush 24, 2) := by decide +kernel
theorem dX9_porterLine_357 : decode cX9_porterLine 357 = .ok (.iload_n 1, 1) := by decide +kernel
theorem dX9_porterLine_358 : decode cX9_porterLine 358 = .ok (.iadd, 1) := by decide +kernel
theorem dX9_porterLine_359 : decode cX9_porterLine 359 = .ok (.iconst 3, 1) := by decide +kernel
theorem dX9_porterLine_360 : decode cX9_porterLine 360 = .ok (.iastore, 1) := by decide +kernel
theorem dX9_porterLine_361 : decode cX9_porterLine 361 = .ok (.goto 53, 3) := by decide +kernel
theorem dX9_porterLine_364 : decode cX9_porterLine 364 = .ok (.aload_n 0, 1) := by decide +kernel
theorem dX9_porterLine_365 : decode cX9_porterLine 365 = .ok (.ldc 221, 2) := by decide +kernel
theorem dX9_porterLine_367 : decode cX9_porterLine 367 = .ok (.invokevirtual 131, 3) := by decide +kernel
theorem dX9_porterLine_370 : decode cX9_porterLine 370 = .ok (.ifCond .eq 16, 3) := by decide +kernel
theorem dX9_porterLine_373 : decode cX9_porterLine 373 = .ok (.aload_n 0, 1) := by decide +kernel
theorem dX9_porterLine_374 : decode cX9_porterLine 374 = .ok (.getfield 23, 3) := by decide +kernel
theorem dX9_porterLine_377 : decode cX9_porterLine 377 = .ok (.bipush 24, 2) := by decide +kernel
theorem dX9_porterLine_379 : decode cX9_porterLine 379 = .ok (.iload_n 1, 1) := by decide +kernel
theorem dX9_porterLine_380 : decode cX9_porterLine 380 = .ok (.iadd, 1) := by decide +kernel
theorem dX9_porterLine_381 : decode cX9_porterLine 381 = .ok (.iconst 4, 1) := by decide +kernel
theorem dX9_porterLine_382 : decode cX9_porterLine 382 = .ok (.iastore, 1) := by decide +kernel
theorem dX9_porterLine_383 : decode cX9_porterLine 383 = .ok (.goto 31, 3) := by decide +kernel
theorem dX9_porterLine_386 : decode cX9_porterLine 386 = .ok (.aload_n 0, 1) := by decide +kernel
theorem dX9_porterLine_387 : decode cX9_porterLine 387 = .ok (.getfield 23, 3) := by decide +kernel
theorem dX9_porterLine_390 : decode cX9_porterLine 390 = .ok (.bipush 24, 2) := by decide +kernel
theorem dX9_porterLine_392 : decode cX9_porterLine 392 = .ok (.iload_n 1, 1) := by decide +kernel
theorem dX9_porterLine_393 : decode cX9_porterLine 393 = .ok (.iadd, 1) := by decide +kernel
theorem dX9_porterLine_394 : decode cX9_porterLine 394 = .ok (.iconst 2, 1) := by decide +kernel
theorem dX9_porterLine_395 : decode cX9_porterLine 395 = .ok (.iastore, 1) := by decide +kernel
theorem dX9_porterLine_396 : decode cX9_porterLine 396 = .ok (.aload_n 0, 1) := by decide +kernel
theorem dX9_porterLine_397 : decode cX9_porterLine 397 = .ok (.getfield 23, 3) := by decide +kernel
theorem dX9_porterLine_400 : decode cX9_porterLine 400 = .ok (.bipush 30, 2) := by decide +kernel
theorem dX9_porterLine_402 : decode cX9_porterLine 402 = .ok (.iload_n 1, 1) := by decide +kernel
theorem dX9_porterLine_403 : decode cX9_porterLine 403 = .ok (.iadd, 1) := by decide +kernel
theorem dX9_porterLine_404 : decode cX9_porterLine 404 = .ok (.aload_n 0, 1) := by decide +kernel
theorem dX9_porterLine_405 : decode cX9_porterLine 405 = .ok (.ldc 223, 2) := by decide +kernel
theorem dX9_porterLine_407 : decode cX9_porterLine 407 = .ok (.iconst 0, 1) := by decide +kernel
theorem dX9_porterLine_408 : decode cX9_porterLine 408 = .ok (.bipush 8, 2) := by decide +kernel
theorem dX9_porterLine_410 : decode cX9_porterLine 410 = .ok (.invokevirtual 204, 3) := by decide +kernel
theorem dX9_porterLine_413 : decode cX9_porterLine 413 = .ok (.iastore, 1) := by decide +kernel
theorem dX9_porterLine_414 : decode cX9_porterLine 414 = .ok (.aload_n 0, 1) := by decide +kernel
theorem dX9_porterLine_415 : decode cX9_porterLine 415 = .ok (.getfield 23, 3) := by decide +kernel
theorem dX9_porterLine_418 : decode cX9_porterLine 418 = .ok (.bipush 17, 2) := by decide +kernel
theorem dX9_porterLine_420 : decode cX9_porterLine 420 = .ok (.dup2, 1) := by decide +kernel
theorem dX9_porterLine_421 : decode cX9_porterLine 421 = .ok (.iaload, 1) := by decide +kernel
theorem dX9_porterLine_422 : decode cX9_porterLine 422 = .ok (.iconst 1, 1) := by decide +kernel
theorem dX9_porterLine_423 : decode cX9_porterLine 423 = .ok (.iadd, 1) := by decide +kernel
theorem dX9_porterLine_424 : decode cX9_porterLine 424 = .ok (.iastore, 1) := by decide +kernel
theorem dX9_porterLine_425 : decode cX9_porterLine 425 = .ok (.return_, 1) := by decide +kernel
theorem dX9_doorLine_0 : decode cX9_doorLine 0 = .ok (.aload_n 0, 1) := by decide +kernel
theorem dX9_doorLine_1 : decode cX9_doorLine 1 = .ok (.getfield 107, 3) := by decide +kernel
theorem dX9_doorLine_4 : decode cX9_doorLine 4 = .ok (.ifCond .eq 4, 3) := by decide +kernel
theorem dX9_doorLine_7 : decode cX9_doorLine 7 = .ok (.return_, 1) := by decide +kernel
theorem dX9_doorLine_8 : decode cX9_doorLine 8 = .ok (.aload_n 0, 1) := by decide +kernel
theorem dX9_doorLine_9 : decode cX9_doorLine 9 = .ok (.getfield 23, 3) := by decide +kernel
theorem dX9_doorLine_12 : decode cX9_doorLine 12 = .ok (.bipush 36, 2) := by decide +kernel
theorem dX9_doorLine_14 : decode cX9_doorLine 14 = .ok (.aload_n 0, 1) := by decide +kernel
theorem dX9_doorLine_15 : decode cX9_doorLine 15 = .ok (.iconst 0, 1) := by decide +kernel
theorem dX9_doorLine_16 : decode cX9_doorLine 16 = .ok (.aload_n 0, 1) := by decide +kernel
theorem dX9_doorLine_17 : decode cX9_doorLine 17 = .ok (.getfield 23, 3) := by decide +kernel
theorem dX9_doorLine_20 : decode cX9_doorLine 20 = .ok (.iconst 0, 1) := by decide +kernel
theorem dX9_doorLine_21 : decode cX9_doorLine 21 = .ok (.iaload, 1) := by decide +kernel
theorem dX9_doorLine_22 : decode cX9_doorLine 22 = .ok (.iconst 1, 1) := by decide +kernel
theorem dX9_doorLine_23 : decode cX9_doorLine 23 = .ok (.isub, 1) := by decide +kernel
theorem dX9_doorLine_24 : decode cX9_doorLine 24 = .ok (.invokevirtual 146, 3) := by decide +kernel
theorem dX9_doorLine_27 : decode cX9_doorLine 27 = .ok (.iastore, 1) := by decide +kernel
theorem dX9_doorLine_28 : decode cX9_doorLine 28 = .ok (.aload_n 0, 1) := by decide +kernel
theorem dX9_doorLine_29 : decode cX9_doorLine 29 = .ok (.ldc 225, 2) := by decide +kernel
theorem dX9_doorLine_31 : decode cX9_doorLine 31 = .ok (.iconst 1, 1) := by decide +kernel
theorem dX9_doorLine_32 : decode cX9_doorLine 32 = .ok (.bipush 9, 2) := by decide +kernel
theorem dX9_doorLine_34 : decode cX9_doorLine 34 = .ok (.invokevirtual 204, 3) := by decide +kernel
theorem dX9_doorLine_37 : decode cX9_doorLine 37 = .ok (.istore_n 1, 1) := by decide +kernel
theorem dX9_doorLine_38 : decode cX9_doorLine 38 = .ok (.aload_n 0, 1) := by decide +kernel
theorem dX9_doorLine_39 : decode cX9_doorLine 39 = .ok (.getfield 107, 3) := by decide +kernel
theorem dX9_doorLine_42 : decode cX9_doorLine 42 = .ok (.ifCond .ne 11, 3) := by decide +kernel
theorem dX9_doorLine_45 : decode cX9_doorLine 45 = .ok (.aload_n 0, 1) := by decide +kernel
theorem dX9_doorLine_46 : decode cX9_doorLine 46 = .ok (.getfield 23, 3) := by decide +kernel
theorem dX9_doorLine_49 : decode cX9_doorLine 49 = .ok (.bipush 37, 2) := by decide +kernel
theorem dX9_doorLine_51 : decode cX9_doorLine 51 = .ok (.iload_n 1, 1) := by decide +kernel
theorem dX9_doorLine_52 : decode cX9_doorLine 52 = .ok (.iastore, 1) := by decide +kernel
theorem dX9_doorLine_53 : decode cX9_doorLine 53 = .ok (.return_, 1) := by decide +kernel
theorem dX9_movesLine_0 : decode cX9_movesLine 0 = .ok (.aload_n 0, 1) := by decide +kernel
theorem dX9_movesLine_1 : decode cX9_movesLine 1 = .ok (.ldc 225, 2) := by decide +kernel
theorem dX9_movesLine_3 : decode cX9_movesLine 3 = .ok (.iconst 1, 1) := by decide +kernel
theorem dX9_movesLine_4 : decode cX9_movesLine 4 = .ok (.bipush 9, 2) := by decide +kernel
theorem dX9_movesLine_6 : decode cX9_movesLine 6 = .ok (.invokevirtual 204, 3) := by decide +kernel
theorem dX9_movesLine_9 : decode cX9_movesLine 9 = .ok (.istore_n 1, 1) := by decide +kernel
theorem dX9_movesLine_10 : decode cX9_movesLine 10 = .ok (.aload_n 0, 1) := by decide +kernel
theorem dX9_movesLine_11 : decode cX9_movesLine 11 = .ok (.getfield 107, 3) := by decide +kernel
theorem dX9_movesLine_14 : decode cX9_movesLine 14 = .ok (.ifCond .ne 11, 3) := by decide +kernel
theorem dX9_movesLine_17 : decode cX9_movesLine 17 = .ok (.aload_n 0, 1) := by decide +kernel
theorem dX9_movesLine_18 : decode cX9_movesLine 18 = .ok (.getfield 23, 3) := by decide +kernel
theorem dX9_movesLine_21 : decode cX9_movesLine 21 = .ok (.bipush 38, 2) := by decide +kernel
theorem dX9_movesLine_23 : decode cX9_movesLine 23 = .ok (.iload_n 1, 1) := by decide +kernel
theorem dX9_movesLine_24 : decode cX9_movesLine 24 = .ok (.iastore, 1) := by decide +kernel
theorem dX9_movesLine_25 : decode cX9_movesLine 25 = .ok (.return_, 1) := by decide +kernel
theorem dX9_layLine_0 : decode cX9_layLine 0 = .ok (.aload_n 0, 1) := by decide +kernel
theorem dX9_layLine_1 : decode cX9_layLine 1 = .ok (.getfield 107, 3) := by decide +kernel
theorem dX9_layLine_4 : decode cX9_layLine 4 = .ok (.ifCond .eq 4, 3) := by decide +kernel
theorem dX9_layLine_7 : decode cX9_layLine 7 = .ok (.return_, 1) := by decide +kernel
theorem dX9_layLine_8 : decode cX9_layLine 8 = .ok (.bipush 40, 2) := by decide +kernel
theorem dX9_layLine_10 : decode cX9_layLine 10 = .ok (.iconst 5, 1) := by decide +kernel
theorem dX9_layLine_11 : decode cX9_layLine 11 = .ok (.aload_n 0, 1) := by decide +kernel
theorem dX9_layLine_12 : decode cX9_layLine 12 = .ok (.getfield 23, 3) := by decide +kernel
theorem dX9_layLine_15 : decode cX9_layLine 15 = .ok (.bipush 39, 2) := by decide +kernel
theorem dX9_layLine_17 : decode cX9_layLine 17 = .ok (.iaload, 1) := by decide +kernel
theorem dX9_layLine_18 : decode cX9_layLine 18 = .ok (.imul, 1) := by decide +kernel
theorem dX9_layLine_19 : decode cX9_layLine 19 = .ok (.iadd, 1) := by decide +kernel
theorem dX9_layLine_20 : decode cX9_layLine 20 = .ok (.istore_n 1, 1) := by decide +kernel
theorem dX9_layLine_21 : decode cX9_layLine 21 = .ok (.iconst 0, 1) := by decide +kernel
theorem dX9_layLine_22 : decode cX9_layLine 22 = .ok (.istore_n 2, 1) := by decide +kernel
theorem dX9_layLine_23 : decode cX9_layLine 23 = .ok (.iload_n 2, 1) := by decide +kernel
theorem dX9_layLine_24 : decode cX9_layLine 24 = .ok (.aload_n 0, 1) := by decide +kernel
theorem dX9_layLine_25 : decode cX9_layLine 25 = .ok (.getfield 23, 3) := by decide +kernel
theorem dX9_layLine_28 : decode cX9_layLine 28 = .ok (.iconst 0, 1) := by decide +kernel
theorem dX9_layLine_29 : decode cX9_layLine 29 = .ok (.iaload, 1) := by decide +kernel
theorem dX9_layLine_30 : decode cX9_layLine 30 = .ok (.if_icmp .ge 64, 3) := by decide +kernel
theorem dX9_layLine_33 : decode cX9_layLine 33 = .ok (.iload_n 2, 1) := by decide +kernel
theorem dX9_layLine_34 : decode cX9_layLine 34 = .ok (.ifCond .le 39, 3) := by decide +kernel
theorem dX9_layLine_37 : decode cX9_layLine 37 = .ok (.aload_n 0, 1) := by decide +kernel
theorem dX9_layLine_38 : decode cX9_layLine 38 = .ok (.getfield 107, 3) := by decide +kernel
theorem dX9_layLine_41 : decode cX9_layLine 41 = .ok (.ifCond .ne 32, 3) := by decide +kernel
theorem dX9_layLine_44 : decode cX9_layLine 44 = .ok (.aload_n 0, 1) := by decide +kernel
theorem dX9_layLine_45 : decode cX9_layLine 45 = .ok (.getfield 97, 3) := by decide +kernel
theorem dX9_layLine_48 : decode cX9_layLine 48 = .ok (.bipush 44, 2) := by decide +kernel
theorem dX9_layLine_50 : decode cX9_layLine 50 = .ok (.if_icmp .eq 12, 3) := by decide +kernel
theorem dX9_layLine_53 : decode cX9_layLine 53 = .ok (.aload_n 0, 1) := by decide +kernel
theorem dX9_layLine_54 : decode cX9_layLine 54 = .ok (.iconst 1, 1) := by decide +kernel
theorem dX9_layLine_55 : decode cX9_layLine 55 = .ok (.aload_n 0, 1) := by decide +kernel
theorem dX9_layLine_56 : decode cX9_layLine 56 = .ok (.getfield 88, 3) := by decide +kernel
theorem dX9_layLine_59 : decode cX9_layLine 59 = .ok (.invokevirtual 134, 3) := by decide +kernel
theorem dX9_layLine_62 : decode cX9_layLine 62 = .ok (.aload_n 0, 1) := by decide +kernel
theorem dX9_layLine_63 : decode cX9_layLine 63 = .ok (.getfield 107, 3) := by decide +kernel
theorem dX9_layLine_66 : decode cX9_layLine 66 = .ok (.ifCond .ne 7, 3) := by decide +kernel
theorem dX9_layLine_69 : decode cX9_layLine 69 = .ok (.aload_n 0, 1) := by decide +kernel
theorem dX9_layLine_70 : decode cX9_layLine 70 = .ok (.invokevirtual 128, 3) := by decide +kernel
theorem dX9_layLine_73 : decode cX9_layLine 73 = .ok (.aload_n 0, 1) := by decide +kernel
theorem dX9_layLine_74 : decode cX9_layLine 74 = .ok (.getfield 23, 3) := by decide +kernel
theorem dX9_layLine_77 : decode cX9_layLine 77 = .ok (.iload_n 1, 1) := by decide +kernel
theorem dX9_layLine_78 : decode cX9_layLine 78 = .ok (.iload_n 2, 1) := by decide +kernel
theorem dX9_layLine_79 : decode cX9_layLine 79 = .ok (.iadd, 1) := by decide +kernel
theorem dX9_layLine_80 : decode cX9_layLine 80 = .ok (.aload_n 0, 1) := by decide +kernel
theorem dX9_layLine_81 : decode cX9_layLine 81 = .ok (.iconst 0, 1) := by decide +kernel
theorem dX9_layLine_82 : decode cX9_layLine 82 = .ok (.bipush 8, 2) := by decide +kernel
theorem dX9_layLine_84 : decode cX9_layLine 84 = .ok (.invokevirtual 146, 3) := by decide +kernel
theorem dX9_layLine_87 : decode cX9_layLine 87 = .ok (.iastore, 1) := by decide +kernel
theorem dX9_layLine_88 : decode cX9_layLine 88 = .ok (.iinc 2 1, 3) := by decide +kernel
theorem dX9_layLine_91 : decode cX9_layLine 91 = .ok (.goto (-68), 3) := by decide +kernel
theorem dX9_layLine_94 : decode cX9_layLine 94 = .ok (.aload_n 0, 1) := by decide +kernel
theorem dX9_layLine_95 : decode cX9_layLine 95 = .ok (.getfield 23, 3) := by decide +kernel
theorem dX9_layLine_98 : decode cX9_layLine 98 = .ok (.bipush 39, 2) := by decide +kernel
theorem dX9_layLine_100 : decode cX9_layLine 100 = .ok (.dup2, 1) := by decide +kernel
theorem dX9_layLine_101 : decode cX9_layLine 101 = .ok (.iaload, 1) := by decide +kernel
theorem dX9_layLine_102 : decode cX9_layLine 102 = .ok (.iconst 1, 1) := by decide +kernel
theorem dX9_layLine_103 : decode cX9_layLine 103 = .ok (.iadd, 1) := by decide +kernel
theorem dX9_layLine_104 : decode cX9_layLine 104 = .ok (.iastore, 1) := by decide +kernel
theorem dX9_layLine_105 : decode cX9_layLine 105 = .ok (.return_, 1) := by decide +kernel
theorem dX9_fault_0 : decode cX9_fault 0 = .ok (.aload_n 0, 1) := by decide +kernel
theorem dX9_fault_1 : decode cX9_fault 1 = .ok (.iconst 0, 1) := by decide +kernel
theorem dX9_fault_2 : decode cX9_fault 2 = .ok (.putfield 69, 3) := by decide +kernel
theorem dX9_fault_5 : decode cX9_fault 5 = .ok (.aload_n 0, 1) := by decide +kernel
theorem dX9_fault_6 : decode cX9_fault 6 = .ok (.getfield 111, 3) := by decide +kernel
theorem dX9_fault_9 : decode cX9_fault 9 = .ok (.ireturn, 1) := by decide +kernel
theorem dX9_where_0 : decode cX9_where 0 = .ok (.aload_n 0, 1) := by decide +kernel
theorem dX9_where_1 : decode cX9_where 1 = .ok (.iconst 0, 1) := by decide +kernel
theorem dX9_where_2 : decode cX9_where 2 = .ok (.putfield 69, 3) := by decide +kernel
theorem dX9_where_5 : decode cX9_where 5 = .ok (.aload_n 0, 1) := by decide +kernel
theorem dX9_where_6 : decode cX9_where 6 = .ok (.getfield 72, 3) := by decide +kernel
theorem dX9_where_9 : decode cX9_where 9 = .ok (.iconst 4, 1) := by decide +kernel
theorem dX9_where_10 : decode cX9_where 10 = .ok (.if_icmp .ne 10, 3) := by decide +kernel
theorem dX9_where_13 : decode cX9_where 13 = .ok (.aload_n 0, 1) := by decide +kernel
theorem dX9_where_14 : decode cX9_where 14 = .ok (.getfield 13, 3) := by decide +kernel
theorem dX9_where_17 : decode cX9_where 17 = .ok (.goto 4, 3) := by decide +kernel
theorem dX9_where_20 : decode cX9_where 20 = .ok (.iconst (-1), 1) := by decide +kernel
theorem dX9_where_21 : decode cX9_where 21 = .ok (.ireturn, 1) := by decide +kernel
theorem dX9_isPorter_0 : decode cX9_isPorter 0 = .ok (.aload_n 0, 1) := by decide +kernel
theorem dX9_isPorter_1 : decode cX9_isPorter 1 = .ok (.getfield 159, 3) := by decide +kernel
theorem dX9_isPorter_4 : decode cX9_isPorter 4 = .ok (.ifCond .eq 24, 3) := by decide +kernel
theorem dX9_isPorter_7 : decode cX9_isPorter 7 = .ok (.iload_n 1, 1) := by decide +kernel
theorem dX9_isPorter_8 : decode cX9_isPorter 8 = .ok (.iconst 0, 1) := by decide +kernel
theorem dX9_isPorter_9 : decode cX9_isPorter 9 = .ok (.aload_n 0, 1) := by decide +kernel
theorem dX9_isPorter_10 : decode cX9_isPorter 10 = .ok (.getfield 20, 3) := by decide +kernel
theorem dX9_isPorter_13 : decode cX9_isPorter 13 = .ok (.bipush 17, 2) := by decide +kernel
theorem dX9_isPorter_15 : decode cX9_isPorter 15 = .ok (.iaload, 1) := by decide +kernel
theorem dX9_isPorter_16 : decode cX9_isPorter 16 = .ok (.iconst 1, 1) := by decide +kernel
theorem dX9_isPorter_17 : decode cX9_isPorter 17 = .ok (.isub, 1) := by decide +kernel
theorem dX9_isPorter_18 : decode cX9_isPorter 18 = .ok (.invokestatic 138, 3) := by decide +kernel
theorem dX9_isPorter_21 : decode cX9_isPorter 21 = .ok (.ifCond .eq 7, 3) := by decide +kernel
theorem dX9_isPorter_24 : decode cX9_isPorter 24 = .ok (.iconst 1, 1) := by decide +kernel
theorem dX9_isPorter_25 : decode cX9_isPorter 25 = .ok (.goto 4, 3) := by decide +kernel
theorem dX9_isPorter_28 : decode cX9_isPorter 28 = .ok (.iconst 0, 1) := by decide +kernel
theorem dX9_isPorter_29 : decode cX9_isPorter 29 = .ok (.ireturn, 1) := by decide +kernel
theorem dX9_isBox_0 : decode cX9_isBox 0 = .ok (.aload_n 0, 1) := by decide +kernel
theorem dX9_isBox_1 : decode cX9_isBox 1 = .ok (.getfield 159, 3) := by decide +kernel
theorem dX9_isBox_4 : decode cX9_isBox 4 = .ok (.ifCond .eq 23, 3) := by decide +kernel
theorem dX9_isBox_7 : decode cX9_isBox 7 = .ok (.iload_n 1, 1) := by decide +kernel
theorem dX9_isBox_8 : decode cX9_isBox 8 = .ok (.iconst 0, 1) := by decide +kernel
theorem dX9_isBox_9 : decode cX9_isBox 9 = .ok (.aload_n 0, 1) := by decide +kernel
theorem dX9_isBox_10 : decode cX9_isBox 10 = .ok (.getfield 20, 3) := by decide +kernel
theorem dX9_isBox_13 : decode cX9_isBox 13 = .ok (.iconst 0, 1) := by decide +kernel
theorem dX9_isBox_14 : decode cX9_isBox 14 = .ok (.iaload, 1) := by decide +kernel
theorem dX9_isBox_15 : decode cX9_isBox 15 = .ok (.iconst 1, 1) := by decide +kernel
theorem dX9_isBox_16 : decode cX9_isBox 16 = .ok (.isub, 1) := by decide +kernel
theorem dX9_isBox_17 : decode cX9_isBox 17 = .ok (.invokestatic 138, 3) := by decide +kernel
theorem dX9_isBox_20 : decode cX9_isBox 20 = .ok (.ifCond .eq 7, 3) := by decide +kernel
theorem dX9_isBox_23 : decode cX9_isBox 23 = .ok (.iconst 1, 1) := by decide +kernel
theorem dX9_isBox_24 : decode cX9_isBox 24 = .ok (.goto 4, 3) := by decide +kernel
theorem dX9_isBox_27 : decode cX9_isBox 27 = .ok (.iconst 0, 1) := by decide +kernel
theorem dX9_isBox_28 : decode cX9_isBox 28 = .ok (.ireturn, 1) := by decide +kernel
theorem dX9_allWeights_0 : decode cX9_allWeights 0 = .ok (.iconst 0, 1) := by decide +kernel
theorem dX9_allWeights_1 : decode cX9_allWeights 1 = .ok (.istore_n 1, 1) := by decide +kernel
theorem dX9_allWeights_2 : decode cX9_allWeights 2 = .ok (.iconst 0, 1) := by decide +kernel
theorem dX9_allWeights_3 : decode cX9_allWeights 3 = .ok (.istore_n 2, 1) := by decide +kernel
theorem dX9_allWeights_4 : decode cX9_allWeights 4 = .ok (.iload_n 2, 1) := by decide +kernel
theorem dX9_allWeights_5 : decode cX9_allWeights 5 = .ok (.aload_n 0, 1) := by decide +kernel
theorem dX9_allWeights_6 : decode cX9_allWeights 6 = .ok (.getfield 20, 3) := by decide +kernel
theorem dX9_allWeights_9 : decode cX9_allWeights 9 = .ok (.iconst 0, 1) := by decide +kernel
theorem dX9_allWeights_10 : decode cX9_allWeights 10 = .ok (.iaload, 1) := by decide +kernel
theorem dX9_allWeights_11 : decode cX9_allWeights 11 = .ok (.if_icmp .ge 21, 3) := by decide +kernel
theorem dX9_allWeights_14 : decode cX9_allWeights 14 = .ok (.iload_n 1, 1) := by decide +kernel
theorem dX9_allWeights_15 : decode cX9_allWeights 15 = .ok (.aload_n 0, 1) := by decide +kernel
theorem dX9_allWeights_16 : decode cX9_allWeights 16 = .ok (.getfield 20, 3) := by decide +kernel
theorem dX9_allWeights_19 : decode cX9_allWeights 19 = .ok (.bipush 7, 2) := by decide +kernel
theorem dX9_allWeights_21 : decode cX9_allWeights 21 = .ok (.iload_n 2, 1) := by decide +kernel
theorem dX9_allWeights_22 : decode cX9_allWeights 22 = .ok (.iadd, 1) := by decide +kernel
theorem dX9_allWeights_23 : decode cX9_allWeights 23 = .ok (.iaload, 1) := by decide +kernel
theorem dX9_allWeights_24 : decode cX9_allWeights 24 = .ok (.iadd, 1) := by decide +kernel
theorem dX9_allWeights_25 : decode cX9_allWeights 25 = .ok (.istore_n 1, 1) := by decide +kernel
theorem dX9_allWeights_26 : decode cX9_allWeights 26 = .ok (.iinc 2 1, 3) := by decide +kernel
theorem dX9_allWeights_29 : decode cX9_allWeights 29 = .ok (.goto (-25), 3) := by decide +kernel
theorem dX9_allWeights_32 : decode cX9_allWeights 32 = .ok (.iload_n 1, 1) := by decide +kernel
theorem dX9_allWeights_33 : decode cX9_allWeights 33 = .ok (.ireturn, 1) := by decide +kernel
theorem dX9_layApart_0 : decode cX9_layApart 0 = .ok (.iload_n 1, 1) := by decide +kernel
theorem dX9_layApart_1 : decode cX9_layApart 1 = .ok (.ldc 227, 2) := by decide +kernel
theorem dX9_layApart_3 : decode cX9_layApart 3 = .ok (.irem, 1) := by decide +kernel
theorem dX9_layApart_4 : decode cX9_layApart 4 = .ok (.istore_n 2, 1) := by decide +kernel
theorem dX9_layApart_5 : decode cX9_layApart 5 = .ok (.iconst 0, 1) := by decide +kernel
theorem dX9_layApart_6 : decode cX9_layApart 6 = .ok (.istore_n 3, 1) := by decide +kernel
theorem dX9_layApart_7 : decode cX9_layApart 7 = .ok (.iload_n 3, 1) := by decide +kernel
theorem dX9_layApart_8 : decode cX9_layApart 8 = .ok (.iconst 5, 1) := by decide +kernel
theorem dX9_layApart_9 : decode cX9_layApart 9 = .ok (.if_icmp .ge 24, 3) := by decide +kernel
theorem dX9_layApart_12 : decode cX9_layApart 12 = .ok (.aload_n 0, 1) := by decide +kernel
theorem dX9_layApart_13 : decode cX9_layApart 13 = .ok (.getfield 32, 3) := by decide +kernel
theorem dX9_layApart_16 : decode cX9_layApart 16 = .ok (.iload_n 3, 1) := by decide +kernel
theorem dX9_layApart_17 : decode cX9_layApart 17 = .ok (.iload_n 2, 1) := by decide +kernel
theorem dX9_layApart_18 : decode cX9_layApart 18 = .ok (.bipush 9, 2) := by decide +kernel
theorem dX9_layApart_20 : decode cX9_layApart 20 = .ok (.irem, 1) := by decide +kernel
theorem dX9_layApart_21 : decode cX9_layApart 21 = .ok (.iastore, 1) := by decide +kernel
theorem dX9_layApart_22 : decode cX9_layApart 22 = .ok (.iload_n 2, 1) := by decide +kernel
theorem dX9_layApart_23 : decode cX9_layApart 23 = .ok (.bipush 9, 2) := by decide +kernel
theorem dX9_layApart_25 : decode cX9_layApart 25 = .ok (.idiv, 1) := by decide +kernel
theorem dX9_layApart_26 : decode cX9_layApart 26 = .ok (.istore_n 2, 1) := by decide +kernel
theorem dX9_layApart_27 : decode cX9_layApart 27 = .ok (.iinc 3 1, 3) := by decide +kernel
theorem dX9_layApart_30 : decode cX9_layApart 30 = .ok (.goto (-23), 3) := by decide +kernel
theorem dX9_layApart_33 : decode cX9_layApart 33 = .ok (.aload_n 0, 1) := by decide +kernel
theorem dX9_layApart_34 : decode cX9_layApart 34 = .ok (.iload_n 1, 1) := by decide +kernel
theorem dX9_layApart_35 : decode cX9_layApart 35 = .ok (.ldc 227, 2) := by decide +kernel
theorem dX9_layApart_37 : decode cX9_layApart 37 = .ok (.idiv, 1) := by decide +kernel
theorem dX9_layApart_38 : decode cX9_layApart 38 = .ok (.iconst 1, 1) := by decide +kernel
theorem dX9_layApart_39 : decode cX9_layApart 39 = .ok (.isub, 1) := by decide +kernel
theorem dX9_layApart_40 : decode cX9_layApart 40 = .ok (.putfield 228, 3) := by decide +kernel
theorem dX9_layApart_43 : decode cX9_layApart 43 = .ok (.return_, 1) := by decide +kernel
theorem dX9_together_0 : decode cX9_together 0 = .ok (.iconst 0, 1) := by decide +kernel
theorem dX9_together_1 : decode cX9_together 1 = .ok (.istore_n 1, 1) := by decide +kernel
theorem dX9_together_2 : decode cX9_together 2 = .ok (.iconst 4, 1) := by decide +kernel
theorem dX9_together_3 : decode cX9_together 3 = .ok (.istore_n 2, 1) := by decide +kernel
theorem dX9_together_4 : decode cX9_together 4 = .ok (.iload_n 2, 1) := by decide +kernel
theorem dX9_together_5 : decode cX9_together 5 = .ok (.ifCond .lt 21, 3) := by decide +kernel
theorem dX9_together_8 : decode cX9_together 8 = .ok (.bipush 9, 2) := by decide +kernel
theorem dX9_together_10 : decode cX9_together 10 = .ok (.iload_n 1, 1) := by decide +kernel
theorem dX9_together_11 : decode cX9_together 11 = .ok (.imul, 1) := by decide +kernel
theorem dX9_together_12 : decode cX9_together 12 = .ok (.aload_n 0, 1) := by decide +kernel
theorem dX9_together_13 : decode cX9_together 13 = .ok (.getfield 32, 3) := by decide +kernel
theorem dX9_together_16 : decode cX9_together 16 = .ok (.iload_n 2, 1) := by decide +kernel
theorem dX9_together_17 : decode cX9_together 17 = .ok (.iaload, 1) := by decide +kernel
theorem dX9_together_18 : decode cX9_together 18 = .ok (.iadd, 1) := by decide +kernel
theorem dX9_together_19 : decode cX9_together 19 = .ok (.istore_n 1, 1) := by decide +kernel
theorem dX9_together_20 : decode cX9_together 20 = .ok (.iinc 2 (-1), 3) := by decide +kernel
theorem dX9_together_23 : decode cX9_together 23 = .ok (.goto (-19), 3) := by decide +kernel
theorem dX9_together_26 : decode cX9_together 26 = .ok (.iload_n 1, 1) := by decide +kernel
theorem dX9_together_27 : decode cX9_together 27 = .ok (.ldc 227, 2) := by decide +kernel
theorem dX9_together_29 : decode cX9_together 29 = .ok (.aload_n 0, 1) := by decide +kernel
theorem dX9_together_30 : decode cX9_together 30 = .ok (.getfield 228, 3) := by decide +kernel
theorem dX9_together_33 : decode cX9_together 33 = .ok (.iconst 1, 1) := by decide +kernel
theorem dX9_together_34 : decode cX9_together 34 = .ok (.iadd, 1) := by decide +kernel
theorem dX9_together_35 : decode cX9_together 35 = .ok (.imul, 1) := by decide +kernel
theorem dX9_together_36 : decode cX9_together 36 = .ok (.iadd, 1) := by decide +kernel
theorem dX9_together_37 : decode cX9_together 37 = .ok (.ireturn, 1) := by decide +kernel
theorem dX9_goesTo_0 : decode cX9_goesTo 0 = .ok (.iload_n 1, 1) := by decide +kernel
theorem dX9_goesTo_1 : decode cX9_goesTo 1 = .ok (.istore_n 2, 1) := by decide +kernel
theorem dX9_goesTo_2 : decode cX9_goesTo 2 = .ok (.iconst 0, 1) := by decide +kernel
theorem dX9_goesTo_3 : decode cX9_goesTo 3 = .ok (.istore_n 3, 1) := by decide +kernel
theorem dX9_goesTo_4 : decode cX9_goesTo 4 = .ok (.iload_n 3, 1) := by decide +kernel
theorem dX9_goesTo_5 : decode cX9_goesTo 5 = .ok (.aload_n 0, 1) := by decide +kernel
theorem dX9_goesTo_6 : decode cX9_goesTo 6 = .ok (.getfield 20, 3) := by decide +kernel
theorem dX9_goesTo_9 : decode cX9_goesTo 9 = .ok (.iconst 0, 1) := by decide +kernel
theorem dX9_goesTo_10 : decode cX9_goesTo 10 = .ok (.iaload, 1) := by decide +kernel
theorem dX9_goesTo_11 : decode cX9_goesTo 11 = .ok (.if_icmp .ge 49, 3) := by decide +kernel
theorem dX9_goesTo_14 : decode cX9_goesTo 14 = .ok (.aload_n 0, 1) := by decide +kernel
theorem dX9_goesTo_15 : decode cX9_goesTo 15 = .ok (.getfield 32, 3) := by decide +kernel
theorem dX9_goesTo_18 : decode cX9_goesTo 18 = .ok (.iload_n 2, 1) := by decide +kernel
theorem dX9_goesTo_19 : decode cX9_goesTo 19 = .ok (.iaload, 1) := by decide +kernel
theorem dX9_goesTo_20 : decode cX9_goesTo 20 = .ok (.aload_n 0, 1) := by decide +kernel
theorem dX9_goesTo_21 : decode cX9_goesTo 21 = .ok (.getfield 20, 3) := by decide +kernel
theorem dX9_goesTo_24 : decode cX9_goesTo 24 = .ok (.iconst 2, 1) := by decide +kernel
theorem dX9_goesTo_25 : decode cX9_goesTo 25 = .ok (.iload_n 2, 1) := by decide +kernel
theorem dX9_goesTo_26 : decode cX9_goesTo 26 = .ok (.iadd, 1) := by decide +kernel
theorem dX9_goesTo_27 : decode cX9_goesTo 27 = .ok (.iaload, 1) := by decide +kernel
theorem dX9_goesTo_28 : decode cX9_goesTo 28 = .ok (.if_icmp .ge 15, 3) := by decide +kernel
theorem dX9_goesTo_31 : decode cX9_goesTo 31 = .ok (.aload_n 0, 1) := by decide +kernel
theorem dX9_goesTo_32 : decode cX9_goesTo 32 = .ok (.getfield 32, 3) := by decide +kernel
theorem dX9_goesTo_35 : decode cX9_goesTo 35 = .ok (.iload_n 2, 1) := by decide +kernel
theorem dX9_goesTo_36 : decode cX9_goesTo 36 = .ok (.dup2, 1) := by decide +kernel
theorem dX9_goesTo_37 : decode cX9_goesTo 37 = .ok (.iaload, 1) := by decide +kernel
theorem dX9_goesTo_38 : decode cX9_goesTo 38 = .ok (.iconst 1, 1) := by decide +kernel
theorem dX9_goesTo_39 : decode cX9_goesTo 39 = .ok (.iadd, 1) := by decide +kernel
theorem dX9_goesTo_40 : decode cX9_goesTo 40 = .ok (.iastore, 1) := by decide +kernel
theorem dX9_goesTo_41 : decode cX9_goesTo 41 = .ok (.iload_n 2, 1) := by decide +kernel
theorem dX9_goesTo_42 : decode cX9_goesTo 42 = .ok (.ireturn, 1) := by decide +kernel
theorem dX9_goesTo_43 : decode cX9_goesTo 43 = .ok (.iload_n 2, 1) := by decide +kernel
theorem dX9_goesTo_44 : decode cX9_goesTo 44 = .ok (.iconst 1, 1) := by decide +kernel
theorem dX9_goesTo_45 : decode cX9_goesTo 45 = .ok (.iadd, 1) := by decide +kernel
theorem dX9_goesTo_46 : decode cX9_goesTo 46 = .ok (.aload_n 0, 1) := by decide +kernel
theorem dX9_goesTo_47 : decode cX9_goesTo 47 = .ok (.getfield 20, 3) := by decide +kernel
theorem dX9_goesTo_50 : decode cX9_goesTo 50 = .ok (.iconst 0, 1) := by decide +kernel
theorem dX9_goesTo_51 : decode cX9_goesTo 51 = .ok (.iaload, 1) := by decide +kernel
theorem dX9_goesTo_52 : decode cX9_goesTo 52 = .ok (.irem, 1) := by decide +kernel
theorem dX9_goesTo_53 : decode cX9_goesTo 53 = .ok (.istore_n 2, 1) := by decide +kernel
theorem dX9_goesTo_54 : decode cX9_goesTo 54 = .ok (.iinc 3 1, 3) := by decide +kernel
theorem dX9_goesTo_57 : decode cX9_goesTo 57 = .ok (.goto (-53), 3) := by decide +kernel
theorem dX9_goesTo_60 : decode cX9_goesTo 60 = .ok (.iconst (-1), 1) := by decide +kernel
theorem dX9_goesTo_61 : decode cX9_goesTo 61 = .ok (.ireturn, 1) := by decide +kernel
theorem dX9_moves_0 : decode cX9_moves 0 = .ok (.aload_n 0, 1) := by decide +kernel
theorem dX9_moves_1 : decode cX9_moves 1 = .ok (.getfield 20, 3) := by decide +kernel
theorem dX9_moves_4 : decode cX9_moves 4 = .ok (.bipush 38, 2) := by decide +kernel
theorem dX9_moves_6 : decode cX9_moves 6 = .ok (.iaload, 1) := by decide +kernel
theorem dX9_moves_7 : decode cX9_moves 7 = .ok (.ifCond .eq 15, 3) := by decide +kernel
theorem dX9_moves_10 : decode cX9_moves 10 = .ok (.iload_n 1, 1) := by decide +kernel
theorem dX9_moves_11 : decode cX9_moves 11 = .ok (.aload_n 0, 1) := by decide +kernel
theorem dX9_moves_12 : decode cX9_moves 12 = .ok (.getfield 20, 3) := by decide +kernel
theorem dX9_moves_15 : decode cX9_moves 15 = .ok (.bipush 38, 2) := by decide +kernel
theorem dX9_moves_17 : decode cX9_moves 17 = .ok (.iaload, 1) := by decide +kernel
theorem dX9_moves_18 : decode cX9_moves 18 = .ok (.irem, 1) := by decide +kernel
theorem dX9_moves_19 : decode cX9_moves 19 = .ok (.ifCond .eq 4, 3) := by decide +kernel
theorem dX9_moves_22 : decode cX9_moves 22 = .ok (.return_, 1) := by decide +kernel
theorem dX9_moves_23 : decode cX9_moves 23 = .ok (.iconst 0, 1) := by decide +kernel
theorem dX9_moves_24 : decode cX9_moves 24 = .ok (.istore_n 2, 1) := by decide +kernel
theorem dX9_moves_25 : decode cX9_moves 25 = .ok (.iconst 0, 1) := by decide +kernel
theorem dX9_moves_26 : decode cX9_moves 26 = .ok (.istore_n 3, 1) := by decide +kernel
theorem dX9_moves_27 : decode cX9_moves 27 = .ok (.iconst 1, 1) := by decide +kernel
theorem dX9_moves_28 : decode cX9_moves 28 = .ok (.istore 4, 2) := by decide +kernel
theorem dX9_moves_30 : decode cX9_moves 30 = .ok (.iload 4, 2) := by decide +kernel
theorem dX9_moves_32 : decode cX9_moves 32 = .ok (.aload_n 0, 1) := by decide +kernel
theorem dX9_moves_33 : decode cX9_moves 33 = .ok (.getfield 20, 3) := by decide +kernel
theorem dX9_moves_36 : decode cX9_moves 36 = .ok (.iconst 0, 1) := by decide +kernel
theorem dX9_moves_37 : decode cX9_moves 37 = .ok (.iaload, 1) := by decide +kernel
theorem dX9_moves_38 : decode cX9_moves 38 = .ok (.if_icmp .ge 55, 3) := by decide +kernel
theorem dX9_moves_41 : decode cX9_moves 41 = .ok (.aload_n 0, 1) := by decide +kernel
theorem dX9_moves_42 : decode cX9_moves 42 = .ok (.getfield 32, 3) := by decide +kernel
theorem dX9_moves_45 : decode cX9_moves 45 = .ok (.iload 4, 2) := by decide +kernel
theorem dX9_moves_47 : decode cX9_moves 47 = .ok (.iaload, 1) := by decide +kernel
theorem dX9_moves_48 : decode cX9_moves 48 = .ok (.aload_n 0, 1) := by decide +kernel
theorem dX9_moves_49 : decode cX9_moves 49 = .ok (.getfield 32, 3) := by decide +kernel
theorem dX9_moves_52 : decode cX9_moves 52 = .ok (.iload_n 2, 1) := by decide +kernel
theorem dX9_moves_53 : decode cX9_moves 53 = .ok (.iaload, 1) := by decide +kernel
theorem dX9_moves_54 : decode cX9_moves 54 = .ok (.if_icmp .le 8, 3) := by decide +kernel
theorem dX9_moves_57 : decode cX9_moves 57 = .ok (.iload 4, 2) := by decide +kernel
theorem dX9_moves_59 : decode cX9_moves 59 = .ok (.goto 4, 3) := by decide +kernel
theorem dX9_moves_62 : decode cX9_moves 62 = .ok (.iload_n 2, 1) := by decide +kernel
theorem dX9_moves_63 : decode cX9_moves 63 = .ok (.istore_n 2, 1) := by decide +kernel
theorem dX9_moves_64 : decode cX9_moves 64 = .ok (.aload_n 0, 1) := by decide +kernel
theorem dX9_moves_65 : decode cX9_moves 65 = .ok (.getfield 32, 3) := by decide +kernel
theorem dX9_moves_68 : decode cX9_moves 68 = .ok (.iload 4, 2) := by decide +kernel
theorem dX9_moves_70 : decode cX9_moves 70 = .ok (.iaload, 1) := by decide +kernel
theorem dX9_moves_71 : decode cX9_moves 71 = .ok (.aload_n 0, 1) := by decide +kernel
theorem dX9_moves_72 : decode cX9_moves 72 = .ok (.getfield 32, 3) := by decide +kernel
theorem dX9_moves_75 : decode cX9_moves 75 = .ok (.iload_n 3, 1) := by decide +kernel
theorem dX9_moves_76 : decode cX9_moves 76 = .ok (.iaload, 1) := by decide +kernel
theorem dX9_moves_77 : decode cX9_moves 77 = .ok (.if_icmp .ge 8, 3) := by decide +kernel
theorem dX9_moves_80 : decode cX9_moves 80 = .ok (.iload 4, 2) := by decide +kernel
theorem dX9_moves_82 : decode cX9_moves 82 = .ok (.goto 4, 3) := by decide +kernel
theorem dX9_moves_85 : decode cX9_moves 85 = .ok (.iload_n 3, 1) := by decide +kernel
theorem dX9_moves_86 : decode cX9_moves 86 = .ok (.istore_n 3, 1) := by decide +kernel
theorem dX9_moves_87 : decode cX9_moves 87 = .ok (.iinc 4 1, 3) := by decide +kernel
theorem dX9_moves_90 : decode cX9_moves 90 = .ok (.goto (-60), 3) := by decide +kernel
theorem dX9_moves_93 : decode cX9_moves 93 = .ok (.aload_n 0, 1) := by decide +kernel
theorem dX9_moves_94 : decode cX9_moves 94 = .ok (.getfield 32, 3) := by decide +kernel
theorem dX9_moves_97 : decode cX9_moves 97 = .ok (.iload_n 2, 1) := by decide +kernel
theorem dX9_moves_98 : decode cX9_moves 98 = .ok (.iaload, 1) := by decide +kernel
theorem dX9_moves_99 : decode cX9_moves 99 = .ok (.aload_n 0, 1) := by decide +kernel
theorem dX9_moves_100 : decode cX9_moves 100 = .ok (.getfield 32, 3) := by decide +kernel
theorem dX9_moves_103 : decode cX9_moves 103 = .ok (.iload_n 3, 1) := by decide +kernel
theorem dX9_moves_104 : decode cX9_moves 104 = .ok (.iaload, 1) := by decide +kernel
theorem dX9_moves_105 : decode cX9_moves 105 = .ok (.iconst 2, 1) := by decide +kernel
theorem dX9_moves_106 : decode cX9_moves 106 = .ok (.iadd, 1) := by decide +kernel
theorem dX9_moves_107 : decode cX9_moves 107 = .ok (.if_icmp .lt 20, 3) := by decide +kernel
theorem dX9_moves_110 : decode cX9_moves 110 = .ok (.aload_n 0, 1) := by decide +kernel
theorem dX9_moves_111 : decode cX9_moves 111 = .ok (.getfield 32, 3) := by decide +kernel
theorem dX9_moves_114 : decode cX9_moves 114 = .ok (.iload_n 3, 1) := by decide +kernel
theorem dX9_moves_115 : decode cX9_moves 115 = .ok (.iaload, 1) := by decide +kernel
theorem dX9_moves_116 : decode cX9_moves 116 = .ok (.aload_n 0, 1) := by decide +kernel
theorem dX9_moves_117 : decode cX9_moves 117 = .ok (.getfield 20, 3) := by decide +kernel
theorem dX9_moves_120 : decode cX9_moves 120 = .ok (.iconst 2, 1) := by decide +kernel
theorem dX9_moves_121 : decode cX9_moves 121 = .ok (.iload_n 3, 1) := by decide +kernel
theorem dX9_moves_122 : decode cX9_moves 122 = .ok (.iadd, 1) := by decide +kernel
theorem dX9_moves_123 : decode cX9_moves 123 = .ok (.iaload, 1) := by decide +kernel
theorem dX9_moves_124 : decode cX9_moves 124 = .ok (.if_icmp .lt 4, 3) := by decide +kernel
theorem dX9_moves_127 : decode cX9_moves 127 = .ok (.return_, 1) := by decide +kernel
theorem dX9_moves_128 : decode cX9_moves 128 = .ok (.aload_n 0, 1) := by decide +kernel
theorem dX9_moves_129 : decode cX9_moves 129 = .ok (.getfield 32, 3) := by decide +kernel
theorem dX9_moves_132 : decode cX9_moves 132 = .ok (.iload_n 2, 1) := by decide +kernel
theorem dX9_moves_133 : decode cX9_moves 133 = .ok (.dup2, 1) := by decide +kernel
theorem dX9_moves_134 : decode cX9_moves 134 = .ok (.iaload, 1) := by decide +kernel
theorem dX9_moves_135 : decode cX9_moves 135 = .ok (.iconst 1, 1) := by decide +kernel
theorem dX9_moves_136 : decode cX9_moves 136 = .ok (.isub, 1) := by decide +kernel
theorem dX9_moves_137 : decode cX9_moves 137 = .ok (.iastore, 1) := by decide +kernel
theorem dX9_moves_138 : decode cX9_moves 138 = .ok (.aload_n 0, 1) := by decide +kernel
theorem dX9_moves_139 : decode cX9_moves 139 = .ok (.getfield 32, 3) := by decide +kernel
theorem dX9_moves_142 : decode cX9_moves 142 = .ok (.iload_n 3, 1) := by decide +kernel
theorem dX9_moves_143 : decode cX9_moves 143 = .ok (.dup2, 1) := by decide +kernel
theorem dX9_moves_144 : decode cX9_moves 144 = .ok (.iaload, 1) := by decide +kernel
theorem dX9_moves_145 : decode cX9_moves 145 = .ok (.iconst 1, 1) := by decide +kernel
theorem dX9_moves_146 : decode cX9_moves 146 = .ok (.iadd, 1) := by decide +kernel
theorem dX9_moves_147 : decode cX9_moves 147 = .ok (.iastore, 1) := by decide +kernel
theorem dX9_moves_148 : decode cX9_moves 148 = .ok (.return_, 1) := by decide +kernel
theorem dX9_isDoor_0 : decode cX9_isDoor 0 = .ok (.aload_n 0, 1) := by decide +kernel
theorem dX9_isDoor_1 : decode cX9_isDoor 1 = .ok (.getfield 20, 3) := by decide +kernel
theorem dX9_isDoor_4 : decode cX9_isDoor 4 = .ok (.bipush 37, 2) := by decide +kernel
theorem dX9_isDoor_6 : decode cX9_isDoor 6 = .ok (.iaload, 1) := by decide +kernel
theorem dX9_isDoor_7 : decode cX9_isDoor 7 = .ok (.ifCond .le 19, 3) := by decide +kernel
theorem dX9_isDoor_10 : decode cX9_isDoor 10 = .ok (.iload_n 1, 1) := by decide +kernel
theorem dX9_isDoor_11 : decode cX9_isDoor 11 = .ok (.aload_n 0, 1) := by decide +kernel
theorem dX9_isDoor_12 : decode cX9_isDoor 12 = .ok (.getfield 20, 3) := by decide +kernel
theorem dX9_isDoor_15 : decode cX9_isDoor 15 = .ok (.bipush 37, 2) := by decide +kernel
theorem dX9_isDoor_17 : decode cX9_isDoor 17 = .ok (.iaload, 1) := by decide +kernel
theorem dX9_isDoor_18 : decode cX9_isDoor 18 = .ok (.irem, 1) := by decide +kernel
theorem dX9_isDoor_19 : decode cX9_isDoor 19 = .ok (.ifCond .ne 7, 3) := by decide +kernel
theorem dX9_isDoor_22 : decode cX9_isDoor 22 = .ok (.iconst 1, 1) := by decide +kernel
theorem dX9_isDoor_23 : decode cX9_isDoor 23 = .ok (.goto 4, 3) := by decide +kernel
theorem dX9_isDoor_26 : decode cX9_isDoor 26 = .ok (.iconst 0, 1) := by decide +kernel
theorem dX9_isDoor_27 : decode cX9_isDoor 27 = .ok (.ireturn, 1) := by decide +kernel
theorem dX9_emptiest_0 : decode cX9_emptiest 0 = .ok (.iconst (-1), 1) := by decide +kernel
theorem dX9_emptiest_1 : decode cX9_emptiest 1 = .ok (.istore_n 2, 1) := by decide +kernel
theorem dX9_emptiest_2 : decode cX9_emptiest 2 = .ok (.iconst 0, 1) := by decide +kernel
theorem dX9_emptiest_3 : decode cX9_emptiest 3 = .ok (.istore_n 3, 1) := by decide +kernel
theorem dX9_emptiest_4 : decode cX9_emptiest 4 = .ok (.iload_n 3, 1) := by decide +kernel
theorem dX9_emptiest_5 : decode cX9_emptiest 5 = .ok (.aload_n 0, 1) := by decide +kernel
theorem dX9_emptiest_6 : decode cX9_emptiest 6 = .ok (.getfield 20, 3) := by decide +kernel
theorem dX9_emptiest_9 : decode cX9_emptiest 9 = .ok (.iconst 0, 1) := by decide +kernel
theorem dX9_emptiest_10 : decode cX9_emptiest 10 = .ok (.iaload, 1) := by decide +kernel
theorem dX9_emptiest_11 : decode cX9_emptiest 11 = .ok (.if_icmp .ge 39, 3) := by decide +kernel
theorem dX9_emptiest_14 : decode cX9_emptiest 14 = .ok (.iload_n 1, 1) := by decide +kernel
theorem dX9_emptiest_15 : decode cX9_emptiest 15 = .ok (.iload_n 3, 1) := by decide +kernel
theorem dX9_emptiest_16 : decode cX9_emptiest 16 = .ok (.ishr, 1) := by decide +kernel
theorem dX9_emptiest_17 : decode cX9_emptiest 17 = .ok (.iconst 1, 1) := by decide +kernel
theorem dX9_emptiest_18 : decode cX9_emptiest 18 = .ok (.iand, 1) := by decide +kernel
theorem dX9_emptiest_19 : decode cX9_emptiest 19 = .ok (.iconst 1, 1) := by decide +kernel
theorem dX9_emptiest_20 : decode cX9_emptiest 20 = .ok (.if_icmp .ne 24, 3) := by decide +kernel
theorem dX9_emptiest_23 : decode cX9_emptiest 23 = .ok (.iload_n 2, 1) := by decide +kernel
theorem dX9_emptiest_24 : decode cX9_emptiest 24 = .ok (.ifCond .lt 18, 3) := by decide +kernel
theorem dX9_emptiest_27 : decode cX9_emptiest 27 = .ok (.aload_n 0, 1) := by decide +kernel
theorem dX9_emptiest_28 : decode cX9_emptiest 28 = .ok (.getfield 32, 3) := by decide +kernel
theorem dX9_emptiest_31 : decode cX9_emptiest 31 = .ok (.iload_n 3, 1) := by decide +kernel
theorem dX9_emptiest_32 : decode cX9_emptiest 32 = .ok (.iaload, 1) := by decide +kernel
theorem dX9_emptiest_33 : decode cX9_emptiest 33 = .ok (.aload_n 0, 1) := by decide +kernel
theorem dX9_emptiest_34 : decode cX9_emptiest 34 = .ok (.getfield 32, 3) := by decide +kernel
theorem dX9_emptiest_37 : decode cX9_emptiest 37 = .ok (.iload_n 2, 1) := by decide +kernel
theorem dX9_emptiest_38 : decode cX9_emptiest 38 = .ok (.iaload, 1) := by decide +kernel
theorem dX9_emptiest_39 : decode cX9_emptiest 39 = .ok (.if_icmp .ge 5, 3) := by decide +kernel
theorem dX9_emptiest_42 : decode cX9_emptiest 42 = .ok (.iload_n 3, 1) := by decide +kernel
theorem dX9_emptiest_43 : decode cX9_emptiest 43 = .ok (.istore_n 2, 1) := by decide +kernel
theorem dX9_emptiest_44 : decode cX9_emptiest 44 = .ok (.iinc 3 1, 3) := by decide +kernel
theorem dX9_emptiest_47 : decode cX9_emptiest 47 = .ok (.goto (-43), 3) := by decide +kernel
theorem dX9_emptiest_50 : decode cX9_emptiest 50 = .ok (.iload_n 2, 1) := by decide +kernel
theorem dX9_emptiest_51 : decode cX9_emptiest 51 = .ok (.ireturn, 1) := by decide +kernel
theorem dX9_seenBy_0 : decode cX9_seenBy 0 = .ok (.iconst 0, 1) := by decide +kernel
theorem dX9_seenBy_1 : decode cX9_seenBy 1 = .ok (.istore_n 2, 1) := by decide +kernel
theorem dX9_seenBy_2 : decode cX9_seenBy 2 = .ok (.iconst 0, 1) := by decide +kernel
theorem dX9_seenBy_3 : decode cX9_seenBy 3 = .ok (.istore_n 3, 1) := by decide +kernel
theorem dX9_seenBy_4 : decode cX9_seenBy 4 = .ok (.iload_n 3, 1) := by decide +kernel
theorem dX9_seenBy_5 : decode cX9_seenBy 5 = .ok (.iload_n 1, 1) := by decide +kernel
theorem dX9_seenBy_6 : decode cX9_seenBy 6 = .ok (.if_icmp .ge 20, 3) := by decide +kernel
theorem dX9_seenBy_9 : decode cX9_seenBy 9 = .ok (.iload_n 2, 1) := by decide +kernel
theorem dX9_seenBy_10 : decode cX9_seenBy 10 = .ok (.iconst 1, 1) := by decide +kernel
theorem dX9_seenBy_11 : decode cX9_seenBy 11 = .ok (.aload_n 0, 1) := by decide +kernel
theorem dX9_seenBy_12 : decode cX9_seenBy 12 = .ok (.getfield 35, 3) := by decide +kernel
theorem dX9_seenBy_15 : decode cX9_seenBy 15 = .ok (.iload_n 3, 1) := by decide +kernel
theorem dX9_seenBy_16 : decode cX9_seenBy 16 = .ok (.iaload, 1) := by decide +kernel
theorem dX9_seenBy_17 : decode cX9_seenBy 17 = .ok (.ishl, 1) := by decide +kernel
theorem dX9_seenBy_18 : decode cX9_seenBy 18 = .ok (.ior, 1) := by decide +kernel
theorem dX9_seenBy_19 : decode cX9_seenBy 19 = .ok (.istore_n 2, 1) := by decide +kernel
theorem dX9_seenBy_20 : decode cX9_seenBy 20 = .ok (.iinc 3 1, 3) := by decide +kernel
theorem dX9_seenBy_23 : decode cX9_seenBy 23 = .ok (.goto (-19), 3) := by decide +kernel
theorem dX9_seenBy_26 : decode cX9_seenBy 26 = .ok (.iload_n 2, 1) := by decide +kernel
theorem dX9_seenBy_27 : decode cX9_seenBy 27 = .ok (.ireturn, 1) := by decide +kernel
theorem dX9_taken_0 : decode cX9_taken 0 = .ok (.aload_n 0, 1) := by decide +kernel
theorem dX9_taken_1 : decode cX9_taken 1 = .ok (.iload_n 3, 1) := by decide +kernel
theorem dX9_taken_2 : decode cX9_taken 2 = .ok (.invokevirtual 231, 3) := by decide +kernel
theorem dX9_taken_5 : decode cX9_taken 5 = .ok (.istore 5, 2) := by decide +kernel
theorem dX9_taken_7 : decode cX9_taken 7 = .ok (.iload_n 1, 1) := by decide +kernel
theorem dX9_taken_8 : decode cX9_taken 8 = .ok (.tableswitch 206 0 3 #[32, 102, 109, 157], 32) := by decide +kernel
theorem dX9_taken_40 : decode cX9_taken 40 = .ok (.iload 4, 2) := by decide +kernel
theorem dX9_taken_42 : decode cX9_taken 42 = .ok (.istore 6, 2) := by decide +kernel
theorem dX9_taken_44 : decode cX9_taken 44 = .ok (.aload_n 0, 1) := by decide +kernel
theorem dX9_taken_45 : decode cX9_taken 45 = .ok (.getfield 32, 3) := by decide +kernel
theorem dX9_taken_48 : decode cX9_taken 48 = .ok (.aload_n 0, 1) := by decide +kernel
theorem dX9_taken_49 : decode cX9_taken 49 = .ok (.iload 5, 2) := by decide +kernel
theorem dX9_taken_51 : decode cX9_taken 51 = .ok (.invokevirtual 234, 3) := by decide +kernel
theorem dX9_taken_54 : decode cX9_taken 54 = .ok (.iaload, 1) := by decide +kernel
theorem dX9_taken_55 : decode cX9_taken 55 = .ok (.istore 7, 2) := by decide +kernel
theorem dX9_taken_57 : decode cX9_taken 57 = .ok (.iconst 0, 1) := by decide +kernel
theorem dX9_taken_58 : decode cX9_taken 58 = .ok (.istore 8, 2) := by decide +kernel
theorem dX9_taken_60 : decode cX9_taken 60 = .ok (.iload 8, 2) := by decide +kernel
theorem dX9_taken_62 : decode cX9_taken 62 = .ok (.iload_n 3, 1) := by decide +kernel
theorem dX9_taken_63 : decode cX9_taken 63 = .ok (.if_icmp .ge 45, 3) := by decide +kernel
theorem dX9_taken_66 : decode cX9_taken 66 = .ok (.aload_n 0, 1) := by decide +kernel
theorem dX9_taken_67 : decode cX9_taken 67 = .ok (.getfield 32, 3) := by decide +kernel
theorem dX9_taken_70 : decode cX9_taken 70 = .ok (.aload_n 0, 1) := by decide +kernel
theorem dX9_taken_71 : decode cX9_taken 71 = .ok (.getfield 35, 3) := by decide +kernel
theorem dX9_taken_74 : decode cX9_taken 74 = .ok (.iload 8, 2) := by decide +kernel
theorem dX9_taken_76 : decode cX9_taken 76 = .ok (.iaload, 1) := by decide +kernel
theorem dX9_taken_77 : decode cX9_taken 77 = .ok (.iaload, 1) := by decide +kernel
theorem dX9_taken_78 : decode cX9_taken 78 = .ok (.iload 7, 2) := by decide +kernel
theorem dX9_taken_80 : decode cX9_taken 80 = .ok (.if_icmp .eq 6, 3) := by decide +kernel
theorem dX9_taken_83 : decode cX9_taken 83 = .ok (.goto 19, 3) := by decide +kernel
theorem dX9_taken_86 : decode cX9_taken 86 = .ok (.iload 6, 2) := by decide +kernel
theorem dX9_taken_88 : decode cX9_taken 88 = .ok (.ifCond .ne 11, 3) := by decide +kernel
theorem dX9_taken_91 : decode cX9_taken 91 = .ok (.aload_n 0, 1) := by decide +kernel
theorem dX9_taken_92 : decode cX9_taken 92 = .ok (.getfield 35, 3) := by decide +kernel
theorem dX9_taken_95 : decode cX9_taken 95 = .ok (.iload 8, 2) := by decide +kernel
theorem dX9_taken_97 : decode cX9_taken 97 = .ok (.iaload, 1) := by decide +kernel
theorem dX9_taken_98 : decode cX9_taken 98 = .ok (.ireturn, 1) := by decide +kernel
theorem dX9_taken_99 : decode cX9_taken 99 = .ok (.iinc 6 (-1), 3) := by decide +kernel
theorem dX9_taken_102 : decode cX9_taken 102 = .ok (.iinc 8 1, 3) := by decide +kernel
theorem dX9_taken_105 : decode cX9_taken 105 = .ok (.goto (-45), 3) := by decide +kernel
theorem dX9_taken_108 : decode cX9_taken 108 = .ok (.iconst (-1), 1) := by decide +kernel
theorem dX9_taken_109 : decode cX9_taken 109 = .ok (.ireturn, 1) := by decide +kernel
theorem dX9_taken_110 : decode cX9_taken 110 = .ok (.aload_n 0, 1) := by decide +kernel
theorem dX9_taken_111 : decode cX9_taken 111 = .ok (.iload 5, 2) := by decide +kernel
theorem dX9_taken_113 : decode cX9_taken 113 = .ok (.invokevirtual 234, 3) := by decide +kernel
theorem dX9_taken_116 : decode cX9_taken 116 = .ok (.ireturn, 1) := by decide +kernel
theorem dX9_taken_117 : decode cX9_taken 117 = .ok (.iconst 0, 1) := by decide +kernel
theorem dX9_taken_118 : decode cX9_taken 118 = .ok (.istore 8, 2) := by decide +kernel
theorem dX9_taken_120 : decode cX9_taken 120 = .ok (.iload 8, 2) := by decide +kernel
theorem dX9_taken_122 : decode cX9_taken 122 = .ok (.iload_n 3, 1) := by decide +kernel
theorem dX9_taken_123 : decode cX9_taken 123 = .ok (.if_icmp .ge 33, 3) := by decide +kernel
theorem dX9_taken_126 : decode cX9_taken 126 = .ok (.aload_n 0, 1) := by decide +kernel
theorem dX9_taken_127 : decode cX9_taken 127 = .ok (.getfield 32, 3) := by decide +kernel
theorem dX9_taken_130 : decode cX9_taken 130 = .ok (.aload_n 0, 1) := by decide +kernel
theorem dX9_taken_131 : decode cX9_taken 131 = .ok (.getfield 35, 3) := by decide +kernel
theorem dX9_taken_134 : decode cX9_taken 134 = .ok (.iload 8, 2) := by decide +kernel
theorem dX9_taken_136 : decode cX9_taken 136 = .ok (.iaload, 1) := by decide +kernel
theorem dX9_taken_137 : decode cX9_taken 137 = .ok (.iaload, 1) := by decide +kernel
theorem dX9_taken_138 : decode cX9_taken 138 = .ok (.iload_n 2, 1) := by decide +kernel
theorem dX9_taken_139 : decode cX9_taken 139 = .ok (.if_icmp .gt 11, 3) := by decide +kernel
theorem dX9_taken_142 : decode cX9_taken 142 = .ok (.aload_n 0, 1) := by decide +kernel
theorem dX9_taken_143 : decode cX9_taken 143 = .ok (.getfield 35, 3) := by decide +kernel
theorem dX9_taken_146 : decode cX9_taken 146 = .ok (.iload 8, 2) := by decide +kernel
theorem dX9_taken_148 : decode cX9_taken 148 = .ok (.iaload, 1) := by decide +kernel
theorem dX9_taken_149 : decode cX9_taken 149 = .ok (.ireturn, 1) := by decide +kernel
theorem dX9_taken_150 : decode cX9_taken 150 = .ok (.iinc 8 1, 3) := by decide +kernel
theorem dX9_taken_153 : decode cX9_taken 153 = .ok (.goto (-33), 3) := by decide +kernel
theorem dX9_taken_156 : decode cX9_taken 156 = .ok (.aload_n 0, 1) := by decide +kernel
theorem dX9_taken_157 : decode cX9_taken 157 = .ok (.getfield 35, 3) := by decide +kernel
theorem dX9_taken_160 : decode cX9_taken 160 = .ok (.iload_n 3, 1) := by decide +kernel
theorem dX9_taken_161 : decode cX9_taken 161 = .ok (.iconst 1, 1) := by decide +kernel
theorem dX9_taken_162 : decode cX9_taken 162 = .ok (.isub, 1) := by decide +kernel
theorem dX9_taken_163 : decode cX9_taken 163 = .ok (.iaload, 1) := by decide +kernel
theorem dX9_taken_164 : decode cX9_taken 164 = .ok (.ireturn, 1) := by decide +kernel
theorem dX9_taken_165 : decode cX9_taken 165 = .ok (.iload 5, 2) := by decide +kernel
theorem dX9_taken_167 : decode cX9_taken 167 = .ok (.istore 8, 2) := by decide +kernel
theorem dX9_taken_169 : decode cX9_taken 169 = .ok (.iconst 0, 1) := by decide +kernel
theorem dX9_taken_170 : decode cX9_taken 170 = .ok (.istore 9, 2) := by decide +kernel
theorem dX9_taken_172 : decode cX9_taken 172 = .ok (.iload 9, 2) := by decide +kernel
theorem dX9_taken_174 : decode cX9_taken 174 = .ok (.iload_n 3, 1) := by decide +kernel
theorem dX9_taken_175 : decode cX9_taken 175 = .ok (.if_icmp .ge 32, 3) := by decide +kernel
theorem dX9_taken_178 : decode cX9_taken 178 = .ok (.iload 8, 2) := by decide +kernel
theorem dX9_taken_180 : decode cX9_taken 180 = .ok (.iconst 1, 1) := by decide +kernel
theorem dX9_taken_181 : decode cX9_taken 181 = .ok (.aload_n 0, 1) := by decide +kernel
theorem dX9_taken_182 : decode cX9_taken 182 = .ok (.getfield 35, 3) := by decide +kernel
theorem dX9_taken_185 : decode cX9_taken 185 = .ok (.iload 9, 2) := by decide +kernel
theorem dX9_taken_187 : decode cX9_taken 187 = .ok (.iaload, 1) := by decide +kernel
theorem dX9_taken_188 : decode cX9_taken 188 = .ok (.iconst 1, 1) := by decide +kernel
theorem dX9_taken_189 : decode cX9_taken 189 = .ok (.iadd, 1) := by decide +kernel
theorem dX9_taken_190 : decode cX9_taken 190 = .ok (.aload_n 0, 1) := by decide +kernel
theorem dX9_taken_191 : decode cX9_taken 191 = .ok (.getfield 20, 3) := by decide +kernel
theorem dX9_taken_194 : decode cX9_taken 194 = .ok (.iconst 0, 1) := by decide +kernel
theorem dX9_taken_195 : decode cX9_taken 195 = .ok (.iaload, 1) := by decide +kernel
theorem dX9_taken_196 : decode cX9_taken 196 = .ok (.irem, 1) := by decide +kernel
theorem dX9_taken_197 : decode cX9_taken 197 = .ok (.ishl, 1) := by decide +kernel
theorem dX9_taken_198 : decode cX9_taken 198 = .ok (.ior, 1) := by decide +kernel
theorem dX9_taken_199 : decode cX9_taken 199 = .ok (.istore 8, 2) := by decide +kernel
theorem dX9_taken_201 : decode cX9_taken 201 = .ok (.iinc 9 1, 3) := by decide +kernel
theorem dX9_taken_204 : decode cX9_taken 204 = .ok (.goto (-32), 3) := by decide +kernel
theorem dX9_taken_207 : decode cX9_taken 207 = .ok (.aload_n 0, 1) := by decide +kernel
theorem dX9_taken_208 : decode cX9_taken 208 = .ok (.iload 8, 2) := by decide +kernel
theorem dX9_taken_210 : decode cX9_taken 210 = .ok (.invokevirtual 234, 3) := by decide +kernel
theorem dX9_taken_213 : decode cX9_taken 213 = .ok (.ireturn, 1) := by decide +kernel
theorem dX9_taken_214 : decode cX9_taken 214 = .ok (.aload_n 0, 1) := by decide +kernel
theorem dX9_taken_215 : decode cX9_taken 215 = .ok (.aload_n 0, 1) := by decide +kernel
theorem dX9_taken_216 : decode cX9_taken 216 = .ok (.getfield 228, 3) := by decide +kernel
theorem dX9_taken_219 : decode cX9_taken 219 = .ok (.ifCond .ge 8, 3) := by decide +kernel
theorem dX9_taken_222 : decode cX9_taken 222 = .ok (.iload 5, 2) := by decide +kernel
theorem dX9_taken_224 : decode cX9_taken 224 = .ok (.goto 12, 3) := by decide +kernel
theorem dX9_taken_227 : decode cX9_taken 227 = .ok (.iload 5, 2) := by decide +kernel
theorem dX9_taken_229 : decode cX9_taken 229 = .ok (.iconst 1, 1) := by decide +kernel
theorem dX9_taken_230 : decode cX9_taken 230 = .ok (.aload_n 0, 1) := by decide +kernel
theorem dX9_taken_231 : decode cX9_taken 231 = .ok (.getfield 228, 3) := by decide +kernel
theorem dX9_taken_234 : decode cX9_taken 234 = .ok (.ishl, 1) := by decide +kernel
theorem dX9_taken_235 : decode cX9_taken 235 = .ok (.ior, 1) := by decide +kernel
theorem dX9_taken_236 : decode cX9_taken 236 = .ok (.invokevirtual 234, 3) := by decide +kernel
theorem dX9_taken_239 : decode cX9_taken 239 = .ok (.ireturn, 1) := by decide +kernel
theorem dX9_ties_0 : decode cX9_ties 0 = .ok (.aload_n 0, 1) := by decide +kernel
theorem dX9_ties_1 : decode cX9_ties 1 = .ok (.getfield 32, 3) := by decide +kernel
theorem dX9_ties_4 : decode cX9_ties 4 = .ok (.aload_n 0, 1) := by decide +kernel
theorem dX9_ties_5 : decode cX9_ties 5 = .ok (.aload_n 0, 1) := by decide +kernel
theorem dX9_ties_6 : decode cX9_ties 6 = .ok (.iload_n 1, 1) := by decide +kernel
theorem dX9_ties_7 : decode cX9_ties 7 = .ok (.invokevirtual 231, 3) := by decide +kernel
theorem dX9_ties_10 : decode cX9_ties 10 = .ok (.invokevirtual 234, 3) := by decide +kernel
theorem dX9_ties_13 : decode cX9_ties 13 = .ok (.iaload, 1) := by decide +kernel
theorem dX9_ties_14 : decode cX9_ties 14 = .ok (.istore_n 2, 1) := by decide +kernel
theorem dX9_ties_15 : decode cX9_ties 15 = .ok (.iconst 0, 1) := by decide +kernel
theorem dX9_ties_16 : decode cX9_ties 16 = .ok (.istore_n 3, 1) := by decide +kernel
theorem dX9_ties_17 : decode cX9_ties 17 = .ok (.iconst 0, 1) := by decide +kernel
theorem dX9_ties_18 : decode cX9_ties 18 = .ok (.istore 4, 2) := by decide +kernel
theorem dX9_ties_20 : decode cX9_ties 20 = .ok (.iload 4, 2) := by decide +kernel
theorem dX9_ties_22 : decode cX9_ties 22 = .ok (.iload_n 1, 1) := by decide +kernel
theorem dX9_ties_23 : decode cX9_ties 23 = .ok (.if_icmp .ge 33, 3) := by decide +kernel
theorem dX9_ties_26 : decode cX9_ties 26 = .ok (.iload_n 3, 1) := by decide +kernel
theorem dX9_ties_27 : decode cX9_ties 27 = .ok (.aload_n 0, 1) := by decide +kernel
theorem dX9_ties_28 : decode cX9_ties 28 = .ok (.getfield 32, 3) := by decide +kernel
theorem dX9_ties_31 : decode cX9_ties 31 = .ok (.aload_n 0, 1) := by decide +kernel
theorem dX9_ties_32 : decode cX9_ties 32 = .ok (.getfield 35, 3) := by decide +kernel
theorem dX9_ties_35 : decode cX9_ties 35 = .ok (.iload 4, 2) := by decide +kernel
theorem dX9_ties_37 : decode cX9_ties 37 = .ok (.iaload, 1) := by decide +kernel
theorem dX9_ties_38 : decode cX9_ties 38 = .ok (.iaload, 1) := by decide +kernel
theorem dX9_ties_39 : decode cX9_ties 39 = .ok (.iload_n 2, 1) := by decide +kernel
theorem dX9_ties_40 : decode cX9_ties 40 = .ok (.if_icmp .ne 7, 3) := by decide +kernel
theorem dX9_ties_43 : decode cX9_ties 43 = .ok (.iconst 1, 1) := by decide +kernel
theorem dX9_ties_44 : decode cX9_ties 44 = .ok (.goto 4, 3) := by decide +kernel
theorem dX9_ties_47 : decode cX9_ties 47 = .ok (.iconst 0, 1) := by decide +kernel
theorem dX9_ties_48 : decode cX9_ties 48 = .ok (.iadd, 1) := by decide +kernel
theorem dX9_ties_49 : decode cX9_ties 49 = .ok (.istore_n 3, 1) := by decide +kernel
theorem dX9_ties_50 : decode cX9_ties 50 = .ok (.iinc 4 1, 3) := by decide +kernel
theorem dX9_ties_53 : decode cX9_ties 53 = .ok (.goto (-33), 3) := by decide +kernel
theorem dX9_ties_56 : decode cX9_ties 56 = .ok (.iload_n 3, 1) := by decide +kernel
theorem dX9_ties_57 : decode cX9_ties 57 = .ok (.ireturn, 1) := by decide +kernel
theorem dX9_puts_0 : decode cX9_puts 0 = .ok (.aload_n 0, 1) := by decide +kernel
theorem dX9_puts_1 : decode cX9_puts 1 = .ok (.iload_n 2, 1) := by decide +kernel
theorem dX9_puts_2 : decode cX9_puts 2 = .ok (.invokevirtual 231, 3) := by decide +kernel
theorem dX9_puts_5 : decode cX9_puts 5 = .ok (.aload_n 0, 1) := by decide +kernel
theorem dX9_puts_6 : decode cX9_puts 6 = .ok (.getfield 228, 3) := by decide +kernel
theorem dX9_puts_9 : decode cX9_puts 9 = .ok (.ifCond .ge 7, 3) := by decide +kernel
theorem dX9_puts_12 : decode cX9_puts 12 = .ok (.iconst 0, 1) := by decide +kernel
theorem dX9_puts_13 : decode cX9_puts 13 = .ok (.goto 9, 3) := by decide +kernel
theorem dX9_puts_16 : decode cX9_puts 16 = .ok (.iconst 1, 1) := by decide +kernel
theorem dX9_puts_17 : decode cX9_puts 17 = .ok (.aload_n 0, 1) := by decide +kernel
theorem dX9_puts_18 : decode cX9_puts 18 = .ok (.getfield 228, 3) := by decide +kernel
theorem dX9_puts_21 : decode cX9_puts 21 = .ok (.ishl, 1) := by decide +kernel
theorem dX9_puts_22 : decode cX9_puts 22 = .ok (.ior, 1) := by decide +kernel
theorem dX9_puts_23 : decode cX9_puts 23 = .ok (.istore 4, 2) := by decide +kernel
theorem dX9_puts_25 : decode cX9_puts 25 = .ok (.aload_n 0, 1) := by decide +kernel
theorem dX9_puts_26 : decode cX9_puts 26 = .ok (.iload_n 3, 1) := by decide +kernel
theorem dX9_puts_27 : decode cX9_puts 27 = .ok (.invokevirtual 237, 3) := by decide +kernel
theorem dX9_puts_30 : decode cX9_puts 30 = .ok (.istore 5, 2) := by decide +kernel
theorem dX9_puts_32 : decode cX9_puts 32 = .ok (.iload_n 1, 1) := by decide +kernel
theorem dX9_puts_33 : decode cX9_puts 33 = .ok (.iconst 4, 1) := by decide +kernel
theorem dX9_puts_34 : decode cX9_puts 34 = .ok (.if_icmp .ne 13, 3) := by decide +kernel
theorem dX9_puts_37 : decode cX9_puts 37 = .ok (.aload_n 0, 1) := by decide +kernel
theorem dX9_puts_38 : decode cX9_puts 38 = .ok (.aload_n 0, 1) := by decide +kernel
theorem dX9_puts_39 : decode cX9_puts 39 = .ok (.iload 4, 2) := by decide +kernel
theorem dX9_puts_41 : decode cX9_puts 41 = .ok (.invokevirtual 234, 3) := by decide +kernel
theorem dX9_puts_44 : decode cX9_puts 44 = .ok (.putfield 228, 3) := by decide +kernel
theorem dX9_puts_47 : decode cX9_puts 47 = .ok (.iload 5, 2) := by decide +kernel
theorem dX9_puts_49 : decode cX9_puts 49 = .ok (.ireturn, 1) := by decide +kernel
theorem dX9_layGlances_0 : decode cX9_layGlances 0 = .ok (.lconst 1, 1) := by decide +kernel
theorem dX9_layGlances_1 : decode cX9_layGlances 1 = .ok (.lstore_n 3, 1) := by decide +kernel
theorem dX9_layGlances_2 : decode cX9_layGlances 2 = .ok (.iload_n 1, 1) := by decide +kernel
theorem dX9_layGlances_3 : decode cX9_layGlances 3 = .ok (.istore 5, 2) := by decide +kernel
theorem dX9_layGlances_5 : decode cX9_layGlances 5 = .ok (.iload_n 2, 1) := by decide +kernel
theorem dX9_layGlances_6 : decode cX9_layGlances 6 = .ok (.iconst 1, 1) := by decide +kernel
theorem dX9_layGlances_7 : decode cX9_layGlances 7 = .ok (.isub, 1) := by decide +kernel
theorem dX9_layGlances_8 : decode cX9_layGlances 8 = .ok (.istore 6, 2) := by decide +kernel
theorem dX9_layGlances_10 : decode cX9_layGlances 10 = .ok (.iload 6, 2) := by decide +kernel
theorem dX9_layGlances_12 : decode cX9_layGlances 12 = .ok (.ifCond .lt 55, 3) := by decide +kernel
theorem dX9_layGlances_15 : decode cX9_layGlances 15 = .ok (.aload_n 0, 1) := by decide +kernel
theorem dX9_layGlances_16 : decode cX9_layGlances 16 = .ok (.getfield 35, 3) := by decide +kernel
theorem dX9_layGlances_19 : decode cX9_layGlances 19 = .ok (.iload 6, 2) := by decide +kernel
theorem dX9_layGlances_21 : decode cX9_layGlances 21 = .ok (.iload 5, 2) := by decide +kernel
theorem dX9_layGlances_23 : decode cX9_layGlances 23 = .ok (.aload_n 0, 1) := by decide +kernel
theorem dX9_layGlances_24 : decode cX9_layGlances 24 = .ok (.getfield 20, 3) := by decide +kernel
theorem dX9_layGlances_27 : decode cX9_layGlances 27 = .ok (.iconst 0, 1) := by decide +kernel
theorem dX9_layGlances_28 : decode cX9_layGlances 28 = .ok (.iaload, 1) := by decide +kernel
theorem dX9_layGlances_29 : decode cX9_layGlances 29 = .ok (.irem, 1) := by decide +kernel
theorem dX9_layGlances_30 : decode cX9_layGlances 30 = .ok (.iastore, 1) := by decide +kernel
theorem dX9_layGlances_31 : decode cX9_layGlances 31 = .ok (.iload 5, 2) := by decide +kernel
theorem dX9_layGlances_33 : decode cX9_layGlances 33 = .ok (.aload_n 0, 1) := by decide +kernel
theorem dX9_layGlances_34 : decode cX9_layGlances 34 = .ok (.getfield 20, 3) := by decide +kernel
theorem dX9_layGlances_37 : decode cX9_layGlances 37 = .ok (.iconst 0, 1) := by decide +kernel
theorem dX9_layGlances_38 : decode cX9_layGlances 38 = .ok (.iaload, 1) := by decide +kernel
theorem dX9_layGlances_39 : decode cX9_layGlances 39 = .ok (.idiv, 1) := by decide +kernel
theorem dX9_layGlances_40 : decode cX9_layGlances 40 = .ok (.istore 5, 2) := by decide +kernel
theorem dX9_layGlances_42 : decode cX9_layGlances 42 = .ok (.lload_n 3, 1) := by decide +kernel
theorem dX9_layGlances_43 : decode cX9_layGlances 43 = .ok (.aload_n 0, 1) := by decide +kernel
theorem dX9_layGlances_44 : decode cX9_layGlances 44 = .ok (.getfield 20, 3) := by decide +kernel
theorem dX9_layGlances_47 : decode cX9_layGlances 47 = .ok (.bipush 7, 2) := by decide +kernel
theorem dX9_layGlances_49 : decode cX9_layGlances 49 = .ok (.aload_n 0, 1) := by decide +kernel
theorem dX9_layGlances_50 : decode cX9_layGlances 50 = .ok (.getfield 35, 3) := by decide +kernel
theorem dX9_layGlances_53 : decode cX9_layGlances 53 = .ok (.iload 6, 2) := by decide +kernel
theorem dX9_layGlances_55 : decode cX9_layGlances 55 = .ok (.iaload, 1) := by decide +kernel
theorem dX9_layGlances_56 : decode cX9_layGlances 56 = .ok (.iadd, 1) := by decide +kernel
theorem dX9_layGlances_57 : decode cX9_layGlances 57 = .ok (.iaload, 1) := by decide +kernel
theorem dX9_layGlances_58 : decode cX9_layGlances 58 = .ok (.i2l, 1) := by decide +kernel
theorem dX9_layGlances_59 : decode cX9_layGlances 59 = .ok (.lmul, 1) := by decide +kernel
theorem dX9_layGlances_60 : decode cX9_layGlances 60 = .ok (.lstore_n 3, 1) := by decide +kernel
theorem dX9_layGlances_61 : decode cX9_layGlances 61 = .ok (.iinc 6 (-1), 3) := by decide +kernel
theorem dX9_layGlances_64 : decode cX9_layGlances 64 = .ok (.goto (-54), 3) := by decide +kernel
theorem dX9_layGlances_67 : decode cX9_layGlances 67 = .ok (.lload_n 3, 1) := by decide +kernel
theorem dX9_layGlances_68 : decode cX9_layGlances 68 = .ok (.lreturn, 1) := by decide +kernel
theorem dX9_glancesOf_0 : decode cX9_glancesOf 0 = .ok (.iconst 1, 1) := by decide +kernel
theorem dX9_glancesOf_1 : decode cX9_glancesOf 1 = .ok (.istore_n 2, 1) := by decide +kernel
theorem dX9_glancesOf_2 : decode cX9_glancesOf 2 = .ok (.iconst 0, 1) := by decide +kernel
theorem dX9_glancesOf_3 : decode cX9_glancesOf 3 = .ok (.istore_n 3, 1) := by decide +kernel
theorem dX9_glancesOf_4 : decode cX9_glancesOf 4 = .ok (.iload_n 3, 1) := by decide +kernel
theorem dX9_glancesOf_5 : decode cX9_glancesOf 5 = .ok (.iload_n 1, 1) := by decide +kernel
theorem dX9_glancesOf_6 : decode cX9_glancesOf 6 = .ok (.if_icmp .ge 18, 3) := by decide +kernel
theorem dX9_glancesOf_9 : decode cX9_glancesOf 9 = .ok (.iload_n 2, 1) := by decide +kernel
theorem dX9_glancesOf_10 : decode cX9_glancesOf 10 = .ok (.aload_n 0, 1) := by decide +kernel
theorem dX9_glancesOf_11 : decode cX9_glancesOf 11 = .ok (.getfield 20, 3) := by decide +kernel
theorem dX9_glancesOf_14 : decode cX9_glancesOf 14 = .ok (.iconst 0, 1) := by decide +kernel
theorem dX9_glancesOf_15 : decode cX9_glancesOf 15 = .ok (.iaload, 1) := by decide +kernel
theorem dX9_glancesOf_16 : decode cX9_glancesOf 16 = .ok (.imul, 1) := by decide +kernel
theorem dX9_glancesOf_17 : decode cX9_glancesOf 17 = .ok (.istore_n 2, 1) := by decide +kernel
theorem dX9_glancesOf_18 : decode cX9_glancesOf 18 = .ok (.iinc 3 1, 3) := by decide +kernel
theorem dX9_glancesOf_21 : decode cX9_glancesOf 21 = .ok (.goto (-17), 3) := by decide +kernel
theorem dX9_glancesOf_24 : decode cX9_glancesOf 24 = .ok (.iload_n 2, 1) := by decide +kernel
theorem dX9_glancesOf_25 : decode cX9_glancesOf 25 = .ok (.ireturn, 1) := by decide +kernel
theorem dX9_waysOf_0 : decode cX9_waysOf 0 = .ok (.lconst 1, 1) := by decide +kernel
theorem dX9_waysOf_1 : decode cX9_waysOf 1 = .ok (.lstore_n 3, 1) := by decide +kernel
theorem dX9_waysOf_2 : decode cX9_waysOf 2 = .ok (.iconst 0, 1) := by decide +kernel
theorem dX9_waysOf_3 : decode cX9_waysOf 3 = .ok (.istore 5, 2) := by decide +kernel
theorem dX9_waysOf_5 : decode cX9_waysOf 5 = .ok (.iload 5, 2) := by decide +kernel
theorem dX9_waysOf_7 : decode cX9_waysOf 7 = .ok (.iload_n 2, 1) := by decide +kernel
theorem dX9_waysOf_8 : decode cX9_waysOf 8 = .ok (.if_icmp .ge 17, 3) := by decide +kernel
theorem dX9_waysOf_11 : decode cX9_waysOf 11 = .ok (.lload_n 3, 1) := by decide +kernel
theorem dX9_waysOf_12 : decode cX9_waysOf 12 = .ok (.aload_n 0, 1) := by decide +kernel
theorem dX9_waysOf_13 : decode cX9_waysOf 13 = .ok (.invokevirtual 240, 3) := by decide +kernel
theorem dX9_waysOf_16 : decode cX9_waysOf 16 = .ok (.i2l, 1) := by decide +kernel
theorem dX9_waysOf_17 : decode cX9_waysOf 17 = .ok (.lmul, 1) := by decide +kernel
theorem dX9_waysOf_18 : decode cX9_waysOf 18 = .ok (.lstore_n 3, 1) := by decide +kernel
theorem dX9_waysOf_19 : decode cX9_waysOf 19 = .ok (.iinc 5 1, 3) := by decide +kernel
theorem dX9_waysOf_22 : decode cX9_waysOf 22 = .ok (.goto (-17), 3) := by decide +kernel
theorem dX9_waysOf_25 : decode cX9_waysOf 25 = .ok (.iload_n 1, 1) := by decide +kernel
theorem dX9_waysOf_26 : decode cX9_waysOf 26 = .ok (.ifCond .ne 12, 3) := by decide +kernel
theorem dX9_waysOf_29 : decode cX9_waysOf 29 = .ok (.lload_n 3, 1) := by decide +kernel
theorem dX9_waysOf_30 : decode cX9_waysOf 30 = .ok (.iload_n 2, 1) := by decide +kernel
theorem dX9_waysOf_31 : decode cX9_waysOf 31 = .ok (.invokestatic 243, 3) := by decide +kernel
theorem dX9_waysOf_34 : decode cX9_waysOf 34 = .ok (.lmul, 1) := by decide +kernel
theorem dX9_waysOf_35 : decode cX9_waysOf 35 = .ok (.goto 4, 3) := by decide +kernel
theorem dX9_waysOf_38 : decode cX9_waysOf 38 = .ok (.lload_n 3, 1) := by decide +kernel
theorem dX9_waysOf_39 : decode cX9_waysOf 39 = .ok (.lreturn, 1) := by decide +kernel
theorem dX9_tiesOf_0 : decode cX9_tiesOf 0 = .ok (.iload_n 0, 1) := by decide +kernel
theorem dX9_tiesOf_1 : decode cX9_tiesOf 1 = .ok (.iconst 3, 1) := by decide +kernel
theorem dX9_tiesOf_2 : decode cX9_tiesOf 2 = .ok (.if_icmp .ne 9, 3) := by decide +kernel
theorem dX9_tiesOf_5 : decode cX9_tiesOf 5 = .ok (.ldc2_w 247, 3) := by decide +kernel
theorem dX9_tiesOf_8 : decode cX9_tiesOf 8 = .ok (.goto 5, 3) := by decide +kernel
theorem dX9_tiesOf_11 : decode cX9_tiesOf 11 = .ok (.iload_n 0, 1) := by decide +kernel
theorem dX9_tiesOf_12 : decode cX9_tiesOf 12 = .ok (.i2l, 1) := by decide +kernel
theorem dX9_tiesOf_13 : decode cX9_tiesOf 13 = .ok (.lreturn, 1) := by decide +kernel
theorem dX9_clearSlots_0 : decode cX9_clearSlots 0 = .ok (.iconst 0, 1) := by decide +kernel
theorem dX9_clearSlots_1 : decode cX9_clearSlots 1 = .ok (.istore_n 1, 1) := by decide +kernel
theorem dX9_clearSlots_2 : decode cX9_clearSlots 2 = .ok (.iload_n 1, 1) := by decide +kernel
theorem dX9_clearSlots_3 : decode cX9_clearSlots 3 = .ok (.sipush 16384, 3) := by decide +kernel
theorem dX9_clearSlots_6 : decode cX9_clearSlots 6 = .ok (.if_icmp .ge 16, 3) := by decide +kernel
theorem dX9_clearSlots_9 : decode cX9_clearSlots 9 = .ok (.aload_n 0, 1) := by decide +kernel
theorem dX9_clearSlots_10 : decode cX9_clearSlots 10 = .ok (.getfield 44, 3) := by decide +kernel
theorem dX9_clearSlots_13 : decode cX9_clearSlots 13 = .ok (.iload_n 1, 1) := by decide +kernel
theorem dX9_clearSlots_14 : decode cX9_clearSlots 14 = .ok (.iconst (-1), 1) := by decide +kernel
theorem dX9_clearSlots_15 : decode cX9_clearSlots 15 = .ok (.iastore, 1) := by decide +kernel
theorem dX9_clearSlots_16 : decode cX9_clearSlots 16 = .ok (.iinc 1 1, 3) := by decide +kernel
theorem dX9_clearSlots_19 : decode cX9_clearSlots 19 = .ok (.goto (-17), 3) := by decide +kernel
theorem dX9_clearSlots_22 : decode cX9_clearSlots 22 = .ok (.aload_n 0, 1) := by decide +kernel
theorem dX9_clearSlots_23 : decode cX9_clearSlots 23 = .ok (.iconst 0, 1) := by decide +kernel
theorem dX9_clearSlots_24 : decode cX9_clearSlots 24 = .ok (.putfield 249, 3) := by decide +kernel
theorem dX9_clearSlots_27 : decode cX9_clearSlots 27 = .ok (.return_, 1) := by decide +kernel
theorem dX9_comesTo_0 : decode cX9_comesTo 0 = .ok (.iload_n 1, 1) := by decide +kernel
theorem dX9_comesTo_1 : decode cX9_comesTo 1 = .ok (.bipush 31, 2) := by decide +kernel
theorem dX9_comesTo_3 : decode cX9_comesTo 3 = .ok (.imul, 1) := by decide +kernel
theorem dX9_comesTo_4 : decode cX9_comesTo 4 = .ok (.sipush 16384, 3) := by decide +kernel
theorem dX9_comesTo_7 : decode cX9_comesTo 7 = .ok (.irem, 1) := by decide +kernel
theorem dX9_comesTo_8 : decode cX9_comesTo 8 = .ok (.istore 4, 2) := by decide +kernel
theorem dX9_comesTo_10 : decode cX9_comesTo 10 = .ok (.aload_n 0, 1) := by decide +kernel
theorem dX9_comesTo_11 : decode cX9_comesTo 11 = .ok (.getfield 44, 3) := by decide +kernel
theorem dX9_comesTo_14 : decode cX9_comesTo 14 = .ok (.iload 4, 2) := by decide +kernel
theorem dX9_comesTo_16 : decode cX9_comesTo 16 = .ok (.iaload, 1) := by decide +kernel
theorem dX9_comesTo_17 : decode cX9_comesTo 17 = .ok (.ifCond .lt 32, 3) := by decide +kernel
theorem dX9_comesTo_20 : decode cX9_comesTo 20 = .ok (.aload_n 0, 1) := by decide +kernel
theorem dX9_comesTo_21 : decode cX9_comesTo 21 = .ok (.getfield 41, 3) := by decide +kernel
theorem dX9_comesTo_24 : decode cX9_comesTo 24 = .ok (.aload_n 0, 1) := by decide +kernel
theorem dX9_comesTo_25 : decode cX9_comesTo 25 = .ok (.getfield 44, 3) := by decide +kernel
theorem dX9_comesTo_28 : decode cX9_comesTo 28 = .ok (.iload 4, 2) := by decide +kernel
theorem dX9_comesTo_30 : decode cX9_comesTo 30 = .ok (.iaload, 1) := by decide +kernel
theorem dX9_comesTo_31 : decode cX9_comesTo 31 = .ok (.iaload, 1) := by decide +kernel
theorem dX9_comesTo_32 : decode cX9_comesTo 32 = .ok (.iload_n 1, 1) := by decide +kernel
theorem dX9_comesTo_33 : decode cX9_comesTo 33 = .ok (.if_icmp .eq 16, 3) := by decide +kernel
theorem dX9_comesTo_36 : decode cX9_comesTo 36 = .ok (.iload 4, 2) := by decide +kernel
theorem dX9_comesTo_38 : decode cX9_comesTo 38 = .ok (.iconst 1, 1) := by decide +kernel
theorem dX9_comesTo_39 : decode cX9_comesTo 39 = .ok (.iadd, 1) := by decide +kernel
theorem dX9_comesTo_40 : decode cX9_comesTo 40 = .ok (.sipush 16384, 3) := by decide +kernel
theorem dX9_comesTo_43 : decode cX9_comesTo 43 = .ok (.irem, 1) := by decide +kernel
theorem dX9_comesTo_44 : decode cX9_comesTo 44 = .ok (.istore 4, 2) := by decide +kernel
theorem dX9_comesTo_46 : decode cX9_comesTo 46 = .ok (.goto (-36), 3) := by decide +kernel
theorem dX9_comesTo_49 : decode cX9_comesTo 49 = .ok (.aload_n 0, 1) := by decide +kernel
theorem dX9_comesTo_50 : decode cX9_comesTo 50 = .ok (.getfield 44, 3) := by decide +kernel
theorem dX9_comesTo_53 : decode cX9_comesTo 53 = .ok (.iload 4, 2) := by decide +kernel
theorem dX9_comesTo_55 : decode cX9_comesTo 55 = .ok (.iaload, 1) := by decide +kernel
theorem dX9_comesTo_56 : decode cX9_comesTo 56 = .ok (.ifCond .ge 44, 3) := by decide +kernel
theorem dX9_comesTo_59 : decode cX9_comesTo 59 = .ok (.aload_n 0, 1) := by decide +kernel
theorem dX9_comesTo_60 : decode cX9_comesTo 60 = .ok (.getfield 44, 3) := by decide +kernel
theorem dX9_comesTo_63 : decode cX9_comesTo 63 = .ok (.iload 4, 2) := by decide +kernel
theorem dX9_comesTo_65 : decode cX9_comesTo 65 = .ok (.aload_n 0, 1) := by decide +kernel
theorem dX9_comesTo_66 : decode cX9_comesTo 66 = .ok (.getfield 249, 3) := by decide +kernel
theorem dX9_comesTo_69 : decode cX9_comesTo 69 = .ok (.iastore, 1) := by decide +kernel
theorem dX9_comesTo_70 : decode cX9_comesTo 70 = .ok (.aload_n 0, 1) := by decide +kernel
theorem dX9_comesTo_71 : decode cX9_comesTo 71 = .ok (.getfield 41, 3) := by decide +kernel
theorem dX9_comesTo_74 : decode cX9_comesTo 74 = .ok (.aload_n 0, 1) := by decide +kernel
theorem dX9_comesTo_75 : decode cX9_comesTo 75 = .ok (.getfield 249, 3) := by decide +kernel
theorem dX9_comesTo_78 : decode cX9_comesTo 78 = .ok (.iload_n 1, 1) := by decide +kernel
theorem dX9_comesTo_79 : decode cX9_comesTo 79 = .ok (.iastore, 1) := by decide +kernel
theorem dX9_comesTo_80 : decode cX9_comesTo 80 = .ok (.aload_n 0, 1) := by decide +kernel
theorem dX9_comesTo_81 : decode cX9_comesTo 81 = .ok (.getfield 51, 3) := by decide +kernel
theorem dX9_comesTo_84 : decode cX9_comesTo 84 = .ok (.aload_n 0, 1) := by decide +kernel
theorem dX9_comesTo_85 : decode cX9_comesTo 85 = .ok (.getfield 249, 3) := by decide +kernel
theorem dX9_comesTo_88 : decode cX9_comesTo 88 = .ok (.lconst 0, 1) := by decide +kernel
theorem dX9_comesTo_89 : decode cX9_comesTo 89 = .ok (.lastore, 1) := by decide +kernel
theorem dX9_comesTo_90 : decode cX9_comesTo 90 = .ok (.aload_n 0, 1) := by decide +kernel
theorem dX9_comesTo_91 : decode cX9_comesTo 91 = .ok (.dup, 1) := by decide +kernel
theorem dX9_comesTo_92 : decode cX9_comesTo 92 = .ok (.getfield 249, 3) := by decide +kernel
theorem dX9_comesTo_95 : decode cX9_comesTo 95 = .ok (.iconst 1, 1) := by decide +kernel
theorem dX9_comesTo_96 : decode cX9_comesTo 96 = .ok (.iadd, 1) := by decide +kernel
theorem dX9_comesTo_97 : decode cX9_comesTo 97 = .ok (.putfield 249, 3) := by decide +kernel
theorem dX9_comesTo_100 : decode cX9_comesTo 100 = .ok (.aload_n 0, 1) := by decide +kernel
theorem dX9_comesTo_101 : decode cX9_comesTo 101 = .ok (.getfield 51, 3) := by decide +kernel
theorem dX9_comesTo_104 : decode cX9_comesTo 104 = .ok (.aload_n 0, 1) := by decide +kernel
theorem dX9_comesTo_105 : decode cX9_comesTo 105 = .ok (.getfield 44, 3) := by decide +kernel
theorem dX9_comesTo_108 : decode cX9_comesTo 108 = .ok (.iload 4, 2) := by decide +kernel
theorem dX9_comesTo_110 : decode cX9_comesTo 110 = .ok (.iaload, 1) := by decide +kernel
theorem dX9_comesTo_111 : decode cX9_comesTo 111 = .ok (.dup2, 1) := by decide +kernel
theorem dX9_comesTo_112 : decode cX9_comesTo 112 = .ok (.laload, 1) := by decide +kernel
theorem dX9_comesTo_113 : decode cX9_comesTo 113 = .ok (.lload_n 2, 1) := by decide +kernel
theorem dX9_comesTo_114 : decode cX9_comesTo 114 = .ok (.ladd, 1) := by decide +kernel
theorem dX9_comesTo_115 : decode cX9_comesTo 115 = .ok (.lastore, 1) := by decide +kernel
theorem dX9_comesTo_116 : decode cX9_comesTo 116 = .ok (.return_, 1) := by decide +kernel
theorem dX9_lays_0 : decode cX9_lays 0 = .ok (.aload_n 0, 1) := by decide +kernel
theorem dX9_lays_1 : decode cX9_lays 1 = .ok (.iconst 1, 1) := by decide +kernel
theorem dX9_lays_2 : decode cX9_lays 2 = .ok (.putfield 252, 3) := by decide +kernel
theorem dX9_lays_5 : decode cX9_lays 5 = .ok (.aload_n 0, 1) := by decide +kernel
theorem dX9_lays_6 : decode cX9_lays 6 = .ok (.getfield 38, 3) := by decide +kernel
theorem dX9_lays_9 : decode cX9_lays 9 = .ok (.iconst 0, 1) := by decide +kernel
theorem dX9_lays_10 : decode cX9_lays 10 = .ok (.iconst 0, 1) := by decide +kernel
theorem dX9_lays_11 : decode cX9_lays 11 = .ok (.iastore, 1) := by decide +kernel
theorem dX9_lays_12 : decode cX9_lays 12 = .ok (.aload_n 0, 1) := by decide +kernel
theorem dX9_lays_13 : decode cX9_lays 13 = .ok (.getfield 47, 3) := by decide +kernel
theorem dX9_lays_16 : decode cX9_lays 16 = .ok (.iconst 0, 1) := by decide +kernel
theorem dX9_lays_17 : decode cX9_lays 17 = .ok (.lconst 1, 1) := by decide +kernel
theorem dX9_lays_18 : decode cX9_lays 18 = .ok (.lastore, 1) := by decide +kernel
theorem dX9_lays_19 : decode cX9_lays 19 = .ok (.aload_n 0, 1) := by decide +kernel
theorem dX9_lays_20 : decode cX9_lays 20 = .ok (.lconst 1, 1) := by decide +kernel
theorem dX9_lays_21 : decode cX9_lays 21 = .ok (.putfield 255, 3) := by decide +kernel
theorem dX9_lays_24 : decode cX9_lays 24 = .ok (.aload_n 0, 1) := by decide +kernel
theorem dX9_lays_25 : decode cX9_lays 25 = .ok (.iload_n 1, 1) := by decide +kernel
theorem dX9_lays_26 : decode cX9_lays 26 = .ok (.iload_n 3, 1) := by decide +kernel
theorem dX9_lays_27 : decode cX9_lays 27 = .ok (.invokevirtual 259, 3) := by decide +kernel
theorem dX9_lays_30 : decode cX9_lays 30 = .ok (.lstore 6, 2) := by decide +kernel
theorem dX9_lays_32 : decode cX9_lays 32 = .ok (.iconst 1, 1) := by decide +kernel
theorem dX9_lays_33 : decode cX9_lays 33 = .ok (.istore 8, 2) := by decide +kernel
theorem dX9_lays_35 : decode cX9_lays 35 = .ok (.iload 8, 2) := by decide +kernel
theorem dX9_lays_37 : decode cX9_lays 37 = .ok (.iload 4, 2) := by decide +kernel
theorem dX9_lays_39 : decode cX9_lays 39 = .ok (.if_icmp .gt 53, 3) := by decide +kernel
theorem dX9_lays_42 : decode cX9_lays 42 = .ok (.iload 5, 2) := by decide +kernel
theorem dX9_lays_44 : decode cX9_lays 44 = .ok (.ifCond .eq 48, 3) := by decide +kernel
theorem dX9_lays_47 : decode cX9_lays 47 = .ok (.aload_n 0, 1) := by decide +kernel
theorem dX9_lays_48 : decode cX9_lays 48 = .ok (.iload 8, 2) := by decide +kernel
theorem dX9_lays_50 : decode cX9_lays 50 = .ok (.invokevirtual 263, 3) := by decide +kernel
theorem dX9_lays_53 : decode cX9_lays 53 = .ok (.ifCond .eq 6, 3) := by decide +kernel
theorem dX9_lays_56 : decode cX9_lays 56 = .ok (.goto 30, 3) := by decide +kernel
theorem dX9_lays_59 : decode cX9_lays 59 = .ok (.aload_n 0, 1) := by decide +kernel
theorem dX9_lays_60 : decode cX9_lays 60 = .ok (.getfield 255, 3) := by decide +kernel
theorem dX9_lays_63 : decode cX9_lays 63 = .ok (.ldc2_w 266, 3) := by decide +kernel
theorem dX9_lays_66 : decode cX9_lays 66 = .ok (.lload 6, 2) := by decide +kernel
theorem dX9_lays_68 : decode cX9_lays 68 = .ok (.ldiv, 1) := by decide +kernel
theorem dX9_lays_69 : decode cX9_lays 69 = .ok (.lcmp, 1) := by decide +kernel
theorem dX9_lays_70 : decode cX9_lays 70 = .ok (.ifCond .le 5, 3) := by decide +kernel
theorem dX9_lays_73 : decode cX9_lays 73 = .ok (.iconst 0, 1) := by decide +kernel
theorem dX9_lays_74 : decode cX9_lays 74 = .ok (.ireturn, 1) := by decide +kernel
theorem dX9_lays_75 : decode cX9_lays 75 = .ok (.aload_n 0, 1) := by decide +kernel
theorem dX9_lays_76 : decode cX9_lays 76 = .ok (.dup, 1) := by decide +kernel
theorem dX9_lays_77 : decode cX9_lays 77 = .ok (.getfield 255, 3) := by decide +kernel
theorem dX9_lays_80 : decode cX9_lays 80 = .ok (.lload 6, 2) := by decide +kernel
theorem dX9_lays_82 : decode cX9_lays 82 = .ok (.lmul, 1) := by decide +kernel
theorem dX9_lays_83 : decode cX9_lays 83 = .ok (.putfield 255, 3) := by decide +kernel
theorem dX9_lays_86 : decode cX9_lays 86 = .ok (.iinc 8 1, 3) := by decide +kernel
theorem dX9_lays_89 : decode cX9_lays 89 = .ok (.goto (-54), 3) := by decide +kernel
theorem dX9_lays_92 : decode cX9_lays 92 = .ok (.iconst 1, 1) := by decide +kernel
theorem dX9_lays_93 : decode cX9_lays 93 = .ok (.istore 8, 2) := by decide +kernel
theorem dX9_lays_95 : decode cX9_lays 95 = .ok (.iload 8, 2) := by decide +kernel
theorem dX9_lays_97 : decode cX9_lays 97 = .ok (.iload 4, 2) := by decide +kernel
theorem dX9_lays_99 : decode cX9_lays 99 = .ok (.if_icmp .gt 149, 3) := by decide +kernel
theorem dX9_lays_102 : decode cX9_lays 102 = .ok (.aload_n 0, 1) := by decide +kernel
theorem dX9_lays_103 : decode cX9_lays 103 = .ok (.invokevirtual 268, 3) := by decide +kernel
theorem dX9_lays_106 : decode cX9_lays 106 = .ok (.iconst 0, 1) := by decide +kernel
theorem dX9_lays_107 : decode cX9_lays 107 = .ok (.istore 9, 2) := by decide +kernel
theorem dX9_lays_109 : decode cX9_lays 109 = .ok (.iload 9, 2) := by decide +kernel
theorem dX9_lays_111 : decode cX9_lays 111 = .ok (.aload_n 0, 1) := by decide +kernel
theorem dX9_lays_112 : decode cX9_lays 112 = .ok (.getfield 252, 3) := by decide +kernel
theorem dX9_lays_115 : decode cX9_lays 115 = .ok (.if_icmp .ge 73, 3) := by decide +kernel
theorem dX9_lays_118 : decode cX9_lays 118 = .ok (.aload_n 0, 1) := by decide +kernel
theorem dX9_lays_119 : decode cX9_lays 119 = .ok (.iload 8, 2) := by decide +kernel
theorem dX9_lays_121 : decode cX9_lays 121 = .ok (.invokevirtual 263, 3) := by decide +kernel
theorem dX9_lays_124 : decode cX9_lays 124 = .ok (.ifCond .eq 26, 3) := by decide +kernel
theorem dX9_lays_127 : decode cX9_lays 127 = .ok (.aload_n 0, 1) := by decide +kernel
theorem dX9_lays_128 : decode cX9_lays 128 = .ok (.aload_n 0, 1) := by decide +kernel
theorem dX9_lays_129 : decode cX9_lays 129 = .ok (.getfield 38, 3) := by decide +kernel
theorem dX9_lays_132 : decode cX9_lays 132 = .ok (.iload 9, 2) := by decide +kernel
theorem dX9_lays_134 : decode cX9_lays 134 = .ok (.iaload, 1) := by decide +kernel
theorem dX9_lays_135 : decode cX9_lays 135 = .ok (.aload_n 0, 1) := by decide +kernel
theorem dX9_lays_136 : decode cX9_lays 136 = .ok (.getfield 47, 3) := by decide +kernel
theorem dX9_lays_139 : decode cX9_lays 139 = .ok (.iload 9, 2) := by decide +kernel
theorem dX9_lays_141 : decode cX9_lays 141 = .ok (.laload, 1) := by decide +kernel
theorem dX9_lays_142 : decode cX9_lays 142 = .ok (.iload 8, 2) := by decide +kernel
theorem dX9_lays_144 : decode cX9_lays 144 = .ok (.invokevirtual 271, 3) := by decide +kernel
theorem dX9_lays_147 : decode cX9_lays 147 = .ok (.goto 35, 3) := by decide +kernel
theorem dX9_lays_150 : decode cX9_lays 150 = .ok (.aload_n 0, 1) := by decide +kernel
theorem dX9_lays_151 : decode cX9_lays 151 = .ok (.iload_n 1, 1) := by decide +kernel
theorem dX9_lays_152 : decode cX9_lays 152 = .ok (.iload_n 2, 1) := by decide +kernel
theorem dX9_lays_153 : decode cX9_lays 153 = .ok (.iload_n 3, 1) := by decide +kernel
theorem dX9_lays_154 : decode cX9_lays 154 = .ok (.aload_n 0, 1) := by decide +kernel
theorem dX9_lays_155 : decode cX9_lays 155 = .ok (.getfield 38, 3) := by decide +kernel
theorem dX9_lays_158 : decode cX9_lays 158 = .ok (.iload 9, 2) := by decide +kernel
theorem dX9_lays_160 : decode cX9_lays 160 = .ok (.iaload, 1) := by decide +kernel
theorem dX9_lays_161 : decode cX9_lays 161 = .ok (.iload 5, 2) := by decide +kernel
theorem dX9_lays_163 : decode cX9_lays 163 = .ok (.ifCond .eq 13, 3) := by decide +kernel
theorem dX9_lays_166 : decode cX9_lays 166 = .ok (.aload_n 0, 1) := by decide +kernel
theorem dX9_lays_167 : decode cX9_lays 167 = .ok (.getfield 47, 3) := by decide +kernel
theorem dX9_lays_170 : decode cX9_lays 170 = .ok (.iload 9, 2) := by decide +kernel
theorem dX9_lays_172 : decode cX9_lays 172 = .ok (.laload, 1) := by decide +kernel
theorem dX9_lays_173 : decode cX9_lays 173 = .ok (.goto 4, 3) := by decide +kernel
theorem dX9_lays_176 : decode cX9_lays 176 = .ok (.lconst 0, 1) := by decide +kernel
theorem dX9_lays_177 : decode cX9_lays 177 = .ok (.iload 8, 2) := by decide +kernel
theorem dX9_lays_179 : decode cX9_lays 179 = .ok (.invokevirtual 275, 3) := by decide +kernel
theorem dX9_lays_182 : decode cX9_lays 182 = .ok (.iinc 9 1, 3) := by decide +kernel
theorem dX9_lays_185 : decode cX9_lays 185 = .ok (.goto (-76), 3) := by decide +kernel
theorem dX9_lays_188 : decode cX9_lays 188 = .ok (.aload_n 0, 1) := by decide +kernel
theorem dX9_lays_189 : decode cX9_lays 189 = .ok (.aload_n 0, 1) := by decide +kernel
theorem dX9_lays_190 : decode cX9_lays 190 = .ok (.getfield 249, 3) := by decide +kernel
theorem dX9_lays_193 : decode cX9_lays 193 = .ok (.putfield 252, 3) := by decide +kernel
theorem dX9_lays_196 : decode cX9_lays 196 = .ok (.iconst 0, 1) := by decide +kernel
theorem dX9_lays_197 : decode cX9_lays 197 = .ok (.istore 9, 2) := by decide +kernel
theorem dX9_lays_199 : decode cX9_lays 199 = .ok (.iload 9, 2) := by decide +kernel
theorem dX9_lays_201 : decode cX9_lays 201 = .ok (.aload_n 0, 1) := by decide +kernel
theorem dX9_lays_202 : decode cX9_lays 202 = .ok (.getfield 252, 3) := by decide +kernel
theorem dX9_lays_205 : decode cX9_lays 205 = .ok (.if_icmp .ge 37, 3) := by decide +kernel
theorem dX9_lays_208 : decode cX9_lays 208 = .ok (.aload_n 0, 1) := by decide +kernel
theorem dX9_lays_209 : decode cX9_lays 209 = .ok (.getfield 38, 3) := by decide +kernel
theorem dX9_lays_212 : decode cX9_lays 212 = .ok (.iload 9, 2) := by decide +kernel
theorem dX9_lays_214 : decode cX9_lays 214 = .ok (.aload_n 0, 1) := by decide +kernel
theorem dX9_lays_215 : decode cX9_lays 215 = .ok (.getfield 41, 3) := by decide +kernel
theorem dX9_lays_218 : decode cX9_lays 218 = .ok (.iload 9, 2) := by decide +kernel
theorem dX9_lays_220 : decode cX9_lays 220 = .ok (.iaload, 1) := by decide +kernel
theorem dX9_lays_221 : decode cX9_lays 221 = .ok (.iastore, 1) := by decide +kernel
theorem dX9_lays_222 : decode cX9_lays 222 = .ok (.aload_n 0, 1) := by decide +kernel
theorem dX9_lays_223 : decode cX9_lays 223 = .ok (.getfield 47, 3) := by decide +kernel
theorem dX9_lays_226 : decode cX9_lays 226 = .ok (.iload 9, 2) := by decide +kernel
theorem dX9_lays_228 : decode cX9_lays 228 = .ok (.aload_n 0, 1) := by decide +kernel
theorem dX9_lays_229 : decode cX9_lays 229 = .ok (.getfield 51, 3) := by decide +kernel
theorem dX9_lays_232 : decode cX9_lays 232 = .ok (.iload 9, 2) := by decide +kernel
theorem dX9_lays_234 : decode cX9_lays 234 = .ok (.laload, 1) := by decide +kernel
theorem dX9_lays_235 : decode cX9_lays 235 = .ok (.lastore, 1) := by decide +kernel
theorem dX9_lays_236 : decode cX9_lays 236 = .ok (.iinc 9 1, 3) := by decide +kernel
theorem dX9_lays_239 : decode cX9_lays 239 = .ok (.goto (-40), 3) := by decide +kernel
theorem dX9_lays_242 : decode cX9_lays 242 = .ok (.iinc 8 1, 3) := by decide +kernel
theorem dX9_lays_245 : decode cX9_lays 245 = .ok (.goto (-150), 3) := by decide +kernel
theorem dX9_lays_248 : decode cX9_lays 248 = .ok (.iconst 1, 1) := by decide +kernel
theorem dX9_lays_249 : decode cX9_lays 249 = .ok (.ireturn, 1) := by decide +kernel
theorem dX9_byDoor_0 : decode cX9_byDoor 0 = .ok (.aload_n 0, 1) := by decide +kernel
theorem dX9_byDoor_1 : decode cX9_byDoor 1 = .ok (.iload_n 1, 1) := by decide +kernel
theorem dX9_byDoor_2 : decode cX9_byDoor 2 = .ok (.invokevirtual 279, 3) := by decide +kernel
theorem dX9_byDoor_5 : decode cX9_byDoor 5 = .ok (.aload_n 0, 1) := by decide +kernel
theorem dX9_byDoor_6 : decode cX9_byDoor 6 = .ok (.aload_n 0, 1) := by decide +kernel
theorem dX9_byDoor_7 : decode cX9_byDoor 7 = .ok (.getfield 20, 3) := by decide +kernel
theorem dX9_byDoor_10 : decode cX9_byDoor 10 = .ok (.bipush 36, 2) := by decide +kernel
theorem dX9_byDoor_12 : decode cX9_byDoor 12 = .ok (.iaload, 1) := by decide +kernel
theorem dX9_byDoor_13 : decode cX9_byDoor 13 = .ok (.invokevirtual 237, 3) := by decide +kernel
theorem dX9_byDoor_16 : decode cX9_byDoor 16 = .ok (.istore 5, 2) := by decide +kernel
theorem dX9_byDoor_18 : decode cX9_byDoor 18 = .ok (.iload 5, 2) := by decide +kernel
theorem dX9_byDoor_20 : decode cX9_byDoor 20 = .ok (.iconst 5, 1) := by decide +kernel
theorem dX9_byDoor_21 : decode cX9_byDoor 21 = .ok (.if_icmp .ge 9, 3) := by decide +kernel
theorem dX9_byDoor_24 : decode cX9_byDoor 24 = .ok (.aload_n 0, 1) := by decide +kernel
theorem dX9_byDoor_25 : decode cX9_byDoor 25 = .ok (.iload 4, 2) := by decide +kernel
theorem dX9_byDoor_27 : decode cX9_byDoor 27 = .ok (.invokevirtual 283, 3) := by decide +kernel
theorem dX9_byDoor_30 : decode cX9_byDoor 30 = .ok (.aload_n 0, 1) := by decide +kernel
theorem dX9_byDoor_31 : decode cX9_byDoor 31 = .ok (.aload_n 0, 1) := by decide +kernel
theorem dX9_byDoor_32 : decode cX9_byDoor 32 = .ok (.invokevirtual 285, 3) := by decide +kernel
theorem dX9_byDoor_35 : decode cX9_byDoor 35 = .ok (.lload_n 2, 1) := by decide +kernel
theorem dX9_byDoor_36 : decode cX9_byDoor 36 = .ok (.invokevirtual 288, 3) := by decide +kernel
theorem dX9_byDoor_39 : decode cX9_byDoor 39 = .ok (.return_, 1) := by decide +kernel
theorem dX9_byGlances_0 : decode cX9_byGlances 0 = .ok (.aload_n 0, 1) := by decide +kernel
theorem dX9_byGlances_1 : decode cX9_byGlances 1 = .ok (.iload_n 3, 1) := by decide +kernel
theorem dX9_byGlances_2 : decode cX9_byGlances 2 = .ok (.invokevirtual 292, 3) := by decide +kernel
theorem dX9_byGlances_5 : decode cX9_byGlances 5 = .ok (.istore 8, 2) := by decide +kernel
theorem dX9_byGlances_7 : decode cX9_byGlances 7 = .ok (.iconst 0, 1) := by decide +kernel
theorem dX9_byGlances_8 : decode cX9_byGlances 8 = .ok (.istore 9, 2) := by decide +kernel
theorem dX9_byGlances_10 : decode cX9_byGlances 10 = .ok (.iload 9, 2) := by decide +kernel
theorem dX9_byGlances_12 : decode cX9_byGlances 12 = .ok (.iload 8, 2) := by decide +kernel
theorem dX9_byGlances_14 : decode cX9_byGlances 14 = .ok (.if_icmp .ge 121, 3) := by decide +kernel
theorem dX9_byGlances_17 : decode cX9_byGlances 17 = .ok (.aload_n 0, 1) := by decide +kernel
theorem dX9_byGlances_18 : decode cX9_byGlances 18 = .ok (.iload 4, 2) := by decide +kernel
theorem dX9_byGlances_20 : decode cX9_byGlances 20 = .ok (.invokevirtual 279, 3) := by decide +kernel
theorem dX9_byGlances_23 : decode cX9_byGlances 23 = .ok (.aload_n 0, 1) := by decide +kernel
theorem dX9_byGlances_24 : decode cX9_byGlances 24 = .ok (.iload 9, 2) := by decide +kernel
theorem dX9_byGlances_26 : decode cX9_byGlances 26 = .ok (.iload_n 3, 1) := by decide +kernel
theorem dX9_byGlances_27 : decode cX9_byGlances 27 = .ok (.invokevirtual 295, 3) := by decide +kernel
theorem dX9_byGlances_30 : decode cX9_byGlances 30 = .ok (.lload 5, 2) := by decide +kernel
theorem dX9_byGlances_32 : decode cX9_byGlances 32 = .ok (.lmul, 1) := by decide +kernel
theorem dX9_byGlances_33 : decode cX9_byGlances 33 = .ok (.lstore 10, 2) := by decide +kernel
theorem dX9_byGlances_35 : decode cX9_byGlances 35 = .ok (.iload_n 1, 1) := by decide +kernel
theorem dX9_byGlances_36 : decode cX9_byGlances 36 = .ok (.ifCond .ne 11, 3) := by decide +kernel
theorem dX9_byGlances_39 : decode cX9_byGlances 39 = .ok (.aload_n 0, 1) := by decide +kernel
theorem dX9_byGlances_40 : decode cX9_byGlances 40 = .ok (.iload_n 3, 1) := by decide +kernel
theorem dX9_byGlances_41 : decode cX9_byGlances 41 = .ok (.invokevirtual 298, 3) := by decide +kernel
theorem dX9_byGlances_44 : decode cX9_byGlances 44 = .ok (.goto 4, 3) := by decide +kernel
theorem dX9_byGlances_47 : decode cX9_byGlances 47 = .ok (.iconst 1, 1) := by decide +kernel
theorem dX9_byGlances_48 : decode cX9_byGlances 48 = .ok (.istore 12, 2) := by decide +kernel
theorem dX9_byGlances_50 : decode cX9_byGlances 50 = .ok (.iconst 0, 1) := by decide +kernel
theorem dX9_byGlances_51 : decode cX9_byGlances 51 = .ok (.istore 13, 2) := by decide +kernel
theorem dX9_byGlances_53 : decode cX9_byGlances 53 = .ok (.iload 13, 2) := by decide +kernel
theorem dX9_byGlances_55 : decode cX9_byGlances 55 = .ok (.iload 12, 2) := by decide +kernel
theorem dX9_byGlances_57 : decode cX9_byGlances 57 = .ok (.if_icmp .ge 72, 3) := by decide +kernel
theorem dX9_byGlances_60 : decode cX9_byGlances 60 = .ok (.aload_n 0, 1) := by decide +kernel
theorem dX9_byGlances_61 : decode cX9_byGlances 61 = .ok (.iload 4, 2) := by decide +kernel
theorem dX9_byGlances_63 : decode cX9_byGlances 63 = .ok (.invokevirtual 279, 3) := by decide +kernel
theorem dX9_byGlances_66 : decode cX9_byGlances 66 = .ok (.aload_n 0, 1) := by decide +kernel
theorem dX9_byGlances_67 : decode cX9_byGlances 67 = .ok (.iload_n 1, 1) := by decide +kernel
theorem dX9_byGlances_68 : decode cX9_byGlances 68 = .ok (.iload_n 3, 1) := by decide +kernel
theorem dX9_byGlances_69 : decode cX9_byGlances 69 = .ok (.aload_n 0, 1) := by decide +kernel
theorem dX9_byGlances_70 : decode cX9_byGlances 70 = .ok (.iload_n 1, 1) := by decide +kernel
theorem dX9_byGlances_71 : decode cX9_byGlances 71 = .ok (.iload_n 2, 1) := by decide +kernel
theorem dX9_byGlances_72 : decode cX9_byGlances 72 = .ok (.iload_n 3, 1) := by decide +kernel
theorem dX9_byGlances_73 : decode cX9_byGlances 73 = .ok (.iload 13, 2) := by decide +kernel
theorem dX9_byGlances_75 : decode cX9_byGlances 75 = .ok (.invokevirtual 301, 3) := by decide +kernel
theorem dX9_byGlances_78 : decode cX9_byGlances 78 = .ok (.invokevirtual 305, 3) := by decide +kernel
theorem dX9_byGlances_81 : decode cX9_byGlances 81 = .ok (.istore 14, 2) := by decide +kernel
theorem dX9_byGlances_83 : decode cX9_byGlances 83 = .ok (.iload 14, 2) := by decide +kernel
theorem dX9_byGlances_85 : decode cX9_byGlances 85 = .ok (.iconst 5, 1) := by decide +kernel
theorem dX9_byGlances_86 : decode cX9_byGlances 86 = .ok (.if_icmp .ge 9, 3) := by decide +kernel
theorem dX9_byGlances_89 : decode cX9_byGlances 89 = .ok (.aload_n 0, 1) := by decide +kernel
theorem dX9_byGlances_90 : decode cX9_byGlances 90 = .ok (.iload 7, 2) := by decide +kernel
theorem dX9_byGlances_92 : decode cX9_byGlances 92 = .ok (.invokevirtual 283, 3) := by decide +kernel
theorem dX9_byGlances_95 : decode cX9_byGlances 95 = .ok (.aload_n 0, 1) := by decide +kernel
theorem dX9_byGlances_96 : decode cX9_byGlances 96 = .ok (.aload_n 0, 1) := by decide +kernel
theorem dX9_byGlances_97 : decode cX9_byGlances 97 = .ok (.invokevirtual 285, 3) := by decide +kernel
theorem dX9_byGlances_100 : decode cX9_byGlances 100 = .ok (.iload_n 1, 1) := by decide +kernel
theorem dX9_byGlances_101 : decode cX9_byGlances 101 = .ok (.ifCond .ne 17, 3) := by decide +kernel
theorem dX9_byGlances_104 : decode cX9_byGlances 104 = .ok (.lload 10, 2) := by decide +kernel
theorem dX9_byGlances_106 : decode cX9_byGlances 106 = .ok (.iload_n 3, 1) := by decide +kernel
theorem dX9_byGlances_107 : decode cX9_byGlances 107 = .ok (.invokestatic 243, 3) := by decide +kernel
theorem dX9_byGlances_110 : decode cX9_byGlances 110 = .ok (.iload 12, 2) := by decide +kernel
theorem dX9_byGlances_112 : decode cX9_byGlances 112 = .ok (.i2l, 1) := by decide +kernel
theorem dX9_byGlances_113 : decode cX9_byGlances 113 = .ok (.ldiv, 1) := by decide +kernel
theorem dX9_byGlances_114 : decode cX9_byGlances 114 = .ok (.lmul, 1) := by decide +kernel
theorem dX9_byGlances_115 : decode cX9_byGlances 115 = .ok (.goto 5, 3) := by decide +kernel
theorem dX9_byGlances_118 : decode cX9_byGlances 118 = .ok (.lload 10, 2) := by decide +kernel
theorem dX9_byGlances_120 : decode cX9_byGlances 120 = .ok (.invokevirtual 288, 3) := by decide +kernel
theorem dX9_byGlances_123 : decode cX9_byGlances 123 = .ok (.iinc 13 1, 3) := by decide +kernel
theorem dX9_byGlances_126 : decode cX9_byGlances 126 = .ok (.goto (-73), 3) := by decide +kernel
theorem dX9_byGlances_129 : decode cX9_byGlances 129 = .ok (.iinc 9 1, 3) := by decide +kernel
theorem dX9_byGlances_132 : decode cX9_byGlances 132 = .ok (.goto (-122), 3) := by decide +kernel
theorem dX9_byGlances_135 : decode cX9_byGlances 135 = .ok (.return_, 1) := by decide +kernel
theorem dX9_laysBy_0 : decode cX9_laysBy 0 = .ok (.aload_n 0, 1) := by decide +kernel
theorem dX9_laysBy_1 : decode cX9_laysBy 1 = .ok (.aload_n 0, 1) := by decide +kernel
theorem dX9_laysBy_2 : decode cX9_laysBy 2 = .ok (.getfield 20, 3) := by decide +kernel
theorem dX9_laysBy_5 : decode cX9_laysBy 5 = .ok (.bipush 24, 2) := by decide +kernel
theorem dX9_laysBy_7 : decode cX9_laysBy 7 = .ok (.iload_n 1, 1) := by decide +kernel
theorem dX9_laysBy_8 : decode cX9_laysBy 8 = .ok (.iadd, 1) := by decide +kernel
theorem dX9_laysBy_9 : decode cX9_laysBy 9 = .ok (.iaload, 1) := by decide +kernel
theorem dX9_laysBy_10 : decode cX9_laysBy 10 = .ok (.aload_n 0, 1) := by decide +kernel
theorem dX9_laysBy_11 : decode cX9_laysBy 11 = .ok (.getfield 20, 3) := by decide +kernel
theorem dX9_laysBy_14 : decode cX9_laysBy 14 = .ok (.bipush 30, 2) := by decide +kernel
theorem dX9_laysBy_16 : decode cX9_laysBy 16 = .ok (.iload_n 1, 1) := by decide +kernel
theorem dX9_laysBy_17 : decode cX9_laysBy 17 = .ok (.iadd, 1) := by decide +kernel
theorem dX9_laysBy_18 : decode cX9_laysBy 18 = .ok (.iaload, 1) := by decide +kernel
theorem dX9_laysBy_19 : decode cX9_laysBy 19 = .ok (.aload_n 0, 1) := by decide +kernel
theorem dX9_laysBy_20 : decode cX9_laysBy 20 = .ok (.getfield 20, 3) := by decide +kernel
theorem dX9_laysBy_23 : decode cX9_laysBy 23 = .ok (.bipush 18, 2) := by decide +kernel
theorem dX9_laysBy_25 : decode cX9_laysBy 25 = .ok (.iload_n 1, 1) := by decide +kernel
theorem dX9_laysBy_26 : decode cX9_laysBy 26 = .ok (.iadd, 1) := by decide +kernel
theorem dX9_laysBy_27 : decode cX9_laysBy 27 = .ok (.iaload, 1) := by decide +kernel
theorem dX9_laysBy_28 : decode cX9_laysBy 28 = .ok (.iload_n 2, 1) := by decide +kernel
theorem dX9_laysBy_29 : decode cX9_laysBy 29 = .ok (.iconst 1, 1) := by decide +kernel
theorem dX9_laysBy_30 : decode cX9_laysBy 30 = .ok (.invokevirtual 309, 3) := by decide +kernel
theorem dX9_laysBy_33 : decode cX9_laysBy 33 = .ok (.ireturn, 1) := by decide +kernel
theorem dX9_fullestOf_0 : decode cX9_fullestOf 0 = .ok (.aload_n 0, 1) := by decide +kernel
theorem dX9_fullestOf_1 : decode cX9_fullestOf 1 = .ok (.iload_n 1, 1) := by decide +kernel
theorem dX9_fullestOf_2 : decode cX9_fullestOf 2 = .ok (.invokevirtual 279, 3) := by decide +kernel
theorem dX9_fullestOf_5 : decode cX9_fullestOf 5 = .ok (.iconst 0, 1) := by decide +kernel
theorem dX9_fullestOf_6 : decode cX9_fullestOf 6 = .ok (.istore_n 2, 1) := by decide +kernel
theorem dX9_fullestOf_7 : decode cX9_fullestOf 7 = .ok (.iconst 0, 1) := by decide +kernel
theorem dX9_fullestOf_8 : decode cX9_fullestOf 8 = .ok (.istore_n 3, 1) := by decide +kernel
theorem dX9_fullestOf_9 : decode cX9_fullestOf 9 = .ok (.iload_n 3, 1) := by decide +kernel
theorem dX9_fullestOf_10 : decode cX9_fullestOf 10 = .ok (.aload_n 0, 1) := by decide +kernel
theorem dX9_fullestOf_11 : decode cX9_fullestOf 11 = .ok (.getfield 20, 3) := by decide +kernel
theorem dX9_fullestOf_14 : decode cX9_fullestOf 14 = .ok (.iconst 0, 1) := by decide +kernel
theorem dX9_fullestOf_15 : decode cX9_fullestOf 15 = .ok (.iaload, 1) := by decide +kernel
theorem dX9_fullestOf_16 : decode cX9_fullestOf 16 = .ok (.if_icmp .ge 30, 3) := by decide +kernel
theorem dX9_fullestOf_19 : decode cX9_fullestOf 19 = .ok (.aload_n 0, 1) := by decide +kernel
theorem dX9_fullestOf_20 : decode cX9_fullestOf 20 = .ok (.getfield 32, 3) := by decide +kernel
theorem dX9_fullestOf_23 : decode cX9_fullestOf 23 = .ok (.iload_n 3, 1) := by decide +kernel
theorem dX9_fullestOf_24 : decode cX9_fullestOf 24 = .ok (.iaload, 1) := by decide +kernel
theorem dX9_fullestOf_25 : decode cX9_fullestOf 25 = .ok (.iload_n 2, 1) := by decide +kernel
theorem dX9_fullestOf_26 : decode cX9_fullestOf 26 = .ok (.if_icmp .le 12, 3) := by decide +kernel
theorem dX9_fullestOf_29 : decode cX9_fullestOf 29 = .ok (.aload_n 0, 1) := by decide +kernel
theorem dX9_fullestOf_30 : decode cX9_fullestOf 30 = .ok (.getfield 32, 3) := by decide +kernel
theorem dX9_fullestOf_33 : decode cX9_fullestOf 33 = .ok (.iload_n 3, 1) := by decide +kernel
theorem dX9_fullestOf_34 : decode cX9_fullestOf 34 = .ok (.iaload, 1) := by decide +kernel
theorem dX9_fullestOf_35 : decode cX9_fullestOf 35 = .ok (.goto 4, 3) := by decide +kernel
theorem dX9_fullestOf_38 : decode cX9_fullestOf 38 = .ok (.iload_n 2, 1) := by decide +kernel
theorem dX9_fullestOf_39 : decode cX9_fullestOf 39 = .ok (.istore_n 2, 1) := by decide +kernel
theorem dX9_fullestOf_40 : decode cX9_fullestOf 40 = .ok (.iinc 3 1, 3) := by decide +kernel
theorem dX9_fullestOf_43 : decode cX9_fullestOf 43 = .ok (.goto (-34), 3) := by decide +kernel
theorem dX9_fullestOf_46 : decode cX9_fullestOf 46 = .ok (.iload_n 2, 1) := by decide +kernel
theorem dX9_fullestOf_47 : decode cX9_fullestOf 47 = .ok (.ireturn, 1) := by decide +kernel
theorem dX9_waysOfFullest_0 : decode cX9_waysOfFullest 0 = .ok (.lconst 0, 1) := by decide +kernel
theorem dX9_waysOfFullest_1 : decode cX9_waysOfFullest 1 = .ok (.lstore_n 2, 1) := by decide +kernel
theorem dX9_waysOfFullest_2 : decode cX9_waysOfFullest 2 = .ok (.iconst 0, 1) := by decide +kernel
theorem dX9_waysOfFullest_3 : decode cX9_waysOfFullest 3 = .ok (.istore 4, 2) := by decide +kernel
theorem dX9_waysOfFullest_5 : decode cX9_waysOfFullest 5 = .ok (.iload 4, 2) := by decide +kernel
theorem dX9_waysOfFullest_7 : decode cX9_waysOfFullest 7 = .ok (.aload_n 0, 1) := by decide +kernel
theorem dX9_waysOfFullest_8 : decode cX9_waysOfFullest 8 = .ok (.getfield 252, 3) := by decide +kernel
theorem dX9_waysOfFullest_11 : decode cX9_waysOfFullest 11 = .ok (.if_icmp .ge 38, 3) := by decide +kernel
theorem dX9_waysOfFullest_14 : decode cX9_waysOfFullest 14 = .ok (.lload_n 2, 1) := by decide +kernel
theorem dX9_waysOfFullest_15 : decode cX9_waysOfFullest 15 = .ok (.aload_n 0, 1) := by decide +kernel
theorem dX9_waysOfFullest_16 : decode cX9_waysOfFullest 16 = .ok (.aload_n 0, 1) := by decide +kernel
theorem dX9_waysOfFullest_17 : decode cX9_waysOfFullest 17 = .ok (.getfield 38, 3) := by decide +kernel
theorem dX9_waysOfFullest_20 : decode cX9_waysOfFullest 20 = .ok (.iload 4, 2) := by decide +kernel
theorem dX9_waysOfFullest_22 : decode cX9_waysOfFullest 22 = .ok (.iaload, 1) := by decide +kernel
theorem dX9_waysOfFullest_23 : decode cX9_waysOfFullest 23 = .ok (.invokevirtual 313, 3) := by decide +kernel
theorem dX9_waysOfFullest_26 : decode cX9_waysOfFullest 26 = .ok (.iload_n 1, 1) := by decide +kernel
theorem dX9_waysOfFullest_27 : decode cX9_waysOfFullest 27 = .ok (.if_icmp .lt 13, 3) := by decide +kernel
theorem dX9_waysOfFullest_30 : decode cX9_waysOfFullest 30 = .ok (.aload_n 0, 1) := by decide +kernel
theorem dX9_waysOfFullest_31 : decode cX9_waysOfFullest 31 = .ok (.getfield 47, 3) := by decide +kernel
theorem dX9_waysOfFullest_34 : decode cX9_waysOfFullest 34 = .ok (.iload 4, 2) := by decide +kernel
theorem dX9_waysOfFullest_36 : decode cX9_waysOfFullest 36 = .ok (.laload, 1) := by decide +kernel
theorem dX9_waysOfFullest_37 : decode cX9_waysOfFullest 37 = .ok (.goto 4, 3) := by decide +kernel
theorem dX9_waysOfFullest_40 : decode cX9_waysOfFullest 40 = .ok (.lconst 0, 1) := by decide +kernel
theorem dX9_waysOfFullest_41 : decode cX9_waysOfFullest 41 = .ok (.ladd, 1) := by decide +kernel
theorem dX9_waysOfFullest_42 : decode cX9_waysOfFullest 42 = .ok (.lstore_n 2, 1) := by decide +kernel
theorem dX9_waysOfFullest_43 : decode cX9_waysOfFullest 43 = .ok (.iinc 4 1, 3) := by decide +kernel
theorem dX9_waysOfFullest_46 : decode cX9_waysOfFullest 46 = .ok (.goto (-41), 3) := by decide +kernel
theorem dX9_waysOfFullest_49 : decode cX9_waysOfFullest 49 = .ok (.lload_n 2, 1) := by decide +kernel
theorem dX9_waysOfFullest_50 : decode cX9_waysOfFullest 50 = .ok (.lreturn, 1) := by decide +kernel
theorem dX9_common_0 : decode cX9_common 0 = .ok (.lload_n 0, 1) := by decide +kernel
theorem dX9_common_1 : decode cX9_common 1 = .ok (.lstore 4, 2) := by decide +kernel
theorem dX9_common_3 : decode cX9_common 3 = .ok (.lload_n 2, 1) := by decide +kernel
theorem dX9_common_4 : decode cX9_common 4 = .ok (.lstore 6, 2) := by decide +kernel
theorem dX9_common_6 : decode cX9_common 6 = .ok (.lload 6, 2) := by decide +kernel
theorem dX9_common_8 : decode cX9_common 8 = .ok (.lconst 0, 1) := by decide +kernel
theorem dX9_common_9 : decode cX9_common 9 = .ok (.lcmp, 1) := by decide +kernel
theorem dX9_common_10 : decode cX9_common 10 = .ok (.ifCond .eq 21, 3) := by decide +kernel
theorem dX9_common_13 : decode cX9_common 13 = .ok (.lload 4, 2) := by decide +kernel
theorem dX9_common_15 : decode cX9_common 15 = .ok (.lload 6, 2) := by decide +kernel
theorem dX9_common_17 : decode cX9_common 17 = .ok (.lrem, 1) := by decide +kernel
theorem dX9_common_18 : decode cX9_common 18 = .ok (.lstore 8, 2) := by decide +kernel
theorem dX9_common_20 : decode cX9_common 20 = .ok (.lload 6, 2) := by decide +kernel
theorem dX9_common_22 : decode cX9_common 22 = .ok (.lstore 4, 2) := by decide +kernel
theorem dX9_common_24 : decode cX9_common 24 = .ok (.lload 8, 2) := by decide +kernel
theorem dX9_common_26 : decode cX9_common 26 = .ok (.lstore 6, 2) := by decide +kernel
theorem dX9_common_28 : decode cX9_common 28 = .ok (.goto (-22), 3) := by decide +kernel
theorem dX9_common_31 : decode cX9_common 31 = .ok (.lload 4, 2) := by decide +kernel
theorem dX9_common_33 : decode cX9_common 33 = .ok (.lreturn, 1) := by decide +kernel
theorem dX9_lowest_0 : decode cX9_lowest 0 = .ok (.lload_n 0, 1) := by decide +kernel
theorem dX9_lowest_1 : decode cX9_lowest 1 = .ok (.lload_n 2, 1) := by decide +kernel
theorem dX9_lowest_2 : decode cX9_lowest 2 = .ok (.invokestatic 316, 3) := by decide +kernel
theorem dX9_lowest_5 : decode cX9_lowest 5 = .ok (.lstore 5, 2) := by decide +kernel
theorem dX9_lowest_7 : decode cX9_lowest 7 = .ok (.iload 4, 2) := by decide +kernel
theorem dX9_lowest_9 : decode cX9_lowest 9 = .ok (.ifCond .eq 7, 3) := by decide +kernel
theorem dX9_lowest_12 : decode cX9_lowest 12 = .ok (.lload_n 2, 1) := by decide +kernel
theorem dX9_lowest_13 : decode cX9_lowest 13 = .ok (.goto 4, 3) := by decide +kernel
theorem dX9_lowest_16 : decode cX9_lowest 16 = .ok (.lload_n 0, 1) := by decide +kernel
theorem dX9_lowest_17 : decode cX9_lowest 17 = .ok (.lload 5, 2) := by decide +kernel
theorem dX9_lowest_19 : decode cX9_lowest 19 = .ok (.ldiv, 1) := by decide +kernel
theorem dX9_lowest_20 : decode cX9_lowest 20 = .ok (.lreturn, 1) := by decide +kernel
theorem dX9_chanceWhy_0 : decode cX9_chanceWhy 0 = .ok (.aload_n 0, 1) := by decide +kernel
theorem dX9_chanceWhy_1 : decode cX9_chanceWhy 1 = .ok (.iload_n 1, 1) := by decide +kernel
theorem dX9_chanceWhy_2 : decode cX9_chanceWhy 2 = .ok (.invokevirtual 320, 3) := by decide +kernel
theorem dX9_chanceWhy_5 : decode cX9_chanceWhy 5 = .ok (.ifCond .ne 7, 3) := by decide +kernel
theorem dX9_chanceWhy_8 : decode cX9_chanceWhy 8 = .ok (.iconst 1, 1) := by decide +kernel
theorem dX9_chanceWhy_9 : decode cX9_chanceWhy 9 = .ok (.goto 39, 3) := by decide +kernel
theorem dX9_chanceWhy_12 : decode cX9_chanceWhy 12 = .ok (.iload_n 2, 1) := by decide +kernel
theorem dX9_chanceWhy_13 : decode cX9_chanceWhy 13 = .ok (.iconst 0, 1) := by decide +kernel
theorem dX9_chanceWhy_14 : decode cX9_chanceWhy 14 = .ok (.aload_n 0, 1) := by decide +kernel
theorem dX9_chanceWhy_15 : decode cX9_chanceWhy 15 = .ok (.getfield 20, 3) := by decide +kernel
theorem dX9_chanceWhy_18 : decode cX9_chanceWhy 18 = .ok (.iconst 1, 1) := by decide +kernel
theorem dX9_chanceWhy_19 : decode cX9_chanceWhy 19 = .ok (.iaload, 1) := by decide +kernel
theorem dX9_chanceWhy_20 : decode cX9_chanceWhy 20 = .ok (.invokestatic 138, 3) := by decide +kernel
theorem dX9_chanceWhy_23 : decode cX9_chanceWhy 23 = .ok (.ifCond .eq 7, 3) := by decide +kernel
theorem dX9_chanceWhy_26 : decode cX9_chanceWhy 26 = .ok (.iload_n 3, 1) := by decide +kernel
theorem dX9_chanceWhy_27 : decode cX9_chanceWhy 27 = .ok (.ifCond .ne 7, 3) := by decide +kernel
theorem dX9_chanceWhy_30 : decode cX9_chanceWhy 30 = .ok (.iconst 2, 1) := by decide +kernel
theorem dX9_chanceWhy_31 : decode cX9_chanceWhy 31 = .ok (.goto 17, 3) := by decide +kernel
theorem dX9_chanceWhy_34 : decode cX9_chanceWhy 34 = .ok (.aload_n 0, 1) := by decide +kernel
theorem dX9_chanceWhy_35 : decode cX9_chanceWhy 35 = .ok (.iload_n 1, 1) := by decide +kernel
theorem dX9_chanceWhy_36 : decode cX9_chanceWhy 36 = .ok (.iload_n 2, 1) := by decide +kernel
theorem dX9_chanceWhy_37 : decode cX9_chanceWhy 37 = .ok (.invokevirtual 323, 3) := by decide +kernel
theorem dX9_chanceWhy_40 : decode cX9_chanceWhy 40 = .ok (.ifCond .eq 7, 3) := by decide +kernel
theorem dX9_chanceWhy_43 : decode cX9_chanceWhy 43 = .ok (.iconst 0, 1) := by decide +kernel
theorem dX9_chanceWhy_44 : decode cX9_chanceWhy 44 = .ok (.goto 4, 3) := by decide +kernel
theorem dX9_chanceWhy_47 : decode cX9_chanceWhy 47 = .ok (.iconst 3, 1) := by decide +kernel
theorem dX9_chanceWhy_48 : decode cX9_chanceWhy 48 = .ok (.ireturn, 1) := by decide +kernel
theorem dX9_fullest_0 : decode cX9_fullest 0 = .ok (.aload_n 0, 1) := by decide +kernel
theorem dX9_fullest_1 : decode cX9_fullest 1 = .ok (.invokevirtual 150, 3) := by decide +kernel
theorem dX9_fullest_4 : decode cX9_fullest 4 = .ok (.aload_n 0, 1) := by decide +kernel
theorem dX9_fullest_5 : decode cX9_fullest 5 = .ok (.iload_n 1, 1) := by decide +kernel
theorem dX9_fullest_6 : decode cX9_fullest 6 = .ok (.iload_n 2, 1) := by decide +kernel
theorem dX9_fullest_7 : decode cX9_fullest 7 = .ok (.iload_n 3, 1) := by decide +kernel
theorem dX9_fullest_8 : decode cX9_fullest 8 = .ok (.iconst 0, 1) := by decide +kernel
theorem dX9_fullest_9 : decode cX9_fullest 9 = .ok (.bipush 9, 2) := by decide +kernel
theorem dX9_fullest_11 : decode cX9_fullest 11 = .ok (.invokestatic 138, 3) := by decide +kernel
theorem dX9_fullest_14 : decode cX9_fullest 14 = .ok (.invokevirtual 327, 3) := by decide +kernel
theorem dX9_fullest_17 : decode cX9_fullest 17 = .ok (.istore 5, 2) := by decide +kernel
theorem dX9_fullest_19 : decode cX9_fullest 19 = .ok (.iload 5, 2) := by decide +kernel
theorem dX9_fullest_21 : decode cX9_fullest 21 = .ok (.ifCond .eq 13, 3) := by decide +kernel
theorem dX9_fullest_24 : decode cX9_fullest 24 = .ok (.aload_n 0, 1) := by decide +kernel
theorem dX9_fullest_25 : decode cX9_fullest 25 = .ok (.iload 5, 2) := by decide +kernel
theorem dX9_fullest_27 : decode cX9_fullest 27 = .ok (.invokevirtual 153, 3) := by decide +kernel
theorem dX9_fullest_30 : decode cX9_fullest 30 = .ok (.i2l, 1) := by decide +kernel
theorem dX9_fullest_31 : decode cX9_fullest 31 = .ok (.goto 17, 3) := by decide +kernel
theorem dX9_fullest_34 : decode cX9_fullest 34 = .ok (.aload_n 0, 1) := by decide +kernel
theorem dX9_fullest_35 : decode cX9_fullest 35 = .ok (.iload_n 3, 1) := by decide +kernel
theorem dX9_fullest_36 : decode cX9_fullest 36 = .ok (.invokevirtual 331, 3) := by decide +kernel
theorem dX9_fullest_39 : decode cX9_fullest 39 = .ok (.aload_n 0, 1) := by decide +kernel
theorem dX9_fullest_40 : decode cX9_fullest 40 = .ok (.getfield 255, 3) := by decide +kernel
theorem dX9_fullest_43 : decode cX9_fullest 43 = .ok (.iload 4, 2) := by decide +kernel
theorem dX9_fullest_45 : decode cX9_fullest 45 = .ok (.invokestatic 334, 3) := by decide +kernel
theorem dX9_fullest_48 : decode cX9_fullest 48 = .ok (.lreturn, 1) := by decide +kernel
theorem dX9_emptyOf_0 : decode cX9_emptyOf 0 = .ok (.aload_n 0, 1) := by decide +kernel
theorem dX9_emptyOf_1 : decode cX9_emptyOf 1 = .ok (.iload_n 1, 1) := by decide +kernel
theorem dX9_emptyOf_2 : decode cX9_emptyOf 2 = .ok (.invokevirtual 279, 3) := by decide +kernel
theorem dX9_emptyOf_5 : decode cX9_emptyOf 5 = .ok (.iconst 0, 1) := by decide +kernel
theorem dX9_emptyOf_6 : decode cX9_emptyOf 6 = .ok (.istore_n 2, 1) := by decide +kernel
theorem dX9_emptyOf_7 : decode cX9_emptyOf 7 = .ok (.iconst 0, 1) := by decide +kernel
theorem dX9_emptyOf_8 : decode cX9_emptyOf 8 = .ok (.istore_n 3, 1) := by decide +kernel
theorem dX9_emptyOf_9 : decode cX9_emptyOf 9 = .ok (.iload_n 3, 1) := by decide +kernel
theorem dX9_emptyOf_10 : decode cX9_emptyOf 10 = .ok (.aload_n 0, 1) := by decide +kernel
theorem dX9_emptyOf_11 : decode cX9_emptyOf 11 = .ok (.getfield 20, 3) := by decide +kernel
theorem dX9_emptyOf_14 : decode cX9_emptyOf 14 = .ok (.iconst 0, 1) := by decide +kernel
theorem dX9_emptyOf_15 : decode cX9_emptyOf 15 = .ok (.iaload, 1) := by decide +kernel
theorem dX9_emptyOf_16 : decode cX9_emptyOf 16 = .ok (.if_icmp .ge 26, 3) := by decide +kernel
theorem dX9_emptyOf_19 : decode cX9_emptyOf 19 = .ok (.iload_n 2, 1) := by decide +kernel
theorem dX9_emptyOf_20 : decode cX9_emptyOf 20 = .ok (.aload_n 0, 1) := by decide +kernel
theorem dX9_emptyOf_21 : decode cX9_emptyOf 21 = .ok (.getfield 32, 3) := by decide +kernel
theorem dX9_emptyOf_24 : decode cX9_emptyOf 24 = .ok (.iload_n 3, 1) := by decide +kernel
theorem dX9_emptyOf_25 : decode cX9_emptyOf 25 = .ok (.iaload, 1) := by decide +kernel
theorem dX9_emptyOf_26 : decode cX9_emptyOf 26 = .ok (.ifCond .ne 7, 3) := by decide +kernel
theorem dX9_emptyOf_29 : decode cX9_emptyOf 29 = .ok (.iconst 1, 1) := by decide +kernel
theorem dX9_emptyOf_30 : decode cX9_emptyOf 30 = .ok (.goto 4, 3) := by decide +kernel
theorem dX9_emptyOf_33 : decode cX9_emptyOf 33 = .ok (.iconst 0, 1) := by decide +kernel
theorem dX9_emptyOf_34 : decode cX9_emptyOf 34 = .ok (.iadd, 1) := by decide +kernel
theorem dX9_emptyOf_35 : decode cX9_emptyOf 35 = .ok (.istore_n 2, 1) := by decide +kernel
theorem dX9_emptyOf_36 : decode cX9_emptyOf 36 = .ok (.iinc 3 1, 3) := by decide +kernel
theorem dX9_emptyOf_39 : decode cX9_emptyOf 39 = .ok (.goto (-30), 3) := by decide +kernel
theorem dX9_emptyOf_42 : decode cX9_emptyOf 42 = .ok (.iload_n 2, 1) := by decide +kernel
theorem dX9_emptyOf_43 : decode cX9_emptyOf 43 = .ok (.ireturn, 1) := by decide +kernel
theorem dX9_empty_0 : decode cX9_empty 0 = .ok (.aload_n 0, 1) := by decide +kernel
theorem dX9_empty_1 : decode cX9_empty 1 = .ok (.invokevirtual 150, 3) := by decide +kernel
theorem dX9_empty_4 : decode cX9_empty 4 = .ok (.aload_n 0, 1) := by decide +kernel
theorem dX9_empty_5 : decode cX9_empty 5 = .ok (.iload_n 1, 1) := by decide +kernel
theorem dX9_empty_6 : decode cX9_empty 6 = .ok (.iload_n 2, 1) := by decide +kernel
theorem dX9_empty_7 : decode cX9_empty 7 = .ok (.iload_n 3, 1) := by decide +kernel
theorem dX9_empty_8 : decode cX9_empty 8 = .ok (.iconst 0, 1) := by decide +kernel
theorem dX9_empty_9 : decode cX9_empty 9 = .ok (.iconst 5, 1) := by decide +kernel
theorem dX9_empty_10 : decode cX9_empty 10 = .ok (.invokestatic 138, 3) := by decide +kernel
theorem dX9_empty_13 : decode cX9_empty 13 = .ok (.invokevirtual 327, 3) := by decide +kernel
theorem dX9_empty_16 : decode cX9_empty 16 = .ok (.istore 5, 2) := by decide +kernel
theorem dX9_empty_18 : decode cX9_empty 18 = .ok (.iload 5, 2) := by decide +kernel
theorem dX9_empty_20 : decode cX9_empty 20 = .ok (.ifCond .eq 11, 3) := by decide +kernel
theorem dX9_empty_23 : decode cX9_empty 23 = .ok (.aload_n 0, 1) := by decide +kernel
theorem dX9_empty_24 : decode cX9_empty 24 = .ok (.iload 5, 2) := by decide +kernel
theorem dX9_empty_26 : decode cX9_empty 26 = .ok (.invokevirtual 153, 3) := by decide +kernel
theorem dX9_empty_29 : decode cX9_empty 29 = .ok (.i2l, 1) := by decide +kernel
theorem dX9_empty_30 : decode cX9_empty 30 = .ok (.lreturn, 1) := by decide +kernel
theorem dX9_empty_31 : decode cX9_empty 31 = .ok (.lconst 0, 1) := by decide +kernel
theorem dX9_empty_32 : decode cX9_empty 32 = .ok (.lstore 6, 2) := by decide +kernel
theorem dX9_empty_34 : decode cX9_empty 34 = .ok (.iconst 0, 1) := by decide +kernel
theorem dX9_empty_35 : decode cX9_empty 35 = .ok (.istore 8, 2) := by decide +kernel
theorem dX9_empty_37 : decode cX9_empty 37 = .ok (.iload 8, 2) := by decide +kernel
theorem dX9_empty_39 : decode cX9_empty 39 = .ok (.aload_n 0, 1) := by decide +kernel
theorem dX9_empty_40 : decode cX9_empty 40 = .ok (.getfield 252, 3) := by decide +kernel
theorem dX9_empty_43 : decode cX9_empty 43 = .ok (.if_icmp .ge 40, 3) := by decide +kernel
theorem dX9_empty_46 : decode cX9_empty 46 = .ok (.lload 6, 2) := by decide +kernel
theorem dX9_empty_48 : decode cX9_empty 48 = .ok (.aload_n 0, 1) := by decide +kernel
theorem dX9_empty_49 : decode cX9_empty 49 = .ok (.aload_n 0, 1) := by decide +kernel
theorem dX9_empty_50 : decode cX9_empty 50 = .ok (.getfield 38, 3) := by decide +kernel
theorem dX9_empty_53 : decode cX9_empty 53 = .ok (.iload 8, 2) := by decide +kernel
theorem dX9_empty_55 : decode cX9_empty 55 = .ok (.iaload, 1) := by decide +kernel
theorem dX9_empty_56 : decode cX9_empty 56 = .ok (.invokevirtual 338, 3) := by decide +kernel
theorem dX9_empty_59 : decode cX9_empty 59 = .ok (.iload_n 3, 1) := by decide +kernel
theorem dX9_empty_60 : decode cX9_empty 60 = .ok (.if_icmp .ne 13, 3) := by decide +kernel
theorem dX9_empty_63 : decode cX9_empty 63 = .ok (.aload_n 0, 1) := by decide +kernel
theorem dX9_empty_64 : decode cX9_empty 64 = .ok (.getfield 47, 3) := by decide +kernel
theorem dX9_empty_67 : decode cX9_empty 67 = .ok (.iload 8, 2) := by decide +kernel
theorem dX9_empty_69 : decode cX9_empty 69 = .ok (.laload, 1) := by decide +kernel
theorem dX9_empty_70 : decode cX9_empty 70 = .ok (.goto 4, 3) := by decide +kernel
theorem dX9_empty_73 : decode cX9_empty 73 = .ok (.lconst 0, 1) := by decide +kernel
theorem dX9_empty_74 : decode cX9_empty 74 = .ok (.ladd, 1) := by decide +kernel
theorem dX9_empty_75 : decode cX9_empty 75 = .ok (.lstore 6, 2) := by decide +kernel
theorem dX9_empty_77 : decode cX9_empty 77 = .ok (.iinc 8 1, 3) := by decide +kernel
theorem dX9_empty_80 : decode cX9_empty 80 = .ok (.goto (-43), 3) := by decide +kernel
theorem dX9_empty_83 : decode cX9_empty 83 = .ok (.lload 6, 2) := by decide +kernel
theorem dX9_empty_85 : decode cX9_empty 85 = .ok (.aload_n 0, 1) := by decide +kernel
theorem dX9_empty_86 : decode cX9_empty 86 = .ok (.getfield 255, 3) := by decide +kernel
theorem dX9_empty_89 : decode cX9_empty 89 = .ok (.iload 4, 2) := by decide +kernel
theorem dX9_empty_91 : decode cX9_empty 91 = .ok (.invokestatic 334, 3) := by decide +kernel
theorem dX9_empty_94 : decode cX9_empty 94 = .ok (.lreturn, 1) := by decide +kernel
theorem dX9_holds_0 : decode cX9_holds 0 = .ok (.aload_n 0, 1) := by decide +kernel
theorem dX9_holds_1 : decode cX9_holds 1 = .ok (.invokevirtual 150, 3) := by decide +kernel
theorem dX9_holds_4 : decode cX9_holds 4 = .ok (.aload_n 0, 1) := by decide +kernel
theorem dX9_holds_5 : decode cX9_holds 5 = .ok (.iload_n 1, 1) := by decide +kernel
theorem dX9_holds_6 : decode cX9_holds 6 = .ok (.invokevirtual 320, 3) := by decide +kernel
theorem dX9_holds_9 : decode cX9_holds 9 = .ok (.ifCond .eq 11, 3) := by decide +kernel
theorem dX9_holds_12 : decode cX9_holds 12 = .ok (.aload_n 0, 1) := by decide +kernel
theorem dX9_holds_13 : decode cX9_holds 13 = .ok (.iload_n 3, 1) := by decide +kernel
theorem dX9_holds_14 : decode cX9_holds 14 = .ok (.invokevirtual 341, 3) := by decide +kernel
theorem dX9_holds_17 : decode cX9_holds 17 = .ok (.ifCond .ne 10, 3) := by decide +kernel
theorem dX9_holds_20 : decode cX9_holds 20 = .ok (.aload_n 0, 1) := by decide +kernel
theorem dX9_holds_21 : decode cX9_holds 21 = .ok (.iconst 1, 1) := by decide +kernel
theorem dX9_holds_22 : decode cX9_holds 22 = .ok (.invokevirtual 153, 3) := by decide +kernel
theorem dX9_holds_25 : decode cX9_holds 25 = .ok (.i2l, 1) := by decide +kernel
theorem dX9_holds_26 : decode cX9_holds 26 = .ok (.lreturn, 1) := by decide +kernel
theorem dX9_holds_27 : decode cX9_holds 27 = .ok (.aload_n 0, 1) := by decide +kernel
theorem dX9_holds_28 : decode cX9_holds 28 = .ok (.iload_n 1, 1) := by decide +kernel
theorem dX9_holds_29 : decode cX9_holds 29 = .ok (.iload_n 2, 1) := by decide +kernel
theorem dX9_holds_30 : decode cX9_holds 30 = .ok (.iload 4, 2) := by decide +kernel
theorem dX9_holds_32 : decode cX9_holds 32 = .ok (.iconst 0, 1) := by decide +kernel
theorem dX9_holds_33 : decode cX9_holds 33 = .ok (.bipush 8, 2) := by decide +kernel
theorem dX9_holds_35 : decode cX9_holds 35 = .ok (.invokestatic 138, 3) := by decide +kernel
theorem dX9_holds_38 : decode cX9_holds 38 = .ok (.invokevirtual 327, 3) := by decide +kernel
theorem dX9_holds_41 : decode cX9_holds 41 = .ok (.istore 6, 2) := by decide +kernel
theorem dX9_holds_43 : decode cX9_holds 43 = .ok (.iload 6, 2) := by decide +kernel
theorem dX9_holds_45 : decode cX9_holds 45 = .ok (.ifCond .eq 11, 3) := by decide +kernel
theorem dX9_holds_48 : decode cX9_holds 48 = .ok (.aload_n 0, 1) := by decide +kernel
theorem dX9_holds_49 : decode cX9_holds 49 = .ok (.iload 6, 2) := by decide +kernel
theorem dX9_holds_51 : decode cX9_holds 51 = .ok (.invokevirtual 153, 3) := by decide +kernel
theorem dX9_holds_54 : decode cX9_holds 54 = .ok (.i2l, 1) := by decide +kernel
theorem dX9_holds_55 : decode cX9_holds 55 = .ok (.lreturn, 1) := by decide +kernel
theorem dX9_holds_56 : decode cX9_holds 56 = .ok (.lconst 0, 1) := by decide +kernel
theorem dX9_holds_57 : decode cX9_holds 57 = .ok (.lstore 7, 2) := by decide +kernel
theorem dX9_holds_59 : decode cX9_holds 59 = .ok (.iconst 0, 1) := by decide +kernel
theorem dX9_holds_60 : decode cX9_holds 60 = .ok (.istore 9, 2) := by decide +kernel
theorem dX9_holds_62 : decode cX9_holds 62 = .ok (.iload 9, 2) := by decide +kernel
theorem dX9_holds_64 : decode cX9_holds 64 = .ok (.aload_n 0, 1) := by decide +kernel
theorem dX9_holds_65 : decode cX9_holds 65 = .ok (.getfield 252, 3) := by decide +kernel
theorem dX9_holds_68 : decode cX9_holds 68 = .ok (.if_icmp .ge 47, 3) := by decide +kernel
theorem dX9_holds_71 : decode cX9_holds 71 = .ok (.aload_n 0, 1) := by decide +kernel
theorem dX9_holds_72 : decode cX9_holds 72 = .ok (.aload_n 0, 1) := by decide +kernel
theorem dX9_holds_73 : decode cX9_holds 73 = .ok (.getfield 38, 3) := by decide +kernel
theorem dX9_holds_76 : decode cX9_holds 76 = .ok (.iload 9, 2) := by decide +kernel
theorem dX9_holds_78 : decode cX9_holds 78 = .ok (.iaload, 1) := by decide +kernel
theorem dX9_holds_79 : decode cX9_holds 79 = .ok (.invokevirtual 279, 3) := by decide +kernel
theorem dX9_holds_82 : decode cX9_holds 82 = .ok (.lload 7, 2) := by decide +kernel
theorem dX9_holds_84 : decode cX9_holds 84 = .ok (.aload_n 0, 1) := by decide +kernel
theorem dX9_holds_85 : decode cX9_holds 85 = .ok (.getfield 32, 3) := by decide +kernel
theorem dX9_holds_88 : decode cX9_holds 88 = .ok (.iload_n 3, 1) := by decide +kernel
theorem dX9_holds_89 : decode cX9_holds 89 = .ok (.iaload, 1) := by decide +kernel
theorem dX9_holds_90 : decode cX9_holds 90 = .ok (.iload 4, 2) := by decide +kernel
theorem dX9_holds_92 : decode cX9_holds 92 = .ok (.if_icmp .ne 13, 3) := by decide +kernel
theorem dX9_holds_95 : decode cX9_holds 95 = .ok (.aload_n 0, 1) := by decide +kernel
theorem dX9_holds_96 : decode cX9_holds 96 = .ok (.getfield 47, 3) := by decide +kernel
theorem dX9_holds_99 : decode cX9_holds 99 = .ok (.iload 9, 2) := by decide +kernel
theorem dX9_holds_101 : decode cX9_holds 101 = .ok (.laload, 1) := by decide +kernel
theorem dX9_holds_102 : decode cX9_holds 102 = .ok (.goto 4, 3) := by decide +kernel
theorem dX9_holds_105 : decode cX9_holds 105 = .ok (.lconst 0, 1) := by decide +kernel
theorem dX9_holds_106 : decode cX9_holds 106 = .ok (.ladd, 1) := by decide +kernel
theorem dX9_holds_107 : decode cX9_holds 107 = .ok (.lstore 7, 2) := by decide +kernel
theorem dX9_holds_109 : decode cX9_holds 109 = .ok (.iinc 9 1, 3) := by decide +kernel
theorem dX9_holds_112 : decode cX9_holds 112 = .ok (.goto (-50), 3) := by decide +kernel
theorem dX9_holds_115 : decode cX9_holds 115 = .ok (.lload 7, 2) := by decide +kernel
theorem dX9_holds_117 : decode cX9_holds 117 = .ok (.aload_n 0, 1) := by decide +kernel
theorem dX9_holds_118 : decode cX9_holds 118 = .ok (.getfield 255, 3) := by decide +kernel
theorem dX9_holds_121 : decode cX9_holds 121 = .ok (.iload 5, 2) := by decide +kernel
theorem dX9_holds_123 : decode cX9_holds 123 = .ok (.invokestatic 334, 3) := by decide +kernel
theorem dX9_holds_126 : decode cX9_holds 126 = .ok (.lreturn, 1) := by decide +kernel
theorem dX9_measured_0 : decode cX9_measured 0 = .ok (.iload_n 3, 1) := by decide +kernel
theorem dX9_measured_1 : decode cX9_measured 1 = .ok (.ifCond .ne 9, 3) := by decide +kernel
theorem dX9_measured_4 : decode cX9_measured 4 = .ok (.aload_n 0, 1) := by decide +kernel
theorem dX9_measured_5 : decode cX9_measured 5 = .ok (.iload_n 1, 1) := by decide +kernel
theorem dX9_measured_6 : decode cX9_measured 6 = .ok (.invokevirtual 313, 3) := by decide +kernel
theorem dX9_measured_9 : decode cX9_measured 9 = .ok (.ireturn, 1) := by decide +kernel
theorem dX9_measured_10 : decode cX9_measured 10 = .ok (.iload_n 3, 1) := by decide +kernel
theorem dX9_measured_11 : decode cX9_measured 11 = .ok (.iconst 1, 1) := by decide +kernel
theorem dX9_measured_12 : decode cX9_measured 12 = .ok (.if_icmp .ne 9, 3) := by decide +kernel
theorem dX9_measured_15 : decode cX9_measured 15 = .ok (.aload_n 0, 1) := by decide +kernel
theorem dX9_measured_16 : decode cX9_measured 16 = .ok (.iload_n 1, 1) := by decide +kernel
theorem dX9_measured_17 : decode cX9_measured 17 = .ok (.invokevirtual 338, 3) := by decide +kernel
theorem dX9_measured_20 : decode cX9_measured 20 = .ok (.ireturn, 1) := by decide +kernel
theorem dX9_measured_21 : decode cX9_measured 21 = .ok (.aload_n 0, 1) := by decide +kernel
theorem dX9_measured_22 : decode cX9_measured 22 = .ok (.iload_n 1, 1) := by decide +kernel
theorem dX9_measured_23 : decode cX9_measured 23 = .ok (.invokevirtual 279, 3) := by decide +kernel
theorem dX9_measured_26 : decode cX9_measured 26 = .ok (.iconst 0, 1) := by decide +kernel
theorem dX9_measured_27 : decode cX9_measured 27 = .ok (.istore 4, 2) := by decide +kernel
theorem dX9_measured_29 : decode cX9_measured 29 = .ok (.iconst 0, 1) := by decide +kernel
theorem dX9_measured_30 : decode cX9_measured 30 = .ok (.istore 5, 2) := by decide +kernel
theorem dX9_measured_32 : decode cX9_measured 32 = .ok (.iload 5, 2) := by decide +kernel
theorem dX9_measured_34 : decode cX9_measured 34 = .ok (.aload_n 0, 1) := by decide +kernel
theorem dX9_measured_35 : decode cX9_measured 35 = .ok (.getfield 20, 3) := by decide +kernel
theorem dX9_measured_38 : decode cX9_measured 38 = .ok (.iconst 0, 1) := by decide +kernel
theorem dX9_measured_39 : decode cX9_measured 39 = .ok (.iaload, 1) := by decide +kernel
theorem dX9_measured_40 : decode cX9_measured 40 = .ok (.if_icmp .ge 44, 3) := by decide +kernel
theorem dX9_measured_43 : decode cX9_measured 43 = .ok (.iload 4, 2) := by decide +kernel
theorem dX9_measured_45 : decode cX9_measured 45 = .ok (.iload_n 3, 1) := by decide +kernel
theorem dX9_measured_46 : decode cX9_measured 46 = .ok (.iconst 2, 1) := by decide +kernel
theorem dX9_measured_47 : decode cX9_measured 47 = .ok (.if_icmp .ne 13, 3) := by decide +kernel
theorem dX9_measured_50 : decode cX9_measured 50 = .ok (.aload_n 0, 1) := by decide +kernel
theorem dX9_measured_51 : decode cX9_measured 51 = .ok (.getfield 32, 3) := by decide +kernel
theorem dX9_measured_54 : decode cX9_measured 54 = .ok (.iload 5, 2) := by decide +kernel
theorem dX9_measured_56 : decode cX9_measured 56 = .ok (.iaload, 1) := by decide +kernel
theorem dX9_measured_57 : decode cX9_measured 57 = .ok (.goto 18, 3) := by decide +kernel
theorem dX9_measured_60 : decode cX9_measured 60 = .ok (.aload_n 0, 1) := by decide +kernel
theorem dX9_measured_61 : decode cX9_measured 61 = .ok (.getfield 32, 3) := by decide +kernel
theorem dX9_measured_64 : decode cX9_measured 64 = .ok (.iload 5, 2) := by decide +kernel
theorem dX9_measured_66 : decode cX9_measured 66 = .ok (.iaload, 1) := by decide +kernel
theorem dX9_measured_67 : decode cX9_measured 67 = .ok (.aload_n 0, 1) := by decide +kernel
theorem dX9_measured_68 : decode cX9_measured 68 = .ok (.getfield 32, 3) := by decide +kernel
theorem dX9_measured_71 : decode cX9_measured 71 = .ok (.iload 5, 2) := by decide +kernel
theorem dX9_measured_73 : decode cX9_measured 73 = .ok (.iaload, 1) := by decide +kernel
theorem dX9_measured_74 : decode cX9_measured 74 = .ok (.imul, 1) := by decide +kernel
theorem dX9_measured_75 : decode cX9_measured 75 = .ok (.iadd, 1) := by decide +kernel
theorem dX9_measured_76 : decode cX9_measured 76 = .ok (.istore 4, 2) := by decide +kernel
theorem dX9_measured_78 : decode cX9_measured 78 = .ok (.iinc 5 1, 3) := by decide +kernel
theorem dX9_measured_81 : decode cX9_measured 81 = .ok (.goto (-49), 3) := by decide +kernel
theorem dX9_measured_84 : decode cX9_measured 84 = .ok (.iload_n 3, 1) := by decide +kernel
theorem dX9_measured_85 : decode cX9_measured 85 = .ok (.iconst 2, 1) := by decide +kernel
theorem dX9_measured_86 : decode cX9_measured 86 = .ok (.if_icmp .ne 10, 3) := by decide +kernel
theorem dX9_measured_89 : decode cX9_measured 89 = .ok (.iload_n 2, 1) := by decide +kernel
theorem dX9_measured_90 : decode cX9_measured 90 = .ok (.iload 4, 2) := by decide +kernel
theorem dX9_measured_92 : decode cX9_measured 92 = .ok (.isub, 1) := by decide +kernel
theorem dX9_measured_93 : decode cX9_measured 93 = .ok (.goto 5, 3) := by decide +kernel
theorem dX9_measured_96 : decode cX9_measured 96 = .ok (.iload 4, 2) := by decide +kernel
theorem dX9_measured_98 : decode cX9_measured 98 = .ok (.ireturn, 1) := by decide +kernel
theorem dX9_mean_0 : decode cX9_mean 0 = .ok (.aload_n 0, 1) := by decide +kernel
theorem dX9_mean_1 : decode cX9_mean 1 = .ok (.invokevirtual 150, 3) := by decide +kernel
theorem dX9_mean_4 : decode cX9_mean 4 = .ok (.aload_n 0, 1) := by decide +kernel
theorem dX9_mean_5 : decode cX9_mean 5 = .ok (.iload_n 1, 1) := by decide +kernel
theorem dX9_mean_6 : decode cX9_mean 6 = .ok (.invokevirtual 320, 3) := by decide +kernel
theorem dX9_mean_9 : decode cX9_mean 9 = .ok (.ifCond .eq 12, 3) := by decide +kernel
theorem dX9_mean_12 : decode cX9_mean 12 = .ok (.iload_n 3, 1) := by decide +kernel
theorem dX9_mean_13 : decode cX9_mean 13 = .ok (.iconst 0, 1) := by decide +kernel
theorem dX9_mean_14 : decode cX9_mean 14 = .ok (.iconst 3, 1) := by decide +kernel
theorem dX9_mean_15 : decode cX9_mean 15 = .ok (.invokestatic 138, 3) := by decide +kernel
theorem dX9_mean_18 : decode cX9_mean 18 = .ok (.ifCond .ne 10, 3) := by decide +kernel
theorem dX9_mean_21 : decode cX9_mean 21 = .ok (.aload_n 0, 1) := by decide +kernel
theorem dX9_mean_22 : decode cX9_mean 22 = .ok (.iconst 1, 1) := by decide +kernel
theorem dX9_mean_23 : decode cX9_mean 23 = .ok (.invokevirtual 153, 3) := by decide +kernel
theorem dX9_mean_26 : decode cX9_mean 26 = .ok (.i2l, 1) := by decide +kernel
theorem dX9_mean_27 : decode cX9_mean 27 = .ok (.lreturn, 1) := by decide +kernel
theorem dX9_mean_28 : decode cX9_mean 28 = .ok (.aload_n 0, 1) := by decide +kernel
theorem dX9_mean_29 : decode cX9_mean 29 = .ok (.iload_n 1, 1) := by decide +kernel
theorem dX9_mean_30 : decode cX9_mean 30 = .ok (.iload_n 2, 1) := by decide +kernel
theorem dX9_mean_31 : decode cX9_mean 31 = .ok (.iconst 1, 1) := by decide +kernel
theorem dX9_mean_32 : decode cX9_mean 32 = .ok (.invokevirtual 327, 3) := by decide +kernel
theorem dX9_mean_35 : decode cX9_mean 35 = .ok (.istore 5, 2) := by decide +kernel
theorem dX9_mean_37 : decode cX9_mean 37 = .ok (.iload 5, 2) := by decide +kernel
theorem dX9_mean_39 : decode cX9_mean 39 = .ok (.ifCond .eq 11, 3) := by decide +kernel
theorem dX9_mean_42 : decode cX9_mean 42 = .ok (.aload_n 0, 1) := by decide +kernel
theorem dX9_mean_43 : decode cX9_mean 43 = .ok (.iload 5, 2) := by decide +kernel
theorem dX9_mean_45 : decode cX9_mean 45 = .ok (.invokevirtual 153, 3) := by decide +kernel
theorem dX9_mean_48 : decode cX9_mean 48 = .ok (.i2l, 1) := by decide +kernel
theorem dX9_mean_49 : decode cX9_mean 49 = .ok (.lreturn, 1) := by decide +kernel
theorem dX9_mean_50 : decode cX9_mean 50 = .ok (.lconst 0, 1) := by decide +kernel
theorem dX9_mean_51 : decode cX9_mean 51 = .ok (.lstore 6, 2) := by decide +kernel
theorem dX9_mean_53 : decode cX9_mean 53 = .ok (.iconst 0, 1) := by decide +kernel
theorem dX9_mean_54 : decode cX9_mean 54 = .ok (.istore 8, 2) := by decide +kernel
theorem dX9_mean_56 : decode cX9_mean 56 = .ok (.iload 8, 2) := by decide +kernel
theorem dX9_mean_58 : decode cX9_mean 58 = .ok (.aload_n 0, 1) := by decide +kernel
theorem dX9_mean_59 : decode cX9_mean 59 = .ok (.getfield 252, 3) := by decide +kernel
theorem dX9_mean_62 : decode cX9_mean 62 = .ok (.if_icmp .ge 36, 3) := by decide +kernel
theorem dX9_mean_65 : decode cX9_mean 65 = .ok (.lload 6, 2) := by decide +kernel
theorem dX9_mean_67 : decode cX9_mean 67 = .ok (.aload_n 0, 1) := by decide +kernel
theorem dX9_mean_68 : decode cX9_mean 68 = .ok (.getfield 47, 3) := by decide +kernel
theorem dX9_mean_71 : decode cX9_mean 71 = .ok (.iload 8, 2) := by decide +kernel
theorem dX9_mean_73 : decode cX9_mean 73 = .ok (.laload, 1) := by decide +kernel
theorem dX9_mean_74 : decode cX9_mean 74 = .ok (.aload_n 0, 1) := by decide +kernel
theorem dX9_mean_75 : decode cX9_mean 75 = .ok (.aload_n 0, 1) := by decide +kernel
theorem dX9_mean_76 : decode cX9_mean 76 = .ok (.getfield 38, 3) := by decide +kernel
theorem dX9_mean_79 : decode cX9_mean 79 = .ok (.iload 8, 2) := by decide +kernel
theorem dX9_mean_81 : decode cX9_mean 81 = .ok (.iaload, 1) := by decide +kernel
theorem dX9_mean_82 : decode cX9_mean 82 = .ok (.iload_n 2, 1) := by decide +kernel
theorem dX9_mean_83 : decode cX9_mean 83 = .ok (.iload_n 3, 1) := by decide +kernel
theorem dX9_mean_84 : decode cX9_mean 84 = .ok (.invokevirtual 344, 3) := by decide +kernel
theorem dX9_mean_87 : decode cX9_mean 87 = .ok (.i2l, 1) := by decide +kernel
theorem dX9_mean_88 : decode cX9_mean 88 = .ok (.lmul, 1) := by decide +kernel
theorem dX9_mean_89 : decode cX9_mean 89 = .ok (.ladd, 1) := by decide +kernel
theorem dX9_mean_90 : decode cX9_mean 90 = .ok (.lstore 6, 2) := by decide +kernel
theorem dX9_mean_92 : decode cX9_mean 92 = .ok (.iinc 8 1, 3) := by decide +kernel
theorem dX9_mean_95 : decode cX9_mean 95 = .ok (.goto (-39), 3) := by decide +kernel
theorem dX9_mean_98 : decode cX9_mean 98 = .ok (.lload 6, 2) := by decide +kernel
theorem dX9_mean_100 : decode cX9_mean 100 = .ok (.aload_n 0, 1) := by decide +kernel
theorem dX9_mean_101 : decode cX9_mean 101 = .ok (.getfield 255, 3) := by decide +kernel
theorem dX9_mean_104 : decode cX9_mean 104 = .ok (.iload 4, 2) := by decide +kernel
theorem dX9_mean_106 : decode cX9_mean 106 = .ok (.invokestatic 334, 3) := by decide +kernel
theorem dX9_mean_109 : decode cX9_mean 109 = .ok (.lreturn, 1) := by decide +kernel
theorem dX9_states_0 : decode cX9_states 0 = .ok (.aload_n 0, 1) := by decide +kernel
theorem dX9_states_1 : decode cX9_states 1 = .ok (.invokevirtual 150, 3) := by decide +kernel
theorem dX9_states_4 : decode cX9_states 4 = .ok (.aload_n 0, 1) := by decide +kernel
theorem dX9_states_5 : decode cX9_states 5 = .ok (.iload_n 1, 1) := by decide +kernel
theorem dX9_states_6 : decode cX9_states 6 = .ok (.iload_n 2, 1) := by decide +kernel
theorem dX9_states_7 : decode cX9_states 7 = .ok (.iconst 1, 1) := by decide +kernel
theorem dX9_states_8 : decode cX9_states 8 = .ok (.invokevirtual 327, 3) := by decide +kernel
theorem dX9_states_11 : decode cX9_states 11 = .ok (.istore_n 3, 1) := by decide +kernel
theorem dX9_states_12 : decode cX9_states 12 = .ok (.iload_n 3, 1) := by decide +kernel
theorem dX9_states_13 : decode cX9_states 13 = .ok (.ifCond .eq 9, 3) := by decide +kernel
theorem dX9_states_16 : decode cX9_states 16 = .ok (.aload_n 0, 1) := by decide +kernel
theorem dX9_states_17 : decode cX9_states 17 = .ok (.iload_n 3, 1) := by decide +kernel
theorem dX9_states_18 : decode cX9_states 18 = .ok (.invokevirtual 153, 3) := by decide +kernel
theorem dX9_states_21 : decode cX9_states 21 = .ok (.ireturn, 1) := by decide +kernel
theorem dX9_states_22 : decode cX9_states 22 = .ok (.iconst 0, 1) := by decide +kernel
theorem dX9_states_23 : decode cX9_states 23 = .ok (.istore 4, 2) := by decide +kernel
theorem dX9_states_25 : decode cX9_states 25 = .ok (.iconst 0, 1) := by decide +kernel
theorem dX9_states_26 : decode cX9_states 26 = .ok (.istore 5, 2) := by decide +kernel
theorem dX9_states_28 : decode cX9_states 28 = .ok (.iload 5, 2) := by decide +kernel
theorem dX9_states_30 : decode cX9_states 30 = .ok (.aload_n 0, 1) := by decide +kernel
theorem dX9_states_31 : decode cX9_states 31 = .ok (.getfield 252, 3) := by decide +kernel
theorem dX9_states_34 : decode cX9_states 34 = .ok (.if_icmp .ge 78, 3) := by decide +kernel
theorem dX9_states_37 : decode cX9_states 37 = .ok (.iconst 1, 1) := by decide +kernel
theorem dX9_states_38 : decode cX9_states 38 = .ok (.istore 6, 2) := by decide +kernel
theorem dX9_states_40 : decode cX9_states 40 = .ok (.iconst 0, 1) := by decide +kernel
theorem dX9_states_41 : decode cX9_states 41 = .ok (.istore 7, 2) := by decide +kernel
theorem dX9_states_43 : decode cX9_states 43 = .ok (.iload 7, 2) := by decide +kernel
theorem dX9_states_45 : decode cX9_states 45 = .ok (.iload 5, 2) := by decide +kernel
theorem dX9_states_47 : decode cX9_states 47 = .ok (.if_icmp .ge 44, 3) := by decide +kernel
theorem dX9_states_50 : decode cX9_states 50 = .ok (.iload 6, 2) := by decide +kernel
theorem dX9_states_52 : decode cX9_states 52 = .ok (.ifCond .eq 39, 3) := by decide +kernel
theorem dX9_states_55 : decode cX9_states 55 = .ok (.aload_n 0, 1) := by decide +kernel
theorem dX9_states_56 : decode cX9_states 56 = .ok (.getfield 38, 3) := by decide +kernel
theorem dX9_states_59 : decode cX9_states 59 = .ok (.iload 7, 2) := by decide +kernel
theorem dX9_states_61 : decode cX9_states 61 = .ok (.iaload, 1) := by decide +kernel
theorem dX9_states_62 : decode cX9_states 62 = .ok (.ldc 227, 2) := by decide +kernel
theorem dX9_states_64 : decode cX9_states 64 = .ok (.irem, 1) := by decide +kernel
theorem dX9_states_65 : decode cX9_states 65 = .ok (.aload_n 0, 1) := by decide +kernel
theorem dX9_states_66 : decode cX9_states 66 = .ok (.getfield 38, 3) := by decide +kernel
theorem dX9_states_69 : decode cX9_states 69 = .ok (.iload 5, 2) := by decide +kernel
theorem dX9_states_71 : decode cX9_states 71 = .ok (.iaload, 1) := by decide +kernel
theorem dX9_states_72 : decode cX9_states 72 = .ok (.ldc 227, 2) := by decide +kernel
theorem dX9_states_74 : decode cX9_states 74 = .ok (.irem, 1) := by decide +kernel
theorem dX9_states_75 : decode cX9_states 75 = .ok (.if_icmp .eq 7, 3) := by decide +kernel
theorem dX9_states_78 : decode cX9_states 78 = .ok (.iconst 1, 1) := by decide +kernel
theorem dX9_states_79 : decode cX9_states 79 = .ok (.goto 4, 3) := by decide +kernel
theorem dX9_states_82 : decode cX9_states 82 = .ok (.iconst 0, 1) := by decide +kernel
theorem dX9_states_83 : decode cX9_states 83 = .ok (.istore 6, 2) := by decide +kernel
theorem dX9_states_85 : decode cX9_states 85 = .ok (.iinc 7 1, 3) := by decide +kernel
theorem dX9_states_88 : decode cX9_states 88 = .ok (.goto (-45), 3) := by decide +kernel
theorem dX9_states_91 : decode cX9_states 91 = .ok (.iload 4, 2) := by decide +kernel
theorem dX9_states_93 : decode cX9_states 93 = .ok (.iload 6, 2) := by decide +kernel
theorem dX9_states_95 : decode cX9_states 95 = .ok (.ifCond .eq 7, 3) := by decide +kernel
theorem dX9_states_98 : decode cX9_states 98 = .ok (.iconst 1, 1) := by decide +kernel
theorem dX9_states_99 : decode cX9_states 99 = .ok (.goto 4, 3) := by decide +kernel
theorem dX9_states_102 : decode cX9_states 102 = .ok (.iconst 0, 1) := by decide +kernel
theorem dX9_states_103 : decode cX9_states 103 = .ok (.iadd, 1) := by decide +kernel
theorem dX9_states_104 : decode cX9_states 104 = .ok (.istore 4, 2) := by decide +kernel
theorem dX9_states_106 : decode cX9_states 106 = .ok (.iinc 5 1, 3) := by decide +kernel
theorem dX9_states_109 : decode cX9_states 109 = .ok (.goto (-81), 3) := by decide +kernel
theorem dX9_states_112 : decode cX9_states 112 = .ok (.iload 4, 2) := by decide +kernel
theorem dX9_states_114 : decode cX9_states 114 = .ok (.ireturn, 1) := by decide +kernel
theorem dX9_worst_0 : decode cX9_worst 0 = .ok (.aload_n 0, 1) := by decide +kernel
theorem dX9_worst_1 : decode cX9_worst 1 = .ok (.invokevirtual 150, 3) := by decide +kernel
theorem dX9_worst_4 : decode cX9_worst 4 = .ok (.aload_n 0, 1) := by decide +kernel
theorem dX9_worst_5 : decode cX9_worst 5 = .ok (.iload_n 1, 1) := by decide +kernel
theorem dX9_worst_6 : decode cX9_worst 6 = .ok (.iload_n 2, 1) := by decide +kernel
theorem dX9_worst_7 : decode cX9_worst 7 = .ok (.iconst 1, 1) := by decide +kernel
theorem dX9_worst_8 : decode cX9_worst 8 = .ok (.invokevirtual 327, 3) := by decide +kernel
theorem dX9_worst_11 : decode cX9_worst 11 = .ok (.istore 4, 2) := by decide +kernel
theorem dX9_worst_13 : decode cX9_worst 13 = .ok (.iload 4, 2) := by decide +kernel
theorem dX9_worst_15 : decode cX9_worst 15 = .ok (.ifCond .eq 10, 3) := by decide +kernel
theorem dX9_worst_18 : decode cX9_worst 18 = .ok (.aload_n 0, 1) := by decide +kernel
theorem dX9_worst_19 : decode cX9_worst 19 = .ok (.iload 4, 2) := by decide +kernel
theorem dX9_worst_21 : decode cX9_worst 21 = .ok (.invokevirtual 153, 3) := by decide +kernel
theorem dX9_worst_24 : decode cX9_worst 24 = .ok (.ireturn, 1) := by decide +kernel
theorem dX9_worst_25 : decode cX9_worst 25 = .ok (.aload_n 0, 1) := by decide +kernel
theorem dX9_worst_26 : decode cX9_worst 26 = .ok (.aload_n 0, 1) := by decide +kernel
theorem dX9_worst_27 : decode cX9_worst 27 = .ok (.getfield 38, 3) := by decide +kernel
theorem dX9_worst_30 : decode cX9_worst 30 = .ok (.iconst 0, 1) := by decide +kernel
theorem dX9_worst_31 : decode cX9_worst 31 = .ok (.iaload, 1) := by decide +kernel
theorem dX9_worst_32 : decode cX9_worst 32 = .ok (.invokevirtual 313, 3) := by decide +kernel
theorem dX9_worst_35 : decode cX9_worst 35 = .ok (.istore 5, 2) := by decide +kernel
theorem dX9_worst_37 : decode cX9_worst 37 = .ok (.iconst 1, 1) := by decide +kernel
theorem dX9_worst_38 : decode cX9_worst 38 = .ok (.istore 6, 2) := by decide +kernel
theorem dX9_worst_40 : decode cX9_worst 40 = .ok (.iload 6, 2) := by decide +kernel
theorem dX9_worst_42 : decode cX9_worst 42 = .ok (.aload_n 0, 1) := by decide +kernel
theorem dX9_worst_43 : decode cX9_worst 43 = .ok (.getfield 252, 3) := by decide +kernel
theorem dX9_worst_46 : decode cX9_worst 46 = .ok (.if_icmp .ge 59, 3) := by decide +kernel
theorem dX9_worst_49 : decode cX9_worst 49 = .ok (.aload_n 0, 1) := by decide +kernel
theorem dX9_worst_50 : decode cX9_worst 50 = .ok (.aload_n 0, 1) := by decide +kernel
theorem dX9_worst_51 : decode cX9_worst 51 = .ok (.getfield 38, 3) := by decide +kernel
theorem dX9_worst_54 : decode cX9_worst 54 = .ok (.iload 6, 2) := by decide +kernel
theorem dX9_worst_56 : decode cX9_worst 56 = .ok (.iaload, 1) := by decide +kernel
theorem dX9_worst_57 : decode cX9_worst 57 = .ok (.invokevirtual 313, 3) := by decide +kernel
theorem dX9_worst_60 : decode cX9_worst 60 = .ok (.istore 7, 2) := by decide +kernel
theorem dX9_worst_62 : decode cX9_worst 62 = .ok (.iload_n 3, 1) := by decide +kernel
theorem dX9_worst_63 : decode cX9_worst 63 = .ok (.ifCond .eq 20, 3) := by decide +kernel
theorem dX9_worst_66 : decode cX9_worst 66 = .ok (.iload 7, 2) := by decide +kernel
theorem dX9_worst_68 : decode cX9_worst 68 = .ok (.iload 5, 2) := by decide +kernel
theorem dX9_worst_70 : decode cX9_worst 70 = .ok (.if_icmp .ge 8, 3) := by decide +kernel
theorem dX9_worst_73 : decode cX9_worst 73 = .ok (.iload 7, 2) := by decide +kernel
theorem dX9_worst_75 : decode cX9_worst 75 = .ok (.goto 22, 3) := by decide +kernel
theorem dX9_worst_78 : decode cX9_worst 78 = .ok (.iload 5, 2) := by decide +kernel
theorem dX9_worst_80 : decode cX9_worst 80 = .ok (.goto 17, 3) := by decide +kernel
theorem dX9_worst_83 : decode cX9_worst 83 = .ok (.iload 7, 2) := by decide +kernel
theorem dX9_worst_85 : decode cX9_worst 85 = .ok (.iload 5, 2) := by decide +kernel
theorem dX9_worst_87 : decode cX9_worst 87 = .ok (.if_icmp .le 8, 3) := by decide +kernel
theorem dX9_worst_90 : decode cX9_worst 90 = .ok (.iload 7, 2) := by decide +kernel
theorem dX9_worst_92 : decode cX9_worst 92 = .ok (.goto 5, 3) := by decide +kernel
theorem dX9_worst_95 : decode cX9_worst 95 = .ok (.iload 5, 2) := by decide +kernel
theorem dX9_worst_97 : decode cX9_worst 97 = .ok (.istore 5, 2) := by decide +kernel
theorem dX9_worst_99 : decode cX9_worst 99 = .ok (.iinc 6 1, 3) := by decide +kernel
theorem dX9_worst_102 : decode cX9_worst 102 = .ok (.goto (-62), 3) := by decide +kernel
theorem dX9_worst_105 : decode cX9_worst 105 = .ok (.iload 5, 2) := by decide +kernel
theorem dX9_worst_107 : decode cX9_worst 107 = .ok (.ireturn, 1) := by decide +kernel
theorem dX9_waysOfLay_0 : decode cX9_waysOfLay 0 = .ok (.lconst 0, 1) := by decide +kernel
theorem dX9_waysOfLay_1 : decode cX9_waysOfLay 1 = .ok (.lstore_n 2, 1) := by decide +kernel
theorem dX9_waysOfLay_2 : decode cX9_waysOfLay 2 = .ok (.iconst 0, 1) := by decide +kernel
theorem dX9_waysOfLay_3 : decode cX9_waysOfLay 3 = .ok (.istore 4, 2) := by decide +kernel
theorem dX9_waysOfLay_5 : decode cX9_waysOfLay 5 = .ok (.iload 4, 2) := by decide +kernel
theorem dX9_waysOfLay_7 : decode cX9_waysOfLay 7 = .ok (.aload_n 0, 1) := by decide +kernel
theorem dX9_waysOfLay_8 : decode cX9_waysOfLay 8 = .ok (.getfield 252, 3) := by decide +kernel
theorem dX9_waysOfLay_11 : decode cX9_waysOfLay 11 = .ok (.if_icmp .ge 98, 3) := by decide +kernel
theorem dX9_waysOfLay_14 : decode cX9_waysOfLay 14 = .ok (.aload_n 0, 1) := by decide +kernel
theorem dX9_waysOfLay_15 : decode cX9_waysOfLay 15 = .ok (.aload_n 0, 1) := by decide +kernel
theorem dX9_waysOfLay_16 : decode cX9_waysOfLay 16 = .ok (.getfield 38, 3) := by decide +kernel
theorem dX9_waysOfLay_19 : decode cX9_waysOfLay 19 = .ok (.iload 4, 2) := by decide +kernel
theorem dX9_waysOfLay_21 : decode cX9_waysOfLay 21 = .ok (.iaload, 1) := by decide +kernel
theorem dX9_waysOfLay_22 : decode cX9_waysOfLay 22 = .ok (.invokevirtual 279, 3) := by decide +kernel
theorem dX9_waysOfLay_25 : decode cX9_waysOfLay 25 = .ok (.iconst 1, 1) := by decide +kernel
theorem dX9_waysOfLay_26 : decode cX9_waysOfLay 26 = .ok (.istore 5, 2) := by decide +kernel
theorem dX9_waysOfLay_28 : decode cX9_waysOfLay 28 = .ok (.iconst 0, 1) := by decide +kernel
theorem dX9_waysOfLay_29 : decode cX9_waysOfLay 29 = .ok (.istore 6, 2) := by decide +kernel
theorem dX9_waysOfLay_31 : decode cX9_waysOfLay 31 = .ok (.iload 6, 2) := by decide +kernel
theorem dX9_waysOfLay_33 : decode cX9_waysOfLay 33 = .ok (.aload_n 0, 1) := by decide +kernel
theorem dX9_waysOfLay_34 : decode cX9_waysOfLay 34 = .ok (.getfield 20, 3) := by decide +kernel
theorem dX9_waysOfLay_37 : decode cX9_waysOfLay 37 = .ok (.iconst 0, 1) := by decide +kernel
theorem dX9_waysOfLay_38 : decode cX9_waysOfLay 38 = .ok (.iaload, 1) := by decide +kernel
theorem dX9_waysOfLay_39 : decode cX9_waysOfLay 39 = .ok (.if_icmp .ge 45, 3) := by decide +kernel
theorem dX9_waysOfLay_42 : decode cX9_waysOfLay 42 = .ok (.iload 5, 2) := by decide +kernel
theorem dX9_waysOfLay_44 : decode cX9_waysOfLay 44 = .ok (.ifCond .eq 31, 3) := by decide +kernel
theorem dX9_waysOfLay_47 : decode cX9_waysOfLay 47 = .ok (.aload_n 0, 1) := by decide +kernel
theorem dX9_waysOfLay_48 : decode cX9_waysOfLay 48 = .ok (.getfield 32, 3) := by decide +kernel
theorem dX9_waysOfLay_51 : decode cX9_waysOfLay 51 = .ok (.iload 6, 2) := by decide +kernel
theorem dX9_waysOfLay_53 : decode cX9_waysOfLay 53 = .ok (.iaload, 1) := by decide +kernel
theorem dX9_waysOfLay_54 : decode cX9_waysOfLay 54 = .ok (.aload_n 0, 1) := by decide +kernel
theorem dX9_waysOfLay_55 : decode cX9_waysOfLay 55 = .ok (.getfield 20, 3) := by decide +kernel
theorem dX9_waysOfLay_58 : decode cX9_waysOfLay 58 = .ok (.bipush 40, 2) := by decide +kernel
theorem dX9_waysOfLay_60 : decode cX9_waysOfLay 60 = .ok (.iconst 5, 1) := by decide +kernel
theorem dX9_waysOfLay_61 : decode cX9_waysOfLay 61 = .ok (.iload_n 1, 1) := by decide +kernel
theorem dX9_waysOfLay_62 : decode cX9_waysOfLay 62 = .ok (.imul, 1) := by decide +kernel
theorem dX9_waysOfLay_63 : decode cX9_waysOfLay 63 = .ok (.iadd, 1) := by decide +kernel
theorem dX9_waysOfLay_64 : decode cX9_waysOfLay 64 = .ok (.iload 6, 2) := by decide +kernel
theorem dX9_waysOfLay_66 : decode cX9_waysOfLay 66 = .ok (.iadd, 1) := by decide +kernel
theorem dX9_waysOfLay_67 : decode cX9_waysOfLay 67 = .ok (.iaload, 1) := by decide +kernel
theorem dX9_waysOfLay_68 : decode cX9_waysOfLay 68 = .ok (.if_icmp .ne 7, 3) := by decide +kernel
theorem dX9_waysOfLay_71 : decode cX9_waysOfLay 71 = .ok (.iconst 1, 1) := by decide +kernel
theorem dX9_waysOfLay_72 : decode cX9_waysOfLay 72 = .ok (.goto 4, 3) := by decide +kernel
theorem dX9_waysOfLay_75 : decode cX9_waysOfLay 75 = .ok (.iconst 0, 1) := by decide +kernel
theorem dX9_waysOfLay_76 : decode cX9_waysOfLay 76 = .ok (.istore 5, 2) := by decide +kernel
theorem dX9_waysOfLay_78 : decode cX9_waysOfLay 78 = .ok (.iinc 6 1, 3) := by decide +kernel
theorem dX9_waysOfLay_81 : decode cX9_waysOfLay 81 = .ok (.goto (-50), 3) := by decide +kernel
theorem dX9_waysOfLay_84 : decode cX9_waysOfLay 84 = .ok (.lload_n 2, 1) := by decide +kernel
theorem dX9_waysOfLay_85 : decode cX9_waysOfLay 85 = .ok (.iload 5, 2) := by decide +kernel
theorem dX9_waysOfLay_87 : decode cX9_waysOfLay 87 = .ok (.ifCond .eq 13, 3) := by decide +kernel
theorem dX9_waysOfLay_90 : decode cX9_waysOfLay 90 = .ok (.aload_n 0, 1) := by decide +kernel
theorem dX9_waysOfLay_91 : decode cX9_waysOfLay 91 = .ok (.getfield 47, 3) := by decide +kernel
theorem dX9_waysOfLay_94 : decode cX9_waysOfLay 94 = .ok (.iload 4, 2) := by decide +kernel
theorem dX9_waysOfLay_96 : decode cX9_waysOfLay 96 = .ok (.laload, 1) := by decide +kernel
theorem dX9_waysOfLay_97 : decode cX9_waysOfLay 97 = .ok (.goto 4, 3) := by decide +kernel
theorem dX9_waysOfLay_100 : decode cX9_waysOfLay 100 = .ok (.lconst 0, 1) := by decide +kernel
theorem dX9_waysOfLay_101 : decode cX9_waysOfLay 101 = .ok (.ladd, 1) := by decide +kernel
theorem dX9_waysOfLay_102 : decode cX9_waysOfLay 102 = .ok (.lstore_n 2, 1) := by decide +kernel
theorem dX9_waysOfLay_103 : decode cX9_waysOfLay 103 = .ok (.iinc 4 1, 3) := by decide +kernel
theorem dX9_waysOfLay_106 : decode cX9_waysOfLay 106 = .ok (.goto (-101), 3) := by decide +kernel
theorem dX9_waysOfLay_109 : decode cX9_waysOfLay 109 = .ok (.lload_n 2, 1) := by decide +kernel
theorem dX9_waysOfLay_110 : decode cX9_waysOfLay 110 = .ok (.lreturn, 1) := by decide +kernel
theorem dX9_lies_0 : decode cX9_lies 0 = .ok (.aload_n 0, 1) := by decide +kernel
theorem dX9_lies_1 : decode cX9_lies 1 = .ok (.invokevirtual 150, 3) := by decide +kernel
theorem dX9_lies_4 : decode cX9_lies 4 = .ok (.aload_n 0, 1) := by decide +kernel
theorem dX9_lies_5 : decode cX9_lies 5 = .ok (.iload_n 1, 1) := by decide +kernel
theorem dX9_lies_6 : decode cX9_lies 6 = .ok (.invokevirtual 320, 3) := by decide +kernel
theorem dX9_lies_9 : decode cX9_lies 9 = .ok (.ifCond .eq 20, 3) := by decide +kernel
theorem dX9_lies_12 : decode cX9_lies 12 = .ok (.iload_n 2, 1) := by decide +kernel
theorem dX9_lies_13 : decode cX9_lies 13 = .ok (.iconst 0, 1) := by decide +kernel
theorem dX9_lies_14 : decode cX9_lies 14 = .ok (.aload_n 0, 1) := by decide +kernel
theorem dX9_lies_15 : decode cX9_lies 15 = .ok (.getfield 20, 3) := by decide +kernel
theorem dX9_lies_18 : decode cX9_lies 18 = .ok (.bipush 39, 2) := by decide +kernel
theorem dX9_lies_20 : decode cX9_lies 20 = .ok (.iaload, 1) := by decide +kernel
theorem dX9_lies_21 : decode cX9_lies 21 = .ok (.iconst 1, 1) := by decide +kernel
theorem dX9_lies_22 : decode cX9_lies 22 = .ok (.isub, 1) := by decide +kernel
theorem dX9_lies_23 : decode cX9_lies 23 = .ok (.invokestatic 138, 3) := by decide +kernel
theorem dX9_lies_26 : decode cX9_lies 26 = .ok (.ifCond .ne 10, 3) := by decide +kernel
theorem dX9_lies_29 : decode cX9_lies 29 = .ok (.aload_n 0, 1) := by decide +kernel
theorem dX9_lies_30 : decode cX9_lies 30 = .ok (.iconst 1, 1) := by decide +kernel
theorem dX9_lies_31 : decode cX9_lies 31 = .ok (.invokevirtual 153, 3) := by decide +kernel
theorem dX9_lies_34 : decode cX9_lies 34 = .ok (.i2l, 1) := by decide +kernel
theorem dX9_lies_35 : decode cX9_lies 35 = .ok (.lreturn, 1) := by decide +kernel
theorem dX9_lies_36 : decode cX9_lies 36 = .ok (.aload_n 0, 1) := by decide +kernel
theorem dX9_lies_37 : decode cX9_lies 37 = .ok (.iload_n 1, 1) := by decide +kernel
theorem dX9_lies_38 : decode cX9_lies 38 = .ok (.aload_n 0, 1) := by decide +kernel
theorem dX9_lies_39 : decode cX9_lies 39 = .ok (.getfield 20, 3) := by decide +kernel
theorem dX9_lies_42 : decode cX9_lies 42 = .ok (.iconst 1, 1) := by decide +kernel
theorem dX9_lies_43 : decode cX9_lies 43 = .ok (.iaload, 1) := by decide +kernel
theorem dX9_lies_44 : decode cX9_lies 44 = .ok (.invokevirtual 323, 3) := by decide +kernel
theorem dX9_lies_47 : decode cX9_lies 47 = .ok (.ifCond .eq 19, 3) := by decide +kernel
theorem dX9_lies_50 : decode cX9_lies 50 = .ok (.aload_n 0, 1) := by decide +kernel
theorem dX9_lies_51 : decode cX9_lies 51 = .ok (.iload_n 2, 1) := by decide +kernel
theorem dX9_lies_52 : decode cX9_lies 52 = .ok (.invokevirtual 347, 3) := by decide +kernel
theorem dX9_lies_55 : decode cX9_lies 55 = .ok (.aload_n 0, 1) := by decide +kernel
theorem dX9_lies_56 : decode cX9_lies 56 = .ok (.getfield 255, 3) := by decide +kernel
theorem dX9_lies_59 : decode cX9_lies 59 = .ok (.iload_n 3, 1) := by decide +kernel
theorem dX9_lies_60 : decode cX9_lies 60 = .ok (.invokestatic 334, 3) := by decide +kernel
theorem dX9_lies_63 : decode cX9_lies 63 = .ok (.goto 9, 3) := by decide +kernel
theorem dX9_lies_66 : decode cX9_lies 66 = .ok (.aload_n 0, 1) := by decide +kernel
theorem dX9_lies_67 : decode cX9_lies 67 = .ok (.iconst 3, 1) := by decide +kernel
theorem dX9_lies_68 : decode cX9_lies 68 = .ok (.invokevirtual 153, 3) := by decide +kernel
theorem dX9_lies_71 : decode cX9_lies 71 = .ok (.i2l, 1) := by decide +kernel
theorem dX9_lies_72 : decode cX9_lies 72 = .ok (.lreturn, 1) := by decide +kernel
theorem dX9_setBig_0 : decode cX9_setBig 0 = .ok (.iconst 0, 1) := by decide +kernel
theorem dX9_setBig_1 : decode cX9_setBig 1 = .ok (.istore_n 1, 1) := by decide +kernel
theorem dX9_setBig_2 : decode cX9_setBig 2 = .ok (.iload_n 1, 1) := by decide +kernel
theorem dX9_setBig_3 : decode cX9_setBig 3 = .ok (.bipush 60, 2) := by decide +kernel
theorem dX9_setBig_5 : decode cX9_setBig 5 = .ok (.if_icmp .ge 13, 3) := by decide +kernel
theorem dX9_setBig_8 : decode cX9_setBig 8 = .ok (.aload_n 0, 1) := by decide +kernel
theorem dX9_setBig_9 : decode cX9_setBig 9 = .ok (.iload_n 1, 1) := by decide +kernel
theorem dX9_setBig_10 : decode cX9_setBig 10 = .ok (.iconst 0, 1) := by decide +kernel
theorem dX9_setBig_11 : decode cX9_setBig 11 = .ok (.iastore, 1) := by decide +kernel
theorem dX9_setBig_12 : decode cX9_setBig 12 = .ok (.iinc 1 1, 3) := by decide +kernel
theorem dX9_setBig_15 : decode cX9_setBig 15 = .ok (.goto (-13), 3) := by decide +kernel
theorem dX9_setBig_18 : decode cX9_setBig 18 = .ok (.aload_n 0, 1) := by decide +kernel
theorem dX9_setBig_19 : decode cX9_setBig 19 = .ok (.iconst 0, 1) := by decide +kernel
theorem dX9_setBig_20 : decode cX9_setBig 20 = .ok (.iconst 1, 1) := by decide +kernel
theorem dX9_setBig_21 : decode cX9_setBig 21 = .ok (.iastore, 1) := by decide +kernel
theorem dX9_setBig_22 : decode cX9_setBig 22 = .ok (.return_, 1) := by decide +kernel
theorem dX9_timesBig_0 : decode cX9_timesBig 0 = .ok (.iconst 0, 1) := by decide +kernel
theorem dX9_timesBig_1 : decode cX9_timesBig 1 = .ok (.istore 4, 2) := by decide +kernel
theorem dX9_timesBig_3 : decode cX9_timesBig 3 = .ok (.iload 4, 2) := by decide +kernel
theorem dX9_timesBig_5 : decode cX9_timesBig 5 = .ok (.bipush 60, 2) := by decide +kernel
theorem dX9_timesBig_7 : decode cX9_timesBig 7 = .ok (.if_icmp .ge 17, 3) := by decide +kernel
theorem dX9_timesBig_10 : decode cX9_timesBig 10 = .ok (.aload_n 0, 1) := by decide +kernel
theorem dX9_timesBig_11 : decode cX9_timesBig 11 = .ok (.getfield 60, 3) := by decide +kernel
theorem dX9_timesBig_14 : decode cX9_timesBig 14 = .ok (.iload 4, 2) := by decide +kernel
theorem dX9_timesBig_16 : decode cX9_timesBig 16 = .ok (.iconst 0, 1) := by decide +kernel
theorem dX9_timesBig_17 : decode cX9_timesBig 17 = .ok (.iastore, 1) := by decide +kernel
theorem dX9_timesBig_18 : decode cX9_timesBig 18 = .ok (.iinc 4 1, 3) := by decide +kernel
theorem dX9_timesBig_21 : decode cX9_timesBig 21 = .ok (.goto (-18), 3) := by decide +kernel
theorem dX9_timesBig_24 : decode cX9_timesBig 24 = .ok (.lload_n 2, 1) := by decide +kernel
theorem dX9_timesBig_25 : decode cX9_timesBig 25 = .ok (.lstore 4, 2) := by decide +kernel
theorem dX9_timesBig_27 : decode cX9_timesBig 27 = .ok (.iconst 0, 1) := by decide +kernel
theorem dX9_timesBig_28 : decode cX9_timesBig 28 = .ok (.istore 6, 2) := by decide +kernel
theorem dX9_timesBig_30 : decode cX9_timesBig 30 = .ok (.lload 4, 2) := by decide +kernel
theorem dX9_timesBig_32 : decode cX9_timesBig 32 = .ok (.lconst 0, 1) := by decide +kernel
theorem dX9_timesBig_33 : decode cX9_timesBig 33 = .ok (.lcmp, 1) := by decide +kernel
theorem dX9_timesBig_34 : decode cX9_timesBig 34 = .ok (.ifCond .le 97, 3) := by decide +kernel
theorem dX9_timesBig_37 : decode cX9_timesBig 37 = .ok (.lload 4, 2) := by decide +kernel
theorem dX9_timesBig_39 : decode cX9_timesBig 39 = .ok (.ldc2_w 350, 3) := by decide +kernel
theorem dX9_timesBig_42 : decode cX9_timesBig 42 = .ok (.lrem, 1) := by decide +kernel
theorem dX9_timesBig_43 : decode cX9_timesBig 43 = .ok (.lstore 7, 2) := by decide +kernel
theorem dX9_timesBig_45 : decode cX9_timesBig 45 = .ok (.lconst 0, 1) := by decide +kernel
theorem dX9_timesBig_46 : decode cX9_timesBig 46 = .ok (.lstore 9, 2) := by decide +kernel
theorem dX9_timesBig_48 : decode cX9_timesBig 48 = .ok (.iconst 0, 1) := by decide +kernel
theorem dX9_timesBig_49 : decode cX9_timesBig 49 = .ok (.istore 11, 2) := by decide +kernel
theorem dX9_timesBig_51 : decode cX9_timesBig 51 = .ok (.iload 11, 2) := by decide +kernel
theorem dX9_timesBig_53 : decode cX9_timesBig 53 = .ok (.iload 6, 2) := by decide +kernel
theorem dX9_timesBig_55 : decode cX9_timesBig 55 = .ok (.iadd, 1) := by decide +kernel
theorem dX9_timesBig_56 : decode cX9_timesBig 56 = .ok (.bipush 60, 2) := by decide +kernel
theorem dX9_timesBig_58 : decode cX9_timesBig 58 = .ok (.if_icmp .ge 59, 3) := by decide +kernel
theorem dX9_timesBig_61 : decode cX9_timesBig 61 = .ok (.aload_n 0, 1) := by decide +kernel
theorem dX9_timesBig_62 : decode cX9_timesBig 62 = .ok (.getfield 60, 3) := by decide +kernel
theorem dX9_timesBig_65 : decode cX9_timesBig 65 = .ok (.iload 11, 2) := by decide +kernel
