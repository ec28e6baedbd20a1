theorem d_M_number_0 : decode b_M_number 0 = .ok (.iload_n 1, 1) := by decide +kernel
theorem d_M_number_1 : decode b_M_number 1 = .ok (.iconst 1, 1) := by decide +kernel
theorem d_M_number_2 : decode b_M_number 2 = .ok (.iadd, 1) := by decide +kernel
theorem d_M_number_3 : decode b_M_number 3 = .ok (.aload_n 0, 1) := by decide +kernel
theorem d_M_number_4 : decode b_M_number 4 = .ok (.getfield 64, 3) := by decide +kernel
theorem d_M_number_7 : decode b_M_number 7 = .ok (.if_icmp .ge 14, 3) := by decide +kernel
theorem d_M_number_10 : decode b_M_number 10 = .ok (.aload_n 0, 1) := by decide +kernel
theorem d_M_number_11 : decode b_M_number 11 = .ok (.getfield 7, 3) := by decide +kernel
theorem d_M_number_14 : decode b_M_number 14 = .ok (.iload_n 1, 1) := by decide +kernel
theorem d_M_number_15 : decode b_M_number 15 = .ok (.iconst 1, 1) := by decide +kernel
theorem d_M_number_16 : decode b_M_number 16 = .ok (.iadd, 1) := by decide +kernel
theorem d_M_number_17 : decode b_M_number 17 = .ok (.iaload, 1) := by decide +kernel
theorem d_M_number_18 : decode b_M_number 18 = .ok (.goto 4, 3) := by decide +kernel
theorem d_M_number_21 : decode b_M_number 21 = .ok (.iconst 0, 1) := by decide +kernel
theorem d_M_number_22 : decode b_M_number 22 = .ok (.istore_n 2, 1) := by decide +kernel
theorem d_M_number_23 : decode b_M_number 23 = .ok (.aload_n 0, 1) := by decide +kernel
theorem d_M_number_24 : decode b_M_number 24 = .ok (.getfield 7, 3) := by decide +kernel
theorem d_M_number_27 : decode b_M_number 27 = .ok (.iload_n 1, 1) := by decide +kernel
theorem d_M_number_28 : decode b_M_number 28 = .ok (.iaload, 1) := by decide +kernel
theorem d_M_number_29 : decode b_M_number 29 = .ok (.bipush 48, 2) := by decide +kernel
theorem d_M_number_31 : decode b_M_number 31 = .ok (.if_icmp .eq 8, 3) := by decide +kernel
theorem d_M_number_34 : decode b_M_number 34 = .ok (.bipush 10, 2) := by decide +kernel
theorem d_M_number_36 : decode b_M_number 36 = .ok (.goto 26, 3) := by decide +kernel
theorem d_M_number_39 : decode b_M_number 39 = .ok (.iload_n 2, 1) := by decide +kernel
theorem d_M_number_40 : decode b_M_number 40 = .ok (.bipush 120, 2) := by decide +kernel
theorem d_M_number_42 : decode b_M_number 42 = .ok (.if_icmp .ne 8, 3) := by decide +kernel
theorem d_M_number_45 : decode b_M_number 45 = .ok (.bipush 16, 2) := by decide +kernel
theorem d_M_number_47 : decode b_M_number 47 = .ok (.goto 15, 3) := by decide +kernel
theorem d_M_number_50 : decode b_M_number 50 = .ok (.iload_n 2, 1) := by decide +kernel
theorem d_M_number_51 : decode b_M_number 51 = .ok (.bipush 98, 2) := by decide +kernel
theorem d_M_number_53 : decode b_M_number 53 = .ok (.if_icmp .ne 7, 3) := by decide +kernel
theorem d_M_number_56 : decode b_M_number 56 = .ok (.iconst 2, 1) := by decide +kernel
theorem d_M_number_57 : decode b_M_number 57 = .ok (.goto 5, 3) := by decide +kernel
theorem d_M_number_60 : decode b_M_number 60 = .ok (.bipush 10, 2) := by decide +kernel
theorem d_M_number_62 : decode b_M_number 62 = .ok (.istore_n 3, 1) := by decide +kernel
theorem d_M_number_63 : decode b_M_number 63 = .ok (.iload_n 3, 1) := by decide +kernel
theorem d_M_number_64 : decode b_M_number 64 = .ok (.bipush 10, 2) := by decide +kernel
theorem d_M_number_66 : decode b_M_number 66 = .ok (.if_icmp .ne 7, 3) := by decide +kernel
theorem d_M_number_69 : decode b_M_number 69 = .ok (.iload_n 1, 1) := by decide +kernel
theorem d_M_number_70 : decode b_M_number 70 = .ok (.goto 6, 3) := by decide +kernel
theorem d_M_number_73 : decode b_M_number 73 = .ok (.iload_n 1, 1) := by decide +kernel
theorem d_M_number_74 : decode b_M_number 74 = .ok (.iconst 2, 1) := by decide +kernel
theorem d_M_number_75 : decode b_M_number 75 = .ok (.iadd, 1) := by decide +kernel
theorem d_M_number_76 : decode b_M_number 76 = .ok (.istore 4, 2) := by decide +kernel
theorem d_M_number_78 : decode b_M_number 78 = .ok (.iload 4, 2) := by decide +kernel
theorem d_M_number_80 : decode b_M_number 80 = .ok (.istore 5, 2) := by decide +kernel
theorem d_M_number_82 : decode b_M_number 82 = .ok (.lconst 0, 1) := by decide +kernel
theorem d_M_number_83 : decode b_M_number 83 = .ok (.lstore 6, 2) := by decide +kernel
theorem d_M_number_85 : decode b_M_number 85 = .ok (.iload 4, 2) := by decide +kernel
theorem d_M_number_87 : decode b_M_number 87 = .ok (.aload_n 0, 1) := by decide +kernel
theorem d_M_number_88 : decode b_M_number 88 = .ok (.getfield 64, 3) := by decide +kernel
theorem d_M_number_91 : decode b_M_number 91 = .ok (.if_icmp .ge 140, 3) := by decide +kernel
theorem d_M_number_94 : decode b_M_number 94 = .ok (.aload_n 0, 1) := by decide +kernel
theorem d_M_number_95 : decode b_M_number 95 = .ok (.getfield 7, 3) := by decide +kernel
theorem d_M_number_98 : decode b_M_number 98 = .ok (.iload 4, 2) := by decide +kernel
theorem d_M_number_100 : decode b_M_number 100 = .ok (.iaload, 1) := by decide +kernel
theorem d_M_number_101 : decode b_M_number 101 = .ok (.invokestatic 85, 3) := by decide +kernel
theorem d_M_number_104 : decode b_M_number 104 = .ok (.iload_n 3, 1) := by decide +kernel
theorem d_M_number_105 : decode b_M_number 105 = .ok (.if_icmp .ge 126, 3) := by decide +kernel
theorem d_M_number_108 : decode b_M_number 108 = .ok (.iload_n 3, 1) := by decide +kernel
theorem d_M_number_109 : decode b_M_number 109 = .ok (.bipush 10, 2) := by decide +kernel
theorem d_M_number_111 : decode b_M_number 111 = .ok (.if_icmp .ne 50, 3) := by decide +kernel
theorem d_M_number_114 : decode b_M_number 114 = .ok (.lload 6, 2) := by decide +kernel
theorem d_M_number_116 : decode b_M_number 116 = .ok (.lconst 0, 1) := by decide +kernel
theorem d_M_number_117 : decode b_M_number 117 = .ok (.lcmp, 1) := by decide +kernel
theorem d_M_number_118 : decode b_M_number 118 = .ok (.ifCond .lt 35, 3) := by decide +kernel
theorem d_M_number_121 : decode b_M_number 121 = .ok (.lload 6, 2) := by decide +kernel
theorem d_M_number_123 : decode b_M_number 123 = .ok (.ldc2_w 89, 3) := by decide +kernel
theorem d_M_number_126 : decode b_M_number 126 = .ok (.lcmp, 1) := by decide +kernel
theorem d_M_number_127 : decode b_M_number 127 = .ok (.ifCond .gt 26, 3) := by decide +kernel
theorem d_M_number_130 : decode b_M_number 130 = .ok (.lload 6, 2) := by decide +kernel
theorem d_M_number_132 : decode b_M_number 132 = .ok (.ldc2_w 89, 3) := by decide +kernel
theorem d_M_number_135 : decode b_M_number 135 = .ok (.lcmp, 1) := by decide +kernel
theorem d_M_number_136 : decode b_M_number 136 = .ok (.ifCond .ne 21, 3) := by decide +kernel
theorem d_M_number_139 : decode b_M_number 139 = .ok (.aload_n 0, 1) := by decide +kernel
theorem d_M_number_140 : decode b_M_number 140 = .ok (.getfield 7, 3) := by decide +kernel
theorem d_M_number_143 : decode b_M_number 143 = .ok (.iload 4, 2) := by decide +kernel
theorem d_M_number_145 : decode b_M_number 145 = .ok (.iaload, 1) := by decide +kernel
theorem d_M_number_146 : decode b_M_number 146 = .ok (.invokestatic 85, 3) := by decide +kernel
theorem d_M_number_149 : decode b_M_number 149 = .ok (.iconst 5, 1) := by decide +kernel
theorem d_M_number_150 : decode b_M_number 150 = .ok (.if_icmp .le 7, 3) := by decide +kernel
theorem d_M_number_153 : decode b_M_number 153 = .ok (.iconst 1, 1) := by decide +kernel
theorem d_M_number_154 : decode b_M_number 154 = .ok (.goto 43, 3) := by decide +kernel
theorem d_M_number_157 : decode b_M_number 157 = .ok (.iconst 0, 1) := by decide +kernel
theorem d_M_number_158 : decode b_M_number 158 = .ok (.goto 39, 3) := by decide +kernel
theorem d_M_number_161 : decode b_M_number 161 = .ok (.iload_n 3, 1) := by decide +kernel
theorem d_M_number_162 : decode b_M_number 162 = .ok (.bipush 16, 2) := by decide +kernel
theorem d_M_number_164 : decode b_M_number 164 = .ok (.if_icmp .ne 21, 3) := by decide +kernel
theorem d_M_number_167 : decode b_M_number 167 = .ok (.lload 6, 2) := by decide +kernel
theorem d_M_number_169 : decode b_M_number 169 = .ok (.bipush 60, 2) := by decide +kernel
theorem d_M_number_171 : decode b_M_number 171 = .ok (.lushr, 1) := by decide +kernel
theorem d_M_number_172 : decode b_M_number 172 = .ok (.lconst 0, 1) := by decide +kernel
theorem d_M_number_173 : decode b_M_number 173 = .ok (.lcmp, 1) := by decide +kernel
theorem d_M_number_174 : decode b_M_number 174 = .ok (.ifCond .eq 7, 3) := by decide +kernel
theorem d_M_number_177 : decode b_M_number 177 = .ok (.iconst 1, 1) := by decide +kernel
theorem d_M_number_178 : decode b_M_number 178 = .ok (.goto 19, 3) := by decide +kernel
theorem d_M_number_181 : decode b_M_number 181 = .ok (.iconst 0, 1) := by decide +kernel
theorem d_M_number_182 : decode b_M_number 182 = .ok (.goto 15, 3) := by decide +kernel
theorem d_M_number_185 : decode b_M_number 185 = .ok (.lload 6, 2) := by decide +kernel
theorem d_M_number_187 : decode b_M_number 187 = .ok (.lconst 0, 1) := by decide +kernel
theorem d_M_number_188 : decode b_M_number 188 = .ok (.lcmp, 1) := by decide +kernel
theorem d_M_number_189 : decode b_M_number 189 = .ok (.ifCond .ge 7, 3) := by decide +kernel
theorem d_M_number_192 : decode b_M_number 192 = .ok (.iconst 1, 1) := by decide +kernel
theorem d_M_number_193 : decode b_M_number 193 = .ok (.goto 4, 3) := by decide +kernel
theorem d_M_number_196 : decode b_M_number 196 = .ok (.iconst 0, 1) := by decide +kernel
theorem d_M_number_197 : decode b_M_number 197 = .ok (.istore 8, 2) := by decide +kernel
theorem d_M_number_199 : decode b_M_number 199 = .ok (.iload 8, 2) := by decide +kernel
theorem d_M_number_201 : decode b_M_number 201 = .ok (.ifCond .eq 5, 3) := by decide +kernel
theorem d_M_number_204 : decode b_M_number 204 = .ok (.iconst (-1), 1) := by decide +kernel
theorem d_M_number_205 : decode b_M_number 205 = .ok (.ireturn, 1) := by decide +kernel
theorem d_M_number_206 : decode b_M_number 206 = .ok (.lload 6, 2) := by decide +kernel
theorem d_M_number_208 : decode b_M_number 208 = .ok (.iload_n 3, 1) := by decide +kernel
theorem d_M_number_209 : decode b_M_number 209 = .ok (.i2l, 1) := by decide +kernel
theorem d_M_number_210 : decode b_M_number 210 = .ok (.lmul, 1) := by decide +kernel
theorem d_M_number_211 : decode b_M_number 211 = .ok (.aload_n 0, 1) := by decide +kernel
theorem d_M_number_212 : decode b_M_number 212 = .ok (.getfield 7, 3) := by decide +kernel
theorem d_M_number_215 : decode b_M_number 215 = .ok (.iload 4, 2) := by decide +kernel
theorem d_M_number_217 : decode b_M_number 217 = .ok (.iaload, 1) := by decide +kernel
theorem d_M_number_218 : decode b_M_number 218 = .ok (.invokestatic 85, 3) := by decide +kernel
theorem d_M_number_221 : decode b_M_number 221 = .ok (.i2l, 1) := by decide +kernel
theorem d_M_number_222 : decode b_M_number 222 = .ok (.ladd, 1) := by decide +kernel
theorem d_M_number_223 : decode b_M_number 223 = .ok (.lstore 6, 2) := by decide +kernel
theorem d_M_number_225 : decode b_M_number 225 = .ok (.iinc 4 1, 3) := by decide +kernel
theorem d_M_number_228 : decode b_M_number 228 = .ok (.goto (-143), 3) := by decide +kernel
theorem d_M_number_231 : decode b_M_number 231 = .ok (.iload 4, 2) := by decide +kernel
theorem d_M_number_233 : decode b_M_number 233 = .ok (.iload 5, 2) := by decide +kernel
theorem d_M_number_235 : decode b_M_number 235 = .ok (.if_icmp .eq 12, 3) := by decide +kernel
theorem d_M_number_238 : decode b_M_number 238 = .ok (.aload_n 0, 1) := by decide +kernel
theorem d_M_number_239 : decode b_M_number 239 = .ok (.iload 4, 2) := by decide +kernel
theorem d_M_number_241 : decode b_M_number 241 = .ok (.invokevirtual 91, 3) := by decide +kernel
theorem d_M_number_244 : decode b_M_number 244 = .ok (.ifCond .eq 5, 3) := by decide +kernel
theorem d_M_number_247 : decode b_M_number 247 = .ok (.iconst (-1), 1) := by decide +kernel
theorem d_M_number_248 : decode b_M_number 248 = .ok (.ireturn, 1) := by decide +kernel
theorem d_M_number_249 : decode b_M_number 249 = .ok (.aload_n 0, 1) := by decide +kernel
theorem d_M_number_250 : decode b_M_number 250 = .ok (.iconst 2, 1) := by decide +kernel
theorem d_M_number_251 : decode b_M_number 251 = .ok (.iload_n 1, 1) := by decide +kernel
theorem d_M_number_252 : decode b_M_number 252 = .ok (.iload 4, 2) := by decide +kernel
theorem d_M_number_254 : decode b_M_number 254 = .ok (.lload 6, 2) := by decide +kernel
theorem d_M_number_256 : decode b_M_number 256 = .ok (.invokevirtual 94, 3) := by decide +kernel
theorem d_M_number_259 : decode b_M_number 259 = .ok (.iload 4, 2) := by decide +kernel
theorem d_M_number_261 : decode b_M_number 261 = .ok (.ireturn, 1) := by decide +kernel
theorem d_M_isSign_0 : decode b_M_isSign 0 = .ok (.iload_n 0, 1) := by decide +kernel
theorem d_M_isSign_1 : decode b_M_isSign 1 = .ok (.bipush 44, 2) := by decide +kernel
theorem d_M_isSign_3 : decode b_M_isSign 3 = .ok (.if_icmp .eq 75, 3) := by decide +kernel
theorem d_M_isSign_6 : decode b_M_isSign 6 = .ok (.iload_n 0, 1) := by decide +kernel
theorem d_M_isSign_7 : decode b_M_isSign 7 = .ok (.bipush 58, 2) := by decide +kernel
theorem d_M_isSign_9 : decode b_M_isSign 9 = .ok (.if_icmp .eq 69, 3) := by decide +kernel
theorem d_M_isSign_12 : decode b_M_isSign 12 = .ok (.iload_n 0, 1) := by decide +kernel
theorem d_M_isSign_13 : decode b_M_isSign 13 = .ok (.bipush 91, 2) := by decide +kernel
theorem d_M_isSign_15 : decode b_M_isSign 15 = .ok (.if_icmp .eq 63, 3) := by decide +kernel
theorem d_M_isSign_18 : decode b_M_isSign 18 = .ok (.iload_n 0, 1) := by decide +kernel
theorem d_M_isSign_19 : decode b_M_isSign 19 = .ok (.bipush 93, 2) := by decide +kernel
theorem d_M_isSign_21 : decode b_M_isSign 21 = .ok (.if_icmp .eq 57, 3) := by decide +kernel
theorem d_M_isSign_24 : decode b_M_isSign 24 = .ok (.iload_n 0, 1) := by decide +kernel
theorem d_M_isSign_25 : decode b_M_isSign 25 = .ok (.bipush 40, 2) := by decide +kernel
theorem d_M_isSign_27 : decode b_M_isSign 27 = .ok (.if_icmp .lt 9, 3) := by decide +kernel
theorem d_M_isSign_30 : decode b_M_isSign 30 = .ok (.iload_n 0, 1) := by decide +kernel
theorem d_M_isSign_31 : decode b_M_isSign 31 = .ok (.bipush 43, 2) := by decide +kernel
theorem d_M_isSign_33 : decode b_M_isSign 33 = .ok (.if_icmp .le 45, 3) := by decide +kernel
theorem d_M_isSign_36 : decode b_M_isSign 36 = .ok (.iload_n 0, 1) := by decide +kernel
theorem d_M_isSign_37 : decode b_M_isSign 37 = .ok (.bipush 45, 2) := by decide +kernel
theorem d_M_isSign_39 : decode b_M_isSign 39 = .ok (.if_icmp .eq 39, 3) := by decide +kernel
theorem d_M_isSign_42 : decode b_M_isSign 42 = .ok (.iload_n 0, 1) := by decide +kernel
theorem d_M_isSign_43 : decode b_M_isSign 43 = .ok (.bipush 47, 2) := by decide +kernel
theorem d_M_isSign_45 : decode b_M_isSign 45 = .ok (.if_icmp .eq 33, 3) := by decide +kernel
theorem d_M_isSign_48 : decode b_M_isSign 48 = .ok (.iload_n 0, 1) := by decide +kernel
theorem d_M_isSign_49 : decode b_M_isSign 49 = .ok (.bipush 36, 2) := by decide +kernel
theorem d_M_isSign_51 : decode b_M_isSign 51 = .ok (.if_icmp .lt 9, 3) := by decide +kernel
theorem d_M_isSign_54 : decode b_M_isSign 54 = .ok (.iload_n 0, 1) := by decide +kernel
theorem d_M_isSign_55 : decode b_M_isSign 55 = .ok (.bipush 38, 2) := by decide +kernel
theorem d_M_isSign_57 : decode b_M_isSign 57 = .ok (.if_icmp .le 21, 3) := by decide +kernel
theorem d_M_isSign_60 : decode b_M_isSign 60 = .ok (.iload_n 0, 1) := by decide +kernel
theorem d_M_isSign_61 : decode b_M_isSign 61 = .ok (.bipush 124, 2) := by decide +kernel
theorem d_M_isSign_63 : decode b_M_isSign 63 = .ok (.if_icmp .eq 15, 3) := by decide +kernel
theorem d_M_isSign_66 : decode b_M_isSign 66 = .ok (.iload_n 0, 1) := by decide +kernel
theorem d_M_isSign_67 : decode b_M_isSign 67 = .ok (.bipush 94, 2) := by decide +kernel
theorem d_M_isSign_69 : decode b_M_isSign 69 = .ok (.if_icmp .eq 9, 3) := by decide +kernel
theorem d_M_isSign_72 : decode b_M_isSign 72 = .ok (.iload_n 0, 1) := by decide +kernel
theorem d_M_isSign_73 : decode b_M_isSign 73 = .ok (.bipush 126, 2) := by decide +kernel
theorem d_M_isSign_75 : decode b_M_isSign 75 = .ok (.if_icmp .ne 7, 3) := by decide +kernel
theorem d_M_isSign_78 : decode b_M_isSign 78 = .ok (.iconst 1, 1) := by decide +kernel
theorem d_M_isSign_79 : decode b_M_isSign 79 = .ok (.goto 4, 3) := by decide +kernel
theorem d_M_isSign_82 : decode b_M_isSign 82 = .ok (.iconst 0, 1) := by decide +kernel
theorem d_M_isSign_83 : decode b_M_isSign 83 = .ok (.ireturn, 1) := by decide +kernel
theorem d_M_next_0 : decode b_M_next 0 = .ok (.aload_n 0, 1) := by decide +kernel
theorem d_M_next_1 : decode b_M_next 1 = .ok (.getfield 7, 3) := by decide +kernel
theorem d_M_next_4 : decode b_M_next 4 = .ok (.iload_n 1, 1) := by decide +kernel
theorem d_M_next_5 : decode b_M_next 5 = .ok (.iaload, 1) := by decide +kernel
theorem d_M_next_6 : decode b_M_next 6 = .ok (.istore_n 2, 1) := by decide +kernel
theorem d_M_next_7 : decode b_M_next 7 = .ok (.iload_n 2, 1) := by decide +kernel
theorem d_M_next_8 : decode b_M_next 8 = .ok (.invokestatic 73, 3) := by decide +kernel
theorem d_M_next_11 : decode b_M_next 11 = .ok (.ifCond .eq 9, 3) := by decide +kernel
theorem d_M_next_14 : decode b_M_next 14 = .ok (.aload_n 0, 1) := by decide +kernel
theorem d_M_next_15 : decode b_M_next 15 = .ok (.iload_n 1, 1) := by decide +kernel
theorem d_M_next_16 : decode b_M_next 16 = .ok (.invokevirtual 98, 3) := by decide +kernel
theorem d_M_next_19 : decode b_M_next 19 = .ok (.ireturn, 1) := by decide +kernel
theorem d_M_next_20 : decode b_M_next 20 = .ok (.iload_n 1, 1) := by decide +kernel
theorem d_M_next_21 : decode b_M_next 21 = .ok (.istore_n 3, 1) := by decide +kernel
theorem d_M_next_22 : decode b_M_next 22 = .ok (.iload_n 2, 1) := by decide +kernel
theorem d_M_next_23 : decode b_M_next 23 = .ok (.invokestatic 69, 3) := by decide +kernel
theorem d_M_next_26 : decode b_M_next 26 = .ok (.ifCond .eq 37, 3) := by decide +kernel
theorem d_M_next_29 : decode b_M_next 29 = .ok (.aload_n 0, 1) := by decide +kernel
theorem d_M_next_30 : decode b_M_next 30 = .ok (.iload_n 3, 1) := by decide +kernel
theorem d_M_next_31 : decode b_M_next 31 = .ok (.invokevirtual 91, 3) := by decide +kernel
theorem d_M_next_34 : decode b_M_next 34 = .ok (.ifCond .eq 9, 3) := by decide +kernel
theorem d_M_next_37 : decode b_M_next 37 = .ok (.iinc 3 1, 3) := by decide +kernel
theorem d_M_next_40 : decode b_M_next 40 = .ok (.goto (-11), 3) := by decide +kernel
theorem d_M_next_43 : decode b_M_next 43 = .ok (.iload_n 3, 1) := by decide +kernel
theorem d_M_next_44 : decode b_M_next 44 = .ok (.iload_n 1, 1) := by decide +kernel
theorem d_M_next_45 : decode b_M_next 45 = .ok (.isub, 1) := by decide +kernel
theorem d_M_next_46 : decode b_M_next 46 = .ok (.bipush 63, 2) := by decide +kernel
theorem d_M_next_48 : decode b_M_next 48 = .ok (.if_icmp .le 5, 3) := by decide +kernel
theorem d_M_next_51 : decode b_M_next 51 = .ok (.iconst (-1), 1) := by decide +kernel
theorem d_M_next_52 : decode b_M_next 52 = .ok (.ireturn, 1) := by decide +kernel
theorem d_M_next_53 : decode b_M_next 53 = .ok (.aload_n 0, 1) := by decide +kernel
theorem d_M_next_54 : decode b_M_next 54 = .ok (.iconst 1, 1) := by decide +kernel
theorem d_M_next_55 : decode b_M_next 55 = .ok (.iload_n 1, 1) := by decide +kernel
theorem d_M_next_56 : decode b_M_next 56 = .ok (.iload_n 3, 1) := by decide +kernel
theorem d_M_next_57 : decode b_M_next 57 = .ok (.lconst 0, 1) := by decide +kernel
theorem d_M_next_58 : decode b_M_next 58 = .ok (.invokevirtual 94, 3) := by decide +kernel
theorem d_M_next_61 : decode b_M_next 61 = .ok (.iload_n 3, 1) := by decide +kernel
theorem d_M_next_62 : decode b_M_next 62 = .ok (.ireturn, 1) := by decide +kernel
theorem d_M_next_63 : decode b_M_next 63 = .ok (.iload_n 2, 1) := by decide +kernel
theorem d_M_next_64 : decode b_M_next 64 = .ok (.bipush 39, 2) := by decide +kernel
theorem d_M_next_66 : decode b_M_next 66 = .ok (.if_icmp .ne 66, 3) := by decide +kernel
theorem d_M_next_69 : decode b_M_next 69 = .ok (.aload_n 0, 1) := by decide +kernel
theorem d_M_next_70 : decode b_M_next 70 = .ok (.iload_n 1, 1) := by decide +kernel
theorem d_M_next_71 : decode b_M_next 71 = .ok (.iconst 1, 1) := by decide +kernel
theorem d_M_next_72 : decode b_M_next 72 = .ok (.iadd, 1) := by decide +kernel
theorem d_M_next_73 : decode b_M_next 73 = .ok (.bipush 39, 2) := by decide +kernel
theorem d_M_next_75 : decode b_M_next 75 = .ok (.invokevirtual 101, 3) := by decide +kernel
theorem d_M_next_78 : decode b_M_next 78 = .ok (.istore_n 3, 1) := by decide +kernel
theorem d_M_next_79 : decode b_M_next 79 = .ok (.iload_n 3, 1) := by decide +kernel
theorem d_M_next_80 : decode b_M_next 80 = .ok (.ifCond .lt 32, 3) := by decide +kernel
theorem d_M_next_83 : decode b_M_next 83 = .ok (.iload_n 3, 1) := by decide +kernel
theorem d_M_next_84 : decode b_M_next 84 = .ok (.aload_n 0, 1) := by decide +kernel
theorem d_M_next_85 : decode b_M_next 85 = .ok (.getfield 64, 3) := by decide +kernel
theorem d_M_next_88 : decode b_M_next 88 = .ok (.if_icmp .ge 24, 3) := by decide +kernel
theorem d_M_next_91 : decode b_M_next 91 = .ok (.aload_n 0, 1) := by decide +kernel
theorem d_M_next_92 : decode b_M_next 92 = .ok (.getfield 7, 3) := by decide +kernel
theorem d_M_next_95 : decode b_M_next 95 = .ok (.iload_n 3, 1) := by decide +kernel
theorem d_M_next_96 : decode b_M_next 96 = .ok (.iaload, 1) := by decide +kernel
theorem d_M_next_97 : decode b_M_next 97 = .ok (.bipush 39, 2) := by decide +kernel
theorem d_M_next_99 : decode b_M_next 99 = .ok (.if_icmp .ne 13, 3) := by decide +kernel
theorem d_M_next_102 : decode b_M_next 102 = .ok (.aload_n 0, 1) := by decide +kernel
theorem d_M_next_103 : decode b_M_next 103 = .ok (.iload_n 3, 1) := by decide +kernel
theorem d_M_next_104 : decode b_M_next 104 = .ok (.iconst 1, 1) := by decide +kernel
theorem d_M_next_105 : decode b_M_next 105 = .ok (.iadd, 1) := by decide +kernel
theorem d_M_next_106 : decode b_M_next 106 = .ok (.invokevirtual 91, 3) := by decide +kernel
theorem d_M_next_109 : decode b_M_next 109 = .ok (.ifCond .eq 5, 3) := by decide +kernel
theorem d_M_next_112 : decode b_M_next 112 = .ok (.iconst (-1), 1) := by decide +kernel
theorem d_M_next_113 : decode b_M_next 113 = .ok (.ireturn, 1) := by decide +kernel
theorem d_M_next_114 : decode b_M_next 114 = .ok (.aload_n 0, 1) := by decide +kernel
theorem d_M_next_115 : decode b_M_next 115 = .ok (.iconst 2, 1) := by decide +kernel
theorem d_M_next_116 : decode b_M_next 116 = .ok (.iload_n 1, 1) := by decide +kernel
theorem d_M_next_117 : decode b_M_next 117 = .ok (.iload_n 3, 1) := by decide +kernel
theorem d_M_next_118 : decode b_M_next 118 = .ok (.iconst 1, 1) := by decide +kernel
theorem d_M_next_119 : decode b_M_next 119 = .ok (.iadd, 1) := by decide +kernel
theorem d_M_next_120 : decode b_M_next 120 = .ok (.aload_n 0, 1) := by decide +kernel
theorem d_M_next_121 : decode b_M_next 121 = .ok (.getfield 82, 3) := by decide +kernel
theorem d_M_next_124 : decode b_M_next 124 = .ok (.i2l, 1) := by decide +kernel
theorem d_M_next_125 : decode b_M_next 125 = .ok (.invokevirtual 94, 3) := by decide +kernel
theorem d_M_next_128 : decode b_M_next 128 = .ok (.iload_n 3, 1) := by decide +kernel
theorem d_M_next_129 : decode b_M_next 129 = .ok (.iconst 1, 1) := by decide +kernel
theorem d_M_next_130 : decode b_M_next 130 = .ok (.iadd, 1) := by decide +kernel
theorem d_M_next_131 : decode b_M_next 131 = .ok (.ireturn, 1) := by decide +kernel
theorem d_M_next_132 : decode b_M_next 132 = .ok (.iload_n 2, 1) := by decide +kernel
theorem d_M_next_133 : decode b_M_next 133 = .ok (.bipush 34, 2) := by decide +kernel
theorem d_M_next_135 : decode b_M_next 135 = .ok (.if_icmp .ne 69, 3) := by decide +kernel
theorem d_M_next_138 : decode b_M_next 138 = .ok (.iload_n 1, 1) := by decide +kernel
theorem d_M_next_139 : decode b_M_next 139 = .ok (.iconst 1, 1) := by decide +kernel
theorem d_M_next_140 : decode b_M_next 140 = .ok (.iadd, 1) := by decide +kernel
theorem d_M_next_141 : decode b_M_next 141 = .ok (.istore_n 3, 1) := by decide +kernel
theorem d_M_next_142 : decode b_M_next 142 = .ok (.iload_n 3, 1) := by decide +kernel
theorem d_M_next_143 : decode b_M_next 143 = .ok (.ifCond .lt 33, 3) := by decide +kernel
theorem d_M_next_146 : decode b_M_next 146 = .ok (.iload_n 3, 1) := by decide +kernel
theorem d_M_next_147 : decode b_M_next 147 = .ok (.aload_n 0, 1) := by decide +kernel
theorem d_M_next_148 : decode b_M_next 148 = .ok (.getfield 64, 3) := by decide +kernel
theorem d_M_next_151 : decode b_M_next 151 = .ok (.if_icmp .ge 25, 3) := by decide +kernel
theorem d_M_next_154 : decode b_M_next 154 = .ok (.aload_n 0, 1) := by decide +kernel
theorem d_M_next_155 : decode b_M_next 155 = .ok (.getfield 7, 3) := by decide +kernel
theorem d_M_next_158 : decode b_M_next 158 = .ok (.iload_n 3, 1) := by decide +kernel
theorem d_M_next_159 : decode b_M_next 159 = .ok (.iaload, 1) := by decide +kernel
theorem d_M_next_160 : decode b_M_next 160 = .ok (.bipush 34, 2) := by decide +kernel
theorem d_M_next_162 : decode b_M_next 162 = .ok (.if_icmp .eq 14, 3) := by decide +kernel
theorem d_M_next_165 : decode b_M_next 165 = .ok (.aload_n 0, 1) := by decide +kernel
theorem d_M_next_166 : decode b_M_next 166 = .ok (.iload_n 3, 1) := by decide +kernel
theorem d_M_next_167 : decode b_M_next 167 = .ok (.bipush 34, 2) := by decide +kernel
theorem d_M_next_169 : decode b_M_next 169 = .ok (.invokevirtual 101, 3) := by decide +kernel
theorem d_M_next_172 : decode b_M_next 172 = .ok (.istore_n 3, 1) := by decide +kernel
theorem d_M_next_173 : decode b_M_next 173 = .ok (.goto (-31), 3) := by decide +kernel
theorem d_M_next_176 : decode b_M_next 176 = .ok (.iload_n 3, 1) := by decide +kernel
theorem d_M_next_177 : decode b_M_next 177 = .ok (.ifCond .lt 11, 3) := by decide +kernel
theorem d_M_next_180 : decode b_M_next 180 = .ok (.iload_n 3, 1) := by decide +kernel
theorem d_M_next_181 : decode b_M_next 181 = .ok (.aload_n 0, 1) := by decide +kernel
theorem d_M_next_182 : decode b_M_next 182 = .ok (.getfield 64, 3) := by decide +kernel
theorem d_M_next_185 : decode b_M_next 185 = .ok (.if_icmp .lt 5, 3) := by decide +kernel
theorem d_M_next_188 : decode b_M_next 188 = .ok (.iconst (-1), 1) := by decide +kernel
theorem d_M_next_189 : decode b_M_next 189 = .ok (.ireturn, 1) := by decide +kernel
theorem d_M_next_190 : decode b_M_next 190 = .ok (.aload_n 0, 1) := by decide +kernel
theorem d_M_next_191 : decode b_M_next 191 = .ok (.iconst 3, 1) := by decide +kernel
theorem d_M_next_192 : decode b_M_next 192 = .ok (.iload_n 1, 1) := by decide +kernel
theorem d_M_next_193 : decode b_M_next 193 = .ok (.iload_n 3, 1) := by decide +kernel
theorem d_M_next_194 : decode b_M_next 194 = .ok (.iconst 1, 1) := by decide +kernel
theorem d_M_next_195 : decode b_M_next 195 = .ok (.iadd, 1) := by decide +kernel
theorem d_M_next_196 : decode b_M_next 196 = .ok (.lconst 0, 1) := by decide +kernel
theorem d_M_next_197 : decode b_M_next 197 = .ok (.invokevirtual 94, 3) := by decide +kernel
theorem d_M_next_200 : decode b_M_next 200 = .ok (.iload_n 3, 1) := by decide +kernel
theorem d_M_next_201 : decode b_M_next 201 = .ok (.iconst 1, 1) := by decide +kernel
theorem d_M_next_202 : decode b_M_next 202 = .ok (.iadd, 1) := by decide +kernel
theorem d_M_next_203 : decode b_M_next 203 = .ok (.ireturn, 1) := by decide +kernel
theorem d_M_next_204 : decode b_M_next 204 = .ok (.iload_n 2, 1) := by decide +kernel
theorem d_M_next_205 : decode b_M_next 205 = .ok (.bipush 60, 2) := by decide +kernel
theorem d_M_next_207 : decode b_M_next 207 = .ok (.if_icmp .eq 9, 3) := by decide +kernel
theorem d_M_next_210 : decode b_M_next 210 = .ok (.iload_n 2, 1) := by decide +kernel
theorem d_M_next_211 : decode b_M_next 211 = .ok (.bipush 62, 2) := by decide +kernel
theorem d_M_next_213 : decode b_M_next 213 = .ok (.if_icmp .ne 53, 3) := by decide +kernel
theorem d_M_next_216 : decode b_M_next 216 = .ok (.iload_n 1, 1) := by decide +kernel
theorem d_M_next_217 : decode b_M_next 217 = .ok (.iconst 1, 1) := by decide +kernel
theorem d_M_next_218 : decode b_M_next 218 = .ok (.iadd, 1) := by decide +kernel
theorem d_M_next_219 : decode b_M_next 219 = .ok (.aload_n 0, 1) := by decide +kernel
theorem d_M_next_220 : decode b_M_next 220 = .ok (.getfield 64, 3) := by decide +kernel
theorem d_M_next_223 : decode b_M_next 223 = .ok (.if_icmp .ge 43, 3) := by decide +kernel
theorem d_M_next_226 : decode b_M_next 226 = .ok (.aload_n 0, 1) := by decide +kernel
theorem d_M_next_227 : decode b_M_next 227 = .ok (.getfield 7, 3) := by decide +kernel
theorem d_M_next_230 : decode b_M_next 230 = .ok (.iload_n 1, 1) := by decide +kernel
theorem d_M_next_231 : decode b_M_next 231 = .ok (.iconst 1, 1) := by decide +kernel
theorem d_M_next_232 : decode b_M_next 232 = .ok (.iadd, 1) := by decide +kernel
theorem d_M_next_233 : decode b_M_next 233 = .ok (.iaload, 1) := by decide +kernel
theorem d_M_next_234 : decode b_M_next 234 = .ok (.iload_n 2, 1) := by decide +kernel
theorem d_M_next_235 : decode b_M_next 235 = .ok (.if_icmp .ne 31, 3) := by decide +kernel
theorem d_M_next_238 : decode b_M_next 238 = .ok (.aload_n 0, 1) := by decide +kernel
theorem d_M_next_239 : decode b_M_next 239 = .ok (.iconst 4, 1) := by decide +kernel
theorem d_M_next_240 : decode b_M_next 240 = .ok (.iload_n 1, 1) := by decide +kernel
theorem d_M_next_241 : decode b_M_next 241 = .ok (.iload_n 1, 1) := by decide +kernel
theorem d_M_next_242 : decode b_M_next 242 = .ok (.iconst 2, 1) := by decide +kernel
theorem d_M_next_243 : decode b_M_next 243 = .ok (.iadd, 1) := by decide +kernel
theorem d_M_next_244 : decode b_M_next 244 = .ok (.iload_n 2, 1) := by decide +kernel
theorem d_M_next_245 : decode b_M_next 245 = .ok (.bipush 60, 2) := by decide +kernel
theorem d_M_next_247 : decode b_M_next 247 = .ok (.if_icmp .ne 9, 3) := by decide +kernel
theorem d_M_next_250 : decode b_M_next 250 = .ok (.ldc2_w 105, 3) := by decide +kernel
theorem d_M_next_253 : decode b_M_next 253 = .ok (.goto 6, 3) := by decide +kernel
theorem d_M_next_256 : decode b_M_next 256 = .ok (.ldc2_w 107, 3) := by decide +kernel
theorem d_M_next_259 : decode b_M_next 259 = .ok (.invokevirtual 94, 3) := by decide +kernel
theorem d_M_next_262 : decode b_M_next 262 = .ok (.iload_n 1, 1) := by decide +kernel
theorem d_M_next_263 : decode b_M_next 263 = .ok (.iconst 2, 1) := by decide +kernel
theorem d_M_next_264 : decode b_M_next 264 = .ok (.iadd, 1) := by decide +kernel
theorem d_M_next_265 : decode b_M_next 265 = .ok (.ireturn, 1) := by decide +kernel
theorem d_M_next_266 : decode b_M_next 266 = .ok (.iload_n 2, 1) := by decide +kernel
theorem d_M_next_267 : decode b_M_next 267 = .ok (.invokestatic 109, 3) := by decide +kernel
theorem d_M_next_270 : decode b_M_next 270 = .ok (.ifCond .ne 5, 3) := by decide +kernel
theorem d_M_next_273 : decode b_M_next 273 = .ok (.iconst (-1), 1) := by decide +kernel
theorem d_M_next_274 : decode b_M_next 274 = .ok (.ireturn, 1) := by decide +kernel
theorem d_M_next_275 : decode b_M_next 275 = .ok (.aload_n 0, 1) := by decide +kernel
theorem d_M_next_276 : decode b_M_next 276 = .ok (.iconst 4, 1) := by decide +kernel
theorem d_M_next_277 : decode b_M_next 277 = .ok (.iload_n 1, 1) := by decide +kernel
theorem d_M_next_278 : decode b_M_next 278 = .ok (.iload_n 1, 1) := by decide +kernel
theorem d_M_next_279 : decode b_M_next 279 = .ok (.iconst 1, 1) := by decide +kernel
theorem d_M_next_280 : decode b_M_next 280 = .ok (.iadd, 1) := by decide +kernel
theorem d_M_next_281 : decode b_M_next 281 = .ok (.iload_n 2, 1) := by decide +kernel
theorem d_M_next_282 : decode b_M_next 282 = .ok (.i2l, 1) := by decide +kernel
theorem d_M_next_283 : decode b_M_next 283 = .ok (.invokevirtual 94, 3) := by decide +kernel
theorem d_M_next_286 : decode b_M_next 286 = .ok (.iload_n 1, 1) := by decide +kernel
theorem d_M_next_287 : decode b_M_next 287 = .ok (.iconst 1, 1) := by decide +kernel
theorem d_M_next_288 : decode b_M_next 288 = .ok (.iadd, 1) := by decide +kernel
theorem d_M_next_289 : decode b_M_next 289 = .ok (.ireturn, 1) := by decide +kernel
theorem d_M_cut_0 : decode b_M_cut 0 = .ok (.aload_n 0, 1) := by decide +kernel
theorem d_M_cut_1 : decode b_M_cut 1 = .ok (.iconst 0, 1) := by decide +kernel
theorem d_M_cut_2 : decode b_M_cut 2 = .ok (.putfield 76, 3) := by decide +kernel
theorem d_M_cut_5 : decode b_M_cut 5 = .ok (.iconst 0, 1) := by decide +kernel
theorem d_M_cut_6 : decode b_M_cut 6 = .ok (.istore_n 1, 1) := by decide +kernel
theorem d_M_cut_7 : decode b_M_cut 7 = .ok (.iload_n 1, 1) := by decide +kernel
theorem d_M_cut_8 : decode b_M_cut 8 = .ok (.ifCond .lt 59, 3) := by decide +kernel
theorem d_M_cut_11 : decode b_M_cut 11 = .ok (.iload_n 1, 1) := by decide +kernel
theorem d_M_cut_12 : decode b_M_cut 12 = .ok (.aload_n 0, 1) := by decide +kernel
theorem d_M_cut_13 : decode b_M_cut 13 = .ok (.getfield 64, 3) := by decide +kernel
theorem d_M_cut_16 : decode b_M_cut 16 = .ok (.if_icmp .ge 51, 3) := by decide +kernel
theorem d_M_cut_19 : decode b_M_cut 19 = .ok (.aload_n 0, 1) := by decide +kernel
theorem d_M_cut_20 : decode b_M_cut 20 = .ok (.getfield 7, 3) := by decide +kernel
theorem d_M_cut_23 : decode b_M_cut 23 = .ok (.iload_n 1, 1) := by decide +kernel
theorem d_M_cut_24 : decode b_M_cut 24 = .ok (.iaload, 1) := by decide +kernel
theorem d_M_cut_25 : decode b_M_cut 25 = .ok (.bipush 59, 2) := by decide +kernel
theorem d_M_cut_27 : decode b_M_cut 27 = .ok (.if_icmp .eq 40, 3) := by decide +kernel
theorem d_M_cut_30 : decode b_M_cut 30 = .ok (.aload_n 0, 1) := by decide +kernel
theorem d_M_cut_31 : decode b_M_cut 31 = .ok (.getfield 7, 3) := by decide +kernel
theorem d_M_cut_34 : decode b_M_cut 34 = .ok (.iload_n 1, 1) := by decide +kernel
theorem d_M_cut_35 : decode b_M_cut 35 = .ok (.iaload, 1) := by decide +kernel
theorem d_M_cut_36 : decode b_M_cut 36 = .ok (.bipush 32, 2) := by decide +kernel
theorem d_M_cut_38 : decode b_M_cut 38 = .ok (.if_icmp .eq 14, 3) := by decide +kernel
theorem d_M_cut_41 : decode b_M_cut 41 = .ok (.aload_n 0, 1) := by decide +kernel
theorem d_M_cut_42 : decode b_M_cut 42 = .ok (.getfield 7, 3) := by decide +kernel
theorem d_M_cut_45 : decode b_M_cut 45 = .ok (.iload_n 1, 1) := by decide +kernel
theorem d_M_cut_46 : decode b_M_cut 46 = .ok (.iaload, 1) := by decide +kernel
theorem d_M_cut_47 : decode b_M_cut 47 = .ok (.bipush 9, 2) := by decide +kernel
theorem d_M_cut_49 : decode b_M_cut 49 = .ok (.if_icmp .ne 9, 3) := by decide +kernel
theorem d_M_cut_52 : decode b_M_cut 52 = .ok (.iinc 1 1, 3) := by decide +kernel
theorem d_M_cut_55 : decode b_M_cut 55 = .ok (.goto (-48), 3) := by decide +kernel
theorem d_M_cut_58 : decode b_M_cut 58 = .ok (.aload_n 0, 1) := by decide +kernel
theorem d_M_cut_59 : decode b_M_cut 59 = .ok (.iload_n 1, 1) := by decide +kernel
theorem d_M_cut_60 : decode b_M_cut 60 = .ok (.invokevirtual 112, 3) := by decide +kernel
theorem d_M_cut_63 : decode b_M_cut 63 = .ok (.istore_n 1, 1) := by decide +kernel
theorem d_M_cut_64 : decode b_M_cut 64 = .ok (.goto (-57), 3) := by decide +kernel
theorem d_M_cut_67 : decode b_M_cut 67 = .ok (.iload_n 1, 1) := by decide +kernel
theorem d_M_cut_68 : decode b_M_cut 68 = .ok (.ifCond .lt 7, 3) := by decide +kernel
theorem d_M_cut_71 : decode b_M_cut 71 = .ok (.iconst 1, 1) := by decide +kernel
theorem d_M_cut_72 : decode b_M_cut 72 = .ok (.goto 4, 3) := by decide +kernel
theorem d_M_cut_75 : decode b_M_cut 75 = .ok (.iconst 0, 1) := by decide +kernel
theorem d_M_cut_76 : decode b_M_cut 76 = .ok (.ireturn, 1) := by decide +kernel
theorem wb_193 : Cond.methodLink R_M 91 y_M_isPart ∈ WB := wbm (i := 991) (by decide +kernel) rfl
theorem wb_194 : Cond.code y_M_isPart b_M_isPart 2 (some .boolean) ∈ WB := wbm (i := 994) (by decide +kernel) rfl
theorem wb_195 : Cond.instanceMethod y_M_isPart ∈ WB := wbm (i := 993) (by decide +kernel) rfl
theorem wb_196 : Cond.selects R_M y_M_isPart y_M_isPart ∈ WB := wbm (i := 32) (by decide +kernel) rfl
theorem wb_197 : Cond.methodLink R_M 94 y_M_add ∈ WB := wbm (i := 998) (by decide +kernel) rfl
theorem wb_198 : Cond.code y_M_add b_M_add 6 none ∈ WB := wbm (i := 1001) (by decide +kernel) rfl
theorem wb_199 : Cond.instanceMethod y_M_add ∈ WB := wbm (i := 1000) (by decide +kernel) rfl
theorem wb_200 : Cond.selects R_M y_M_add y_M_add ∈ WB := wbm (i := 33) (by decide +kernel) rfl
theorem wb_201 : Cond.methodLink R_M 85 y_M_digit ∈ WB := wbm (i := 987) (by decide +kernel) rfl
theorem wb_202 : Cond.code y_M_digit b_M_digit 1 (some .int) ∈ WB := wbm (i := 989) (by decide +kernel) rfl
theorem wb_203 : Cond.static y_M_digit ∈ WB := wbm (i := 988) (by decide +kernel) rfl
theorem wb_204 : Cond.constantLong R_M 89 (1844674407370955161 : Int64) ∈ WB := wbm (i := 990) (by decide +kernel) rfl
theorem wb_205 : Cond.methodLink R_M 109 y_M_isSign ∈ WB := wbm (i := 1012) (by decide +kernel) rfl
theorem wb_206 : Cond.code y_M_isSign b_M_isSign 1 (some .boolean) ∈ WB := wbm (i := 1014) (by decide +kernel) rfl
theorem wb_207 : Cond.static y_M_isSign ∈ WB := wbm (i := 1013) (by decide +kernel) rfl
theorem wb_208 : Cond.constantLong R_M 107 (257 : Int64) ∈ WB := wbm (i := 1011) (by decide +kernel) rfl
theorem wb_209 : Cond.constantLong R_M 105 (256 : Int64) ∈ WB := wbm (i := 1010) (by decide +kernel) rfl
theorem wb_210 : Cond.methodLink R_M 101 y_M_character ∈ WB := wbm (i := 1002) (by decide +kernel) rfl
theorem wb_211 : Cond.code y_M_character b_M_character 4 (some .int) ∈ WB := wbm (i := 1005) (by decide +kernel) rfl
theorem wb_212 : Cond.instanceMethod y_M_character ∈ WB := wbm (i := 1004) (by decide +kernel) rfl
theorem wb_213 : Cond.selects R_M y_M_character y_M_character ∈ WB := wbm (i := 34) (by decide +kernel) rfl
theorem wb_214 : Cond.methodLink R_M 98 y_M_number ∈ WB := wbm (i := 983) (by decide +kernel) rfl
theorem wb_215 : Cond.code y_M_number b_M_number 9 (some .int) ∈ WB := wbm (i := 986) (by decide +kernel) rfl
theorem wb_216 : Cond.instanceMethod y_M_number ∈ WB := wbm (i := 985) (by decide +kernel) rfl
theorem wb_217 : Cond.selects R_M y_M_number y_M_number ∈ WB := wbm (i := 31) (by decide +kernel) rfl
theorem wb_218 : Cond.methodLink R_M 112 y_M_next ∈ WB := wbm (i := 976) (by decide +kernel) rfl
theorem wb_219 : Cond.code y_M_next b_M_next 4 (some .int) ∈ WB := wbm (i := 979) (by decide +kernel) rfl
theorem wb_220 : Cond.instanceMethod y_M_next ∈ WB := wbm (i := 978) (by decide +kernel) rfl
theorem wb_221 : Cond.selects R_M y_M_next y_M_next ∈ WB := wbm (i := 30) (by decide +kernel) rfl
def f_M_number_l85_j231 (k : Int32 → Int32 → (Nat → Int32) → (Nat → Int32) → (Nat → Int32) → (Nat → Int32) → (Nat → Int64) → Int32 → Int32 → Int32 → Int32 → Int64 → Option (Int32 × Int32 × (Nat → Int32) × (Nat → Int32) × (Nat → Int32) × (Nat → Int64))) (mle : Int32) (mto : Int32) (mli : Nat → Int32) (mki : Nat → Int32) (mbe : Nat → Int32) (men : Nat → Int32) (mwo : Nat → Int64) (x1 : Int32) (x4 : Int32) (x5 : Int32) (x6 : Int64) : Option (Int32 × Int32 × (Nat → Int32) × (Nat → Int32) × (Nat → Int32) × (Nat → Int64)) := if x4 = x5 then some ((-1 : Int32), mto, mki, mbe, men, mwo) else (f_M_isPart mle mli x4).bind (fun o_8 => if o_8 = (0 : Int32) then (f_M_add mto mki mbe men mwo (2 : Int32) x1 x4 x6).bind (fun o_10 => some (x4, o_10.1, o_10.2.1, o_10.2.2.1, o_10.2.2.2.1, o_10.2.2.2.2)) else some ((-1 : Int32), mto, mki, mbe, men, mwo))
def f_M_number_l85_j197 (k : Int32 → Int32 → (Nat → Int32) → (Nat → Int32) → (Nat → Int32) → (Nat → Int32) → (Nat → Int64) → Int32 → Int32 → Int32 → Int32 → Int64 → Option (Int32 × Int32 × (Nat → Int32) × (Nat → Int32) × (Nat → Int32) × (Nat → Int64))) (mle : Int32) (mto : Int32) (mli : Nat → Int32) (mki : Nat → Int32) (mbe : Nat → Int32) (men : Nat → Int32) (mwo : Nat → Int64) (x1 : Int32) (x3 : Int32) (x4 : Int32) (x5 : Int32) (x6 : Int64) (y0 : Int32) : Option (Int32 × Int32 × (Nat → Int32) × (Nat → Int32) × (Nat → Int32) × (Nat → Int64)) := if y0 = (0 : Int32) then gi x4 1024 ((f_M_digit (mli x4.toNatClampNeg)).bind (fun o_17 => k mle mto mli mki mbe men mwo x1 x3 (x4 + (1 : Int32)) x5 ((x6 * x3.toInt64) + o_17.toInt64))) else some ((-1 : Int32), mto, mki, mbe, men, mwo)
def f_M_number_l85_j153 (k : Int32 → Int32 → (Nat → Int32) → (Nat → Int32) → (Nat → Int32) → (Nat → Int32) → (Nat → Int64) → Int32 → Int32 → Int32 → Int32 → Int64 → Option (Int32 × Int32 × (Nat → Int32) × (Nat → Int32) × (Nat → Int32) × (Nat → Int64))) (mle : Int32) (mto : Int32) (mli : Nat → Int32) (mki : Nat → Int32) (mbe : Nat → Int32) (men : Nat → Int32) (mwo : Nat → Int64) (x1 : Int32) (x3 : Int32) (x4 : Int32) (x5 : Int32) (x6 : Int64) : Option (Int32 × Int32 × (Nat → Int32) × (Nat → Int32) × (Nat → Int32) × (Nat → Int64)) := f_M_number_l85_j197 k mle mto mli mki mbe men mwo x1 x3 x4 x5 x6 (1 : Int32)
def f_M_number_l85_j157 (k : Int32 → Int32 → (Nat → Int32) → (Nat → Int32) → (Nat → Int32) → (Nat → Int32) → (Nat → Int64) → Int32 → Int32 → Int32 → Int32 → Int64 → Option (Int32 × Int32 × (Nat → Int32) × (Nat → Int32) × (Nat → Int32) × (Nat → Int64))) (mle : Int32) (mto : Int32) (mli : Nat → Int32) (mki : Nat → Int32) (mbe : Nat → Int32) (men : Nat → Int32) (mwo : Nat → Int64) (x1 : Int32) (x3 : Int32) (x4 : Int32) (x5 : Int32) (x6 : Int64) : Option (Int32 × Int32 × (Nat → Int32) × (Nat → Int32) × (Nat → Int32) × (Nat → Int64)) := f_M_number_l85_j197 k mle mto mli mki mbe men mwo x1 x3 x4 x5 x6 (0 : Int32)
def f_M_number_l85 : Nat → Int32 → Int32 → (Nat → Int32) → (Nat → Int32) → (Nat → Int32) → (Nat → Int32) → (Nat → Int64) → Int32 → Int32 → Int32 → Int32 → Int64 → Option (Int32 × Int32 × (Nat → Int32) × (Nat → Int32) × (Nat → Int32) × (Nat → Int64))
  | 0, _, _, _, _, _, _, _, _, _, _, _, _ => none
  | n + 1, mle, mto, mli, mki, mbe, men, mwo, x1, x3, x4, x5, x6 => if mle ≤ x4 then f_M_number_l85_j231 (f_M_number_l85 n) mle mto mli mki mbe men mwo x1 x4 x5 x6 else gi x4 1024 ((f_M_digit (mli x4.toNatClampNeg)).bind (fun o_11 => if x3 ≤ o_11 then f_M_number_l85_j231 (f_M_number_l85 n) mle mto mli mki mbe men mwo x1 x4 x5 x6 else if x3 = (10 : Int32) then if (lg_cmp x6 (0 : Int64)) < (0 : Int32) then f_M_number_l85_j153 (f_M_number_l85 n) mle mto mli mki mbe men mwo x1 x3 x4 x5 x6 else if (0 : Int32) < (lg_cmp x6 (1844674407370955161 : Int64)) then f_M_number_l85_j153 (f_M_number_l85 n) mle mto mli mki mbe men mwo x1 x3 x4 x5 x6 else if (lg_cmp x6 (1844674407370955161 : Int64)) = (0 : Int32) then gi x4 1024 ((f_M_digit (mli x4.toNatClampNeg)).bind (fun o_22 => if o_22 ≤ (5 : Int32) then f_M_number_l85_j157 (f_M_number_l85 n) mle mto mli mki mbe men mwo x1 x3 x4 x5 x6 else f_M_number_l85_j153 (f_M_number_l85 n) mle mto mli mki mbe men mwo x1 x3 x4 x5 x6)) else f_M_number_l85_j157 (f_M_number_l85 n) mle mto mli mki mbe men mwo x1 x3 x4 x5 x6 else if x3 = (16 : Int32) then if (lg_cmp ((x6.toUInt64 >>> ((60 : Int32).toInt64.toUInt64 &&& Int64.toUInt64 63)).toInt64) (0 : Int64)) = (0 : Int32) then f_M_number_l85_j197 (f_M_number_l85 n) mle mto mli mki mbe men mwo x1 x3 x4 x5 x6 (0 : Int32) else f_M_number_l85_j197 (f_M_number_l85 n) mle mto mli mki mbe men mwo x1 x3 x4 x5 x6 (1 : Int32) else if (0 : Int32) ≤ (lg_cmp x6 (0 : Int64)) then f_M_number_l85_j197 (f_M_number_l85 n) mle mto mli mki mbe men mwo x1 x3 x4 x5 x6 (0 : Int32) else f_M_number_l85_j197 (f_M_number_l85 n) mle mto mli mki mbe men mwo x1 x3 x4 x5 x6 (1 : Int32)))
def f_M_number_j62 (mle : Int32) (mto : Int32) (mli : Nat → Int32) (mki : Nat → Int32) (mbe : Nat → Int32) (men : Nat → Int32) (mwo : Nat → Int64) (x1 : Int32) (y0 : Int32) : Option (Int32 × Int32 × (Nat → Int32) × (Nat → Int32) × (Nat → Int32) × (Nat → Int64)) := if y0 = (10 : Int32) then f_M_number_l85 FU mle mto mli mki mbe men mwo x1 y0 x1 x1 (0 : Int64) else f_M_number_l85 FU mle mto mli mki mbe men mwo x1 y0 (x1 + (2 : Int32)) (x1 + (2 : Int32)) (0 : Int64)
def f_M_number_j22 (mle : Int32) (mto : Int32) (mli : Nat → Int32) (mki : Nat → Int32) (mbe : Nat → Int32) (men : Nat → Int32) (mwo : Nat → Int64) (x1 : Int32) (y0 : Int32) : Option (Int32 × Int32 × (Nat → Int32) × (Nat → Int32) × (Nat → Int32) × (Nat → Int64)) := gi x1 1024 (if (mli x1.toNatClampNeg) = (48 : Int32) then if y0 = (120 : Int32) then f_M_number_j62 mle mto mli mki mbe men mwo x1 (16 : Int32) else if y0 = (98 : Int32) then f_M_number_j62 mle mto mli mki mbe men mwo x1 (2 : Int32) else f_M_number_j62 mle mto mli mki mbe men mwo x1 (10 : Int32) else f_M_number_j62 mle mto mli mki mbe men mwo x1 (10 : Int32))
def f_M_number (mle : Int32) (mto : Int32) (mli : Nat → Int32) (mki : Nat → Int32) (mbe : Nat → Int32) (men : Nat → Int32) (mwo : Nat → Int64) (p0 : Int32) : Option (Int32 × Int32 × (Nat → Int32) × (Nat → Int32) × (Nat → Int32) × (Nat → Int64)) := if mle ≤ (p0 + (1 : Int32)) then f_M_number_j22 mle mto mli mki mbe men mwo p0 (0 : Int32) else gi (p0 + (1 : Int32)) 1024 (f_M_number_j22 mle mto mli mki mbe men mwo p0 (mli (p0 + (1 : Int32)).toNatClampNeg))
set_option maxHeartbeats 4000000 in
set_option maxRecDepth 100000 in
theorem c_M_number (l : Launch) (dC : Nat → ClassId) (dI : Nat → Nat → Nat) (bM bLi bLe bNa bNs bSt bCo bKi bBe bEn bWo bSi bPl bMi bVa : Nat) (cLim cKim cBem cEnm cWom : ClassId) (sz : Nat) (mth : Int32) (mle : Int32) (mnm : Int32) (msp : Int32) (mpl : Int32) (mto : Int32) (mlr : Int32) (mma : Int32) (mod : Int32) (mfa : Int32) (mlp : Int32) (mlm : Int32) (mlv : Int64) (mli : Nat → Int32) (mki : Nat → Int32) (mbe : Nat → Int32) (men : Nat → Int32) (mwo : Nat → Int64) (p0 : Int32) (o : Int32 × Int32 × (Nat → Int32) × (Nat → Int32) × (Nat → Int32) × (Nat → Int64)) (hf : f_M_number mle mto mli mki mbe men mwo p0 = some o) : Met l y_M_number (w_M_number) ({ frames := 2, cells := 0, slots := 0, locals := 41 }) (va_Pc [.ref bM, .int p0] (fun U => U.heap.size = sz ∧ va_P (dC, dI) vwCl [(bM, .inr (7, [.int mth, .ref bLi, .int mle, .ref bLe, .ref bNa, .ref bNs, .ref bSt, .ref bCo, .int mnm, .int msp, .int mpl, .ref bKi, .ref bBe, .ref bEn, .ref bWo, .int mto, .int mlr, .ref bSi, .ref bPl, .ref bMi, .ref bVa, .int mma, .int mod, .int mfa, .int mlp, .int mlm, .long mlv])), (bLi, .inl (cLim, 1024, .inl mli)), (bKi, .inl (cKim, 1100, .inl mki)), (bBe, .inl (cBem, 1100, .inl mbe)), (bEn, .inl (cEnm, 1100, .inl men)), (bWo, .inl (cWom, 1100, .inr (.inl mwo)))] U.heap ∧ va_K (dC, dI) vwCl [(cLim, .int), (cKim, .int), (cBem, .int), (cEnm, .int), (cWom, .long)] U ∧ va_D (fun _ => True) [(bM, .inr (7, [.int mth, .ref bLi, .int mle, .ref bLe, .ref bNa, .ref bNs, .ref bSt, .ref bCo, .int mnm, .int msp, .int mpl, .ref bKi, .ref bBe, .ref bEn, .ref bWo, .int mto, .int mlr, .ref bSi, .ref bPl, .ref bMi, .ref bVa, .int mma, .int mod, .int mfa, .int mlp, .int mlm, .long mlv])), (bLi, .inl (cLim, 1024, .inl mli)), (bKi, .inl (cKim, 1100, .inl mki)), (bBe, .inl (cBem, 1100, .inl mbe)), (bEn, .inl (cEnm, 1100, .inl men)), (bWo, .inl (cWom, 1100, .inr (.inl mwo)))] ∧ NW U)) (va_Qi (fun (r : Int32) (_ : Unit) => r = o.1) (fun _ t => va_P (dC, dI) vwCl [(bM, .inr (7, [.int mth, .ref bLi, .int mle, .ref bLe, .ref bNa, .ref bNs, .ref bSt, .ref bCo, .int mnm, .int msp, .int mpl, .ref bKi, .ref bBe, .ref bEn, .ref bWo, .int o.2.1, .int mlr, .ref bSi, .ref bPl, .ref bMi, .ref bVa, .int mma, .int mod, .int mfa, .int mlp, .int mlm, .long mlv])), (bLi, .inl (cLim, 1024, .inl mli)), (bKi, .inl (cKim, 1100, .inl o.2.2.1)), (bBe, .inl (cBem, 1100, .inl o.2.2.2.1)), (bEn, .inl (cEnm, 1100, .inl o.2.2.2.2.1)), (bWo, .inl (cWom, 1100, .inr (.inl o.2.2.2.2.2)))] t.heap ∧ va_K (dC, dI) vwCl [(cLim, .int), (cKim, .int), (cBem, .int), (cEnm, .int), (cWom, .long)] t ∧ va_D (va_A [(bM, .inr (7, [.int mth, .ref bLi, .int mle, .ref bLe, .ref bNa, .ref bNs, .ref bSt, .ref bCo, .int mnm, .int msp, .int mpl, .ref bKi, .ref bBe, .ref bEn, .ref bWo, .int mto, .int mlr, .ref bSi, .ref bPl, .ref bMi, .ref bVa, .int mma, .int mod, .int mfa, .int mlp, .int mlm, .long mlv])), (bLi, .inl (cLim, 1024, .inl mli)), (bKi, .inl (cKim, 1100, .inl mki)), (bBe, .inl (cBem, 1100, .inl mbe)), (bEn, .inl (cEnm, 1100, .inl men)), (bWo, .inl (cWom, 1100, .inr (.inl mwo)))] sz) [(bM, .inr (7, [.int mth, .ref bLi, .int mle, .ref bLe, .ref bNa, .ref bNs, .ref bSt, .ref bCo, .int mnm, .int msp, .int mpl, .ref bKi, .ref bBe, .ref bEn, .ref bWo, .int o.2.1, .int mlr, .ref bSi, .ref bPl, .ref bMi, .ref bVa, .int mma, .int mod, .int mfa, .int mlp, .int mlm, .long mlv])), (bLi, .inl (cLim, 1024, .inl mli)), (bKi, .inl (cKim, 1100, .inl o.2.2.1)), (bBe, .inl (cBem, 1100, .inl o.2.2.2.1)), (bEn, .inl (cEnm, 1100, .inl o.2.2.2.2.1)), (bWo, .inl (cWom, 1100, .inr (.inl o.2.2.2.2.2)))]) (va_A [(bM, .inr (7, [.int mth, .ref bLi, .int mle, .ref bLe, .ref bNa, .ref bNs, .ref bSt, .ref bCo, .int mnm, .int msp, .int mpl, .ref bKi, .ref bBe, .ref bEn, .ref bWo, .int mto, .int mlr, .ref bSi, .ref bPl, .ref bMi, .ref bVa, .int mma, .int mod, .int mfa, .int mlp, .int mlm, .long mlv])), (bLi, .inl (cLim, 1024, .inl mli)), (bKi, .inl (cKim, 1100, .inl mki)), (bBe, .inl (cBem, 1100, .inl mbe)), (bEn, .inl (cEnm, 1100, .inl men)), (bWo, .inl (cWom, 1100, .inr (.inl mwo)))] sz)) 0 0 (va_A [(bM, .inr (7, [.int mth, .ref bLi, .int mle, .ref bLe, .ref bNa, .ref bNs, .ref bSt, .ref bCo, .int mnm, .int msp, .int mpl, .ref bKi, .ref bBe, .ref bEn, .ref bWo, .int mto, .int mlr, .ref bSi, .ref bPl, .ref bMi, .ref bVa, .int mma, .int mod, .int mfa, .int mlp, .int mlm, .long mlv])), (bLi, .inl (cLim, 1024, .inl mli)), (bKi, .inl (cKim, 1100, .inl mki)), (bBe, .inl (cBem, 1100, .inl mbe)), (bEn, .inl (cEnm, 1100, .inl men)), (bWo, .inl (cWom, 1100, .inr (.inl mwo)))] sz) := by
  refine Met.ofW (cc := b_M_number) (maxL := 9) (ret := (some .int)) (by decide) rfl ?_
  intro p e s m args below meth c s₁ B hml hv
  obtain ⟨rfl, hsz, hP, hK, hD0, hN⟩ := hv
  have hx := B.exec
  have hb := B.bytes
  have hr := B.returns
  have hts : ∀ w ∈ WB, w.before _ s = true := fun w h => atoms_spec (ws := w_M_number) B.pre w (List.mem_cons_of_mem _ h)
  have hown : s.vm.findClass R_M = some m.cls := findClass_of_methodNamed B.named
  have hlocks := B.notSynchronized
  subst hsz
  have hD := hD0.self (sz := s.heap.size)
  generalize hAe : va_A [(bM, .inr (7, [.int mth, .ref bLi, .int mle, .ref bLe, .ref bNa, .ref bNs, .ref bSt, .ref bCo, .int mnm, .int msp, .int mpl, .ref bKi, .ref bBe, .ref bEn, .ref bWo, .int mto, .int mlr, .ref bSi, .ref bPl, .ref bMi, .ref bVa, .int mma, .int mod, .int mfa, .int mlp, .int mlm, .long mlv])), (bLi, .inl (cLim, 1024, .inl mli)), (bKi, .inl (cKim, 1100, .inl mki)), (bBe, .inl (cBem, 1100, .inl mbe)), (bEn, .inl (cEnm, 1100, .inl men)), (bWo, .inl (cWom, 1100, .inr (.inl mwo)))] s.heap.size = A at hD ⊢
  have hA : ∀ q : Nat, s.heap.size ≤ q → A q := fun q h => by rw [← hAe]; exact Or.inr h
  have hS : va_S A s.heap s.heap [] := va_S.rf
  have hP : va_P (dC, dI) vwCl [(bM, .inr (7, [.int mth, .ref bLi, .int mle, .ref bLe, .ref bNa, .ref bNs, .ref bSt, .ref bCo, .int mnm, .int msp, .int mpl, .ref bKi, .ref bBe, .ref bEn, .ref bWo, .int mto, .int mlr, .ref bSi, .ref bPl, .ref bMi, .ref bVa, .int mma, .int mod, .int mfa, .int mlp, .int mlm, .long mlv])), (bLi, .inl (cLim, 1024, .inl mli)), (bKi, .inl (cKim, 1100, .inl mki)), (bBe, .inl (cBem, 1100, .inl mbe)), (bEn, .inl (cEnm, 1100, .inl men)), (bWo, .inl (cWom, 1100, .inr (.inl mwo)))] s.heap := hP
  have hl := lv_entry [.ref bM, .int p0] (n := 9) (Nat.le_of_ble_eq_true rfl)
  rw [lg_entry_eq]
  generalize (lg_sl [.ref bM, .int p0] ++ List.replicate (9 - (lg_sl [.ref bM, .int p0]).length) Slot.unset).toArray = ls at hl ⊢
  have hl : lv_has ls 9 [(0, .ref bM), (1, .int p0)] := hl
  have loop_85 : ∀ (n : Nat) (mle : Int32) (mto : Int32) (mli : Nat → Int32) (mki : Nat → Int32) (mbe : Nat → Int32) (men : Nat → Int32) (mwo : Nat → Int64) (x1 : Int32) (x3 : Int32) (x4 : Int32) (x5 : Int32) (x6 : Int64) (H : Heap) (locs : List Loc) (ls : Array Slot), f_M_number_l85 n mle mto mli mki mbe men mwo x1 x3 x4 x5 x6 = some o → va_P (dC, dI) vwCl [(bM, .inr (7, [.int mth, .ref bLi, .int mle, .ref bLe, .ref bNa, .ref bNs, .ref bSt, .ref bCo, .int mnm, .int msp, .int mpl, .ref bKi, .ref bBe, .ref bEn, .ref bWo, .int mto, .int mlr, .ref bSi, .ref bPl, .ref bMi, .ref bVa, .int mma, .int mod, .int mfa, .int mlp, .int mlm, .long mlv])), (bLi, .inl (cLim, 1024, .inl mli)), (bKi, .inl (cKim, 1100, .inl mki)), (bBe, .inl (cBem, 1100, .inl mbe)), (bEn, .inl (cEnm, 1100, .inl men)), (bWo, .inl (cWom, 1100, .inr (.inl mwo)))] H → va_D A [(bM, .inr (7, [.int mth, .ref bLi, .int mle, .ref bLe, .ref bNa, .ref bNs, .ref bSt, .ref bCo, .int mnm, .int msp, .int mpl, .ref bKi, .ref bBe, .ref bEn, .ref bWo, .int mto, .int mlr, .ref bSi, .ref bPl, .ref bMi, .ref bVa, .int mma, .int mod, .int mfa, .int mlp, .int mlm, .long mlv])), (bLi, .inl (cLim, 1024, .inl mli)), (bKi, .inl (cKim, 1100, .inl mki)), (bBe, .inl (cBem, 1100, .inl mbe)), (bEn, .inl (cEnm, 1100, .inl men)), (bWo, .inl (cWom, 1100, .inr (.inl mwo)))] → va_S A s.heap H locs → lv_has ls 9 [(0, .ref bM), (1, .int x1), (3, .int x3), (4, .int x4), (5, .int x5), (6, .long x6)] → W p l e (headSpec (w_M_number) ({ frames := 2, cells := 0, slots := 0, locals := 41 })).room s m [.ref bM, .int p0].toArray below meth c H locs 0 0 (MQ below (va_Qi (fun (r : Int32) (_ : Unit) => r = o.1) (fun _ t => va_P (dC, dI) vwCl [(bM, .inr (7, [.int mth, .ref bLi, .int mle, .ref bLe, .ref bNa, .ref bNs, .ref bSt, .ref bCo, .int mnm, .int msp, .int mpl, .ref bKi, .ref bBe, .ref bEn, .ref bWo, .int o.2.1, .int mlr, .ref bSi, .ref bPl, .ref bMi, .ref bVa, .int mma, .int mod, .int mfa, .int mlp, .int mlm, .long mlv])), (bLi, .inl (cLim, 1024, .inl mli)), (bKi, .inl (cKim, 1100, .inl o.2.2.1)), (bBe, .inl (cBem, 1100, .inl o.2.2.2.1)), (bEn, .inl (cEnm, 1100, .inl o.2.2.2.2.1)), (bWo, .inl (cWom, 1100, .inr (.inl o.2.2.2.2.2)))] t.heap ∧ va_K (dC, dI) vwCl [(cLim, .int), (cKim, .int), (cBem, .int), (cEnm, .int), (cWom, .long)] t ∧ va_D A [(bM, .inr (7, [.int mth, .ref bLi, .int mle, .ref bLe, .ref bNa, .ref bNs, .ref bSt, .ref bCo, .int mnm, .int msp, .int mpl, .ref bKi, .ref bBe, .ref bEn, .ref bWo, .int o.2.1, .int mlr, .ref bSi, .ref bPl, .ref bMi, .ref bVa, .int mma, .int mod, .int mfa, .int mlp, .int mlm, .long mlv])), (bLi, .inl (cLim, 1024, .inl mli)), (bKi, .inl (cKim, 1100, .inl o.2.2.1)), (bBe, .inl (cBem, 1100, .inl o.2.2.2.1)), (bEn, .inl (cEnm, 1100, .inl o.2.2.2.2.1)), (bWo, .inl (cWom, 1100, .inr (.inl o.2.2.2.2.2)))]) A) [.ref bM, .int p0].toArray s 0 0 A) (F0 m 85 ls []) := by
    intro n
    induction n with
    | zero => intro mle mto mli mki mbe men mwo x1 x3 x4 x5 x6 H locs ls hf; exact absurd hf (by simp [f_M_number_l85])
    | succ n ih =>
      have join_231 : ∀ (mle : Int32) (mto : Int32) (mli : Nat → Int32) (mki : Nat → Int32) (mbe : Nat → Int32) (men : Nat → Int32) (mwo : Nat → Int64) (x1 : Int32) (x4 : Int32) (x5 : Int32) (x6 : Int64) (H : Heap) (locs : List Loc) (ls : Array Slot), f_M_number_l85_j231 (f_M_number_l85 n) mle mto mli mki mbe men mwo x1 x4 x5 x6 = some o → va_P (dC, dI) vwCl [(bM, .inr (7, [.int mth, .ref bLi, .int mle, .ref bLe, .ref bNa, .ref bNs, .ref bSt, .ref bCo, .int mnm, .int msp, .int mpl, .ref bKi, .ref bBe, .ref bEn, .ref bWo, .int mto, .int mlr, .ref bSi, .ref bPl, .ref bMi, .ref bVa, .int mma, .int mod, .int mfa, .int mlp, .int mlm, .long mlv])), (bLi, .inl (cLim, 1024, .inl mli)), (bKi, .inl (cKim, 1100, .inl mki)), (bBe, .inl (cBem, 1100, .inl mbe)), (bEn, .inl (cEnm, 1100, .inl men)), (bWo, .inl (cWom, 1100, .inr (.inl mwo)))] H → va_D A [(bM, .inr (7, [.int mth, .ref bLi, .int mle, .ref bLe, .ref bNa, .ref bNs, .ref bSt, .ref bCo, .int mnm, .int msp, .int mpl, .ref bKi, .ref bBe, .ref bEn, .ref bWo, .int mto, .int mlr, .ref bSi, .ref bPl, .ref bMi, .ref bVa, .int mma, .int mod, .int mfa, .int mlp, .int mlm, .long mlv])), (bLi, .inl (cLim, 1024, .inl mli)), (bKi, .inl (cKim, 1100, .inl mki)), (bBe, .inl (cBem, 1100, .inl mbe)), (bEn, .inl (cEnm, 1100, .inl men)), (bWo, .inl (cWom, 1100, .inr (.inl mwo)))] → va_S A s.heap H locs → lv_has ls 9 [(0, .ref bM), (1, .int x1), (4, .int x4), (5, .int x5), (6, .long x6)] → W p l e (headSpec (w_M_number) ({ frames := 2, cells := 0, slots := 0, locals := 41 })).room s m [.ref bM, .int p0].toArray below meth c H locs 0 0 (MQ below (va_Qi (fun (r : Int32) (_ : Unit) => r = o.1) (fun _ t => va_P (dC, dI) vwCl [(bM, .inr (7, [.int mth, .ref bLi, .int mle, .ref bLe, .ref bNa, .ref bNs, .ref bSt, .ref bCo, .int mnm, .int msp, .int mpl, .ref bKi, .ref bBe, .ref bEn, .ref bWo, .int o.2.1, .int mlr, .ref bSi, .ref bPl, .ref bMi, .ref bVa, .int mma, .int mod, .int mfa, .int mlp, .int mlm, .long mlv])), (bLi, .inl (cLim, 1024, .inl mli)), (bKi, .inl (cKim, 1100, .inl o.2.2.1)), (bBe, .inl (cBem, 1100, .inl o.2.2.2.1)), (bEn, .inl (cEnm, 1100, .inl o.2.2.2.2.1)), (bWo, .inl (cWom, 1100, .inr (.inl o.2.2.2.2.2)))] t.heap ∧ va_K (dC, dI) vwCl [(cLim, .int), (cKim, .int), (cBem, .int), (cEnm, .int), (cWom, .long)] t ∧ va_D A [(bM, .inr (7, [.int mth, .ref bLi, .int mle, .ref bLe, .ref bNa, .ref bNs, .ref bSt, .ref bCo, .int mnm, .int msp, .int mpl, .ref bKi, .ref bBe, .ref bEn, .ref bWo, .int o.2.1, .int mlr, .ref bSi, .ref bPl, .ref bMi, .ref bVa, .int mma, .int mod, .int mfa, .int mlp, .int mlm, .long mlv])), (bLi, .inl (cLim, 1024, .inl mli)), (bKi, .inl (cKim, 1100, .inl o.2.2.1)), (bBe, .inl (cBem, 1100, .inl o.2.2.2.1)), (bEn, .inl (cEnm, 1100, .inl o.2.2.2.2.1)), (bWo, .inl (cWom, 1100, .inr (.inl o.2.2.2.2.2)))]) A) [.ref bM, .int p0].toArray s 0 0 A) (F0 m 231 ls []) := by
        intro mle mto mli mki mbe men mwo x1 x4 x5 x6 H locs ls hf hP hD hS hl
        rw [f_M_number_l85_j231] at hf
        refine lv_iload hx hb d_M_number_231 (lv_at hl 2 rfl) ?_
        refine lv_iload hx hb d_M_number_233 (lv_at hl 3 rfl) ?_
        refine lv_icmp_eq (tgt := 247) hx hb d_M_number_235 (by decide) (fun c_7 => ?_) (fun c_7 => ?_)
        · rw [if_pos c_7] at hf
          refine lv_iconst (v := (-1 : Int32)) hx hb d_M_number_247 (by decide) ?_
          have ho := Option.some.inj hf
          subst o
          have hP9 := hP.sub (ws' := [(bM, .inr (7, [.int mth, .ref bLi, .int mle, .ref bLe, .ref bNa, .ref bNs, .ref bSt, .ref bCo, .int mnm, .int msp, .int mpl, .ref bKi, .ref bBe, .ref bEn, .ref bWo, .int mto, .int mlr, .ref bSi, .ref bPl, .ref bMi, .ref bVa, .int mma, .int mod, .int mfa, .int mlp, .int mlm, .long mlv])), (bLi, .inl (cLim, 1024, .inl mli)), (bKi, .inl (cKim, 1100, .inl mki)), (bBe, .inl (cBem, 1100, .inl mbe)), (bEn, .inl (cEnm, 1100, .inl men)), (bWo, .inl (cWom, 1100, .inr (.inl mwo)))]) [0, 1, 2, 3, 4, 5] rfl
          have hD9 := hD.sub (ws' := [(bM, .inr (7, [.int mth, .ref bLi, .int mle, .ref bLe, .ref bNa, .ref bNs, .ref bSt, .ref bCo, .int mnm, .int msp, .int mpl, .ref bKi, .ref bBe, .ref bEn, .ref bWo, .int mto, .int mlr, .ref bSi, .ref bPl, .ref bMi, .ref bVa, .int mma, .int mod, .int mfa, .int mlp, .int mlm, .long mlv])), (bLi, .inl (cLim, 1024, .inl mli)), (bKi, .inl (cKim, 1100, .inl mki)), (bBe, .inl (cBem, 1100, .inl mbe)), (bEn, .inl (cEnm, 1100, .inl men)), (bWo, .inl (cWom, 1100, .inr (.inl mwo)))]) [0, 1, 2, 3, 4, 5] (by decide) rfl
          exact W.iret (v := (-1 : Int32)) hx hb hr (fun t ht hW => ⟨⟨(-1 : Int32), (), rfl, rfl, by rw [ht]; exact hP9, va_K.moved hW.alike hK, hD9⟩, hS.F ht⟩) hS.2.2 d_M_number_248
        · rw [if_neg c_7] at hf
          refine lv_aload_n hx hb d_M_number_238 rfl (lv_at hl 0 rfl) ?_
          refine lv_iload hx hb d_M_number_239 (lv_at hl 2 rfl) ?_
          obtain ⟨o_8, hM_8, hf⟩ := bd_some hf
          refine cr_i (va_runV (As := [.int x4]) (rest := []) ⟨hx, hb, hml, hown, hts⟩ (c_M_isPart l dC dI bM bLi bLe bNa bNs bSt bCo bKi bBe bEn bWo bSi bPl bMi bVa cLim H.size mth mle mnm msp mpl mto mlr mma mod mfa mlp mlm mlv mli x4 o_8 hM_8) (cwV 1 hts (gwV wb_193 wb_195 wb_196 wb_179 wb_194) rfl rfl rfl (by decide +kernel) ⟨Nat.le_of_ble_eq_true rfl, Nat.le_of_ble_eq_true rfl⟩) (pr_V (hP.sub [0, 1] rfl) (hD.sub [0, 1] (by decide) rfl) hK hN [0] rfl (ci := 7) rfl rfl rfl) rfl rfl hl.1 rfl (lv_room (Nat.le_of_ble_eq_true rfl)) d_M_number_241 ⟨Nat.zero_le _, Nat.zero_le _⟩) hP hD hS hA (in_of [0, 1] rfl) (fun r_8 H locs hw hP hS => ?_)
          obtain ⟨hw, hz_8⟩ := hw
          subst r_8
          refine lv_if_eq (tgt := 249) hx hb d_M_number_244 (by decide) (fun c_9 => ?_) (fun c_9 => ?_)
          · rw [if_pos c_9] at hf
            refine lv_aload_n hx hb d_M_number_249 rfl (lv_at hl 0 rfl) ?_
            refine lv_iconst (v := (2 : Int32)) hx hb d_M_number_250 (by decide) ?_
            refine lv_iload_n hx hb d_M_number_251 rfl (lv_at hl 1 rfl) ?_
            refine lv_iload hx hb d_M_number_252 (lv_at hl 2 rfl) ?_
            refine lv_lload hx hb d_M_number_254 (lv_at hl 4 rfl) ?_
            obtain ⟨o_10, hM_10, hf⟩ := bd_some hf
            refine cl_v (wr := [(bLi, .inl (cLim, 1024, .inl mli))]) (va_runV (As := [.int (2 : Int32), .int x1, .int x4, .long x6]) (rest := []) ⟨hx, hb, hml, hown, hts⟩ (c_M_add l dC dI bM bLi bLe bNa bNs bSt bCo bKi bBe bEn bWo bSi bPl bMi bVa cKim cBem cEnm cWom H.size mth mle mnm msp mpl mto mlr mma mod mfa mlp mlm mlv mki mbe men mwo (2 : Int32) x1 x4 x6 o_10 hM_10) (cwV 4 hts (gwV wb_197 wb_199 wb_200 wb_179 wb_198) rfl rfl rfl (by decide +kernel) ⟨Nat.le_of_ble_eq_true rfl, Nat.le_of_ble_eq_true rfl⟩) (pr_V (hP.sub [0, 2, 3, 4, 5] rfl) (hD.sub [0, 2, 3, 4, 5] (by decide) rfl) hK hN [1, 2, 3, 4] rfl (ci := 7) rfl rfl rfl) rfl rfl hl.1 rfl (lv_room (Nat.le_of_ble_eq_true rfl)) d_M_number_256 ⟨Nat.zero_le _, Nat.zero_le _⟩) hP hD hS hA [0, 2, 3, 4, 5] [1] rfl rfl (by decide) (by decide) (fun H locs hw hP hD hS => ?_)
            have hP : va_P (dC, dI) vwCl [(bLi, .inl (cLim, 1024, .inl mli)), (bM, .inr (7, [.int mth, .ref bLi, .int mle, .ref bLe, .ref bNa, .ref bNs, .ref bSt, .ref bCo, .int mnm, .int msp, .int mpl, .ref bKi, .ref bBe, .ref bEn, .ref bWo, .int o_10.1, .int mlr, .ref bSi, .ref bPl, .ref bMi, .ref bVa, .int mma, .int mod, .int mfa, .int mlp, .int mlm, .long mlv])), (bKi, .inl (cKim, 1100, .inl o_10.2.1)), (bBe, .inl (cBem, 1100, .inl o_10.2.2.1)), (bEn, .inl (cEnm, 1100, .inl o_10.2.2.2.1)), (bWo, .inl (cWom, 1100, .inr (.inl o_10.2.2.2.2)))] H := hP
            have hD : va_D A [(bLi, .inl (cLim, 1024, .inl mli)), (bM, .inr (7, [.int mth, .ref bLi, .int mle, .ref bLe, .ref bNa, .ref bNs, .ref bSt, .ref bCo, .int mnm, .int msp, .int mpl, .ref bKi, .ref bBe, .ref bEn, .ref bWo, .int o_10.1, .int mlr, .ref bSi, .ref bPl, .ref bMi, .ref bVa, .int mma, .int mod, .int mfa, .int mlp, .int mlm, .long mlv])), (bKi, .inl (cKim, 1100, .inl o_10.2.1)), (bBe, .inl (cBem, 1100, .inl o_10.2.2.1)), (bEn, .inl (cEnm, 1100, .inl o_10.2.2.2.1)), (bWo, .inl (cWom, 1100, .inr (.inl o_10.2.2.2.2)))] := hD
            refine lv_iload hx hb d_M_number_259 (lv_at hl 2 rfl) ?_
            have ho := Option.some.inj hf
            subst o
            have hP9 := hP.sub (ws' := [(bM, .inr (7, [.int mth, .ref bLi, .int mle, .ref bLe, .ref bNa, .ref bNs, .ref bSt, .ref bCo, .int mnm, .int msp, .int mpl, .ref bKi, .ref bBe, .ref bEn, .ref bWo, .int o_10.1, .int mlr, .ref bSi, .ref bPl, .ref bMi, .ref bVa, .int mma, .int mod, .int mfa, .int mlp, .int mlm, .long mlv])), (bLi, .inl (cLim, 1024, .inl mli)), (bKi, .inl (cKim, 1100, .inl o_10.2.1)), (bBe, .inl (cBem, 1100, .inl o_10.2.2.1)), (bEn, .inl (cEnm, 1100, .inl o_10.2.2.2.1)), (bWo, .inl (cWom, 1100, .inr (.inl o_10.2.2.2.2)))]) [1, 0, 2, 3, 4, 5] rfl
            have hD9 := hD.sub (ws' := [(bM, .inr (7, [.int mth, .ref bLi, .int mle, .ref bLe, .ref bNa, .ref bNs, .ref bSt, .ref bCo, .int mnm, .int msp, .int mpl, .ref bKi, .ref bBe, .ref bEn, .ref bWo, .int o_10.1, .int mlr, .ref bSi, .ref bPl, .ref bMi, .ref bVa, .int mma, .int mod, .int mfa, .int mlp, .int mlm, .long mlv])), (bLi, .inl (cLim, 1024, .inl mli)), (bKi, .inl (cKim, 1100, .inl o_10.2.1)), (bBe, .inl (cBem, 1100, .inl o_10.2.2.1)), (bEn, .inl (cEnm, 1100, .inl o_10.2.2.2.1)), (bWo, .inl (cWom, 1100, .inr (.inl o_10.2.2.2.2)))]) [1, 0, 2, 3, 4, 5] (by decide) rfl
            exact W.iret (v := x4) hx hb hr (fun t ht hW => ⟨⟨x4, (), rfl, rfl, by rw [ht]; exact hP9, va_K.moved hW.alike hK, hD9⟩, hS.F ht⟩) hS.2.2 d_M_number_261
          · rw [if_neg c_9] at hf
            refine lv_iconst (v := (-1 : Int32)) hx hb d_M_number_247 (by decide) ?_
            have ho := Option.some.inj hf
            subst o
            have hP9 := hP.sub (ws' := [(bM, .inr (7, [.int mth, .ref bLi, .int mle, .ref bLe, .ref bNa, .ref bNs, .ref bSt, .ref bCo, .int mnm, .int msp, .int mpl, .ref bKi, .ref bBe, .ref bEn, .ref bWo, .int mto, .int mlr, .ref bSi, .ref bPl, .ref bMi, .ref bVa, .int mma, .int mod, .int mfa, .int mlp, .int mlm, .long mlv])), (bLi, .inl (cLim, 1024, .inl mli)), (bKi, .inl (cKim, 1100, .inl mki)), (bBe, .inl (cBem, 1100, .inl mbe)), (bEn, .inl (cEnm, 1100, .inl men)), (bWo, .inl (cWom, 1100, .inr (.inl mwo)))]) [0, 1, 2, 3, 4, 5] rfl
            have hD9 := hD.sub (ws' := [(bM, .inr (7, [.int mth, .ref bLi, .int mle, .ref bLe, .ref bNa, .ref bNs, .ref bSt, .ref bCo, .int mnm, .int msp, .int mpl, .ref bKi, .ref bBe, .ref bEn, .ref bWo, .int mto, .int mlr, .ref bSi, .ref bPl, .ref bMi, .ref bVa, .int mma, .int mod, .int mfa, .int mlp, .int mlm, .long mlv])), (bLi, .inl (cLim, 1024, .inl mli)), (bKi, .inl (cKim, 1100, .inl mki)), (bBe, .inl (cBem, 1100, .inl mbe)), (bEn, .inl (cEnm, 1100, .inl men)), (bWo, .inl (cWom, 1100, .inr (.inl mwo)))]) [0, 1, 2, 3, 4, 5] (by decide) rfl
            exact W.iret (v := (-1 : Int32)) hx hb hr (fun t ht hW => ⟨⟨(-1 : Int32), (), rfl, rfl, by rw [ht]; exact hP9, va_K.moved hW.alike hK, hD9⟩, hS.F ht⟩) hS.2.2 d_M_number_248
      have join_197 : ∀ (mle : Int32) (mto : Int32) (mli : Nat → Int32) (mki : Nat → Int32) (mbe : Nat → Int32) (men : Nat → Int32) (mwo : Nat → Int64) (x1 : Int32) (x3 : Int32) (x4 : Int32) (x5 : Int32) (x6 : Int64) (y0 : Int32) (H : Heap) (locs : List Loc) (ls : Array Slot), f_M_number_l85_j197 (f_M_number_l85 n) mle mto mli mki mbe men mwo x1 x3 x4 x5 x6 y0 = some o → va_P (dC, dI) vwCl [(bM, .inr (7, [.int mth, .ref bLi, .int mle, .ref bLe, .ref bNa, .ref bNs, .ref bSt, .ref bCo, .int mnm, .int msp, .int mpl, .ref bKi, .ref bBe, .ref bEn, .ref bWo, .int mto, .int mlr, .ref bSi, .ref bPl, .ref bMi, .ref bVa, .int mma, .int mod, .int mfa, .int mlp, .int mlm, .long mlv])), (bLi, .inl (cLim, 1024, .inl mli)), (bKi, .inl (cKim, 1100, .inl mki)), (bBe, .inl (cBem, 1100, .inl mbe)), (bEn, .inl (cEnm, 1100, .inl men)), (bWo, .inl (cWom, 1100, .inr (.inl mwo)))] H → va_D A [(bM, .inr (7, [.int mth, .ref bLi, .int mle, .ref bLe, .ref bNa, .ref bNs, .ref bSt, .ref bCo, .int mnm, .int msp, .int mpl, .ref bKi, .ref bBe, .ref bEn, .ref bWo, .int mto, .int mlr, .ref bSi, .ref bPl, .ref bMi, .ref bVa, .int mma, .int mod, .int mfa, .int mlp, .int mlm, .long mlv])), (bLi, .inl (cLim, 1024, .inl mli)), (bKi, .inl (cKim, 1100, .inl mki)), (bBe, .inl (cBem, 1100, .inl mbe)), (bEn, .inl (cEnm, 1100, .inl men)), (bWo, .inl (cWom, 1100, .inr (.inl mwo)))] → va_S A s.heap H locs → lv_has ls 9 [(0, .ref bM), (1, .int x1), (3, .int x3), (4, .int x4), (5, .int x5), (6, .long x6)] → W p l e (headSpec (w_M_number) ({ frames := 2, cells := 0, slots := 0, locals := 41 })).room s m [.ref bM, .int p0].toArray below meth c H locs 0 0 (MQ below (va_Qi (fun (r : Int32) (_ : Unit) => r = o.1) (fun _ t => va_P (dC, dI) vwCl [(bM, .inr (7, [.int mth, .ref bLi, .int mle, .ref bLe, .ref bNa, .ref bNs, .ref bSt, .ref bCo, .int mnm, .int msp, .int mpl, .ref bKi, .ref bBe, .ref bEn, .ref bWo, .int o.2.1, .int mlr, .ref bSi, .ref bPl, .ref bMi, .ref bVa, .int mma, .int mod, .int mfa, .int mlp, .int mlm, .long mlv])), (bLi, .inl (cLim, 1024, .inl mli)), (bKi, .inl (cKim, 1100, .inl o.2.2.1)), (bBe, .inl (cBem, 1100, .inl o.2.2.2.1)), (bEn, .inl (cEnm, 1100, .inl o.2.2.2.2.1)), (bWo, .inl (cWom, 1100, .inr (.inl o.2.2.2.2.2)))] t.heap ∧ va_K (dC, dI) vwCl [(cLim, .int), (cKim, .int), (cBem, .int), (cEnm, .int), (cWom, .long)] t ∧ va_D A [(bM, .inr (7, [.int mth, .ref bLi, .int mle, .ref bLe, .ref bNa, .ref bNs, .ref bSt, .ref bCo, .int mnm, .int msp, .int mpl, .ref bKi, .ref bBe, .ref bEn, .ref bWo, .int o.2.1, .int mlr, .ref bSi, .ref bPl, .ref bMi, .ref bVa, .int mma, .int mod, .int mfa, .int mlp, .int mlm, .long mlv])), (bLi, .inl (cLim, 1024, .inl mli)), (bKi, .inl (cKim, 1100, .inl o.2.2.1)), (bBe, .inl (cBem, 1100, .inl o.2.2.2.1)), (bEn, .inl (cEnm, 1100, .inl o.2.2.2.2.1)), (bWo, .inl (cWom, 1100, .inr (.inl o.2.2.2.2.2)))]) A) [.ref bM, .int p0].toArray s 0 0 A) (F0 m 197 ls [.int y0]) := by
        intro mle mto mli mki mbe men mwo x1 x3 x4 x5 x6 y0 H locs ls hf hP hD hS hl
        rw [f_M_number_l85_j197] at hf
        refine lv_istore (lv' := [(8, .int y0), (0, .ref bM), (1, .int x1), (3, .int x3), (4, .int x4), (5, .int x5), (6, .long x6)]) hx hb d_M_number_197 hl (by decide) rfl (fun ls hl => ?_)
        refine lv_iload hx hb d_M_number_199 (lv_at hl 0 rfl) ?_
        refine lv_if_eq (tgt := 206) hx hb d_M_number_201 (by decide) (fun c_16 => ?_) (fun c_16 => ?_)
        · rw [if_pos c_16] at hf
          refine lv_lload hx hb d_M_number_206 (lv_at hl 6 rfl) ?_
          refine lv_iload_n hx hb d_M_number_208 rfl (lv_at hl 3 rfl) ?_
          refine lv_i2l (v := x3.toInt64) hx hb d_M_number_209 rfl ?_
          refine lv_lmul hx hb d_M_number_210 ?_
          refine lv_aload_n hx hb d_M_number_211 rfl (lv_at hl 1 rfl) ?_
          refine va_get (D := (dC, dI)) (ci := 7) (v := .ref bLi) (C := R_M) (T := F_M) (N := 27) hx hb hts i_M hown hK hP 0 rfl rfl 1 (by decide) (hts _ wb_174) (fun _ h9 => h9) rfl d_M_number_212 ?_
          refine lv_iload hx hb d_M_number_215 (lv_at hl 4 rfl) ?_
          obtain ⟨hin, hf⟩ := gi_some hf
          refine va_iald hx hb hK hP 1 0 rfl rfl hin d_M_number_217 ?_
          obtain ⟨o_17, hM_17, hf⟩ := bd_some hf
          refine cr_i (va_runS (As := [.int (mli x4.toNatClampNeg)]) (rest := [.long (x6 * x3.toInt64)]) ⟨hx, hb, hml, hown, hts⟩ (c_M_digit l dC dI   H.size  (mli x4.toNatClampNeg) o_17 hM_17) (va_cwS 1 hts (gwS wb_201 wb_203 wb_179 wb_202) rfl rfl rfl (by decide +kernel) ⟨Nat.le_of_ble_eq_true rfl, Nat.le_of_ble_eq_true rfl⟩) (pr_S (hP.sub [] rfl) (hD.sub [] (by decide) rfl) hK hN [] rfl) rfl rfl hl.1 rfl (lv_room (Nat.le_of_ble_eq_true rfl)) d_M_number_218 ⟨Nat.zero_le _, Nat.zero_le _⟩) hP hD hS hA (in_of [] rfl) (fun r_17 H locs hw hP hS => ?_)
          subst r_17
          refine lv_i2l (v := o_17.toInt64) hx hb d_M_number_221 rfl ?_
          refine lv_ladd hx hb d_M_number_222 ?_
          refine lv_lstore (lv' := [(6, .long ((x6 * x3.toInt64) + o_17.toInt64)), (8, .int y0), (0, .ref bM), (1, .int x1), (3, .int x3), (4, .int x4), (5, .int x5)]) hx hb d_M_number_223 hl (by decide) rfl (fun ls hl => ?_)
          refine lv_iinc (v := x4 + (1 : Int32)) (lv' := [(4, .int (x4 + (1 : Int32))), (6, .long ((x6 * x3.toInt64) + o_17.toInt64)), (8, .int y0), (0, .ref bM), (1, .int x1), (3, .int x3), (5, .int x5)]) hx hb d_M_number_225 hl (k := 5) rfl rfl (by decide) rfl (fun ls hl => ?_)
          refine lv_goto (tgt := 85) hx hb d_M_number_228 (by decide) ?_
          exact ih mle mto mli mki mbe men mwo x1 x3 (x4 + (1 : Int32)) x5 ((x6 * x3.toInt64) + o_17.toInt64) H locs ls hf (hP.sub (ws' := [(bM, .inr (7, [.int mth, .ref bLi, .int mle, .ref bLe, .ref bNa, .ref bNs, .ref bSt, .ref bCo, .int mnm, .int msp, .int mpl, .ref bKi, .ref bBe, .ref bEn, .ref bWo, .int mto, .int mlr, .ref bSi, .ref bPl, .ref bMi, .ref bVa, .int mma, .int mod, .int mfa, .int mlp, .int mlm, .long mlv])), (bLi, .inl (cLim, 1024, .inl mli)), (bKi, .inl (cKim, 1100, .inl mki)), (bBe, .inl (cBem, 1100, .inl mbe)), (bEn, .inl (cEnm, 1100, .inl men)), (bWo, .inl (cWom, 1100, .inr (.inl mwo)))]) [0, 1, 2, 3, 4, 5] rfl) (hD.sub (ws' := [(bM, .inr (7, [.int mth, .ref bLi, .int mle, .ref bLe, .ref bNa, .ref bNs, .ref bSt, .ref bCo, .int mnm, .int msp, .int mpl, .ref bKi, .ref bBe, .ref bEn, .ref bWo, .int mto, .int mlr, .ref bSi, .ref bPl, .ref bMi, .ref bVa, .int mma, .int mod, .int mfa, .int mlp, .int mlm, .long mlv])), (bLi, .inl (cLim, 1024, .inl mli)), (bKi, .inl (cKim, 1100, .inl mki)), (bBe, .inl (cBem, 1100, .inl mbe)), (bEn, .inl (cEnm, 1100, .inl men)), (bWo, .inl (cWom, 1100, .inr (.inl mwo)))]) [0, 1, 2, 3, 4, 5] (by decide) rfl) hS (lv_sub hl [3, 4, 5, 0, 6, 1] rfl)
        · rw [if_neg c_16] at hf
          refine lv_iconst (v := (-1 : Int32)) hx hb d_M_number_204 (by decide) ?_
          have ho := Option.some.inj hf
          subst o
          have hP9 := hP.sub (ws' := [(bM, .inr (7, [.int mth, .ref bLi, .int mle, .ref bLe, .ref bNa, .ref bNs, .ref bSt, .ref bCo, .int mnm, .int msp, .int mpl, .ref bKi, .ref bBe, .ref bEn, .ref bWo, .int mto, .int mlr, .ref bSi, .ref bPl, .ref bMi, .ref bVa, .int mma, .int mod, .int mfa, .int mlp, .int mlm, .long mlv])), (bLi, .inl (cLim, 1024, .inl mli)), (bKi, .inl (cKim, 1100, .inl mki)), (bBe, .inl (cBem, 1100, .inl mbe)), (bEn, .inl (cEnm, 1100, .inl men)), (bWo, .inl (cWom, 1100, .inr (.inl mwo)))]) [0, 1, 2, 3, 4, 5] rfl
          have hD9 := hD.sub (ws' := [(bM, .inr (7, [.int mth, .ref bLi, .int mle, .ref bLe, .ref bNa, .ref bNs, .ref bSt, .ref bCo, .int mnm, .int msp, .int mpl, .ref bKi, .ref bBe, .ref bEn, .ref bWo, .int mto, .int mlr, .ref bSi, .ref bPl, .ref bMi, .ref bVa, .int mma, .int mod, .int mfa, .int mlp, .int mlm, .long mlv])), (bLi, .inl (cLim, 1024, .inl mli)), (bKi, .inl (cKim, 1100, .inl mki)), (bBe, .inl (cBem, 1100, .inl mbe)), (bEn, .inl (cEnm, 1100, .inl men)), (bWo, .inl (cWom, 1100, .inr (.inl mwo)))]) [0, 1, 2, 3, 4, 5] (by decide) rfl
          exact W.iret (v := (-1 : Int32)) hx hb hr (fun t ht hW => ⟨⟨(-1 : Int32), (), rfl, rfl, by rw [ht]; exact hP9, va_K.moved hW.alike hK, hD9⟩, hS.F ht⟩) hS.2.2 d_M_number_205
      have join_153 : ∀ (mle : Int32) (mto : Int32) (mli : Nat → Int32) (mki : Nat → Int32) (mbe : Nat → Int32) (men : Nat → Int32) (mwo : Nat → Int64) (x1 : Int32) (x3 : Int32) (x4 : Int32) (x5 : Int32) (x6 : Int64) (H : Heap) (locs : List Loc) (ls : Array Slot), f_M_number_l85_j153 (f_M_number_l85 n) mle mto mli mki mbe men mwo x1 x3 x4 x5 x6 = some o → va_P (dC, dI) vwCl [(bM, .inr (7, [.int mth, .ref bLi, .int mle, .ref bLe, .ref bNa, .ref bNs, .ref bSt, .ref bCo, .int mnm, .int msp, .int mpl, .ref bKi, .ref bBe, .ref bEn, .ref bWo, .int mto, .int mlr, .ref bSi, .ref bPl, .ref bMi, .ref bVa, .int mma, .int mod, .int mfa, .int mlp, .int mlm, .long mlv])), (bLi, .inl (cLim, 1024, .inl mli)), (bKi, .inl (cKim, 1100, .inl mki)), (bBe, .inl (cBem, 1100, .inl mbe)), (bEn, .inl (cEnm, 1100, .inl men)), (bWo, .inl (cWom, 1100, .inr (.inl mwo)))] H → va_D A [(bM, .inr (7, [.int mth, .ref bLi, .int mle, .ref bLe, .ref bNa, .ref bNs, .ref bSt, .ref bCo, .int mnm, .int msp, .int mpl, .ref bKi, .ref bBe, .ref bEn, .ref bWo, .int mto, .int mlr, .ref bSi, .ref bPl, .ref bMi, .ref bVa, .int mma, .int mod, .int mfa, .int mlp, .int mlm, .long mlv])), (bLi, .inl (cLim, 1024, .inl mli)), (bKi, .inl (cKim, 1100, .inl mki)), (bBe, .inl (cBem, 1100, .inl mbe)), (bEn, .inl (cEnm, 1100, .inl men)), (bWo, .inl (cWom, 1100, .inr (.inl mwo)))] → va_S A s.heap H locs → lv_has ls 9 [(0, .ref bM), (1, .int x1), (3, .int x3), (4, .int x4), (5, .int x5), (6, .long x6)] → W p l e (headSpec (w_M_number) ({ frames := 2, cells := 0, slots := 0, locals := 41 })).room s m [.ref bM, .int p0].toArray below meth c H locs 0 0 (MQ below (va_Qi (fun (r : Int32) (_ : Unit) => r = o.1) (fun _ t => va_P (dC, dI) vwCl [(bM, .inr (7, [.int mth, .ref bLi, .int mle, .ref bLe, .ref bNa, .ref bNs, .ref bSt, .ref bCo, .int mnm, .int msp, .int mpl, .ref bKi, .ref bBe, .ref bEn, .ref bWo, .int o.2.1, .int mlr, .ref bSi, .ref bPl, .ref bMi, .ref bVa, .int mma, .int mod, .int mfa, .int mlp, .int mlm, .long mlv])), (bLi, .inl (cLim, 1024, .inl mli)), (bKi, .inl (cKim, 1100, .inl o.2.2.1)), (bBe, .inl (cBem, 1100, .inl o.2.2.2.1)), (bEn, .inl (cEnm, 1100, .inl o.2.2.2.2.1)), (bWo, .inl (cWom, 1100, .inr (.inl o.2.2.2.2.2)))] t.heap ∧ va_K (dC, dI) vwCl [(cLim, .int), (cKim, .int), (cBem, .int), (cEnm, .int), (cWom, .long)] t ∧ va_D A [(bM, .inr (7, [.int mth, .ref bLi, .int mle, .ref bLe, .ref bNa, .ref bNs, .ref bSt, .ref bCo, .int mnm, .int msp, .int mpl, .ref bKi, .ref bBe, .ref bEn, .ref bWo, .int o.2.1, .int mlr, .ref bSi, .ref bPl, .ref bMi, .ref bVa, .int mma, .int mod, .int mfa, .int mlp, .int mlm, .long mlv])), (bLi, .inl (cLim, 1024, .inl mli)), (bKi, .inl (cKim, 1100, .inl o.2.2.1)), (bBe, .inl (cBem, 1100, .inl o.2.2.2.1)), (bEn, .inl (cEnm, 1100, .inl o.2.2.2.2.1)), (bWo, .inl (cWom, 1100, .inr (.inl o.2.2.2.2.2)))]) A) [.ref bM, .int p0].toArray s 0 0 A) (F0 m 153 ls []) := by
        intro mle mto mli mki mbe men mwo x1 x3 x4 x5 x6 H locs ls hf hP hD hS hl
        rw [f_M_number_l85_j153] at hf
        refine lv_iconst (v := (1 : Int32)) hx hb d_M_number_153 (by decide) ?_
        refine lv_goto (tgt := 197) hx hb d_M_number_154 (by decide) ?_
        exact join_197 mle mto mli mki mbe men mwo x1 x3 x4 x5 x6 (1 : Int32) H locs ls hf (hP.sub (ws' := [(bM, .inr (7, [.int mth, .ref bLi, .int mle, .ref bLe, .ref bNa, .ref bNs, .ref bSt, .ref bCo, .int mnm, .int msp, .int mpl, .ref bKi, .ref bBe, .ref bEn, .ref bWo, .int mto, .int mlr, .ref bSi, .ref bPl, .ref bMi, .ref bVa, .int mma, .int mod, .int mfa, .int mlp, .int mlm, .long mlv])), (bLi, .inl (cLim, 1024, .inl mli)), (bKi, .inl (cKim, 1100, .inl mki)), (bBe, .inl (cBem, 1100, .inl mbe)), (bEn, .inl (cEnm, 1100, .inl men)), (bWo, .inl (cWom, 1100, .inr (.inl mwo)))]) [0, 1, 2, 3, 4, 5] rfl) (hD.sub (ws' := [(bM, .inr (7, [.int mth, .ref bLi, .int mle, .ref bLe, .ref bNa, .ref bNs, .ref bSt, .ref bCo, .int mnm, .int msp, .int mpl, .ref bKi, .ref bBe, .ref bEn, .ref bWo, .int mto, .int mlr, .ref bSi, .ref bPl, .ref bMi, .ref bVa, .int mma, .int mod, .int mfa, .int mlp, .int mlm, .long mlv])), (bLi, .inl (cLim, 1024, .inl mli)), (bKi, .inl (cKim, 1100, .inl mki)), (bBe, .inl (cBem, 1100, .inl mbe)), (bEn, .inl (cEnm, 1100, .inl men)), (bWo, .inl (cWom, 1100, .inr (.inl mwo)))]) [0, 1, 2, 3, 4, 5] (by decide) rfl) hS (lv_sub hl [0, 1, 2, 3, 4, 5] rfl)
      have join_157 : ∀ (mle : Int32) (mto : Int32) (mli : Nat → Int32) (mki : Nat → Int32) (mbe : Nat → Int32) (men : Nat → Int32) (mwo : Nat → Int64) (x1 : Int32) (x3 : Int32) (x4 : Int32) (x5 : Int32) (x6 : Int64) (H : Heap) (locs : List Loc) (ls : Array Slot), f_M_number_l85_j157 (f_M_number_l85 n) mle mto mli mki mbe men mwo x1 x3 x4 x5 x6 = some o → va_P (dC, dI) vwCl [(bM, .inr (7, [.int mth, .ref bLi, .int mle, .ref bLe, .ref bNa, .ref bNs, .ref bSt, .ref bCo, .int mnm, .int msp, .int mpl, .ref bKi, .ref bBe, .ref bEn, .ref bWo, .int mto, .int mlr, .ref bSi, .ref bPl, .ref bMi, .ref bVa, .int mma, .int mod, .int mfa, .int mlp, .int mlm, .long mlv])), (bLi, .inl (cLim, 1024, .inl mli)), (bKi, .inl (cKim, 1100, .inl mki)), (bBe, .inl (cBem, 1100, .inl mbe)), (bEn, .inl (cEnm, 1100, .inl men)), (bWo, .inl (cWom, 1100, .inr (.inl mwo)))] H → va_D A [(bM, .inr (7, [.int mth, .ref bLi, .int mle, .ref bLe, .ref bNa, .ref bNs, .ref bSt, .ref bCo, .int mnm, .int msp, .int mpl, .ref bKi, .ref bBe, .ref bEn, .ref bWo, .int mto, .int mlr, .ref bSi, .ref bPl, .ref bMi, .ref bVa, .int mma, .int mod, .int mfa, .int mlp, .int mlm, .long mlv])), (bLi, .inl (cLim, 1024, .inl mli)), (bKi, .inl (cKim, 1100, .inl mki)), (bBe, .inl (cBem, 1100, .inl mbe)), (bEn, .inl (cEnm, 1100, .inl men)), (bWo, .inl (cWom, 1100, .inr (.inl mwo)))] → va_S A s.heap H locs → lv_has ls 9 [(0, .ref bM), (1, .int x1), (3, .int x3), (4, .int x4), (5, .int x5), (6, .long x6)] → W p l e (headSpec (w_M_number) ({ frames := 2, cells := 0, slots := 0, locals := 41 })).room s m [.ref bM, .int p0].toArray below meth c H locs 0 0 (MQ below (va_Qi (fun (r : Int32) (_ : Unit) => r = o.1) (fun _ t => va_P (dC, dI) vwCl [(bM, .inr (7, [.int mth, .ref bLi, .int mle, .ref bLe, .ref bNa, .ref bNs, .ref bSt, .ref bCo, .int mnm, .int msp, .int mpl, .ref bKi, .ref bBe, .ref bEn, .ref bWo, .int o.2.1, .int mlr, .ref bSi, .ref bPl, .ref bMi, .ref bVa, .int mma, .int mod, .int mfa, .int mlp, .int mlm, .long mlv])), (bLi, .inl (cLim, 1024, .inl mli)), (bKi, .inl (cKim, 1100, .inl o.2.2.1)), (bBe, .inl (cBem, 1100, .inl o.2.2.2.1)), (bEn, .inl (cEnm, 1100, .inl o.2.2.2.2.1)), (bWo, .inl (cWom, 1100, .inr (.inl o.2.2.2.2.2)))] t.heap ∧ va_K (dC, dI) vwCl [(cLim, .int), (cKim, .int), (cBem, .int), (cEnm, .int), (cWom, .long)] t ∧ va_D A [(bM, .inr (7, [.int mth, .ref bLi, .int mle, .ref bLe, .ref bNa, .ref bNs, .ref bSt, .ref bCo, .int mnm, .int msp, .int mpl, .ref bKi, .ref bBe, .ref bEn, .ref bWo, .int o.2.1, .int mlr, .ref bSi, .ref bPl, .ref bMi, .ref bVa, .int mma, .int mod, .int mfa, .int mlp, .int mlm, .long mlv])), (bLi, .inl (cLim, 1024, .inl mli)), (bKi, .inl (cKim, 1100, .inl o.2.2.1)), (bBe, .inl (cBem, 1100, .inl o.2.2.2.1)), (bEn, .inl (cEnm, 1100, .inl o.2.2.2.2.1)), (bWo, .inl (cWom, 1100, .inr (.inl o.2.2.2.2.2)))]) A) [.ref bM, .int p0].toArray s 0 0 A) (F0 m 157 ls []) := by
        intro mle mto mli mki mbe men mwo x1 x3 x4 x5 x6 H locs ls hf hP hD hS hl
        rw [f_M_number_l85_j157] at hf
        refine lv_iconst (v := (0 : Int32)) hx hb d_M_number_157 (by decide) ?_
        refine lv_goto (tgt := 197) hx hb d_M_number_158 (by decide) ?_
        exact join_197 mle mto mli mki mbe men mwo x1 x3 x4 x5 x6 (0 : Int32) H locs ls hf (hP.sub (ws' := [(bM, .inr (7, [.int mth, .ref bLi, .int mle, .ref bLe, .ref bNa, .ref bNs, .ref bSt, .ref bCo, .int mnm, .int msp, .int mpl, .ref bKi, .ref bBe, .ref bEn, .ref bWo, .int mto, .int mlr, .ref bSi, .ref bPl, .ref bMi, .ref bVa, .int mma, .int mod, .int mfa, .int mlp, .int mlm, .long mlv])), (bLi, .inl (cLim, 1024, .inl mli)), (bKi, .inl (cKim, 1100, .inl mki)), (bBe, .inl (cBem, 1100, .inl mbe)), (bEn, .inl (cEnm, 1100, .inl men)), (bWo, .inl (cWom, 1100, .inr (.inl mwo)))]) [0, 1, 2, 3, 4, 5] rfl) (hD.sub (ws' := [(bM, .inr (7, [.int mth, .ref bLi, .int mle, .ref bLe, .ref bNa, .ref bNs, .ref bSt, .ref bCo, .int mnm, .int msp, .int mpl, .ref bKi, .ref bBe, .ref bEn, .ref bWo, .int mto, .int mlr, .ref bSi, .ref bPl, .ref bMi, .ref bVa, .int mma, .int mod, .int mfa, .int mlp, .int mlm, .long mlv])), (bLi, .inl (cLim, 1024, .inl mli)), (bKi, .inl (cKim, 1100, .inl mki)), (bBe, .inl (cBem, 1100, .inl mbe)), (bEn, .inl (cEnm, 1100, .inl men)), (bWo, .inl (cWom, 1100, .inr (.inl mwo)))]) [0, 1, 2, 3, 4, 5] (by decide) rfl) hS (lv_sub hl [0, 1, 2, 3, 4, 5] rfl)
      intro mle mto mli mki mbe men mwo x1 x3 x4 x5 x6 H locs ls hf hP hD hS hl
      rw [f_M_number_l85] at hf
      refine lv_iload hx hb d_M_number_85 (lv_at hl 3 rfl) ?_
      refine lv_aload_n hx hb d_M_number_87 rfl (lv_at hl 0 rfl) ?_
      refine va_get (D := (dC, dI)) (ci := 7) (v := .int mle) (C := R_M) (T := F_M) (N := 27) hx hb hts i_M hown hK hP 0 rfl rfl 2 (by decide) (hts _ wb_173) (fun _ h9 => h9) rfl d_M_number_88 ?_
      refine lv_icmp_ge (tgt := 231) hx hb d_M_number_91 (by decide) (fun c_6 => ?_) (fun c_6 => ?_)
      · rw [if_pos c_6] at hf
        exact join_231 mle mto mli mki mbe men mwo x1 x4 x5 x6 H locs ls hf (hP.sub (ws' := [(bM, .inr (7, [.int mth, .ref bLi, .int mle, .ref bLe, .ref bNa, .ref bNs, .ref bSt, .ref bCo, .int mnm, .int msp, .int mpl, .ref bKi, .ref bBe, .ref bEn, .ref bWo, .int mto, .int mlr, .ref bSi, .ref bPl, .ref bMi, .ref bVa, .int mma, .int mod, .int mfa, .int mlp, .int mlm, .long mlv])), (bLi, .inl (cLim, 1024, .inl mli)), (bKi, .inl (cKim, 1100, .inl mki)), (bBe, .inl (cBem, 1100, .inl mbe)), (bEn, .inl (cEnm, 1100, .inl men)), (bWo, .inl (cWom, 1100, .inr (.inl mwo)))]) [0, 1, 2, 3, 4, 5] rfl) (hD.sub (ws' := [(bM, .inr (7, [.int mth, .ref bLi, .int mle, .ref bLe, .ref bNa, .ref bNs, .ref bSt, .ref bCo, .int mnm, .int msp, .int mpl, .ref bKi, .ref bBe, .ref bEn, .ref bWo, .int mto, .int mlr, .ref bSi, .ref bPl, .ref bMi, .ref bVa, .int mma, .int mod, .int mfa, .int mlp, .int mlm, .long mlv])), (bLi, .inl (cLim, 1024, .inl mli)), (bKi, .inl (cKim, 1100, .inl mki)), (bBe, .inl (cBem, 1100, .inl mbe)), (bEn, .inl (cEnm, 1100, .inl men)), (bWo, .inl (cWom, 1100, .inr (.inl mwo)))]) [0, 1, 2, 3, 4, 5] (by decide) rfl) hS (lv_sub hl [0, 1, 3, 4, 5] rfl)
      · rw [if_neg c_6] at hf
        refine lv_aload_n hx hb d_M_number_94 rfl (lv_at hl 0 rfl) ?_
        refine va_get (D := (dC, dI)) (ci := 7) (v := .ref bLi) (C := R_M) (T := F_M) (N := 27) hx hb hts i_M hown hK hP 0 rfl rfl 1 (by decide) (hts _ wb_174) (fun _ h9 => h9) rfl d_M_number_95 ?_
        refine lv_iload hx hb d_M_number_98 (lv_at hl 3 rfl) ?_
        obtain ⟨hin, hf⟩ := gi_some hf
        refine va_iald hx hb hK hP 1 0 rfl rfl hin d_M_number_100 ?_
        obtain ⟨o_11, hM_11, hf⟩ := bd_some hf
        refine cr_i (va_runS (As := [.int (mli x4.toNatClampNeg)]) (rest := []) ⟨hx, hb, hml, hown, hts⟩ (c_M_digit l dC dI   H.size  (mli x4.toNatClampNeg) o_11 hM_11) (va_cwS 1 hts (gwS wb_201 wb_203 wb_179 wb_202) rfl rfl rfl (by decide +kernel) ⟨Nat.le_of_ble_eq_true rfl, Nat.le_of_ble_eq_true rfl⟩) (pr_S (hP.sub [] rfl) (hD.sub [] (by decide) rfl) hK hN [] rfl) rfl rfl hl.1 rfl (lv_room (Nat.le_of_ble_eq_true rfl)) d_M_number_101 ⟨Nat.zero_le _, Nat.zero_le _⟩) hP hD hS hA (in_of [] rfl) (fun r_11 H locs hw hP hS => ?_)
        subst r_11
        refine lv_iload_n hx hb d_M_number_104 rfl (lv_at hl 2 rfl) ?_
        refine lv_icmp_ge (tgt := 231) hx hb d_M_number_105 (by decide) (fun c_12 => ?_) (fun c_12 => ?_)
        · rw [if_pos c_12] at hf
          exact join_231 mle mto mli mki mbe men mwo x1 x4 x5 x6 H locs ls hf (hP.sub (ws' := [(bM, .inr (7, [.int mth, .ref bLi, .int mle, .ref bLe, .ref bNa, .ref bNs, .ref bSt, .ref bCo, .int mnm, .int msp, .int mpl, .ref bKi, .ref bBe, .ref bEn, .ref bWo, .int mto, .int mlr, .ref bSi, .ref bPl, .ref bMi, .ref bVa, .int mma, .int mod, .int mfa, .int mlp, .int mlm, .long mlv])), (bLi, .inl (cLim, 1024, .inl mli)), (bKi, .inl (cKim, 1100, .inl mki)), (bBe, .inl (cBem, 1100, .inl mbe)), (bEn, .inl (cEnm, 1100, .inl men)), (bWo, .inl (cWom, 1100, .inr (.inl mwo)))]) [0, 1, 2, 3, 4, 5] rfl) (hD.sub (ws' := [(bM, .inr (7, [.int mth, .ref bLi, .int mle, .ref bLe, .ref bNa, .ref bNs, .ref bSt, .ref bCo, .int mnm, .int msp, .int mpl, .ref bKi, .ref bBe, .ref bEn, .ref bWo, .int mto, .int mlr, .ref bSi, .ref bPl, .ref bMi, .ref bVa, .int mma, .int mod, .int mfa, .int mlp, .int mlm, .long mlv])), (bLi, .inl (cLim, 1024, .inl mli)), (bKi, .inl (cKim, 1100, .inl mki)), (bBe, .inl (cBem, 1100, .inl mbe)), (bEn, .inl (cEnm, 1100, .inl men)), (bWo, .inl (cWom, 1100, .inr (.inl mwo)))]) [0, 1, 2, 3, 4, 5] (by decide) rfl) hS (lv_sub hl [0, 1, 3, 4, 5] rfl)
        · rw [if_neg c_12] at hf
          refine lv_iload_n hx hb d_M_number_108 rfl (lv_at hl 2 rfl) ?_
          refine lv_bipush (v := (10 : Int32)) hx hb d_M_number_109 (by decide) ?_
          refine lv_icmp_ne (tgt := 161) hx hb d_M_number_111 (by decide) (fun c_13 => ?_) (fun c_13 => ?_)
          · rw [if_neg c_13] at hf
            refine lv_iload_n hx hb d_M_number_161 rfl (lv_at hl 2 rfl) ?_
            refine lv_bipush (v := (16 : Int32)) hx hb d_M_number_162 (by decide) ?_
            refine lv_icmp_ne (tgt := 185) hx hb d_M_number_164 (by decide) (fun c_14 => ?_) (fun c_14 => ?_)
            · rw [if_neg c_14] at hf
              refine lv_lload hx hb d_M_number_185 (lv_at hl 5 rfl) ?_
              refine lv_lconst (v := (0 : Int64)) hx hb d_M_number_187 (by decide) ?_
              refine W.lcmp hx hb d_M_number_188 ?_
              refine lv_if_ge (tgt := 196) hx hb d_M_number_189 (by decide) (fun c_15 => ?_) (fun c_15 => ?_)
              · rw [if_pos c_15] at hf
                refine lv_iconst (v := (0 : Int32)) hx hb d_M_number_196 (by decide) ?_
                exact join_197 mle mto mli mki mbe men mwo x1 x3 x4 x5 x6 (0 : Int32) H locs ls hf (hP.sub (ws' := [(bM, .inr (7, [.int mth, .ref bLi, .int mle, .ref bLe, .ref bNa, .ref bNs, .ref bSt, .ref bCo, .int mnm, .int msp, .int mpl, .ref bKi, .ref bBe, .ref bEn, .ref bWo, .int mto, .int mlr, .ref bSi, .ref bPl, .ref bMi, .ref bVa, .int mma, .int mod, .int mfa, .int mlp, .int mlm, .long mlv])), (bLi, .inl (cLim, 1024, .inl mli)), (bKi, .inl (cKim, 1100, .inl mki)), (bBe, .inl (cBem, 1100, .inl mbe)), (bEn, .inl (cEnm, 1100, .inl men)), (bWo, .inl (cWom, 1100, .inr (.inl mwo)))]) [0, 1, 2, 3, 4, 5] rfl) (hD.sub (ws' := [(bM, .inr (7, [.int mth, .ref bLi, .int mle, .ref bLe, .ref bNa, .ref bNs, .ref bSt, .ref bCo, .int mnm, .int msp, .int mpl, .ref bKi, .ref bBe, .ref bEn, .ref bWo, .int mto, .int mlr, .ref bSi, .ref bPl, .ref bMi, .ref bVa, .int mma, .int mod, .int mfa, .int mlp, .int mlm, .long mlv])), (bLi, .inl (cLim, 1024, .inl mli)), (bKi, .inl (cKim, 1100, .inl mki)), (bBe, .inl (cBem, 1100, .inl mbe)), (bEn, .inl (cEnm, 1100, .inl men)), (bWo, .inl (cWom, 1100, .inr (.inl mwo)))]) [0, 1, 2, 3, 4, 5] (by decide) rfl) hS (lv_sub hl [0, 1, 2, 3, 4, 5] rfl)
              · rw [if_neg c_15] at hf
                refine lv_iconst (v := (1 : Int32)) hx hb d_M_number_192 (by decide) ?_
                refine lv_goto (tgt := 197) hx hb d_M_number_193 (by decide) ?_
                exact join_197 mle mto mli mki mbe men mwo x1 x3 x4 x5 x6 (1 : Int32) H locs ls hf (hP.sub (ws' := [(bM, .inr (7, [.int mth, .ref bLi, .int mle, .ref bLe, .ref bNa, .ref bNs, .ref bSt, .ref bCo, .int mnm, .int msp, .int mpl, .ref bKi, .ref bBe, .ref bEn, .ref bWo, .int mto, .int mlr, .ref bSi, .ref bPl, .ref bMi, .ref bVa, .int mma, .int mod, .int mfa, .int mlp, .int mlm, .long mlv])), (bLi, .inl (cLim, 1024, .inl mli)), (bKi, .inl (cKim, 1100, .inl mki)), (bBe, .inl (cBem, 1100, .inl mbe)), (bEn, .inl (cEnm, 1100, .inl men)), (bWo, .inl (cWom, 1100, .inr (.inl mwo)))]) [0, 1, 2, 3, 4, 5] rfl) (hD.sub (ws' := [(bM, .inr (7, [.int mth, .ref bLi, .int mle, .ref bLe, .ref bNa, .ref bNs, .ref bSt, .ref bCo, .int mnm, .int msp, .int mpl, .ref bKi, .ref bBe, .ref bEn, .ref bWo, .int mto, .int mlr, .ref bSi, .ref bPl, .ref bMi, .ref bVa, .int mma, .int mod, .int mfa, .int mlp, .int mlm, .long mlv])), (bLi, .inl (cLim, 1024, .inl mli)), (bKi, .inl (cKim, 1100, .inl mki)), (bBe, .inl (cBem, 1100, .inl mbe)), (bEn, .inl (cEnm, 1100, .inl men)), (bWo, .inl (cWom, 1100, .inr (.inl mwo)))]) [0, 1, 2, 3, 4, 5] (by decide) rfl) hS (lv_sub hl [0, 1, 2, 3, 4, 5] rfl)
            · rw [if_pos c_14] at hf
              refine lv_lload hx hb d_M_number_167 (lv_at hl 5 rfl) ?_
              refine lv_bipush (v := (60 : Int32)) hx hb d_M_number_169 (by decide) ?_
              refine lv_lushr (v := (x6.toUInt64 >>> ((60 : Int32).toInt64.toUInt64 &&& Int64.toUInt64 63)).toInt64) hx hb d_M_number_171 rfl ?_
              refine lv_lconst (v := (0 : Int64)) hx hb d_M_number_172 (by decide) ?_
              refine W.lcmp hx hb d_M_number_173 ?_
              refine lv_if_eq (tgt := 181) hx hb d_M_number_174 (by decide) (fun c_18 => ?_) (fun c_18 => ?_)
              · rw [if_pos c_18] at hf
                refine lv_iconst (v := (0 : Int32)) hx hb d_M_number_181 (by decide) ?_
                refine lv_goto (tgt := 197) hx hb d_M_number_182 (by decide) ?_
                exact join_197 mle mto mli mki mbe men mwo x1 x3 x4 x5 x6 (0 : Int32) H locs ls hf (hP.sub (ws' := [(bM, .inr (7, [.int mth, .ref bLi, .int mle, .ref bLe, .ref bNa, .ref bNs, .ref bSt, .ref bCo, .int mnm, .int msp, .int mpl, .ref bKi, .ref bBe, .ref bEn, .ref bWo, .int mto, .int mlr, .ref bSi, .ref bPl, .ref bMi, .ref bVa, .int mma, .int mod, .int mfa, .int mlp, .int mlm, .long mlv])), (bLi, .inl (cLim, 1024, .inl mli)), (bKi, .inl (cKim, 1100, .inl mki)), (bBe, .inl (cBem, 1100, .inl mbe)), (bEn, .inl (cEnm, 1100, .inl men)), (bWo, .inl (cWom, 1100, .inr (.inl mwo)))]) [0, 1, 2, 3, 4, 5] rfl) (hD.sub (ws' := [(bM, .inr (7, [.int mth, .ref bLi, .int mle, .ref bLe, .ref bNa, .ref bNs, .ref bSt, .ref bCo, .int mnm, .int msp, .int mpl, .ref bKi, .ref bBe, .ref bEn, .ref bWo, .int mto, .int mlr, .ref bSi, .ref bPl, .ref bMi, .ref bVa, .int mma, .int mod, .int mfa, .int mlp, .int mlm, .long mlv])), (bLi, .inl (cLim, 1024, .inl mli)), (bKi, .inl (cKim, 1100, .inl mki)), (bBe, .inl (cBem, 1100, .inl mbe)), (bEn, .inl (cEnm, 1100, .inl men)), (bWo, .inl (cWom, 1100, .inr (.inl mwo)))]) [0, 1, 2, 3, 4, 5] (by decide) rfl) hS (lv_sub hl [0, 1, 2, 3, 4, 5] rfl)
              · rw [if_neg c_18] at hf
                refine lv_iconst (v := (1 : Int32)) hx hb d_M_number_177 (by decide) ?_
                refine lv_goto (tgt := 197) hx hb d_M_number_178 (by decide) ?_
                exact join_197 mle mto mli mki mbe men mwo x1 x3 x4 x5 x6 (1 : Int32) H locs ls hf (hP.sub (ws' := [(bM, .inr (7, [.int mth, .ref bLi, .int mle, .ref bLe, .ref bNa, .ref bNs, .ref bSt, .ref bCo, .int mnm, .int msp, .int mpl, .ref bKi, .ref bBe, .ref bEn, .ref bWo, .int mto, .int mlr, .ref bSi, .ref bPl, .ref bMi, .ref bVa, .int mma, .int mod, .int mfa, .int mlp, .int mlm, .long mlv])), (bLi, .inl (cLim, 1024, .inl mli)), (bKi, .inl (cKim, 1100, .inl mki)), (bBe, .inl (cBem, 1100, .inl mbe)), (bEn, .inl (cEnm, 1100, .inl men)), (bWo, .inl (cWom, 1100, .inr (.inl mwo)))]) [0, 1, 2, 3, 4, 5] rfl) (hD.sub (ws' := [(bM, .inr (7, [.int mth, .ref bLi, .int mle, .ref bLe, .ref bNa, .ref bNs, .ref bSt, .ref bCo, .int mnm, .int msp, .int mpl, .ref bKi, .ref bBe, .ref bEn, .ref bWo, .int mto, .int mlr, .ref bSi, .ref bPl, .ref bMi, .ref bVa, .int mma, .int mod, .int mfa, .int mlp, .int mlm, .long mlv])), (bLi, .inl (cLim, 1024, .inl mli)), (bKi, .inl (cKim, 1100, .inl mki)), (bBe, .inl (cBem, 1100, .inl mbe)), (bEn, .inl (cEnm, 1100, .inl men)), (bWo, .inl (cWom, 1100, .inr (.inl mwo)))]) [0, 1, 2, 3, 4, 5] (by decide) rfl) hS (lv_sub hl [0, 1, 2, 3, 4, 5] rfl)
          · rw [if_pos c_13] at hf
            refine lv_lload hx hb d_M_number_114 (lv_at hl 5 rfl) ?_
            refine lv_lconst (v := (0 : Int64)) hx hb d_M_number_116 (by decide) ?_
            refine W.lcmp hx hb d_M_number_117 ?_
            refine lv_if_lt (tgt := 153) hx hb d_M_number_118 (by decide) (fun c_19 => ?_) (fun c_19 => ?_)
            · rw [if_pos c_19] at hf
              exact join_153 mle mto mli mki mbe men mwo x1 x3 x4 x5 x6 H locs ls hf (hP.sub (ws' := [(bM, .inr (7, [.int mth, .ref bLi, .int mle, .ref bLe, .ref bNa, .ref bNs, .ref bSt, .ref bCo, .int mnm, .int msp, .int mpl, .ref bKi, .ref bBe, .ref bEn, .ref bWo, .int mto, .int mlr, .ref bSi, .ref bPl, .ref bMi, .ref bVa, .int mma, .int mod, .int mfa, .int mlp, .int mlm, .long mlv])), (bLi, .inl (cLim, 1024, .inl mli)), (bKi, .inl (cKim, 1100, .inl mki)), (bBe, .inl (cBem, 1100, .inl mbe)), (bEn, .inl (cEnm, 1100, .inl men)), (bWo, .inl (cWom, 1100, .inr (.inl mwo)))]) [0, 1, 2, 3, 4, 5] rfl) (hD.sub (ws' := [(bM, .inr (7, [.int mth, .ref bLi, .int mle, .ref bLe, .ref bNa, .ref bNs, .ref bSt, .ref bCo, .int mnm, .int msp, .int mpl, .ref bKi, .ref bBe, .ref bEn, .ref bWo, .int mto, .int mlr, .ref bSi, .ref bPl, .ref bMi, .ref bVa, .int mma, .int mod, .int mfa, .int mlp, .int mlm, .long mlv])), (bLi, .inl (cLim, 1024, .inl mli)), (bKi, .inl (cKim, 1100, .inl mki)), (bBe, .inl (cBem, 1100, .inl mbe)), (bEn, .inl (cEnm, 1100, .inl men)), (bWo, .inl (cWom, 1100, .inr (.inl mwo)))]) [0, 1, 2, 3, 4, 5] (by decide) rfl) hS (lv_sub hl [0, 1, 2, 3, 4, 5] rfl)
            · rw [if_neg c_19] at hf
              refine lv_lload hx hb d_M_number_121 (lv_at hl 5 rfl) ?_
              refine lv_ldc2 (v := (1844674407370955161 : Int64)) hx hb hown (hts _ wb_204) d_M_number_123 ?_
              refine W.lcmp hx hb d_M_number_126 ?_
              refine lv_if_gt (tgt := 153) hx hb d_M_number_127 (by decide) (fun c_20 => ?_) (fun c_20 => ?_)
              · rw [if_pos c_20] at hf
                exact join_153 mle mto mli mki mbe men mwo x1 x3 x4 x5 x6 H locs ls hf (hP.sub (ws' := [(bM, .inr (7, [.int mth, .ref bLi, .int mle, .ref bLe, .ref bNa, .ref bNs, .ref bSt, .ref bCo, .int mnm, .int msp, .int mpl, .ref bKi, .ref bBe, .ref bEn, .ref bWo, .int mto, .int mlr, .ref bSi, .ref bPl, .ref bMi, .ref bVa, .int mma, .int mod, .int mfa, .int mlp, .int mlm, .long mlv])), (bLi, .inl (cLim, 1024, .inl mli)), (bKi, .inl (cKim, 1100, .inl mki)), (bBe, .inl (cBem, 1100, .inl mbe)), (bEn, .inl (cEnm, 1100, .inl men)), (bWo, .inl (cWom, 1100, .inr (.inl mwo)))]) [0, 1, 2, 3, 4, 5] rfl) (hD.sub (ws' := [(bM, .inr (7, [.int mth, .ref bLi, .int mle, .ref bLe, .ref bNa, .ref bNs, .ref bSt, .ref bCo, .int mnm, .int msp, .int mpl, .ref bKi, .ref bBe, .ref bEn, .ref bWo, .int mto, .int mlr, .ref bSi, .ref bPl, .ref bMi, .ref bVa, .int mma, .int mod, .int mfa, .int mlp, .int mlm, .long mlv])), (bLi, .inl (cLim, 1024, .inl mli)), (bKi, .inl (cKim, 1100, .inl mki)), (bBe, .inl (cBem, 1100, .inl mbe)), (bEn, .inl (cEnm, 1100, .inl men)), (bWo, .inl (cWom, 1100, .inr (.inl mwo)))]) [0, 1, 2, 3, 4, 5] (by decide) rfl) hS (lv_sub hl [0, 1, 2, 3, 4, 5] rfl)
              · rw [if_neg c_20] at hf
                refine lv_lload hx hb d_M_number_130 (lv_at hl 5 rfl) ?_
                refine lv_ldc2 (v := (1844674407370955161 : Int64)) hx hb hown (hts _ wb_204) d_M_number_132 ?_
                refine W.lcmp hx hb d_M_number_135 ?_
                refine lv_if_ne (tgt := 157) hx hb d_M_number_136 (by decide) (fun c_21 => ?_) (fun c_21 => ?_)
                · rw [if_neg c_21] at hf
                  exact join_157 mle mto mli mki mbe men mwo x1 x3 x4 x5 x6 H locs ls hf (hP.sub (ws' := [(bM, .inr (7, [.int mth, .ref bLi, .int mle, .ref bLe, .ref bNa, .ref bNs, .ref bSt, .ref bCo, .int mnm, .int msp, .int mpl, .ref bKi, .ref bBe, .ref bEn, .ref bWo, .int mto, .int mlr, .ref bSi, .ref bPl, .ref bMi, .ref bVa, .int mma, .int mod, .int mfa, .int mlp, .int mlm, .long mlv])), (bLi, .inl (cLim, 1024, .inl mli)), (bKi, .inl (cKim, 1100, .inl mki)), (bBe, .inl (cBem, 1100, .inl mbe)), (bEn, .inl (cEnm, 1100, .inl men)), (bWo, .inl (cWom, 1100, .inr (.inl mwo)))]) [0, 1, 2, 3, 4, 5] rfl) (hD.sub (ws' := [(bM, .inr (7, [.int mth, .ref bLi, .int mle, .ref bLe, .ref bNa, .ref bNs, .ref bSt, .ref bCo, .int mnm, .int msp, .int mpl, .ref bKi, .ref bBe, .ref bEn, .ref bWo, .int mto, .int mlr, .ref bSi, .ref bPl, .ref bMi, .ref bVa, .int mma, .int mod, .int mfa, .int mlp, .int mlm, .long mlv])), (bLi, .inl (cLim, 1024, .inl mli)), (bKi, .inl (cKim, 1100, .inl mki)), (bBe, .inl (cBem, 1100, .inl mbe)), (bEn, .inl (cEnm, 1100, .inl men)), (bWo, .inl (cWom, 1100, .inr (.inl mwo)))]) [0, 1, 2, 3, 4, 5] (by decide) rfl) hS (lv_sub hl [0, 1, 2, 3, 4, 5] rfl)
                · rw [if_pos c_21] at hf
                  refine lv_aload_n hx hb d_M_number_139 rfl (lv_at hl 0 rfl) ?_
                  refine va_get (D := (dC, dI)) (ci := 7) (v := .ref bLi) (C := R_M) (T := F_M) (N := 27) hx hb hts i_M hown hK hP 0 rfl rfl 1 (by decide) (hts _ wb_174) (fun _ h9 => h9) rfl d_M_number_140 ?_
                  refine lv_iload hx hb d_M_number_143 (lv_at hl 3 rfl) ?_
                  obtain ⟨hin, hf⟩ := gi_some hf
                  refine va_iald hx hb hK hP 1 0 rfl rfl hin d_M_number_145 ?_
                  obtain ⟨o_22, hM_22, hf⟩ := bd_some hf
                  refine cr_i (va_runS (As := [.int (mli x4.toNatClampNeg)]) (rest := []) ⟨hx, hb, hml, hown, hts⟩ (c_M_digit l dC dI   H.size  (mli x4.toNatClampNeg) o_22 hM_22) (va_cwS 1 hts (gwS wb_201 wb_203 wb_179 wb_202) rfl rfl rfl (by decide +kernel) ⟨Nat.le_of_ble_eq_true rfl, Nat.le_of_ble_eq_true rfl⟩) (pr_S (hP.sub [] rfl) (hD.sub [] (by decide) rfl) hK hN [] rfl) rfl rfl hl.1 rfl (lv_room (Nat.le_of_ble_eq_true rfl)) d_M_number_146 ⟨Nat.zero_le _, Nat.zero_le _⟩) hP hD hS hA (in_of [] rfl) (fun r_22 H locs hw hP hS => ?_)
                  subst r_22
                  refine lv_iconst (v := (5 : Int32)) hx hb d_M_number_149 (by decide) ?_
                  refine lv_icmp_le (tgt := 157) hx hb d_M_number_150 (by decide) (fun c_23 => ?_) (fun c_23 => ?_)
                  · rw [if_pos c_23] at hf
                    exact join_157 mle mto mli mki mbe men mwo x1 x3 x4 x5 x6 H locs ls hf (hP.sub (ws' := [(bM, .inr (7, [.int mth, .ref bLi, .int mle, .ref bLe, .ref bNa, .ref bNs, .ref bSt, .ref bCo, .int mnm, .int msp, .int mpl, .ref bKi, .ref bBe, .ref bEn, .ref bWo, .int mto, .int mlr, .ref bSi, .ref bPl, .ref bMi, .ref bVa, .int mma, .int mod, .int mfa, .int mlp, .int mlm, .long mlv])), (bLi, .inl (cLim, 1024, .inl mli)), (bKi, .inl (cKim, 1100, .inl mki)), (bBe, .inl (cBem, 1100, .inl mbe)), (bEn, .inl (cEnm, 1100, .inl men)), (bWo, .inl (cWom, 1100, .inr (.inl mwo)))]) [0, 1, 2, 3, 4, 5] rfl) (hD.sub (ws' := [(bM, .inr (7, [.int mth, .ref bLi, .int mle, .ref bLe, .ref bNa, .ref bNs, .ref bSt, .ref bCo, .int mnm, .int msp, .int mpl, .ref bKi, .ref bBe, .ref bEn, .ref bWo, .int mto, .int mlr, .ref bSi, .ref bPl, .ref bMi, .ref bVa, .int mma, .int mod, .int mfa, .int mlp, .int mlm, .long mlv])), (bLi, .inl (cLim, 1024, .inl mli)), (bKi, .inl (cKim, 1100, .inl mki)), (bBe, .inl (cBem, 1100, .inl mbe)), (bEn, .inl (cEnm, 1100, .inl men)), (bWo, .inl (cWom, 1100, .inr (.inl mwo)))]) [0, 1, 2, 3, 4, 5] (by decide) rfl) hS (lv_sub hl [0, 1, 2, 3, 4, 5] rfl)
                  · rw [if_neg c_23] at hf
                    exact join_153 mle mto mli mki mbe men mwo x1 x3 x4 x5 x6 H locs ls hf (hP.sub (ws' := [(bM, .inr (7, [.int mth, .ref bLi, .int mle, .ref bLe, .ref bNa, .ref bNs, .ref bSt, .ref bCo, .int mnm, .int msp, .int mpl, .ref bKi, .ref bBe, .ref bEn, .ref bWo, .int mto, .int mlr, .ref bSi, .ref bPl, .ref bMi, .ref bVa, .int mma, .int mod, .int mfa, .int mlp, .int mlm, .long mlv])), (bLi, .inl (cLim, 1024, .inl mli)), (bKi, .inl (cKim, 1100, .inl mki)), (bBe, .inl (cBem, 1100, .inl mbe)), (bEn, .inl (cEnm, 1100, .inl men)), (bWo, .inl (cWom, 1100, .inr (.inl mwo)))]) [0, 1, 2, 3, 4, 5] rfl) (hD.sub (ws' := [(bM, .inr (7, [.int mth, .ref bLi, .int mle, .ref bLe, .ref bNa, .ref bNs, .ref bSt, .ref bCo, .int mnm, .int msp, .int mpl, .ref bKi, .ref bBe, .ref bEn, .ref bWo, .int mto, .int mlr, .ref bSi, .ref bPl, .ref bMi, .ref bVa, .int mma, .int mod, .int mfa, .int mlp, .int mlm, .long mlv])), (bLi, .inl (cLim, 1024, .inl mli)), (bKi, .inl (cKim, 1100, .inl mki)), (bBe, .inl (cBem, 1100, .inl mbe)), (bEn, .inl (cEnm, 1100, .inl men)), (bWo, .inl (cWom, 1100, .inr (.inl mwo)))]) [0, 1, 2, 3, 4, 5] (by decide) rfl) hS (lv_sub hl [0, 1, 2, 3, 4, 5] rfl)
  have join_62 : ∀ (mle : Int32) (mto : Int32) (mli : Nat → Int32) (mki : Nat → Int32) (mbe : Nat → Int32) (men : Nat → Int32) (mwo : Nat → Int64) (x1 : Int32) (y0 : Int32) (H : Heap) (locs : List Loc) (ls : Array Slot), f_M_number_j62 mle mto mli mki mbe men mwo x1 y0 = some o → va_P (dC, dI) vwCl [(bM, .inr (7, [.int mth, .ref bLi, .int mle, .ref bLe, .ref bNa, .ref bNs, .ref bSt, .ref bCo, .int mnm, .int msp, .int mpl, .ref bKi, .ref bBe, .ref bEn, .ref bWo, .int mto, .int mlr, .ref bSi, .ref bPl, .ref bMi, .ref bVa, .int mma, .int mod, .int mfa, .int mlp, .int mlm, .long mlv])), (bLi, .inl (cLim, 1024, .inl mli)), (bKi, .inl (cKim, 1100, .inl mki)), (bBe, .inl (cBem, 1100, .inl mbe)), (bEn, .inl (cEnm, 1100, .inl men)), (bWo, .inl (cWom, 1100, .inr (.inl mwo)))] H → va_D A [(bM, .inr (7, [.int mth, .ref bLi, .int mle, .ref bLe, .ref bNa, .ref bNs, .ref bSt, .ref bCo, .int mnm, .int msp, .int mpl, .ref bKi, .ref bBe, .ref bEn, .ref bWo, .int mto, .int mlr, .ref bSi, .ref bPl, .ref bMi, .ref bVa, .int mma, .int mod, .int mfa, .int mlp, .int mlm, .long mlv])), (bLi, .inl (cLim, 1024, .inl mli)), (bKi, .inl (cKim, 1100, .inl mki)), (bBe, .inl (cBem, 1100, .inl mbe)), (bEn, .inl (cEnm, 1100, .inl men)), (bWo, .inl (cWom, 1100, .inr (.inl mwo)))] → va_S A s.heap H locs → lv_has ls 9 [(0, .ref bM), (1, .int x1)] → W p l e (headSpec (w_M_number) ({ frames := 2, cells := 0, slots := 0, locals := 41 })).room s m [.ref bM, .int p0].toArray below meth c H locs 0 0 (MQ below (va_Qi (fun (r : Int32) (_ : Unit) => r = o.1) (fun _ t => va_P (dC, dI) vwCl [(bM, .inr (7, [.int mth, .ref bLi, .int mle, .ref bLe, .ref bNa, .ref bNs, .ref bSt, .ref bCo, .int mnm, .int msp, .int mpl, .ref bKi, .ref bBe, .ref bEn, .ref bWo, .int o.2.1, .int mlr, .ref bSi, .ref bPl, .ref bMi, .ref bVa, .int mma, .int mod, .int mfa, .int mlp, .int mlm, .long mlv])), (bLi, .inl (cLim, 1024, .inl mli)), (bKi, .inl (cKim, 1100, .inl o.2.2.1)), (bBe, .inl (cBem, 1100, .inl o.2.2.2.1)), (bEn, .inl (cEnm, 1100, .inl o.2.2.2.2.1)), (bWo, .inl (cWom, 1100, .inr (.inl o.2.2.2.2.2)))] t.heap ∧ va_K (dC, dI) vwCl [(cLim, .int), (cKim, .int), (cBem, .int), (cEnm, .int), (cWom, .long)] t ∧ va_D A [(bM, .inr (7, [.int mth, .ref bLi, .int mle, .ref bLe, .ref bNa, .ref bNs, .ref bSt, .ref bCo, .int mnm, .int msp, .int mpl, .ref bKi, .ref bBe, .ref bEn, .ref bWo, .int o.2.1, .int mlr, .ref bSi, .ref bPl, .ref bMi, .ref bVa, .int mma, .int mod, .int mfa, .int mlp, .int mlm, .long mlv])), (bLi, .inl (cLim, 1024, .inl mli)), (bKi, .inl (cKim, 1100, .inl o.2.2.1)), (bBe, .inl (cBem, 1100, .inl o.2.2.2.1)), (bEn, .inl (cEnm, 1100, .inl o.2.2.2.2.1)), (bWo, .inl (cWom, 1100, .inr (.inl o.2.2.2.2.2)))]) A) [.ref bM, .int p0].toArray s 0 0 A) (F0 m 62 ls [.int y0]) := by
    intro mle mto mli mki mbe men mwo x1 y0 H locs ls hf hP hD hS hl
    rw [f_M_number_j62] at hf
    refine lv_istore_n (lv' := [(3, .int y0), (0, .ref bM), (1, .int x1)]) hx hb d_M_number_62 rfl hl (by decide) rfl (fun ls hl => ?_)
    refine lv_iload_n hx hb d_M_number_63 rfl (lv_at hl 0 rfl) ?_
    refine lv_bipush (v := (10 : Int32)) hx hb d_M_number_64 (by decide) ?_
    refine lv_icmp_ne (tgt := 73) hx hb d_M_number_66 (by decide) (fun c_5 => ?_) (fun c_5 => ?_)
    · rw [if_neg c_5] at hf
      refine lv_iload_n hx hb d_M_number_73 rfl (lv_at hl 2 rfl) ?_
      refine lv_iconst (v := (2 : Int32)) hx hb d_M_number_74 (by decide) ?_
      refine lv_iadd hx hb d_M_number_75 ?_
      refine lv_istore (lv' := [(4, .int (x1 + (2 : Int32))), (3, .int y0), (0, .ref bM), (1, .int x1)]) hx hb d_M_number_76 hl (by decide) rfl (fun ls hl => ?_)
      refine lv_iload hx hb d_M_number_78 (lv_at hl 0 rfl) ?_
      refine lv_istore (lv' := [(5, .int (x1 + (2 : Int32))), (4, .int (x1 + (2 : Int32))), (3, .int y0), (0, .ref bM), (1, .int x1)]) hx hb d_M_number_80 hl (by decide) rfl (fun ls hl => ?_)
      refine lv_lconst (v := (0 : Int64)) hx hb d_M_number_82 (by decide) ?_
      refine lv_lstore (lv' := [(6, .long (0 : Int64)), (5, .int (x1 + (2 : Int32))), (4, .int (x1 + (2 : Int32))), (3, .int y0), (0, .ref bM), (1, .int x1)]) hx hb d_M_number_83 hl (by decide) rfl (fun ls hl => ?_)
      exact loop_85 FU mle mto mli mki mbe men mwo x1 y0 (x1 + (2 : Int32)) (x1 + (2 : Int32)) (0 : Int64) H locs ls hf (hP.sub (ws' := [(bM, .inr (7, [.int mth, .ref bLi, .int mle, .ref bLe, .ref bNa, .ref bNs, .ref bSt, .ref bCo, .int mnm, .int msp, .int mpl, .ref bKi, .ref bBe, .ref bEn, .ref bWo, .int mto, .int mlr, .ref bSi, .ref bPl, .ref bMi, .ref bVa, .int mma, .int mod, .int mfa, .int mlp, .int mlm, .long mlv])), (bLi, .inl (cLim, 1024, .inl mli)), (bKi, .inl (cKim, 1100, .inl mki)), (bBe, .inl (cBem, 1100, .inl mbe)), (bEn, .inl (cEnm, 1100, .inl men)), (bWo, .inl (cWom, 1100, .inr (.inl mwo)))]) [0, 1, 2, 3, 4, 5] rfl) (hD.sub (ws' := [(bM, .inr (7, [.int mth, .ref bLi, .int mle, .ref bLe, .ref bNa, .ref bNs, .ref bSt, .ref bCo, .int mnm, .int msp, .int mpl, .ref bKi, .ref bBe, .ref bEn, .ref bWo, .int mto, .int mlr, .ref bSi, .ref bPl, .ref bMi, .ref bVa, .int mma, .int mod, .int mfa, .int mlp, .int mlm, .long mlv])), (bLi, .inl (cLim, 1024, .inl mli)), (bKi, .inl (cKim, 1100, .inl mki)), (bBe, .inl (cBem, 1100, .inl mbe)), (bEn, .inl (cEnm, 1100, .inl men)), (bWo, .inl (cWom, 1100, .inr (.inl mwo)))]) [0, 1, 2, 3, 4, 5] (by decide) rfl) hS (lv_sub hl [4, 5, 3, 2, 1, 0] rfl)
    · rw [if_pos c_5] at hf
      refine lv_iload_n hx hb d_M_number_69 rfl (lv_at hl 2 rfl) ?_
      refine lv_goto (tgt := 76) hx hb d_M_number_70 (by decide) ?_
      refine lv_istore (lv' := [(4, .int x1), (3, .int y0), (0, .ref bM), (1, .int x1)]) hx hb d_M_number_76 hl (by decide) rfl (fun ls hl => ?_)
      refine lv_iload hx hb d_M_number_78 (lv_at hl 0 rfl) ?_
      refine lv_istore (lv' := [(5, .int x1), (4, .int x1), (3, .int y0), (0, .ref bM), (1, .int x1)]) hx hb d_M_number_80 hl (by decide) rfl (fun ls hl => ?_)
      refine lv_lconst (v := (0 : Int64)) hx hb d_M_number_82 (by decide) ?_
      refine lv_lstore (lv' := [(6, .long (0 : Int64)), (5, .int x1), (4, .int x1), (3, .int y0), (0, .ref bM), (1, .int x1)]) hx hb d_M_number_83 hl (by decide) rfl (fun ls hl => ?_)
      exact loop_85 FU mle mto mli mki mbe men mwo x1 y0 x1 x1 (0 : Int64) H locs ls hf (hP.sub (ws' := [(bM, .inr (7, [.int mth, .ref bLi, .int mle, .ref bLe, .ref bNa, .ref bNs, .ref bSt, .ref bCo, .int mnm, .int msp, .int mpl, .ref bKi, .ref bBe, .ref bEn, .ref bWo, .int mto, .int mlr, .ref bSi, .ref bPl, .ref bMi, .ref bVa, .int mma, .int mod, .int mfa, .int mlp, .int mlm, .long mlv])), (bLi, .inl (cLim, 1024, .inl mli)), (bKi, .inl (cKim, 1100, .inl mki)), (bBe, .inl (cBem, 1100, .inl mbe)), (bEn, .inl (cEnm, 1100, .inl men)), (bWo, .inl (cWom, 1100, .inr (.inl mwo)))]) [0, 1, 2, 3, 4, 5] rfl) (hD.sub (ws' := [(bM, .inr (7, [.int mth, .ref bLi, .int mle, .ref bLe, .ref bNa, .ref bNs, .ref bSt, .ref bCo, .int mnm, .int msp, .int mpl, .ref bKi, .ref bBe, .ref bEn, .ref bWo, .int mto, .int mlr, .ref bSi, .ref bPl, .ref bMi, .ref bVa, .int mma, .int mod, .int mfa, .int mlp, .int mlm, .long mlv])), (bLi, .inl (cLim, 1024, .inl mli)), (bKi, .inl (cKim, 1100, .inl mki)), (bBe, .inl (cBem, 1100, .inl mbe)), (bEn, .inl (cEnm, 1100, .inl men)), (bWo, .inl (cWom, 1100, .inr (.inl mwo)))]) [0, 1, 2, 3, 4, 5] (by decide) rfl) hS (lv_sub hl [4, 5, 3, 2, 1, 0] rfl)
  have join_22 : ∀ (mle : Int32) (mto : Int32) (mli : Nat → Int32) (mki : Nat → Int32) (mbe : Nat → Int32) (men : Nat → Int32) (mwo : Nat → Int64) (x1 : Int32) (y0 : Int32) (H : Heap) (locs : List Loc) (ls : Array Slot), f_M_number_j22 mle mto mli mki mbe men mwo x1 y0 = some o → va_P (dC, dI) vwCl [(bM, .inr (7, [.int mth, .ref bLi, .int mle, .ref bLe, .ref bNa, .ref bNs, .ref bSt, .ref bCo, .int mnm, .int msp, .int mpl, .ref bKi, .ref bBe, .ref bEn, .ref bWo, .int mto, .int mlr, .ref bSi, .ref bPl, .ref bMi, .ref bVa, .int mma, .int mod, .int mfa, .int mlp, .int mlm, .long mlv])), (bLi, .inl (cLim, 1024, .inl mli)), (bKi, .inl (cKim, 1100, .inl mki)), (bBe, .inl (cBem, 1100, .inl mbe)), (bEn, .inl (cEnm, 1100, .inl men)), (bWo, .inl (cWom, 1100, .inr (.inl mwo)))] H → va_D A [(bM, .inr (7, [.int mth, .ref bLi, .int mle, .ref bLe, .ref bNa, .ref bNs, .ref bSt, .ref bCo, .int mnm, .int msp, .int mpl, .ref bKi, .ref bBe, .ref bEn, .ref bWo, .int mto, .int mlr, .ref bSi, .ref bPl, .ref bMi, .ref bVa, .int mma, .int mod, .int mfa, .int mlp, .int mlm, .long mlv])), (bLi, .inl (cLim, 1024, .inl mli)), (bKi, .inl (cKim, 1100, .inl mki)), (bBe, .inl (cBem, 1100, .inl mbe)), (bEn, .inl (cEnm, 1100, .inl men)), (bWo, .inl (cWom, 1100, .inr (.inl mwo)))] → va_S A s.heap H locs → lv_has ls 9 [(0, .ref bM), (1, .int x1)] → W p l e (headSpec (w_M_number) ({ frames := 2, cells := 0, slots := 0, locals := 41 })).room s m [.ref bM, .int p0].toArray below meth c H locs 0 0 (MQ below (va_Qi (fun (r : Int32) (_ : Unit) => r = o.1) (fun _ t => va_P (dC, dI) vwCl [(bM, .inr (7, [.int mth, .ref bLi, .int mle, .ref bLe, .ref bNa, .ref bNs, .ref bSt, .ref bCo, .int mnm, .int msp, .int mpl, .ref bKi, .ref bBe, .ref bEn, .ref bWo, .int o.2.1, .int mlr, .ref bSi, .ref bPl, .ref bMi, .ref bVa, .int mma, .int mod, .int mfa, .int mlp, .int mlm, .long mlv])), (bLi, .inl (cLim, 1024, .inl mli)), (bKi, .inl (cKim, 1100, .inl o.2.2.1)), (bBe, .inl (cBem, 1100, .inl o.2.2.2.1)), (bEn, .inl (cEnm, 1100, .inl o.2.2.2.2.1)), (bWo, .inl (cWom, 1100, .inr (.inl o.2.2.2.2.2)))] t.heap ∧ va_K (dC, dI) vwCl [(cLim, .int), (cKim, .int), (cBem, .int), (cEnm, .int), (cWom, .long)] t ∧ va_D A [(bM, .inr (7, [.int mth, .ref bLi, .int mle, .ref bLe, .ref bNa, .ref bNs, .ref bSt, .ref bCo, .int mnm, .int msp, .int mpl, .ref bKi, .ref bBe, .ref bEn, .ref bWo, .int o.2.1, .int mlr, .ref bSi, .ref bPl, .ref bMi, .ref bVa, .int mma, .int mod, .int mfa, .int mlp, .int mlm, .long mlv])), (bLi, .inl (cLim, 1024, .inl mli)), (bKi, .inl (cKim, 1100, .inl o.2.2.1)), (bBe, .inl (cBem, 1100, .inl o.2.2.2.1)), (bEn, .inl (cEnm, 1100, .inl o.2.2.2.2.1)), (bWo, .inl (cWom, 1100, .inr (.inl o.2.2.2.2.2)))]) A) [.ref bM, .int p0].toArray s 0 0 A) (F0 m 22 ls [.int y0]) := by
    intro mle mto mli mki mbe men mwo x1 y0 H locs ls hf hP hD hS hl
    rw [f_M_number_j22] at hf
    refine lv_istore_n (lv' := [(2, .int y0), (0, .ref bM), (1, .int x1)]) hx hb d_M_number_22 rfl hl (by decide) rfl (fun ls hl => ?_)
    refine lv_aload_n hx hb d_M_number_23 rfl (lv_at hl 1 rfl) ?_
    refine va_get (D := (dC, dI)) (ci := 7) (v := .ref bLi) (C := R_M) (T := F_M) (N := 27) hx hb hts i_M hown hK hP 0 rfl rfl 1 (by decide) (hts _ wb_174) (fun _ h9 => h9) rfl d_M_number_24 ?_
    refine lv_iload_n hx hb d_M_number_27 rfl (lv_at hl 2 rfl) ?_
    obtain ⟨hin, hf⟩ := gi_some hf
    refine va_iald hx hb hK hP 1 0 rfl rfl hin d_M_number_28 ?_
    refine lv_bipush (v := (48 : Int32)) hx hb d_M_number_29 (by decide) ?_
    refine lv_icmp_eq (tgt := 39) hx hb d_M_number_31 (by decide) (fun c_2 => ?_) (fun c_2 => ?_)
    · rw [if_pos c_2] at hf
      refine lv_iload_n hx hb d_M_number_39 rfl (lv_at hl 0 rfl) ?_
      refine lv_bipush (v := (120 : Int32)) hx hb d_M_number_40 (by decide) ?_
      refine lv_icmp_ne (tgt := 50) hx hb d_M_number_42 (by decide) (fun c_3 => ?_) (fun c_3 => ?_)
      · rw [if_neg c_3] at hf
        refine lv_iload_n hx hb d_M_number_50 rfl (lv_at hl 0 rfl) ?_
        refine lv_bipush (v := (98 : Int32)) hx hb d_M_number_51 (by decide) ?_
        refine lv_icmp_ne (tgt := 60) hx hb d_M_number_53 (by decide) (fun c_4 => ?_) (fun c_4 => ?_)
        · rw [if_neg c_4] at hf
          refine lv_bipush (v := (10 : Int32)) hx hb d_M_number_60 (by decide) ?_
          exact join_62 mle mto mli mki mbe men mwo x1 (10 : Int32) H locs ls hf (hP.sub (ws' := [(bM, .inr (7, [.int mth, .ref bLi, .int mle, .ref bLe, .ref bNa, .ref bNs, .ref bSt, .ref bCo, .int mnm, .int msp, .int mpl, .ref bKi, .ref bBe, .ref bEn, .ref bWo, .int mto, .int mlr, .ref bSi, .ref bPl, .ref bMi, .ref bVa, .int mma, .int mod, .int mfa, .int mlp, .int mlm, .long mlv])), (bLi, .inl (cLim, 1024, .inl mli)), (bKi, .inl (cKim, 1100, .inl mki)), (bBe, .inl (cBem, 1100, .inl mbe)), (bEn, .inl (cEnm, 1100, .inl men)), (bWo, .inl (cWom, 1100, .inr (.inl mwo)))]) [0, 1, 2, 3, 4, 5] rfl) (hD.sub (ws' := [(bM, .inr (7, [.int mth, .ref bLi, .int mle, .ref bLe, .ref bNa, .ref bNs, .ref bSt, .ref bCo, .int mnm, .int msp, .int mpl, .ref bKi, .ref bBe, .ref bEn, .ref bWo, .int mto, .int mlr, .ref bSi, .ref bPl, .ref bMi, .ref bVa, .int mma, .int mod, .int mfa, .int mlp, .int mlm, .long mlv])), (bLi, .inl (cLim, 1024, .inl mli)), (bKi, .inl (cKim, 1100, .inl mki)), (bBe, .inl (cBem, 1100, .inl mbe)), (bEn, .inl (cEnm, 1100, .inl men)), (bWo, .inl (cWom, 1100, .inr (.inl mwo)))]) [0, 1, 2, 3, 4, 5] (by decide) rfl) hS (lv_sub hl [1, 2] rfl)
        · rw [if_pos c_4] at hf
          refine lv_iconst (v := (2 : Int32)) hx hb d_M_number_56 (by decide) ?_
          refine lv_goto (tgt := 62) hx hb d_M_number_57 (by decide) ?_
          exact join_62 mle mto mli mki mbe men mwo x1 (2 : Int32) H locs ls hf (hP.sub (ws' := [(bM, .inr (7, [.int mth, .ref bLi, .int mle, .ref bLe, .ref bNa, .ref bNs, .ref bSt, .ref bCo, .int mnm, .int msp, .int mpl, .ref bKi, .ref bBe, .ref bEn, .ref bWo, .int mto, .int mlr, .ref bSi, .ref bPl, .ref bMi, .ref bVa, .int mma, .int mod, .int mfa, .int mlp, .int mlm, .long mlv])), (bLi, .inl (cLim, 1024, .inl mli)), (bKi, .inl (cKim, 1100, .inl mki)), (bBe, .inl (cBem, 1100, .inl mbe)), (bEn, .inl (cEnm, 1100, .inl men)), (bWo, .inl (cWom, 1100, .inr (.inl mwo)))]) [0, 1, 2, 3, 4, 5] rfl) (hD.sub (ws' := [(bM, .inr (7, [.int mth, .ref bLi, .int mle, .ref bLe, .ref bNa, .ref bNs, .ref bSt, .ref bCo, .int mnm, .int msp, .int mpl, .ref bKi, .ref bBe, .ref bEn, .ref bWo, .int mto, .int mlr, .ref bSi, .ref bPl, .ref bMi, .ref bVa, .int mma, .int mod, .int mfa, .int mlp, .int mlm, .long mlv])), (bLi, .inl (cLim, 1024, .inl mli)), (bKi, .inl (cKim, 1100, .inl mki)), (bBe, .inl (cBem, 1100, .inl mbe)), (bEn, .inl (cEnm, 1100, .inl men)), (bWo, .inl (cWom, 1100, .inr (.inl mwo)))]) [0, 1, 2, 3, 4, 5] (by decide) rfl) hS (lv_sub hl [1, 2] rfl)
      · rw [if_pos c_3] at hf
        refine lv_bipush (v := (16 : Int32)) hx hb d_M_number_45 (by decide) ?_
        refine lv_goto (tgt := 62) hx hb d_M_number_47 (by decide) ?_
        exact join_62 mle mto mli mki mbe men mwo x1 (16 : Int32) H locs ls hf (hP.sub (ws' := [(bM, .inr (7, [.int mth, .ref bLi, .int mle, .ref bLe, .ref bNa, .ref bNs, .ref bSt, .ref bCo, .int mnm, .int msp, .int mpl, .ref bKi, .ref bBe, .ref bEn, .ref bWo, .int mto, .int mlr, .ref bSi, .ref bPl, .ref bMi, .ref bVa, .int mma, .int mod, .int mfa, .int mlp, .int mlm, .long mlv])), (bLi, .inl (cLim, 1024, .inl mli)), (bKi, .inl (cKim, 1100, .inl mki)), (bBe, .inl (cBem, 1100, .inl mbe)), (bEn, .inl (cEnm, 1100, .inl men)), (bWo, .inl (cWom, 1100, .inr (.inl mwo)))]) [0, 1, 2, 3, 4, 5] rfl) (hD.sub (ws' := [(bM, .inr (7, [.int mth, .ref bLi, .int mle, .ref bLe, .ref bNa, .ref bNs, .ref bSt, .ref bCo, .int mnm, .int msp, .int mpl, .ref bKi, .ref bBe, .ref bEn, .ref bWo, .int mto, .int mlr, .ref bSi, .ref bPl, .ref bMi, .ref bVa, .int mma, .int mod, .int mfa, .int mlp, .int mlm, .long mlv])), (bLi, .inl (cLim, 1024, .inl mli)), (bKi, .inl (cKim, 1100, .inl mki)), (bBe, .inl (cBem, 1100, .inl mbe)), (bEn, .inl (cEnm, 1100, .inl men)), (bWo, .inl (cWom, 1100, .inr (.inl mwo)))]) [0, 1, 2, 3, 4, 5] (by decide) rfl) hS (lv_sub hl [1, 2] rfl)
    · rw [if_neg c_2] at hf
      refine lv_bipush (v := (10 : Int32)) hx hb d_M_number_34 (by decide) ?_
      refine lv_goto (tgt := 62) hx hb d_M_number_36 (by decide) ?_
      exact join_62 mle mto mli mki mbe men mwo x1 (10 : Int32) H locs ls hf (hP.sub (ws' := [(bM, .inr (7, [.int mth, .ref bLi, .int mle, .ref bLe, .ref bNa, .ref bNs, .ref bSt, .ref bCo, .int mnm, .int msp, .int mpl, .ref bKi, .ref bBe, .ref bEn, .ref bWo, .int mto, .int mlr, .ref bSi, .ref bPl, .ref bMi, .ref bVa, .int mma, .int mod, .int mfa, .int mlp, .int mlm, .long mlv])), (bLi, .inl (cLim, 1024, .inl mli)), (bKi, .inl (cKim, 1100, .inl mki)), (bBe, .inl (cBem, 1100, .inl mbe)), (bEn, .inl (cEnm, 1100, .inl men)), (bWo, .inl (cWom, 1100, .inr (.inl mwo)))]) [0, 1, 2, 3, 4, 5] rfl) (hD.sub (ws' := [(bM, .inr (7, [.int mth, .ref bLi, .int mle, .ref bLe, .ref bNa, .ref bNs, .ref bSt, .ref bCo, .int mnm, .int msp, .int mpl, .ref bKi, .ref bBe, .ref bEn, .ref bWo, .int mto, .int mlr, .ref bSi, .ref bPl, .ref bMi, .ref bVa, .int mma, .int mod, .int mfa, .int mlp, .int mlm, .long mlv])), (bLi, .inl (cLim, 1024, .inl mli)), (bKi, .inl (cKim, 1100, .inl mki)), (bBe, .inl (cBem, 1100, .inl mbe)), (bEn, .inl (cEnm, 1100, .inl men)), (bWo, .inl (cWom, 1100, .inr (.inl mwo)))]) [0, 1, 2, 3, 4, 5] (by decide) rfl) hS (lv_sub hl [1, 2] rfl)
  rw [f_M_number] at hf
  refine lv_iload_n hx hb d_M_number_0 rfl (lv_at hl 1 rfl) ?_
  refine lv_iconst (v := (1 : Int32)) hx hb d_M_number_1 (by decide) ?_
  refine lv_iadd hx hb d_M_number_2 ?_
  refine lv_aload_n hx hb d_M_number_3 rfl (lv_at hl 0 rfl) ?_
  refine va_get (D := (dC, dI)) (ci := 7) (v := .int mle) (C := R_M) (T := F_M) (N := 27) hx hb hts i_M hown hK hP 0 rfl rfl 2 (by decide) (hts _ wb_173) (fun _ h9 => h9) rfl d_M_number_4 ?_
  refine lv_icmp_ge (tgt := 21) hx hb d_M_number_7 (by decide) (fun c_1 => ?_) (fun c_1 => ?_)
  · rw [if_pos c_1] at hf
    refine lv_iconst (v := (0 : Int32)) hx hb d_M_number_21 (by decide) ?_
    exact join_22 mle mto mli mki mbe men mwo p0 (0 : Int32) s.heap [] ls hf (hP.sub (ws' := [(bM, .inr (7, [.int mth, .ref bLi, .int mle, .ref bLe, .ref bNa, .ref bNs, .ref bSt, .ref bCo, .int mnm, .int msp, .int mpl, .ref bKi, .ref bBe, .ref bEn, .ref bWo, .int mto, .int mlr, .ref bSi, .ref bPl, .ref bMi, .ref bVa, .int mma, .int mod, .int mfa, .int mlp, .int mlm, .long mlv])), (bLi, .inl (cLim, 1024, .inl mli)), (bKi, .inl (cKim, 1100, .inl mki)), (bBe, .inl (cBem, 1100, .inl mbe)), (bEn, .inl (cEnm, 1100, .inl men)), (bWo, .inl (cWom, 1100, .inr (.inl mwo)))]) [0, 1, 2, 3, 4, 5] rfl) (hD.sub (ws' := [(bM, .inr (7, [.int mth, .ref bLi, .int mle, .ref bLe, .ref bNa, .ref bNs, .ref bSt, .ref bCo, .int mnm, .int msp, .int mpl, .ref bKi, .ref bBe, .ref bEn, .ref bWo, .int mto, .int mlr, .ref bSi, .ref bPl, .ref bMi, .ref bVa, .int mma, .int mod, .int mfa, .int mlp, .int mlm, .long mlv])), (bLi, .inl (cLim, 1024, .inl mli)), (bKi, .inl (cKim, 1100, .inl mki)), (bBe, .inl (cBem, 1100, .inl mbe)), (bEn, .inl (cEnm, 1100, .inl men)), (bWo, .inl (cWom, 1100, .inr (.inl mwo)))]) [0, 1, 2, 3, 4, 5] (by decide) rfl) hS (lv_sub hl [0, 1] rfl)
  · rw [if_neg c_1] at hf
    refine lv_aload_n hx hb d_M_number_10 rfl (lv_at hl 0 rfl) ?_
    refine va_get (D := (dC, dI)) (ci := 7) (v := .ref bLi) (C := R_M) (T := F_M) (N := 27) hx hb hts i_M hown hK hP 0 rfl rfl 1 (by decide) (hts _ wb_174) (fun _ h9 => h9) rfl d_M_number_11 ?_
    refine lv_iload_n hx hb d_M_number_14 rfl (lv_at hl 1 rfl) ?_
    refine lv_iconst (v := (1 : Int32)) hx hb d_M_number_15 (by decide) ?_
    refine lv_iadd hx hb d_M_number_16 ?_
    obtain ⟨hin, hf⟩ := gi_some hf
    refine va_iald hx hb hK hP 1 0 rfl rfl hin d_M_number_17 ?_
    refine lv_goto (tgt := 22) hx hb d_M_number_18 (by decide) ?_
    exact join_22 mle mto mli mki mbe men mwo p0 (mli (p0 + (1 : Int32)).toNatClampNeg) s.heap [] ls hf (hP.sub (ws' := [(bM, .inr (7, [.int mth, .ref bLi, .int mle, .ref bLe, .ref bNa, .ref bNs, .ref bSt, .ref bCo, .int mnm, .int msp, .int mpl, .ref bKi, .ref bBe, .ref bEn, .ref bWo, .int mto, .int mlr, .ref bSi, .ref bPl, .ref bMi, .ref bVa, .int mma, .int mod, .int mfa, .int mlp, .int mlm, .long mlv])), (bLi, .inl (cLim, 1024, .inl mli)), (bKi, .inl (cKim, 1100, .inl mki)), (bBe, .inl (cBem, 1100, .inl mbe)), (bEn, .inl (cEnm, 1100, .inl men)), (bWo, .inl (cWom, 1100, .inr (.inl mwo)))]) [0, 1, 2, 3, 4, 5] rfl) (hD.sub (ws' := [(bM, .inr (7, [.int mth, .ref bLi, .int mle, .ref bLe, .ref bNa, .ref bNs, .ref bSt, .ref bCo, .int mnm, .int msp, .int mpl, .ref bKi, .ref bBe, .ref bEn, .ref bWo, .int mto, .int mlr, .ref bSi, .ref bPl, .ref bMi, .ref bVa, .int mma, .int mod, .int mfa, .int mlp, .int mlm, .long mlv])), (bLi, .inl (cLim, 1024, .inl mli)), (bKi, .inl (cKim, 1100, .inl mki)), (bBe, .inl (cBem, 1100, .inl mbe)), (bEn, .inl (cEnm, 1100, .inl men)), (bWo, .inl (cWom, 1100, .inr (.inl mwo)))]) [0, 1, 2, 3, 4, 5] (by decide) rfl) hS (lv_sub hl [0, 1] rfl)

def f_M_isSign_j60 (x0 : Int32) : Option (Int32) := if x0 = (124 : Int32) then some ((1 : Int32)) else if x0 = (94 : Int32) then some ((1 : Int32)) else if x0 = (126 : Int32) then some ((1 : Int32)) else some ((0 : Int32))
def f_M_isSign_j36 (x0 : Int32) : Option (Int32) := if x0 = (45 : Int32) then some ((1 : Int32)) else if x0 = (47 : Int32) then some ((1 : Int32)) else if x0 < (36 : Int32) then f_M_isSign_j60 x0 else if x0 ≤ (38 : Int32) then some ((1 : Int32)) else f_M_isSign_j60 x0
def f_M_isSign (p0 : Int32) : Option (Int32) := if p0 = (44 : Int32) then some ((1 : Int32)) else if p0 = (58 : Int32) then some ((1 : Int32)) else if p0 = (91 : Int32) then some ((1 : Int32)) else if p0 = (93 : Int32) then some ((1 : Int32)) else if p0 < (40 : Int32) then f_M_isSign_j36 p0 else if p0 ≤ (43 : Int32) then some ((1 : Int32)) else f_M_isSign_j36 p0
set_option maxHeartbeats 4000000 in
set_option maxRecDepth 100000 in
theorem c_M_isSign (l : Launch) (dC : Nat → ClassId) (dI : Nat → Nat → Nat) (sz : Nat) (p0 : Int32) (o : Int32) (hf : f_M_isSign p0 = some o) : Met l y_M_isSign (w_M_isSign) ({ frames := 0, cells := 0, slots := 0, locals := 0 }) (va_Pc [.int p0] (fun U => U.heap.size = sz ∧ va_P (dC, dI) vwCl [] U.heap ∧ va_K (dC, dI) vwCl [] U ∧ va_D (fun _ => True) [] ∧ NW U)) (va_Qi (fun (r : Int32) (_ : Unit) => r = o ∧ narrow .boolean (.int r) = .int r) (fun _ t => va_P (dC, dI) vwCl [] t.heap ∧ va_K (dC, dI) vwCl [] t ∧ va_D (va_A [] sz) []) (va_A [] sz)) 0 0 (va_A [] sz) := by
  refine Met.ofW (cc := b_M_isSign) (maxL := 1) (ret := (some .boolean)) (by decide) rfl ?_
  intro p e s m args below meth c s₁ B hml hv
  obtain ⟨rfl, hsz, hP, hK, hD0, hN⟩ := hv
  have hx := B.exec
  have hb := B.bytes
  have hr := B.returns
  have hts : ∀ w ∈ WB, w.before _ s = true := fun w h => atoms_spec (ws := w_M_isSign) B.pre w (List.mem_cons_of_mem _ h)
  have hown : s.vm.findClass R_M = some m.cls := findClass_of_methodNamed B.named
  have hlocks := B.notSynchronized
  subst hsz
  have hD := hD0.self (sz := s.heap.size)
  generalize hAe : va_A [] s.heap.size = A at hD ⊢
  have hA : ∀ q : Nat, s.heap.size ≤ q → A q := fun q h => by rw [← hAe]; exact Or.inr h
  have hS : va_S A s.heap s.heap [] := va_S.rf
  have hP : va_P (dC, dI) vwCl [] s.heap := hP
  have hl := lv_entry [.int p0] (n := 1) (Nat.le_of_ble_eq_true rfl)
  rw [lg_entry_eq]
  generalize (lg_sl [.int p0] ++ List.replicate (1 - (lg_sl [.int p0]).length) Slot.unset).toArray = ls at hl ⊢
  have hl : lv_has ls 1 [(0, .int p0)] := hl
  have join_60 : ∀ (x0 : Int32) (H : Heap) (locs : List Loc) (ls : Array Slot), f_M_isSign_j60 x0 = some o → va_P (dC, dI) vwCl [] H → va_D A [] → va_S A s.heap H locs → lv_has ls 1 [(0, .int x0)] → W p l e (headSpec (w_M_isSign) ({ frames := 0, cells := 0, slots := 0, locals := 0 })).room s m [.int p0].toArray below meth c H locs 0 0 (MQ below (va_Qi (fun (r : Int32) (_ : Unit) => r = o ∧ narrow .boolean (.int r) = .int r) (fun _ t => va_P (dC, dI) vwCl [] t.heap ∧ va_K (dC, dI) vwCl [] t ∧ va_D A []) A) [.int p0].toArray s 0 0 A) (F0 m 60 ls []) := by
    intro x0 H locs ls hf hP hD hS hl
    rw [f_M_isSign_j60] at hf
    refine lv_iload_n hx hb d_M_isSign_60 rfl (lv_at hl 0 rfl) ?_
    refine lv_bipush (v := (124 : Int32)) hx hb d_M_isSign_61 (by decide) ?_
    refine lv_icmp_eq (tgt := 78) hx hb d_M_isSign_63 (by decide) (fun c_9 => ?_) (fun c_9 => ?_)
    · rw [if_pos c_9] at hf
      refine lv_iconst (v := (1 : Int32)) hx hb d_M_isSign_78 (by decide) ?_
      refine lv_goto (tgt := 83) hx hb d_M_isSign_79 (by decide) ?_
      have ho := Option.some.inj hf
      subst o
      have hP9 := hP.sub (ws' := []) [] rfl
      have hD9 := hD.sub (ws' := []) [] (by decide) rfl
      exact W.zret (v := (1 : Int32)) (ty := .boolean) hx hb hr rfl (fun t ht hW => ⟨⟨(1 : Int32), (), rfl, ⟨rfl, rfl⟩, by rw [ht]; exact hP9, va_K.moved hW.alike hK, hD9⟩, hS.F ht⟩) hS.2.2 d_M_isSign_83
    · rw [if_neg c_9] at hf
      refine lv_iload_n hx hb d_M_isSign_66 rfl (lv_at hl 0 rfl) ?_
      refine lv_bipush (v := (94 : Int32)) hx hb d_M_isSign_67 (by decide) ?_
      refine lv_icmp_eq (tgt := 78) hx hb d_M_isSign_69 (by decide) (fun c_10 => ?_) (fun c_10 => ?_)
      · rw [if_pos c_10] at hf
        refine lv_iconst (v := (1 : Int32)) hx hb d_M_isSign_78 (by decide) ?_
        refine lv_goto (tgt := 83) hx hb d_M_isSign_79 (by decide) ?_
        have ho := Option.some.inj hf
        subst o
        have hP9 := hP.sub (ws' := []) [] rfl
        have hD9 := hD.sub (ws' := []) [] (by decide) rfl
        exact W.zret (v := (1 : Int32)) (ty := .boolean) hx hb hr rfl (fun t ht hW => ⟨⟨(1 : Int32), (), rfl, ⟨rfl, rfl⟩, by rw [ht]; exact hP9, va_K.moved hW.alike hK, hD9⟩, hS.F ht⟩) hS.2.2 d_M_isSign_83
      · rw [if_neg c_10] at hf
        refine lv_iload_n hx hb d_M_isSign_72 rfl (lv_at hl 0 rfl) ?_
        refine lv_bipush (v := (126 : Int32)) hx hb d_M_isSign_73 (by decide) ?_
        refine lv_icmp_ne (tgt := 82) hx hb d_M_isSign_75 (by decide) (fun c_11 => ?_) (fun c_11 => ?_)
        · rw [if_neg c_11] at hf
          refine lv_iconst (v := (0 : Int32)) hx hb d_M_isSign_82 (by decide) ?_
          have ho := Option.some.inj hf
          subst o
          have hP9 := hP.sub (ws' := []) [] rfl
          have hD9 := hD.sub (ws' := []) [] (by decide) rfl
          exact W.zret (v := (0 : Int32)) (ty := .boolean) hx hb hr rfl (fun t ht hW => ⟨⟨(0 : Int32), (), rfl, ⟨rfl, rfl⟩, by rw [ht]; exact hP9, va_K.moved hW.alike hK, hD9⟩, hS.F ht⟩) hS.2.2 d_M_isSign_83
        · rw [if_pos c_11] at hf
          refine lv_iconst (v := (1 : Int32)) hx hb d_M_isSign_78 (by decide) ?_
          refine lv_goto (tgt := 83) hx hb d_M_isSign_79 (by decide) ?_
          have ho := Option.some.inj hf
          subst o
          have hP9 := hP.sub (ws' := []) [] rfl
          have hD9 := hD.sub (ws' := []) [] (by decide) rfl
          exact W.zret (v := (1 : Int32)) (ty := .boolean) hx hb hr rfl (fun t ht hW => ⟨⟨(1 : Int32), (), rfl, ⟨rfl, rfl⟩, by rw [ht]; exact hP9, va_K.moved hW.alike hK, hD9⟩, hS.F ht⟩) hS.2.2 d_M_isSign_83
  have join_36 : ∀ (x0 : Int32) (H : Heap) (locs : List Loc) (ls : Array Slot), f_M_isSign_j36 x0 = some o → va_P (dC, dI) vwCl [] H → va_D A [] → va_S A s.heap H locs → lv_has ls 1 [(0, .int x0)] → W p l e (headSpec (w_M_isSign) ({ frames := 0, cells := 0, slots := 0, locals := 0 })).room s m [.int p0].toArray below meth c H locs 0 0 (MQ below (va_Qi (fun (r : Int32) (_ : Unit) => r = o ∧ narrow .boolean (.int r) = .int r) (fun _ t => va_P (dC, dI) vwCl [] t.heap ∧ va_K (dC, dI) vwCl [] t ∧ va_D A []) A) [.int p0].toArray s 0 0 A) (F0 m 36 ls []) := by
    intro x0 H locs ls hf hP hD hS hl
    rw [f_M_isSign_j36] at hf
    refine lv_iload_n hx hb d_M_isSign_36 rfl (lv_at hl 0 rfl) ?_
    refine lv_bipush (v := (45 : Int32)) hx hb d_M_isSign_37 (by decide) ?_
    refine lv_icmp_eq (tgt := 78) hx hb d_M_isSign_39 (by decide) (fun c_6 => ?_) (fun c_6 => ?_)
    · rw [if_pos c_6] at hf
      refine lv_iconst (v := (1 : Int32)) hx hb d_M_isSign_78 (by decide) ?_
      refine lv_goto (tgt := 83) hx hb d_M_isSign_79 (by decide) ?_
      have ho := Option.some.inj hf
      subst o
      have hP9 := hP.sub (ws' := []) [] rfl
      have hD9 := hD.sub (ws' := []) [] (by decide) rfl
      exact W.zret (v := (1 : Int32)) (ty := .boolean) hx hb hr rfl (fun t ht hW => ⟨⟨(1 : Int32), (), rfl, ⟨rfl, rfl⟩, by rw [ht]; exact hP9, va_K.moved hW.alike hK, hD9⟩, hS.F ht⟩) hS.2.2 d_M_isSign_83
    · rw [if_neg c_6] at hf
      refine lv_iload_n hx hb d_M_isSign_42 rfl (lv_at hl 0 rfl) ?_
      refine lv_bipush (v := (47 : Int32)) hx hb d_M_isSign_43 (by decide) ?_
      refine lv_icmp_eq (tgt := 78) hx hb d_M_isSign_45 (by decide) (fun c_7 => ?_) (fun c_7 => ?_)
      · rw [if_pos c_7] at hf
        refine lv_iconst (v := (1 : Int32)) hx hb d_M_isSign_78 (by decide) ?_
        refine lv_goto (tgt := 83) hx hb d_M_isSign_79 (by decide) ?_
        have ho := Option.some.inj hf
        subst o
        have hP9 := hP.sub (ws' := []) [] rfl
        have hD9 := hD.sub (ws' := []) [] (by decide) rfl
        exact W.zret (v := (1 : Int32)) (ty := .boolean) hx hb hr rfl (fun t ht hW => ⟨⟨(1 : Int32), (), rfl, ⟨rfl, rfl⟩, by rw [ht]; exact hP9, va_K.moved hW.alike hK, hD9⟩, hS.F ht⟩) hS.2.2 d_M_isSign_83
      · rw [if_neg c_7] at hf
        refine lv_iload_n hx hb d_M_isSign_48 rfl (lv_at hl 0 rfl) ?_
        refine lv_bipush (v := (36 : Int32)) hx hb d_M_isSign_49 (by decide) ?_
        refine lv_icmp_lt (tgt := 60) hx hb d_M_isSign_51 (by decide) (fun c_8 => ?_) (fun c_8 => ?_)
        · rw [if_pos c_8] at hf
          exact join_60 x0 H locs ls hf (hP.sub (ws' := []) [] rfl) (hD.sub (ws' := []) [] (by decide) rfl) hS (lv_sub hl [0] rfl)
        · rw [if_neg c_8] at hf
          refine lv_iload_n hx hb d_M_isSign_54 rfl (lv_at hl 0 rfl) ?_
          refine lv_bipush (v := (38 : Int32)) hx hb d_M_isSign_55 (by decide) ?_
          refine lv_icmp_le (tgt := 78) hx hb d_M_isSign_57 (by decide) (fun c_12 => ?_) (fun c_12 => ?_)
          · rw [if_pos c_12] at hf
            refine lv_iconst (v := (1 : Int32)) hx hb d_M_isSign_78 (by decide) ?_
            refine lv_goto (tgt := 83) hx hb d_M_isSign_79 (by decide) ?_
            have ho := Option.some.inj hf
            subst o
            have hP9 := hP.sub (ws' := []) [] rfl
            have hD9 := hD.sub (ws' := []) [] (by decide) rfl
            exact W.zret (v := (1 : Int32)) (ty := .boolean) hx hb hr rfl (fun t ht hW => ⟨⟨(1 : Int32), (), rfl, ⟨rfl, rfl⟩, by rw [ht]; exact hP9, va_K.moved hW.alike hK, hD9⟩, hS.F ht⟩) hS.2.2 d_M_isSign_83
          · rw [if_neg c_12] at hf
            exact join_60 x0 H locs ls hf (hP.sub (ws' := []) [] rfl) (hD.sub (ws' := []) [] (by decide) rfl) hS (lv_sub hl [0] rfl)
  rw [f_M_isSign] at hf
  refine lv_iload_n hx hb d_M_isSign_0 rfl (lv_at hl 0 rfl) ?_
  refine lv_bipush (v := (44 : Int32)) hx hb d_M_isSign_1 (by decide) ?_
  refine lv_icmp_eq (tgt := 78) hx hb d_M_isSign_3 (by decide) (fun c_1 => ?_) (fun c_1 => ?_)
  · rw [if_pos c_1] at hf
    refine lv_iconst (v := (1 : Int32)) hx hb d_M_isSign_78 (by decide) ?_
    refine lv_goto (tgt := 83) hx hb d_M_isSign_79 (by decide) ?_
    have ho := Option.some.inj hf
    subst o
    have hP9 := hP.sub (ws' := []) [] rfl
    have hD9 := hD.sub (ws' := []) [] (by decide) rfl
    exact W.zret (v := (1 : Int32)) (ty := .boolean) hx hb hr rfl (fun t ht hW => ⟨⟨(1 : Int32), (), rfl, ⟨rfl, rfl⟩, by rw [ht]; exact hP9, va_K.moved hW.alike hK, hD9⟩, hS.F ht⟩) hS.2.2 d_M_isSign_83
  · rw [if_neg c_1] at hf
    refine lv_iload_n hx hb d_M_isSign_6 rfl (lv_at hl 0 rfl) ?_
    refine lv_bipush (v := (58 : Int32)) hx hb d_M_isSign_7 (by decide) ?_
    refine lv_icmp_eq (tgt := 78) hx hb d_M_isSign_9 (by decide) (fun c_2 => ?_) (fun c_2 => ?_)
    · rw [if_pos c_2] at hf
      refine lv_iconst (v := (1 : Int32)) hx hb d_M_isSign_78 (by decide) ?_
      refine lv_goto (tgt := 83) hx hb d_M_isSign_79 (by decide) ?_
      have ho := Option.some.inj hf
      subst o
      have hP9 := hP.sub (ws' := []) [] rfl
      have hD9 := hD.sub (ws' := []) [] (by decide) rfl
      exact W.zret (v := (1 : Int32)) (ty := .boolean) hx hb hr rfl (fun t ht hW => ⟨⟨(1 : Int32), (), rfl, ⟨rfl, rfl⟩, by rw [ht]; exact hP9, va_K.moved hW.alike hK, hD9⟩, hS.F ht⟩) hS.2.2 d_M_isSign_83
    · rw [if_neg c_2] at hf
      refine lv_iload_n hx hb d_M_isSign_12 rfl (lv_at hl 0 rfl) ?_
      refine lv_bipush (v := (91 : Int32)) hx hb d_M_isSign_13 (by decide) ?_
      refine lv_icmp_eq (tgt := 78) hx hb d_M_isSign_15 (by decide) (fun c_3 => ?_) (fun c_3 => ?_)
      · rw [if_pos c_3] at hf
        refine lv_iconst (v := (1 : Int32)) hx hb d_M_isSign_78 (by decide) ?_
        refine lv_goto (tgt := 83) hx hb d_M_isSign_79 (by decide) ?_
        have ho := Option.some.inj hf
        subst o
        have hP9 := hP.sub (ws' := []) [] rfl
        have hD9 := hD.sub (ws' := []) [] (by decide) rfl
        exact W.zret (v := (1 : Int32)) (ty := .boolean) hx hb hr rfl (fun t ht hW => ⟨⟨(1 : Int32), (), rfl, ⟨rfl, rfl⟩, by rw [ht]; exact hP9, va_K.moved hW.alike hK, hD9⟩, hS.F ht⟩) hS.2.2 d_M_isSign_83
      · rw [if_neg c_3] at hf
        refine lv_iload_n hx hb d_M_isSign_18 rfl (lv_at hl 0 rfl) ?_
        refine lv_bipush (v := (93 : Int32)) hx hb d_M_isSign_19 (by decide) ?_
        refine lv_icmp_eq (tgt := 78) hx hb d_M_isSign_21 (by decide) (fun c_4 => ?_) (fun c_4 => ?_)
        · rw [if_pos c_4] at hf
          refine lv_iconst (v := (1 : Int32)) hx hb d_M_isSign_78 (by decide) ?_
          refine lv_goto (tgt := 83) hx hb d_M_isSign_79 (by decide) ?_
          have ho := Option.some.inj hf
          subst o
          have hP9 := hP.sub (ws' := []) [] rfl
          have hD9 := hD.sub (ws' := []) [] (by decide) rfl
          exact W.zret (v := (1 : Int32)) (ty := .boolean) hx hb hr rfl (fun t ht hW => ⟨⟨(1 : Int32), (), rfl, ⟨rfl, rfl⟩, by rw [ht]; exact hP9, va_K.moved hW.alike hK, hD9⟩, hS.F ht⟩) hS.2.2 d_M_isSign_83
        · rw [if_neg c_4] at hf
          refine lv_iload_n hx hb d_M_isSign_24 rfl (lv_at hl 0 rfl) ?_
          refine lv_bipush (v := (40 : Int32)) hx hb d_M_isSign_25 (by decide) ?_
          refine lv_icmp_lt (tgt := 36) hx hb d_M_isSign_27 (by decide) (fun c_5 => ?_) (fun c_5 => ?_)
          · rw [if_pos c_5] at hf
            exact join_36 p0 s.heap [] ls hf (hP.sub (ws' := []) [] rfl) (hD.sub (ws' := []) [] (by decide) rfl) hS (lv_sub hl [0] rfl)
          · rw [if_neg c_5] at hf
            refine lv_iload_n hx hb d_M_isSign_30 rfl (lv_at hl 0 rfl) ?_
            refine lv_bipush (v := (43 : Int32)) hx hb d_M_isSign_31 (by decide) ?_
            refine lv_icmp_le (tgt := 78) hx hb d_M_isSign_33 (by decide) (fun c_13 => ?_) (fun c_13 => ?_)
            · rw [if_pos c_13] at hf
              refine lv_iconst (v := (1 : Int32)) hx hb d_M_isSign_78 (by decide) ?_
              refine lv_goto (tgt := 83) hx hb d_M_isSign_79 (by decide) ?_
              have ho := Option.some.inj hf
              subst o
              have hP9 := hP.sub (ws' := []) [] rfl
              have hD9 := hD.sub (ws' := []) [] (by decide) rfl
              exact W.zret (v := (1 : Int32)) (ty := .boolean) hx hb hr rfl (fun t ht hW => ⟨⟨(1 : Int32), (), rfl, ⟨rfl, rfl⟩, by rw [ht]; exact hP9, va_K.moved hW.alike hK, hD9⟩, hS.F ht⟩) hS.2.2 d_M_isSign_83
            · rw [if_neg c_13] at hf
              exact join_36 p0 s.heap [] ls hf (hP.sub (ws' := []) [] rfl) (hD.sub (ws' := []) [] (by decide) rfl) hS (lv_sub hl [0] rfl)

def f_M_next_j266 (mle : Int32) (mto : Int32) (mlr : Int32) (mli : Nat → Int32) (mki : Nat → Int32) (mbe : Nat → Int32) (men : Nat → Int32) (mwo : Nat → Int64) (x1 : Int32) (x2 : Int32) : Option (Int32 × Int32 × Int32 × (Nat → Int32) × (Nat → Int32) × (Nat → Int32) × (Nat → Int64)) := (f_M_isSign x2).bind (fun o_9 => if o_9 = (0 : Int32) then some ((-1 : Int32), mto, mlr, mki, mbe, men, mwo) else (f_M_add mto mki mbe men mwo (4 : Int32) x1 (x1 + (1 : Int32)) x2.toInt64).bind (fun o_11 => some (x1 + (1 : Int32), o_11.1, mlr, o_11.2.1, o_11.2.2.1, o_11.2.2.2.1, o_11.2.2.2.2)))
def f_M_next_j216 (mle : Int32) (mto : Int32) (mlr : Int32) (mli : Nat → Int32) (mki : Nat → Int32) (mbe : Nat → Int32) (men : Nat → Int32) (mwo : Nat → Int64) (x1 : Int32) (x2 : Int32) : Option (Int32 × Int32 × Int32 × (Nat → Int32) × (Nat → Int32) × (Nat → Int32) × (Nat → Int64)) := if mle ≤ (x1 + (1 : Int32)) then f_M_next_j266 mle mto mlr mli mki mbe men mwo x1 x2 else gi (x1 + (1 : Int32)) 1024 (if (mli (x1 + (1 : Int32)).toNatClampNeg) = x2 then if x2 = (60 : Int32) then (f_M_add mto mki mbe men mwo (4 : Int32) x1 (x1 + (2 : Int32)) (256 : Int64)).bind (fun o_15 => some (x1 + (2 : Int32), o_15.1, mlr, o_15.2.1, o_15.2.2.1, o_15.2.2.2.1, o_15.2.2.2.2)) else (f_M_add mto mki mbe men mwo (4 : Int32) x1 (x1 + (2 : Int32)) (257 : Int64)).bind (fun o_14 => some (x1 + (2 : Int32), o_14.1, mlr, o_14.2.1, o_14.2.2.1, o_14.2.2.2.1, o_14.2.2.2.2)) else f_M_next_j266 mle mto mlr mli mki mbe men mwo x1 x2)
def f_M_next_l142_j176 (k : Int32 → Int32 → Int32 → (Nat → Int32) → (Nat → Int32) → (Nat → Int32) → (Nat → Int32) → (Nat → Int64) → Int32 → Int32 → Option (Int32 × Int32 × Int32 × (Nat → Int32) × (Nat → Int32) × (Nat → Int32) × (Nat → Int64))) (mle : Int32) (mto : Int32) (mlr : Int32) (mli : Nat → Int32) (mki : Nat → Int32) (mbe : Nat → Int32) (men : Nat → Int32) (mwo : Nat → Int64) (x1 : Int32) (x3 : Int32) : Option (Int32 × Int32 × Int32 × (Nat → Int32) × (Nat → Int32) × (Nat → Int32) × (Nat → Int64)) := if x3 < (0 : Int32) then some ((-1 : Int32), mto, mlr, mki, mbe, men, mwo) else if x3 < mle then (f_M_add mto mki mbe men mwo (3 : Int32) x1 (x3 + (1 : Int32)) (0 : Int64)).bind (fun o_20 => some (x3 + (1 : Int32), o_20.1, mlr, o_20.2.1, o_20.2.2.1, o_20.2.2.2.1, o_20.2.2.2.2)) else some ((-1 : Int32), mto, mlr, mki, mbe, men, mwo)
def f_M_next_l142 : Nat → Int32 → Int32 → Int32 → (Nat → Int32) → (Nat → Int32) → (Nat → Int32) → (Nat → Int32) → (Nat → Int64) → Int32 → Int32 → Option (Int32 × Int32 × Int32 × (Nat → Int32) × (Nat → Int32) × (Nat → Int32) × (Nat → Int64))
  | 0, _, _, _, _, _, _, _, _, _, _ => none
  | n + 1, mle, mto, mlr, mli, mki, mbe, men, mwo, x1, x3 => if x3 < (0 : Int32) then f_M_next_l142_j176 (f_M_next_l142 n) mle mto mlr mli mki mbe men mwo x1 x3 else if mle ≤ x3 then f_M_next_l142_j176 (f_M_next_l142 n) mle mto mlr mli mki mbe men mwo x1 x3 else gi x3 1024 (if (mli x3.toNatClampNeg) = (34 : Int32) then f_M_next_l142_j176 (f_M_next_l142 n) mle mto mlr mli mki mbe men mwo x1 x3 else (f_M_character mle mlr mli x3 (34 : Int32)).bind (fun o_23 => f_M_next_l142 n mle mto o_23.2 mli mki mbe men mwo x1 o_23.1))
def f_M_next_l29 : Nat → Int32 → Int32 → Int32 → (Nat → Int32) → (Nat → Int32) → (Nat → Int32) → (Nat → Int32) → (Nat → Int64) → Int32 → Int32 → Option (Int32 × Int32 × Int32 × (Nat → Int32) × (Nat → Int32) × (Nat → Int32) × (Nat → Int64))
  | 0, _, _, _, _, _, _, _, _, _, _ => none
  | n + 1, mle, mto, mlr, mli, mki, mbe, men, mwo, x1, x3 => (f_M_isPart mle mli x3).bind (fun o_31 => if o_31 = (0 : Int32) then if (x3 - x1) ≤ (63 : Int32) then (f_M_add mto mki mbe men mwo (1 : Int32) x1 x3 (0 : Int64)).bind (fun o_34 => some (x3, o_34.1, mlr, o_34.2.1, o_34.2.2.1, o_34.2.2.2.1, o_34.2.2.2.2)) else some ((-1 : Int32), mto, mlr, mki, mbe, men, mwo) else f_M_next_l29 n mle mto mlr mli mki mbe men mwo x1 (x3 + (1 : Int32)))
def f_M_next (mle : Int32) (mto : Int32) (mlr : Int32) (mli : Nat → Int32) (mki : Nat → Int32) (mbe : Nat → Int32) (men : Nat → Int32) (mwo : Nat → Int64) (p0 : Int32) : Option (Int32 × Int32 × Int32 × (Nat → Int32) × (Nat → Int32) × (Nat → Int32) × (Nat → Int64)) := gi p0 1024 ((f_M_isDigit (mli p0.toNatClampNeg)).bind (fun o_1 => if o_1 = (0 : Int32) then (f_M_isLetter (mli p0.toNatClampNeg)).bind (fun o_3 => if o_3 = (0 : Int32) then if (mli p0.toNatClampNeg) = (39 : Int32) then (f_M_character mle mlr mli (p0 + (1 : Int32)) (39 : Int32)).bind (fun o_24 => if o_24.1 < (0 : Int32) then some ((-1 : Int32), mto, o_24.2, mki, mbe, men, mwo) else if mle ≤ o_24.1 then some ((-1 : Int32), mto, o_24.2, mki, mbe, men, mwo) else gi o_24.1 1024 (if (mli o_24.1.toNatClampNeg) = (39 : Int32) then (f_M_isPart mle mli (o_24.1 + (1 : Int32))).bind (fun o_28 => if o_28 = (0 : Int32) then (f_M_add mto mki mbe men mwo (2 : Int32) p0 (o_24.1 + (1 : Int32)) o_24.2.toInt64).bind (fun o_30 => some (o_24.1 + (1 : Int32), o_30.1, o_24.2, o_30.2.1, o_30.2.2.1, o_30.2.2.2.1, o_30.2.2.2.2)) else some ((-1 : Int32), mto, o_24.2, mki, mbe, men, mwo)) else some ((-1 : Int32), mto, o_24.2, mki, mbe, men, mwo))) else if (mli p0.toNatClampNeg) = (34 : Int32) then f_M_next_l142 FU mle mto mlr mli mki mbe men mwo p0 (p0 + (1 : Int32)) else if (mli p0.toNatClampNeg) = (60 : Int32) then f_M_next_j216 mle mto mlr mli mki mbe men mwo p0 (mli p0.toNatClampNeg) else if (mli p0.toNatClampNeg) = (62 : Int32) then f_M_next_j216 mle mto mlr mli mki mbe men mwo p0 (mli p0.toNatClampNeg) else f_M_next_j266 mle mto mlr mli mki mbe men mwo p0 (mli p0.toNatClampNeg) else f_M_next_l29 FU mle mto mlr mli mki mbe men mwo p0 p0) else (f_M_number mle mto mli mki mbe men mwo p0).bind (fun o_35 => some (o_35.1, o_35.2.1, mlr, o_35.2.2.1, o_35.2.2.2.1, o_35.2.2.2.2.1, o_35.2.2.2.2.2))))
set_option maxHeartbeats 4000000 in
set_option maxRecDepth 100000 in
theorem c_M_next (l : Launch) (dC : Nat → ClassId) (dI : Nat → Nat → Nat) (bM bLi bLe bNa bNs bSt bCo bKi bBe bEn bWo bSi bPl bMi bVa : Nat) (cLim cKim cBem cEnm cWom : ClassId) (sz : Nat) (mth : Int32) (mle : Int32) (mnm : Int32) (msp : Int32) (mpl : Int32) (mto : Int32) (mlr : Int32) (mma : Int32) (mod : Int32) (mfa : Int32) (mlp : Int32) (mlm : Int32) (mlv : Int64) (mli : Nat → Int32) (mki : Nat → Int32) (mbe : Nat → Int32) (men : Nat → Int32) (mwo : Nat → Int64) (p0 : Int32) (o : Int32 × Int32 × Int32 × (Nat → Int32) × (Nat → Int32) × (Nat → Int32) × (Nat → Int64)) (hf : f_M_next mle mto mlr mli mki mbe men mwo p0 = some o) : Met l y_M_next (w_M_next) ({ frames := 3, cells := 0, slots := 0, locals := 69 }) (va_Pc [.ref bM, .int p0] (fun U => U.heap.size = sz ∧ va_P (dC, dI) vwCl [(bM, .inr (7, [.int mth, .ref bLi, .int mle, .ref bLe, .ref bNa, .ref bNs, .ref bSt, .ref bCo, .int mnm, .int msp, .int mpl, .ref bKi, .ref bBe, .ref bEn, .ref bWo, .int mto, .int mlr, .ref bSi, .ref bPl, .ref bMi, .ref bVa, .int mma, .int mod, .int mfa, .int mlp, .int mlm, .long mlv])), (bLi, .inl (cLim, 1024, .inl mli)), (bKi, .inl (cKim, 1100, .inl mki)), (bBe, .inl (cBem, 1100, .inl mbe)), (bEn, .inl (cEnm, 1100, .inl men)), (bWo, .inl (cWom, 1100, .inr (.inl mwo)))] U.heap ∧ va_K (dC, dI) vwCl [(cLim, .int), (cKim, .int), (cBem, .int), (cEnm, .int), (cWom, .long)] U ∧ va_D (fun _ => True) [(bM, .inr (7, [.int mth, .ref bLi, .int mle, .ref bLe, .ref bNa, .ref bNs, .ref bSt, .ref bCo, .int mnm, .int msp, .int mpl, .ref bKi, .ref bBe, .ref bEn, .ref bWo, .int mto, .int mlr, .ref bSi, .ref bPl, .ref bMi, .ref bVa, .int mma, .int mod, .int mfa, .int mlp, .int mlm, .long mlv])), (bLi, .inl (cLim, 1024, .inl mli)), (bKi, .inl (cKim, 1100, .inl mki)), (bBe, .inl (cBem, 1100, .inl mbe)), (bEn, .inl (cEnm, 1100, .inl men)), (bWo, .inl (cWom, 1100, .inr (.inl mwo)))] ∧ NW U)) (va_Qi (fun (r : Int32) (_ : Unit) => r = o.1) (fun _ t => va_P (dC, dI) vwCl [(bM, .inr (7, [.int mth, .ref bLi, .int mle, .ref bLe, .ref bNa, .ref bNs, .ref bSt, .ref bCo, .int mnm, .int msp, .int mpl, .ref bKi, .ref bBe, .ref bEn, .ref bWo, .int o.2.1, .int o.2.2.1, .ref bSi, .ref bPl, .ref bMi, .ref bVa, .int mma, .int mod, .int mfa, .int mlp, .int mlm, .long mlv])), (bLi, .inl (cLim, 1024, .inl mli)), (bKi, .inl (cKim, 1100, .inl o.2.2.2.1)), (bBe, .inl (cBem, 1100, .inl o.2.2.2.2.1)), (bEn, .inl (cEnm, 1100, .inl o.2.2.2.2.2.1)), (bWo, .inl (cWom, 1100, .inr (.inl o.2.2.2.2.2.2)))] t.heap ∧ va_K (dC, dI) vwCl [(cLim, .int), (cKim, .int), (cBem, .int), (cEnm, .int), (cWom, .long)] t ∧ va_D (va_A [(bM, .inr (7, [.int mth, .ref bLi, .int mle, .ref bLe, .ref bNa, .ref bNs, .ref bSt, .ref bCo, .int mnm, .int msp, .int mpl, .ref bKi, .ref bBe, .ref bEn, .ref bWo, .int mto, .int mlr, .ref bSi, .ref bPl, .ref bMi, .ref bVa, .int mma, .int mod, .int mfa, .int mlp, .int mlm, .long mlv])), (bLi, .inl (cLim, 1024, .inl mli)), (bKi, .inl (cKim, 1100, .inl mki)), (bBe, .inl (cBem, 1100, .inl mbe)), (bEn, .inl (cEnm, 1100, .inl men)), (bWo, .inl (cWom, 1100, .inr (.inl mwo)))] sz) [(bM, .inr (7, [.int mth, .ref bLi, .int mle, .ref bLe, .ref bNa, .ref bNs, .ref bSt, .ref bCo, .int mnm, .int msp, .int mpl, .ref bKi, .ref bBe, .ref bEn, .ref bWo, .int o.2.1, .int o.2.2.1, .ref bSi, .ref bPl, .ref bMi, .ref bVa, .int mma, .int mod, .int mfa, .int mlp, .int mlm, .long mlv])), (bLi, .inl (cLim, 1024, .inl mli)), (bKi, .inl (cKim, 1100, .inl o.2.2.2.1)), (bBe, .inl (cBem, 1100, .inl o.2.2.2.2.1)), (bEn, .inl (cEnm, 1100, .inl o.2.2.2.2.2.1)), (bWo, .inl (cWom, 1100, .inr (.inl o.2.2.2.2.2.2)))]) (va_A [(bM, .inr (7, [.int mth, .ref bLi, .int mle, .ref bLe, .ref bNa, .ref bNs, .ref bSt, .ref bCo, .int mnm, .int msp, .int mpl, .ref bKi, .ref bBe, .ref bEn, .ref bWo, .int mto, .int mlr, .ref bSi, .ref bPl, .ref bMi, .ref bVa, .int mma, .int mod, .int mfa, .int mlp, .int mlm, .long mlv])), (bLi, .inl (cLim, 1024, .inl mli)), (bKi, .inl (cKim, 1100, .inl mki)), (bBe, .inl (cBem, 1100, .inl mbe)), (bEn, .inl (cEnm, 1100, .inl men)), (bWo, .inl (cWom, 1100, .inr (.inl mwo)))] sz)) 0 0 (va_A [(bM, .inr (7, [.int mth, .ref bLi, .int mle, .ref bLe, .ref bNa, .ref bNs, .ref bSt, .ref bCo, .int mnm, .int msp, .int mpl, .ref bKi, .ref bBe, .ref bEn, .ref bWo, .int mto, .int mlr, .ref bSi, .ref bPl, .ref bMi, .ref bVa, .int mma, .int mod, .int mfa, .int mlp, .int mlm, .long mlv])), (bLi, .inl (cLim, 1024, .inl mli)), (bKi, .inl (cKim, 1100, .inl mki)), (bBe, .inl (cBem, 1100, .inl mbe)), (bEn, .inl (cEnm, 1100, .inl men)), (bWo, .inl (cWom, 1100, .inr (.inl mwo)))] sz) := by
  refine Met.ofW (cc := b_M_next) (maxL := 4) (ret := (some .int)) (by decide) rfl ?_
  intro p e s m args below meth c s₁ B hml hv
  obtain ⟨rfl, hsz, hP, hK, hD0, hN⟩ := hv
  have hx := B.exec
  have hb := B.bytes
  have hr := B.returns
  have hts : ∀ w ∈ WB, w.before _ s = true := fun w h => atoms_spec (ws := w_M_next) B.pre w (List.mem_cons_of_mem _ h)
  have hown : s.vm.findClass R_M = some m.cls := findClass_of_methodNamed B.named
  have hlocks := B.notSynchronized
  subst hsz
  have hD := hD0.self (sz := s.heap.size)
  generalize hAe : va_A [(bM, .inr (7, [.int mth, .ref bLi, .int mle, .ref bLe, .ref bNa, .ref bNs, .ref bSt, .ref bCo, .int mnm, .int msp, .int mpl, .ref bKi, .ref bBe, .ref bEn, .ref bWo, .int mto, .int mlr, .ref bSi, .ref bPl, .ref bMi, .ref bVa, .int mma, .int mod, .int mfa, .int mlp, .int mlm, .long mlv])), (bLi, .inl (cLim, 1024, .inl mli)), (bKi, .inl (cKim, 1100, .inl mki)), (bBe, .inl (cBem, 1100, .inl mbe)), (bEn, .inl (cEnm, 1100, .inl men)), (bWo, .inl (cWom, 1100, .inr (.inl mwo)))] s.heap.size = A at hD ⊢
  have hA : ∀ q : Nat, s.heap.size ≤ q → A q := fun q h => by rw [← hAe]; exact Or.inr h
  have hS : va_S A s.heap s.heap [] := va_S.rf
  have hP : va_P (dC, dI) vwCl [(bM, .inr (7, [.int mth, .ref bLi, .int mle, .ref bLe, .ref bNa, .ref bNs, .ref bSt, .ref bCo, .int mnm, .int msp, .int mpl, .ref bKi, .ref bBe, .ref bEn, .ref bWo, .int mto, .int mlr, .ref bSi, .ref bPl, .ref bMi, .ref bVa, .int mma, .int mod, .int mfa, .int mlp, .int mlm, .long mlv])), (bLi, .inl (cLim, 1024, .inl mli)), (bKi, .inl (cKim, 1100, .inl mki)), (bBe, .inl (cBem, 1100, .inl mbe)), (bEn, .inl (cEnm, 1100, .inl men)), (bWo, .inl (cWom, 1100, .inr (.inl mwo)))] s.heap := hP
  have hl := lv_entry [.ref bM, .int p0] (n := 4) (Nat.le_of_ble_eq_true rfl)
  rw [lg_entry_eq]
  generalize (lg_sl [.ref bM, .int p0] ++ List.replicate (4 - (lg_sl [.ref bM, .int p0]).length) Slot.unset).toArray = ls at hl ⊢
  have hl : lv_has ls 4 [(0, .ref bM), (1, .int p0)] := hl
  have loop_142 : ∀ (n : Nat) (mle : Int32) (mto : Int32) (mlr : Int32) (mli : Nat → Int32) (mki : Nat → Int32) (mbe : Nat → Int32) (men : Nat → Int32) (mwo : Nat → Int64) (x1 : Int32) (x3 : Int32) (H : Heap) (locs : List Loc) (ls : Array Slot), f_M_next_l142 n mle mto mlr mli mki mbe men mwo x1 x3 = some o → va_P (dC, dI) vwCl [(bM, .inr (7, [.int mth, .ref bLi, .int mle, .ref bLe, .ref bNa, .ref bNs, .ref bSt, .ref bCo, .int mnm, .int msp, .int mpl, .ref bKi, .ref bBe, .ref bEn, .ref bWo, .int mto, .int mlr, .ref bSi, .ref bPl, .ref bMi, .ref bVa, .int mma, .int mod, .int mfa, .int mlp, .int mlm, .long mlv])), (bLi, .inl (cLim, 1024, .inl mli)), (bKi, .inl (cKim, 1100, .inl mki)), (bBe, .inl (cBem, 1100, .inl mbe)), (bEn, .inl (cEnm, 1100, .inl men)), (bWo, .inl (cWom, 1100, .inr (.inl mwo)))] H → va_D A [(bM, .inr (7, [.int mth, .ref bLi, .int mle, .ref bLe, .ref bNa, .ref bNs, .ref bSt, .ref bCo, .int mnm, .int msp, .int mpl, .ref bKi, .ref bBe, .ref bEn, .ref bWo, .int mto, .int mlr, .ref bSi, .ref bPl, .ref bMi, .ref bVa, .int mma, .int mod, .int mfa, .int mlp, .int mlm, .long mlv])), (bLi, .inl (cLim, 1024, .inl mli)), (bKi, .inl (cKim, 1100, .inl mki)), (bBe, .inl (cBem, 1100, .inl mbe)), (bEn, .inl (cEnm, 1100, .inl men)), (bWo, .inl (cWom, 1100, .inr (.inl mwo)))] → va_S A s.heap H locs → lv_has ls 4 [(0, .ref bM), (1, .int x1), (3, .int x3)] → W p l e (headSpec (w_M_next) ({ frames := 3, cells := 0, slots := 0, locals := 69 })).room s m [.ref bM, .int p0].toArray below meth c H locs 0 0 (MQ below (va_Qi (fun (r : Int32) (_ : Unit) => r = o.1) (fun _ t => va_P (dC, dI) vwCl [(bM, .inr (7, [.int mth, .ref bLi, .int mle, .ref bLe, .ref bNa, .ref bNs, .ref bSt, .ref bCo, .int mnm, .int msp, .int mpl, .ref bKi, .ref bBe, .ref bEn, .ref bWo, .int o.2.1, .int o.2.2.1, .ref bSi, .ref bPl, .ref bMi, .ref bVa, .int mma, .int mod, .int mfa, .int mlp, .int mlm, .long mlv])), (bLi, .inl (cLim, 1024, .inl mli)), (bKi, .inl (cKim, 1100, .inl o.2.2.2.1)), (bBe, .inl (cBem, 1100, .inl o.2.2.2.2.1)), (bEn, .inl (cEnm, 1100, .inl o.2.2.2.2.2.1)), (bWo, .inl (cWom, 1100, .inr (.inl o.2.2.2.2.2.2)))] t.heap ∧ va_K (dC, dI) vwCl [(cLim, .int), (cKim, .int), (cBem, .int), (cEnm, .int), (cWom, .long)] t ∧ va_D A [(bM, .inr (7, [.int mth, .ref bLi, .int mle, .ref bLe, .ref bNa, .ref bNs, .ref bSt, .ref bCo, .int mnm, .int msp, .int mpl, .ref bKi, .ref bBe, .ref bEn, .ref bWo, .int o.2.1, .int o.2.2.1, .ref bSi, .ref bPl, .ref bMi, .ref bVa, .int mma, .int mod, .int mfa, .int mlp, .int mlm, .long mlv])), (bLi, .inl (cLim, 1024, .inl mli)), (bKi, .inl (cKim, 1100, .inl o.2.2.2.1)), (bBe, .inl (cBem, 1100, .inl o.2.2.2.2.1)), (bEn, .inl (cEnm, 1100, .inl o.2.2.2.2.2.1)), (bWo, .inl (cWom, 1100, .inr (.inl o.2.2.2.2.2.2)))]) A) [.ref bM, .int p0].toArray s 0 0 A) (F0 m 142 ls []) := by
    intro n
    induction n with
    | zero => intro mle mto mlr mli mki mbe men mwo x1 x3 H locs ls hf; exact absurd hf (by simp [f_M_next_l142])
    | succ n ih =>
      have join_176 : ∀ (mle : Int32) (mto : Int32) (mlr : Int32) (mli : Nat → Int32) (mki : Nat → Int32) (mbe : Nat → Int32) (men : Nat → Int32) (mwo : Nat → Int64) (x1 : Int32) (x3 : Int32) (H : Heap) (locs : List Loc) (ls : Array Slot), f_M_next_l142_j176 (f_M_next_l142 n) mle mto mlr mli mki mbe men mwo x1 x3 = some o → va_P (dC, dI) vwCl [(bM, .inr (7, [.int mth, .ref bLi, .int mle, .ref bLe, .ref bNa, .ref bNs, .ref bSt, .ref bCo, .int mnm, .int msp, .int mpl, .ref bKi, .ref bBe, .ref bEn, .ref bWo, .int mto, .int mlr, .ref bSi, .ref bPl, .ref bMi, .ref bVa, .int mma, .int mod, .int mfa, .int mlp, .int mlm, .long mlv])), (bLi, .inl (cLim, 1024, .inl mli)), (bKi, .inl (cKim, 1100, .inl mki)), (bBe, .inl (cBem, 1100, .inl mbe)), (bEn, .inl (cEnm, 1100, .inl men)), (bWo, .inl (cWom, 1100, .inr (.inl mwo)))] H → va_D A [(bM, .inr (7, [.int mth, .ref bLi, .int mle, .ref bLe, .ref bNa, .ref bNs, .ref bSt, .ref bCo, .int mnm, .int msp, .int mpl, .ref bKi, .ref bBe, .ref bEn, .ref bWo, .int mto, .int mlr, .ref bSi, .ref bPl, .ref bMi, .ref bVa, .int mma, .int mod, .int mfa, .int mlp, .int mlm, .long mlv])), (bLi, .inl (cLim, 1024, .inl mli)), (bKi, .inl (cKim, 1100, .inl mki)), (bBe, .inl (cBem, 1100, .inl mbe)), (bEn, .inl (cEnm, 1100, .inl men)), (bWo, .inl (cWom, 1100, .inr (.inl mwo)))] → va_S A s.heap H locs → lv_has ls 4 [(0, .ref bM), (1, .int x1), (3, .int x3)] → W p l e (headSpec (w_M_next) ({ frames := 3, cells := 0, slots := 0, locals := 69 })).room s m [.ref bM, .int p0].toArray below meth c H locs 0 0 (MQ below (va_Qi (fun (r : Int32) (_ : Unit) => r = o.1) (fun _ t => va_P (dC, dI) vwCl [(bM, .inr (7, [.int mth, .ref bLi, .int mle, .ref bLe, .ref bNa, .ref bNs, .ref bSt, .ref bCo, .int mnm, .int msp, .int mpl, .ref bKi, .ref bBe, .ref bEn, .ref bWo, .int o.2.1, .int o.2.2.1, .ref bSi, .ref bPl, .ref bMi, .ref bVa, .int mma, .int mod, .int mfa, .int mlp, .int mlm, .long mlv])), (bLi, .inl (cLim, 1024, .inl mli)), (bKi, .inl (cKim, 1100, .inl o.2.2.2.1)), (bBe, .inl (cBem, 1100, .inl o.2.2.2.2.1)), (bEn, .inl (cEnm, 1100, .inl o.2.2.2.2.2.1)), (bWo, .inl (cWom, 1100, .inr (.inl o.2.2.2.2.2.2)))] t.heap ∧ va_K (dC, dI) vwCl [(cLim, .int), (cKim, .int), (cBem, .int), (cEnm, .int), (cWom, .long)] t ∧ va_D A [(bM, .inr (7, [.int mth, .ref bLi, .int mle, .ref bLe, .ref bNa, .ref bNs, .ref bSt, .ref bCo, .int mnm, .int msp, .int mpl, .ref bKi, .ref bBe, .ref bEn, .ref bWo, .int o.2.1, .int o.2.2.1, .ref bSi, .ref bPl, .ref bMi, .ref bVa, .int mma, .int mod, .int mfa, .int mlp, .int mlm, .long mlv])), (bLi, .inl (cLim, 1024, .inl mli)), (bKi, .inl (cKim, 1100, .inl o.2.2.2.1)), (bBe, .inl (cBem, 1100, .inl o.2.2.2.2.1)), (bEn, .inl (cEnm, 1100, .inl o.2.2.2.2.2.1)), (bWo, .inl (cWom, 1100, .inr (.inl o.2.2.2.2.2.2)))]) A) [.ref bM, .int p0].toArray s 0 0 A) (F0 m 176 ls []) := by
        intro mle mto mlr mli mki mbe men mwo x1 x3 H locs ls hf hP hD hS hl
        rw [f_M_next_l142_j176] at hf
        refine lv_iload_n hx hb d_M_next_176 rfl (lv_at hl 2 rfl) ?_
        refine lv_if_lt (tgt := 188) hx hb d_M_next_177 (by decide) (fun c_18 => ?_) (fun c_18 => ?_)
        · rw [if_pos c_18] at hf
          refine lv_iconst (v := (-1 : Int32)) hx hb d_M_next_188 (by decide) ?_
          have ho := Option.some.inj hf
          subst o
          have hP9 := hP.sub (ws' := [(bM, .inr (7, [.int mth, .ref bLi, .int mle, .ref bLe, .ref bNa, .ref bNs, .ref bSt, .ref bCo, .int mnm, .int msp, .int mpl, .ref bKi, .ref bBe, .ref bEn, .ref bWo, .int mto, .int mlr, .ref bSi, .ref bPl, .ref bMi, .ref bVa, .int mma, .int mod, .int mfa, .int mlp, .int mlm, .long mlv])), (bLi, .inl (cLim, 1024, .inl mli)), (bKi, .inl (cKim, 1100, .inl mki)), (bBe, .inl (cBem, 1100, .inl mbe)), (bEn, .inl (cEnm, 1100, .inl men)), (bWo, .inl (cWom, 1100, .inr (.inl mwo)))]) [0, 1, 2, 3, 4, 5] rfl
          have hD9 := hD.sub (ws' := [(bM, .inr (7, [.int mth, .ref bLi, .int mle, .ref bLe, .ref bNa, .ref bNs, .ref bSt, .ref bCo, .int mnm, .int msp, .int mpl, .ref bKi, .ref bBe, .ref bEn, .ref bWo, .int mto, .int mlr, .ref bSi, .ref bPl, .ref bMi, .ref bVa, .int mma, .int mod, .int mfa, .int mlp, .int mlm, .long mlv])), (bLi, .inl (cLim, 1024, .inl mli)), (bKi, .inl (cKim, 1100, .inl mki)), (bBe, .inl (cBem, 1100, .inl mbe)), (bEn, .inl (cEnm, 1100, .inl men)), (bWo, .inl (cWom, 1100, .inr (.inl mwo)))]) [0, 1, 2, 3, 4, 5] (by decide) rfl
          exact W.iret (v := (-1 : Int32)) hx hb hr (fun t ht hW => ⟨⟨(-1 : Int32), (), rfl, rfl, by rw [ht]; exact hP9, va_K.moved hW.alike hK, hD9⟩, hS.F ht⟩) hS.2.2 d_M_next_189
        · rw [if_neg c_18] at hf
          refine lv_iload_n hx hb d_M_next_180 rfl (lv_at hl 2 rfl) ?_
          refine lv_aload_n hx hb d_M_next_181 rfl (lv_at hl 0 rfl) ?_
          refine va_get (D := (dC, dI)) (ci := 7) (v := .int mle) (C := R_M) (T := F_M) (N := 27) hx hb hts i_M hown hK hP 0 rfl rfl 2 (by decide) (hts _ wb_173) (fun _ h9 => h9) rfl d_M_next_182 ?_
          refine lv_icmp_lt (tgt := 190) hx hb d_M_next_185 (by decide) (fun c_19 => ?_) (fun c_19 => ?_)
          · rw [if_pos c_19] at hf
            refine lv_aload_n hx hb d_M_next_190 rfl (lv_at hl 0 rfl) ?_
            refine lv_iconst (v := (3 : Int32)) hx hb d_M_next_191 (by decide) ?_
            refine lv_iload_n hx hb d_M_next_192 rfl (lv_at hl 1 rfl) ?_
            refine lv_iload_n hx hb d_M_next_193 rfl (lv_at hl 2 rfl) ?_
            refine lv_iconst (v := (1 : Int32)) hx hb d_M_next_194 (by decide) ?_
            refine lv_iadd hx hb d_M_next_195 ?_
            refine lv_lconst (v := (0 : Int64)) hx hb d_M_next_196 (by decide) ?_
            obtain ⟨o_20, hM_20, hf⟩ := bd_some hf
            refine cl_v (wr := [(bLi, .inl (cLim, 1024, .inl mli))]) (va_runV (As := [.int (3 : Int32), .int x1, .int (x3 + (1 : Int32)), .long (0 : Int64)]) (rest := []) ⟨hx, hb, hml, hown, hts⟩ (c_M_add l dC dI bM bLi bLe bNa bNs bSt bCo bKi bBe bEn bWo bSi bPl bMi bVa cKim cBem cEnm cWom H.size mth mle mnm msp mpl mto mlr mma mod mfa mlp mlm mlv mki mbe men mwo (3 : Int32) x1 (x3 + (1 : Int32)) (0 : Int64) o_20 hM_20) (cwV 4 hts (gwV wb_197 wb_199 wb_200 wb_179 wb_198) rfl rfl rfl (by decide +kernel) ⟨Nat.le_of_ble_eq_true rfl, Nat.le_of_ble_eq_true rfl⟩) (pr_V (hP.sub [0, 2, 3, 4, 5] rfl) (hD.sub [0, 2, 3, 4, 5] (by decide) rfl) hK hN [1, 2, 3, 4] rfl (ci := 7) rfl rfl rfl) rfl rfl hl.1 rfl (lv_room (Nat.le_of_ble_eq_true rfl)) d_M_next_197 ⟨Nat.zero_le _, Nat.zero_le _⟩) hP hD hS hA [0, 2, 3, 4, 5] [1] rfl rfl (by decide) (by decide) (fun H locs hw hP hD hS => ?_)
            have hP : va_P (dC, dI) vwCl [(bLi, .inl (cLim, 1024, .inl mli)), (bM, .inr (7, [.int mth, .ref bLi, .int mle, .ref bLe, .ref bNa, .ref bNs, .ref bSt, .ref bCo, .int mnm, .int msp, .int mpl, .ref bKi, .ref bBe, .ref bEn, .ref bWo, .int o_20.1, .int mlr, .ref bSi, .ref bPl, .ref bMi, .ref bVa, .int mma, .int mod, .int mfa, .int mlp, .int mlm, .long mlv])), (bKi, .inl (cKim, 1100, .inl o_20.2.1)), (bBe, .inl (cBem, 1100, .inl o_20.2.2.1)), (bEn, .inl (cEnm, 1100, .inl o_20.2.2.2.1)), (bWo, .inl (cWom, 1100, .inr (.inl o_20.2.2.2.2)))] H := hP
            have hD : va_D A [(bLi, .inl (cLim, 1024, .inl mli)), (bM, .inr (7, [.int mth, .ref bLi, .int mle, .ref bLe, .ref bNa, .ref bNs, .ref bSt, .ref bCo, .int mnm, .int msp, .int mpl, .ref bKi, .ref bBe, .ref bEn, .ref bWo, .int o_20.1, .int mlr, .ref bSi, .ref bPl, .ref bMi, .ref bVa, .int mma, .int mod, .int mfa, .int mlp, .int mlm, .long mlv])), (bKi, .inl (cKim, 1100, .inl o_20.2.1)), (bBe, .inl (cBem, 1100, .inl o_20.2.2.1)), (bEn, .inl (cEnm, 1100, .inl o_20.2.2.2.1)), (bWo, .inl (cWom, 1100, .inr (.inl o_20.2.2.2.2)))] := hD
            refine lv_iload_n hx hb d_M_next_200 rfl (lv_at hl 2 rfl) ?_
            refine lv_iconst (v := (1 : Int32)) hx hb d_M_next_201 (by decide) ?_
            refine lv_iadd hx hb d_M_next_202 ?_
            have ho := Option.some.inj hf
            subst o
            have hP9 := hP.sub (ws' := [(bM, .inr (7, [.int mth, .ref bLi, .int mle, .ref bLe, .ref bNa, .ref bNs, .ref bSt, .ref bCo, .int mnm, .int msp, .int mpl, .ref bKi, .ref bBe, .ref bEn, .ref bWo, .int o_20.1, .int mlr, .ref bSi, .ref bPl, .ref bMi, .ref bVa, .int mma, .int mod, .int mfa, .int mlp, .int mlm, .long mlv])), (bLi, .inl (cLim, 1024, .inl mli)), (bKi, .inl (cKim, 1100, .inl o_20.2.1)), (bBe, .inl (cBem, 1100, .inl o_20.2.2.1)), (bEn, .inl (cEnm, 1100, .inl o_20.2.2.2.1)), (bWo, .inl (cWom, 1100, .inr (.inl o_20.2.2.2.2)))]) [1, 0, 2, 3, 4, 5] rfl
            have hD9 := hD.sub (ws' := [(bM, .inr (7, [.int mth, .ref bLi, .int mle, .ref bLe, .ref bNa, .ref bNs, .ref bSt, .ref bCo, .int mnm, .int msp, .int mpl, .ref bKi, .ref bBe, .ref bEn, .ref bWo, .int o_20.1, .int mlr, .ref bSi, .ref bPl, .ref bMi, .ref bVa, .int mma, .int mod, .int mfa, .int mlp, .int mlm, .long mlv])), (bLi, .inl (cLim, 1024, .inl mli)), (bKi, .inl (cKim, 1100, .inl o_20.2.1)), (bBe, .inl (cBem, 1100, .inl o_20.2.2.1)), (bEn, .inl (cEnm, 1100, .inl o_20.2.2.2.1)), (bWo, .inl (cWom, 1100, .inr (.inl o_20.2.2.2.2)))]) [1, 0, 2, 3, 4, 5] (by decide) rfl
            exact W.iret (v := x3 + (1 : Int32)) hx hb hr (fun t ht hW => ⟨⟨x3 + (1 : Int32), (), rfl, rfl, by rw [ht]; exact hP9, va_K.moved hW.alike hK, hD9⟩, hS.F ht⟩) hS.2.2 d_M_next_203
          · rw [if_neg c_19] at hf
            refine lv_iconst (v := (-1 : Int32)) hx hb d_M_next_188 (by decide) ?_
            have ho := Option.some.inj hf
            subst o
            have hP9 := hP.sub (ws' := [(bM, .inr (7, [.int mth, .ref bLi, .int mle, .ref bLe, .ref bNa, .ref bNs, .ref bSt, .ref bCo, .int mnm, .int msp, .int mpl, .ref bKi, .ref bBe, .ref bEn, .ref bWo, .int mto, .int mlr, .ref bSi, .ref bPl, .ref bMi, .ref bVa, .int mma, .int mod, .int mfa, .int mlp, .int mlm, .long mlv])), (bLi, .inl (cLim, 1024, .inl mli)), (bKi, .inl (cKim, 1100, .inl mki)), (bBe, .inl (cBem, 1100, .inl mbe)), (bEn, .inl (cEnm, 1100, .inl men)), (bWo, .inl (cWom, 1100, .inr (.inl mwo)))]) [0, 1, 2, 3, 4, 5] rfl
            have hD9 := hD.sub (ws' := [(bM, .inr (7, [.int mth, .ref bLi, .int mle, .ref bLe, .ref bNa, .ref bNs, .ref bSt, .ref bCo, .int mnm, .int msp, .int mpl, .ref bKi, .ref bBe, .ref bEn, .ref bWo, .int mto, .int mlr, .ref bSi, .ref bPl, .ref bMi, .ref bVa, .int mma, .int mod, .int mfa, .int mlp, .int mlm, .long mlv])), (bLi, .inl (cLim, 1024, .inl mli)), (bKi, .inl (cKim, 1100, .inl mki)), (bBe, .inl (cBem, 1100, .inl mbe)), (bEn, .inl (cEnm, 1100, .inl men)), (bWo, .inl (cWom, 1100, .inr (.inl mwo)))]) [0, 1, 2, 3, 4, 5] (by decide) rfl
            exact W.iret (v := (-1 : Int32)) hx hb hr (fun t ht hW => ⟨⟨(-1 : Int32), (), rfl, rfl, by rw [ht]; exact hP9, va_K.moved hW.alike hK, hD9⟩, hS.F ht⟩) hS.2.2 d_M_next_189
      intro mle mto mlr mli mki mbe men mwo x1 x3 H locs ls hf hP hD hS hl
      rw [f_M_next_l142] at hf
      refine lv_iload_n hx hb d_M_next_142 rfl (lv_at hl 2 rfl) ?_
      refine lv_if_lt (tgt := 176) hx hb d_M_next_143 (by decide) (fun c_17 => ?_) (fun c_17 => ?_)
      · rw [if_pos c_17] at hf
        exact join_176 mle mto mlr mli mki mbe men mwo x1 x3 H locs ls hf (hP.sub (ws' := [(bM, .inr (7, [.int mth, .ref bLi, .int mle, .ref bLe, .ref bNa, .ref bNs, .ref bSt, .ref bCo, .int mnm, .int msp, .int mpl, .ref bKi, .ref bBe, .ref bEn, .ref bWo, .int mto, .int mlr, .ref bSi, .ref bPl, .ref bMi, .ref bVa, .int mma, .int mod, .int mfa, .int mlp, .int mlm, .long mlv])), (bLi, .inl (cLim, 1024, .inl mli)), (bKi, .inl (cKim, 1100, .inl mki)), (bBe, .inl (cBem, 1100, .inl mbe)), (bEn, .inl (cEnm, 1100, .inl men)), (bWo, .inl (cWom, 1100, .inr (.inl mwo)))]) [0, 1, 2, 3, 4, 5] rfl) (hD.sub (ws' := [(bM, .inr (7, [.int mth, .ref bLi, .int mle, .ref bLe, .ref bNa, .ref bNs, .ref bSt, .ref bCo, .int mnm, .int msp, .int mpl, .ref bKi, .ref bBe, .ref bEn, .ref bWo, .int mto, .int mlr, .ref bSi, .ref bPl, .ref bMi, .ref bVa, .int mma, .int mod, .int mfa, .int mlp, .int mlm, .long mlv])), (bLi, .inl (cLim, 1024, .inl mli)), (bKi, .inl (cKim, 1100, .inl mki)), (bBe, .inl (cBem, 1100, .inl mbe)), (bEn, .inl (cEnm, 1100, .inl men)), (bWo, .inl (cWom, 1100, .inr (.inl mwo)))]) [0, 1, 2, 3, 4, 5] (by decide) rfl) hS (lv_sub hl [0, 1, 2] rfl)
      · rw [if_neg c_17] at hf
        refine lv_iload_n hx hb d_M_next_146 rfl (lv_at hl 2 rfl) ?_
        refine lv_aload_n hx hb d_M_next_147 rfl (lv_at hl 0 rfl) ?_
        refine va_get (D := (dC, dI)) (ci := 7) (v := .int mle) (C := R_M) (T := F_M) (N := 27) hx hb hts i_M hown hK hP 0 rfl rfl 2 (by decide) (hts _ wb_173) (fun _ h9 => h9) rfl d_M_next_148 ?_
        refine lv_icmp_ge (tgt := 176) hx hb d_M_next_151 (by decide) (fun c_21 => ?_) (fun c_21 => ?_)
        · rw [if_pos c_21] at hf
          exact join_176 mle mto mlr mli mki mbe men mwo x1 x3 H locs ls hf (hP.sub (ws' := [(bM, .inr (7, [.int mth, .ref bLi, .int mle, .ref bLe, .ref bNa, .ref bNs, .ref bSt, .ref bCo, .int mnm, .int msp, .int mpl, .ref bKi, .ref bBe, .ref bEn, .ref bWo, .int mto, .int mlr, .ref bSi, .ref bPl, .ref bMi, .ref bVa, .int mma, .int mod, .int mfa, .int mlp, .int mlm, .long mlv])), (bLi, .inl (cLim, 1024, .inl mli)), (bKi, .inl (cKim, 1100, .inl mki)), (bBe, .inl (cBem, 1100, .inl mbe)), (bEn, .inl (cEnm, 1100, .inl men)), (bWo, .inl (cWom, 1100, .inr (.inl mwo)))]) [0, 1, 2, 3, 4, 5] rfl) (hD.sub (ws' := [(bM, .inr (7, [.int mth, .ref bLi, .int mle, .ref bLe, .ref bNa, .ref bNs, .ref bSt, .ref bCo, .int mnm, .int msp, .int mpl, .ref bKi, .ref bBe, .ref bEn, .ref bWo, .int mto, .int mlr, .ref bSi, .ref bPl, .ref bMi, .ref bVa, .int mma, .int mod, .int mfa, .int mlp, .int mlm, .long mlv])), (bLi, .inl (cLim, 1024, .inl mli)), (bKi, .inl (cKim, 1100, .inl mki)), (bBe, .inl (cBem, 1100, .inl mbe)), (bEn, .inl (cEnm, 1100, .inl men)), (bWo, .inl (cWom, 1100, .inr (.inl mwo)))]) [0, 1, 2, 3, 4, 5] (by decide) rfl) hS (lv_sub hl [0, 1, 2] rfl)
        · rw [if_neg c_21] at hf
          refine lv_aload_n hx hb d_M_next_154 rfl (lv_at hl 0 rfl) ?_
          refine va_get (D := (dC, dI)) (ci := 7) (v := .ref bLi) (C := R_M) (T := F_M) (N := 27) hx hb hts i_M hown hK hP 0 rfl rfl 1 (by decide) (hts _ wb_174) (fun _ h9 => h9) rfl d_M_next_155 ?_
          refine lv_iload_n hx hb d_M_next_158 rfl (lv_at hl 2 rfl) ?_
          obtain ⟨hin, hf⟩ := gi_some hf
          refine va_iald hx hb hK hP 1 0 rfl rfl hin d_M_next_159 ?_
          refine lv_bipush (v := (34 : Int32)) hx hb d_M_next_160 (by decide) ?_
          refine lv_icmp_eq (tgt := 176) hx hb d_M_next_162 (by decide) (fun c_22 => ?_) (fun c_22 => ?_)
          · rw [if_pos c_22] at hf
            exact join_176 mle mto mlr mli mki mbe men mwo x1 x3 H locs ls hf (hP.sub (ws' := [(bM, .inr (7, [.int mth, .ref bLi, .int mle, .ref bLe, .ref bNa, .ref bNs, .ref bSt, .ref bCo, .int mnm, .int msp, .int mpl, .ref bKi, .ref bBe, .ref bEn, .ref bWo, .int mto, .int mlr, .ref bSi, .ref bPl, .ref bMi, .ref bVa, .int mma, .int mod, .int mfa, .int mlp, .int mlm, .long mlv])), (bLi, .inl (cLim, 1024, .inl mli)), (bKi, .inl (cKim, 1100, .inl mki)), (bBe, .inl (cBem, 1100, .inl mbe)), (bEn, .inl (cEnm, 1100, .inl men)), (bWo, .inl (cWom, 1100, .inr (.inl mwo)))]) [0, 1, 2, 3, 4, 5] rfl) (hD.sub (ws' := [(bM, .inr (7, [.int mth, .ref bLi, .int mle, .ref bLe, .ref bNa, .ref bNs, .ref bSt, .ref bCo, .int mnm, .int msp, .int mpl, .ref bKi, .ref bBe, .ref bEn, .ref bWo, .int mto, .int mlr, .ref bSi, .ref bPl, .ref bMi, .ref bVa, .int mma, .int mod, .int mfa, .int mlp, .int mlm, .long mlv])), (bLi, .inl (cLim, 1024, .inl mli)), (bKi, .inl (cKim, 1100, .inl mki)), (bBe, .inl (cBem, 1100, .inl mbe)), (bEn, .inl (cEnm, 1100, .inl men)), (bWo, .inl (cWom, 1100, .inr (.inl mwo)))]) [0, 1, 2, 3, 4, 5] (by decide) rfl) hS (lv_sub hl [0, 1, 2] rfl)
          · rw [if_neg c_22] at hf
            refine lv_aload_n hx hb d_M_next_165 rfl (lv_at hl 0 rfl) ?_
            refine lv_iload_n hx hb d_M_next_166 rfl (lv_at hl 2 rfl) ?_
            refine lv_bipush (v := (34 : Int32)) hx hb d_M_next_167 (by decide) ?_
            obtain ⟨o_23, hM_23, hf⟩ := bd_some hf
            refine cl_i (wr := [(bKi, .inl (cKim, 1100, .inl mki)), (bBe, .inl (cBem, 1100, .inl mbe)), (bEn, .inl (cEnm, 1100, .inl men)), (bWo, .inl (cWom, 1100, .inr (.inl mwo)))]) (va_runV (As := [.int x3, .int (34 : Int32)]) (rest := []) ⟨hx, hb, hml, hown, hts⟩ (c_M_character l dC dI bM bLi bLe bNa bNs bSt bCo bKi bBe bEn bWo bSi bPl bMi bVa cLim H.size mth mle mnm msp mpl mto mlr mma mod mfa mlp mlm mlv mli x3 (34 : Int32) o_23 hM_23) (cwV 2 hts (gwV wb_210 wb_212 wb_213 wb_179 wb_211) rfl rfl rfl (by decide +kernel) ⟨Nat.le_of_ble_eq_true rfl, Nat.le_of_ble_eq_true rfl⟩) (pr_V (hP.sub [0, 1] rfl) (hD.sub [0, 1] (by decide) rfl) hK hN [0] rfl (ci := 7) rfl rfl rfl) rfl rfl hl.1 rfl (lv_room (Nat.le_of_ble_eq_true rfl)) d_M_next_169 ⟨Nat.zero_le _, Nat.zero_le _⟩) hP hD hS hA [0, 1] [2, 3, 4, 5] rfl rfl (by decide) (by decide) (fun r_23 H locs hw hP hD hS => ?_)
            subst r_23
            have hP : va_P (dC, dI) vwCl [(bKi, .inl (cKim, 1100, .inl mki)), (bBe, .inl (cBem, 1100, .inl mbe)), (bEn, .inl (cEnm, 1100, .inl men)), (bWo, .inl (cWom, 1100, .inr (.inl mwo))), (bM, .inr (7, [.int mth, .ref bLi, .int mle, .ref bLe, .ref bNa, .ref bNs, .ref bSt, .ref bCo, .int mnm, .int msp, .int mpl, .ref bKi, .ref bBe, .ref bEn, .ref bWo, .int mto, .int o_23.2, .ref bSi, .ref bPl, .ref bMi, .ref bVa, .int mma, .int mod, .int mfa, .int mlp, .int mlm, .long mlv])), (bLi, .inl (cLim, 1024, .inl mli))] H := hP
            have hD : va_D A [(bKi, .inl (cKim, 1100, .inl mki)), (bBe, .inl (cBem, 1100, .inl mbe)), (bEn, .inl (cEnm, 1100, .inl men)), (bWo, .inl (cWom, 1100, .inr (.inl mwo))), (bM, .inr (7, [.int mth, .ref bLi, .int mle, .ref bLe, .ref bNa, .ref bNs, .ref bSt, .ref bCo, .int mnm, .int msp, .int mpl, .ref bKi, .ref bBe, .ref bEn, .ref bWo, .int mto, .int o_23.2, .ref bSi, .ref bPl, .ref bMi, .ref bVa, .int mma, .int mod, .int mfa, .int mlp, .int mlm, .long mlv])), (bLi, .inl (cLim, 1024, .inl mli))] := hD
            refine lv_istore_n (lv' := [(3, .int o_23.1), (0, .ref bM), (1, .int x1)]) hx hb d_M_next_172 rfl hl (by decide) rfl (fun ls hl => ?_)
            refine lv_goto (tgt := 142) hx hb d_M_next_173 (by decide) ?_
            exact ih mle mto o_23.2 mli mki mbe men mwo x1 o_23.1 H locs ls hf (hP.sub (ws' := [(bM, .inr (7, [.int mth, .ref bLi, .int mle, .ref bLe, .ref bNa, .ref bNs, .ref bSt, .ref bCo, .int mnm, .int msp, .int mpl, .ref bKi, .ref bBe, .ref bEn, .ref bWo, .int mto, .int o_23.2, .ref bSi, .ref bPl, .ref bMi, .ref bVa, .int mma, .int mod, .int mfa, .int mlp, .int mlm, .long mlv])), (bLi, .inl (cLim, 1024, .inl mli)), (bKi, .inl (cKim, 1100, .inl mki)), (bBe, .inl (cBem, 1100, .inl mbe)), (bEn, .inl (cEnm, 1100, .inl men)), (bWo, .inl (cWom, 1100, .inr (.inl mwo)))]) [4, 5, 0, 1, 2, 3] rfl) (hD.sub (ws' := [(bM, .inr (7, [.int mth, .ref bLi, .int mle, .ref bLe, .ref bNa, .ref bNs, .ref bSt, .ref bCo, .int mnm, .int msp, .int mpl, .ref bKi, .ref bBe, .ref bEn, .ref bWo, .int mto, .int o_23.2, .ref bSi, .ref bPl, .ref bMi, .ref bVa, .int mma, .int mod, .int mfa, .int mlp, .int mlm, .long mlv])), (bLi, .inl (cLim, 1024, .inl mli)), (bKi, .inl (cKim, 1100, .inl mki)), (bBe, .inl (cBem, 1100, .inl mbe)), (bEn, .inl (cEnm, 1100, .inl men)), (bWo, .inl (cWom, 1100, .inr (.inl mwo)))]) [4, 5, 0, 1, 2, 3] (by decide) rfl) hS (lv_sub hl [1, 2, 0] rfl)
  have loop_29 : ∀ (n : Nat) (mle : Int32) (mto : Int32) (mlr : Int32) (mli : Nat → Int32) (mki : Nat → Int32) (mbe : Nat → Int32) (men : Nat → Int32) (mwo : Nat → Int64) (x1 : Int32) (x3 : Int32) (H : Heap) (locs : List Loc) (ls : Array Slot), f_M_next_l29 n mle mto mlr mli mki mbe men mwo x1 x3 = some o → va_P (dC, dI) vwCl [(bM, .inr (7, [.int mth, .ref bLi, .int mle, .ref bLe, .ref bNa, .ref bNs, .ref bSt, .ref bCo, .int mnm, .int msp, .int mpl, .ref bKi, .ref bBe, .ref bEn, .ref bWo, .int mto, .int mlr, .ref bSi, .ref bPl, .ref bMi, .ref bVa, .int mma, .int mod, .int mfa, .int mlp, .int mlm, .long mlv])), (bLi, .inl (cLim, 1024, .inl mli)), (bKi, .inl (cKim, 1100, .inl mki)), (bBe, .inl (cBem, 1100, .inl mbe)), (bEn, .inl (cEnm, 1100, .inl men)), (bWo, .inl (cWom, 1100, .inr (.inl mwo)))] H → va_D A [(bM, .inr (7, [.int mth, .ref bLi, .int mle, .ref bLe, .ref bNa, .ref bNs, .ref bSt, .ref bCo, .int mnm, .int msp, .int mpl, .ref bKi, .ref bBe, .ref bEn, .ref bWo, .int mto, .int mlr, .ref bSi, .ref bPl, .ref bMi, .ref bVa, .int mma, .int mod, .int mfa, .int mlp, .int mlm, .long mlv])), (bLi, .inl (cLim, 1024, .inl mli)), (bKi, .inl (cKim, 1100, .inl mki)), (bBe, .inl (cBem, 1100, .inl mbe)), (bEn, .inl (cEnm, 1100, .inl men)), (bWo, .inl (cWom, 1100, .inr (.inl mwo)))] → va_S A s.heap H locs → lv_has ls 4 [(0, .ref bM), (1, .int x1), (3, .int x3)] → W p l e (headSpec (w_M_next) ({ frames := 3, cells := 0, slots := 0, locals := 69 })).room s m [.ref bM, .int p0].toArray below meth c H locs 0 0 (MQ below (va_Qi (fun (r : Int32) (_ : Unit) => r = o.1) (fun _ t => va_P (dC, dI) vwCl [(bM, .inr (7, [.int mth, .ref bLi, .int mle, .ref bLe, .ref bNa, .ref bNs, .ref bSt, .ref bCo, .int mnm, .int msp, .int mpl, .ref bKi, .ref bBe, .ref bEn, .ref bWo, .int o.2.1, .int o.2.2.1, .ref bSi, .ref bPl, .ref bMi, .ref bVa, .int mma, .int mod, .int mfa, .int mlp, .int mlm, .long mlv])), (bLi, .inl (cLim, 1024, .inl mli)), (bKi, .inl (cKim, 1100, .inl o.2.2.2.1)), (bBe, .inl (cBem, 1100, .inl o.2.2.2.2.1)), (bEn, .inl (cEnm, 1100, .inl o.2.2.2.2.2.1)), (bWo, .inl (cWom, 1100, .inr (.inl o.2.2.2.2.2.2)))] t.heap ∧ va_K (dC, dI) vwCl [(cLim, .int), (cKim, .int), (cBem, .int), (cEnm, .int), (cWom, .long)] t ∧ va_D A [(bM, .inr (7, [.int mth, .ref bLi, .int mle, .ref bLe, .ref bNa, .ref bNs, .ref bSt, .ref bCo, .int mnm, .int msp, .int mpl, .ref bKi, .ref bBe, .ref bEn, .ref bWo, .int o.2.1, .int o.2.2.1, .ref bSi, .ref bPl, .ref bMi, .ref bVa, .int mma, .int mod, .int mfa, .int mlp, .int mlm, .long mlv])), (bLi, .inl (cLim, 1024, .inl mli)), (bKi, .inl (cKim, 1100, .inl o.2.2.2.1)), (bBe, .inl (cBem, 1100, .inl o.2.2.2.2.1)), (bEn, .inl (cEnm, 1100, .inl o.2.2.2.2.2.1)), (bWo, .inl (cWom, 1100, .inr (.inl o.2.2.2.2.2.2)))]) A) [.ref bM, .int p0].toArray s 0 0 A) (F0 m 29 ls []) := by
    intro n
    induction n with
    | zero => intro mle mto mlr mli mki mbe men mwo x1 x3 H locs ls hf; exact absurd hf (by simp [f_M_next_l29])
    | succ n ih =>
      intro mle mto mlr mli mki mbe men mwo x1 x3 H locs ls hf hP hD hS hl
      rw [f_M_next_l29] at hf
      refine lv_aload_n hx hb d_M_next_29 rfl (lv_at hl 0 rfl) ?_
      refine lv_iload_n hx hb d_M_next_30 rfl (lv_at hl 2 rfl) ?_
      obtain ⟨o_31, hM_31, hf⟩ := bd_some hf
      refine cr_i (va_runV (As := [.int x3]) (rest := []) ⟨hx, hb, hml, hown, hts⟩ (c_M_isPart l dC dI bM bLi bLe bNa bNs bSt bCo bKi bBe bEn bWo bSi bPl bMi bVa cLim H.size mth mle mnm msp mpl mto mlr mma mod mfa mlp mlm mlv mli x3 o_31 hM_31) (cwV 1 hts (gwV wb_193 wb_195 wb_196 wb_179 wb_194) rfl rfl rfl (by decide +kernel) ⟨Nat.le_of_ble_eq_true rfl, Nat.le_of_ble_eq_true rfl⟩) (pr_V (hP.sub [0, 1] rfl) (hD.sub [0, 1] (by decide) rfl) hK hN [0] rfl (ci := 7) rfl rfl rfl) rfl rfl hl.1 rfl (lv_room (Nat.le_of_ble_eq_true rfl)) d_M_next_31 ⟨Nat.zero_le _, Nat.zero_le _⟩) hP hD hS hA (in_of [0, 1] rfl) (fun r_31 H locs hw hP hS => ?_)
      obtain ⟨hw, hz_31⟩ := hw
      subst r_31
      refine lv_if_eq (tgt := 43) hx hb d_M_next_34 (by decide) (fun c_32 => ?_) (fun c_32 => ?_)
      · rw [if_pos c_32] at hf
        refine lv_iload_n hx hb d_M_next_43 rfl (lv_at hl 2 rfl) ?_
        refine lv_iload_n hx hb d_M_next_44 rfl (lv_at hl 1 rfl) ?_
        refine lv_isub hx hb d_M_next_45 ?_
        refine lv_bipush (v := (63 : Int32)) hx hb d_M_next_46 (by decide) ?_
        refine lv_icmp_le (tgt := 53) hx hb d_M_next_48 (by decide) (fun c_33 => ?_) (fun c_33 => ?_)
        · rw [if_pos c_33] at hf
          refine lv_aload_n hx hb d_M_next_53 rfl (lv_at hl 0 rfl) ?_
          refine lv_iconst (v := (1 : Int32)) hx hb d_M_next_54 (by decide) ?_
          refine lv_iload_n hx hb d_M_next_55 rfl (lv_at hl 1 rfl) ?_
          refine lv_iload_n hx hb d_M_next_56 rfl (lv_at hl 2 rfl) ?_
          refine lv_lconst (v := (0 : Int64)) hx hb d_M_next_57 (by decide) ?_
          obtain ⟨o_34, hM_34, hf⟩ := bd_some hf
          refine cl_v (wr := [(bLi, .inl (cLim, 1024, .inl mli))]) (va_runV (As := [.int (1 : Int32), .int x1, .int x3, .long (0 : Int64)]) (rest := []) ⟨hx, hb, hml, hown, hts⟩ (c_M_add l dC dI bM bLi bLe bNa bNs bSt bCo bKi bBe bEn bWo bSi bPl bMi bVa cKim cBem cEnm cWom H.size mth mle mnm msp mpl mto mlr mma mod mfa mlp mlm mlv mki mbe men mwo (1 : Int32) x1 x3 (0 : Int64) o_34 hM_34) (cwV 4 hts (gwV wb_197 wb_199 wb_200 wb_179 wb_198) rfl rfl rfl (by decide +kernel) ⟨Nat.le_of_ble_eq_true rfl, Nat.le_of_ble_eq_true rfl⟩) (pr_V (hP.sub [0, 2, 3, 4, 5] rfl) (hD.sub [0, 2, 3, 4, 5] (by decide) rfl) hK hN [1, 2, 3, 4] rfl (ci := 7) rfl rfl rfl) rfl rfl hl.1 rfl (lv_room (Nat.le_of_ble_eq_true rfl)) d_M_next_58 ⟨Nat.zero_le _, Nat.zero_le _⟩) hP hD hS hA [0, 2, 3, 4, 5] [1] rfl rfl (by decide) (by decide) (fun H locs hw hP hD hS => ?_)
          have hP : va_P (dC, dI) vwCl [(bLi, .inl (cLim, 1024, .inl mli)), (bM, .inr (7, [.int mth, .ref bLi, .int mle, .ref bLe, .ref bNa, .ref bNs, .ref bSt, .ref bCo, .int mnm, .int msp, .int mpl, .ref bKi, .ref bBe, .ref bEn, .ref bWo, .int o_34.1, .int mlr, .ref bSi, .ref bPl, .ref bMi, .ref bVa, .int mma, .int mod, .int mfa, .int mlp, .int mlm, .long mlv])), (bKi, .inl (cKim, 1100, .inl o_34.2.1)), (bBe, .inl (cBem, 1100, .inl o_34.2.2.1)), (bEn, .inl (cEnm, 1100, .inl o_34.2.2.2.1)), (bWo, .inl (cWom, 1100, .inr (.inl o_34.2.2.2.2)))] H := hP
          have hD : va_D A [(bLi, .inl (cLim, 1024, .inl mli)), (bM, .inr (7, [.int mth, .ref bLi, .int mle, .ref bLe, .ref bNa, .ref bNs, .ref bSt, .ref bCo, .int mnm, .int msp, .int mpl, .ref bKi, .ref bBe, .ref bEn, .ref bWo, .int o_34.1, .int mlr, .ref bSi, .ref bPl, .ref bMi, .ref bVa, .int mma, .int mod, .int mfa, .int mlp, .int mlm, .long mlv])), (bKi, .inl (cKim, 1100, .inl o_34.2.1)), (bBe, .inl (cBem, 1100, .inl o_34.2.2.1)), (bEn, .inl (cEnm, 1100, .inl o_34.2.2.2.1)), (bWo, .inl (cWom, 1100, .inr (.inl o_34.2.2.2.2)))] := hD
          refine lv_iload_n hx hb d_M_next_61 rfl (lv_at hl 2 rfl) ?_
          have ho := Option.some.inj hf
          subst o
          have hP9 := hP.sub (ws' := [(bM, .inr (7, [.int mth, .ref bLi, .int mle, .ref bLe, .ref bNa, .ref bNs, .ref bSt, .ref bCo, .int mnm, .int msp, .int mpl, .ref bKi, .ref bBe, .ref bEn, .ref bWo, .int o_34.1, .int mlr, .ref bSi, .ref bPl, .ref bMi, .ref bVa, .int mma, .int mod, .int mfa, .int mlp, .int mlm, .long mlv])), (bLi, .inl (cLim, 1024, .inl mli)), (bKi, .inl (cKim, 1100, .inl o_34.2.1)), (bBe, .inl (cBem, 1100, .inl o_34.2.2.1)), (bEn, .inl (cEnm, 1100, .inl o_34.2.2.2.1)), (bWo, .inl (cWom, 1100, .inr (.inl o_34.2.2.2.2)))]) [1, 0, 2, 3, 4, 5] rfl
          have hD9 := hD.sub (ws' := [(bM, .inr (7, [.int mth, .ref bLi, .int mle, .ref bLe, .ref bNa, .ref bNs, .ref bSt, .ref bCo, .int mnm, .int msp, .int mpl, .ref bKi, .ref bBe, .ref bEn, .ref bWo, .int o_34.1, .int mlr, .ref bSi, .ref bPl, .ref bMi, .ref bVa, .int mma, .int mod, .int mfa, .int mlp, .int mlm, .long mlv])), (bLi, .inl (cLim, 1024, .inl mli)), (bKi, .inl (cKim, 1100, .inl o_34.2.1)), (bBe, .inl (cBem, 1100, .inl o_34.2.2.1)), (bEn, .inl (cEnm, 1100, .inl o_34.2.2.2.1)), (bWo, .inl (cWom, 1100, .inr (.inl o_34.2.2.2.2)))]) [1, 0, 2, 3, 4, 5] (by decide) rfl
          exact W.iret (v := x3) hx hb hr (fun t ht hW => ⟨⟨x3, (), rfl, rfl, by rw [ht]; exact hP9, va_K.moved hW.alike hK, hD9⟩, hS.F ht⟩) hS.2.2 d_M_next_62
        · rw [if_neg c_33] at hf
          refine lv_iconst (v := (-1 : Int32)) hx hb d_M_next_51 (by decide) ?_
          have ho := Option.some.inj hf
          subst o
          have hP9 := hP.sub (ws' := [(bM, .inr (7, [.int mth, .ref bLi, .int mle, .ref bLe, .ref bNa, .ref bNs, .ref bSt, .ref bCo, .int mnm, .int msp, .int mpl, .ref bKi, .ref bBe, .ref bEn, .ref bWo, .int mto, .int mlr, .ref bSi, .ref bPl, .ref bMi, .ref bVa, .int mma, .int mod, .int mfa, .int mlp, .int mlm, .long mlv])), (bLi, .inl (cLim, 1024, .inl mli)), (bKi, .inl (cKim, 1100, .inl mki)), (bBe, .inl (cBem, 1100, .inl mbe)), (bEn, .inl (cEnm, 1100, .inl men)), (bWo, .inl (cWom, 1100, .inr (.inl mwo)))]) [0, 1, 2, 3, 4, 5] rfl
          have hD9 := hD.sub (ws' := [(bM, .inr (7, [.int mth, .ref bLi, .int mle, .ref bLe, .ref bNa, .ref bNs, .ref bSt, .ref bCo, .int mnm, .int msp, .int mpl, .ref bKi, .ref bBe, .ref bEn, .ref bWo, .int mto, .int mlr, .ref bSi, .ref bPl, .ref bMi, .ref bVa, .int mma, .int mod, .int mfa, .int mlp, .int mlm, .long mlv])), (bLi, .inl (cLim, 1024, .inl mli)), (bKi, .inl (cKim, 1100, .inl mki)), (bBe, .inl (cBem, 1100, .inl mbe)), (bEn, .inl (cEnm, 1100, .inl men)), (bWo, .inl (cWom, 1100, .inr (.inl mwo)))]) [0, 1, 2, 3, 4, 5] (by decide) rfl
          exact W.iret (v := (-1 : Int32)) hx hb hr (fun t ht hW => ⟨⟨(-1 : Int32), (), rfl, rfl, by rw [ht]; exact hP9, va_K.moved hW.alike hK, hD9⟩, hS.F ht⟩) hS.2.2 d_M_next_52
      · rw [if_neg c_32] at hf
        refine lv_iinc (v := x3 + (1 : Int32)) (lv' := [(3, .int (x3 + (1 : Int32))), (0, .ref bM), (1, .int x1)]) hx hb d_M_next_37 hl (k := 2) rfl rfl (by decide) rfl (fun ls hl => ?_)
        refine lv_goto (tgt := 29) hx hb d_M_next_40 (by decide) ?_
        exact ih mle mto mlr mli mki mbe men mwo x1 (x3 + (1 : Int32)) H locs ls hf (hP.sub (ws' := [(bM, .inr (7, [.int mth, .ref bLi, .int mle, .ref bLe, .ref bNa, .ref bNs, .ref bSt, .ref bCo, .int mnm, .int msp, .int mpl, .ref bKi, .ref bBe, .ref bEn, .ref bWo, .int mto, .int mlr, .ref bSi, .ref bPl, .ref bMi, .ref bVa, .int mma, .int mod, .int mfa, .int mlp, .int mlm, .long mlv])), (bLi, .inl (cLim, 1024, .inl mli)), (bKi, .inl (cKim, 1100, .inl mki)), (bBe, .inl (cBem, 1100, .inl mbe)), (bEn, .inl (cEnm, 1100, .inl men)), (bWo, .inl (cWom, 1100, .inr (.inl mwo)))]) [0, 1, 2, 3, 4, 5] rfl) (hD.sub (ws' := [(bM, .inr (7, [.int mth, .ref bLi, .int mle, .ref bLe, .ref bNa, .ref bNs, .ref bSt, .ref bCo, .int mnm, .int msp, .int mpl, .ref bKi, .ref bBe, .ref bEn, .ref bWo, .int mto, .int mlr, .ref bSi, .ref bPl, .ref bMi, .ref bVa, .int mma, .int mod, .int mfa, .int mlp, .int mlm, .long mlv])), (bLi, .inl (cLim, 1024, .inl mli)), (bKi, .inl (cKim, 1100, .inl mki)), (bBe, .inl (cBem, 1100, .inl mbe)), (bEn, .inl (cEnm, 1100, .inl men)), (bWo, .inl (cWom, 1100, .inr (.inl mwo)))]) [0, 1, 2, 3, 4, 5] (by decide) rfl) hS (lv_sub hl [1, 2, 0] rfl)
  have join_266 : ∀ (mle : Int32) (mto : Int32) (mlr : Int32) (mli : Nat → Int32) (mki : Nat → Int32) (mbe : Nat → Int32) (men : Nat → Int32) (mwo : Nat → Int64) (x1 : Int32) (x2 : Int32) (H : Heap) (locs : List Loc) (ls : Array Slot), f_M_next_j266 mle mto mlr mli mki mbe men mwo x1 x2 = some o → va_P (dC, dI) vwCl [(bM, .inr (7, [.int mth, .ref bLi, .int mle, .ref bLe, .ref bNa, .ref bNs, .ref bSt, .ref bCo, .int mnm, .int msp, .int mpl, .ref bKi, .ref bBe, .ref bEn, .ref bWo, .int mto, .int mlr, .ref bSi, .ref bPl, .ref bMi, .ref bVa, .int mma, .int mod, .int mfa, .int mlp, .int mlm, .long mlv])), (bLi, .inl (cLim, 1024, .inl mli)), (bKi, .inl (cKim, 1100, .inl mki)), (bBe, .inl (cBem, 1100, .inl mbe)), (bEn, .inl (cEnm, 1100, .inl men)), (bWo, .inl (cWom, 1100, .inr (.inl mwo)))] H → va_D A [(bM, .inr (7, [.int mth, .ref bLi, .int mle, .ref bLe, .ref bNa, .ref bNs, .ref bSt, .ref bCo, .int mnm, .int msp, .int mpl, .ref bKi, .ref bBe, .ref bEn, .ref bWo, .int mto, .int mlr, .ref bSi, .ref bPl, .ref bMi, .ref bVa, .int mma, .int mod, .int mfa, .int mlp, .int mlm, .long mlv])), (bLi, .inl (cLim, 1024, .inl mli)), (bKi, .inl (cKim, 1100, .inl mki)), (bBe, .inl (cBem, 1100, .inl mbe)), (bEn, .inl (cEnm, 1100, .inl men)), (bWo, .inl (cWom, 1100, .inr (.inl mwo)))] → va_S A s.heap H locs → lv_has ls 4 [(0, .ref bM), (1, .int x1), (2, .int x2)] → W p l e (headSpec (w_M_next) ({ frames := 3, cells := 0, slots := 0, locals := 69 })).room s m [.ref bM, .int p0].toArray below meth c H locs 0 0 (MQ below (va_Qi (fun (r : Int32) (_ : Unit) => r = o.1) (fun _ t => va_P (dC, dI) vwCl [(bM, .inr (7, [.int mth, .ref bLi, .int mle, .ref bLe, .ref bNa, .ref bNs, .ref bSt, .ref bCo, .int mnm, .int msp, .int mpl, .ref bKi, .ref bBe, .ref bEn, .ref bWo, .int o.2.1, .int o.2.2.1, .ref bSi, .ref bPl, .ref bMi, .ref bVa, .int mma, .int mod, .int mfa, .int mlp, .int mlm, .long mlv])), (bLi, .inl (cLim, 1024, .inl mli)), (bKi, .inl (cKim, 1100, .inl o.2.2.2.1)), (bBe, .inl (cBem, 1100, .inl o.2.2.2.2.1)), (bEn, .inl (cEnm, 1100, .inl o.2.2.2.2.2.1)), (bWo, .inl (cWom, 1100, .inr (.inl o.2.2.2.2.2.2)))] t.heap ∧ va_K (dC, dI) vwCl [(cLim, .int), (cKim, .int), (cBem, .int), (cEnm, .int), (cWom, .long)] t ∧ va_D A [(bM, .inr (7, [.int mth, .ref bLi, .int mle, .ref bLe, .ref bNa, .ref bNs, .ref bSt, .ref bCo, .int mnm, .int msp, .int mpl, .ref bKi, .ref bBe, .ref bEn, .ref bWo, .int o.2.1, .int o.2.2.1, .ref bSi, .ref bPl, .ref bMi, .ref bVa, .int mma, .int mod, .int mfa, .int mlp, .int mlm, .long mlv])), (bLi, .inl (cLim, 1024, .inl mli)), (bKi, .inl (cKim, 1100, .inl o.2.2.2.1)), (bBe, .inl (cBem, 1100, .inl o.2.2.2.2.1)), (bEn, .inl (cEnm, 1100, .inl o.2.2.2.2.2.1)), (bWo, .inl (cWom, 1100, .inr (.inl o.2.2.2.2.2.2)))]) A) [.ref bM, .int p0].toArray s 0 0 A) (F0 m 266 ls []) := by
    intro mle mto mlr mli mki mbe men mwo x1 x2 H locs ls hf hP hD hS hl
    rw [f_M_next_j266] at hf
    refine lv_iload_n hx hb d_M_next_266 rfl (lv_at hl 2 rfl) ?_
    obtain ⟨o_9, hM_9, hf⟩ := bd_some hf
    refine cr_i (va_runS (As := [.int x2]) (rest := []) ⟨hx, hb, hml, hown, hts⟩ (c_M_isSign l dC dI   H.size  x2 o_9 hM_9) (va_cwS 1 hts (gwS wb_205 wb_207 wb_179 wb_206) rfl rfl rfl (by decide +kernel) ⟨Nat.le_of_ble_eq_true rfl, Nat.le_of_ble_eq_true rfl⟩) (pr_S (hP.sub [] rfl) (hD.sub [] (by decide) rfl) hK hN [] rfl) rfl rfl hl.1 rfl (lv_room (Nat.le_of_ble_eq_true rfl)) d_M_next_267 ⟨Nat.zero_le _, Nat.zero_le _⟩) hP hD hS hA (in_of [] rfl) (fun r_9 H locs hw hP hS => ?_)
    obtain ⟨hw, hz_9⟩ := hw
    subst r_9
    refine lv_if_ne (tgt := 275) hx hb d_M_next_270 (by decide) (fun c_10 => ?_) (fun c_10 => ?_)
    · rw [if_neg c_10] at hf
      refine lv_aload_n hx hb d_M_next_275 rfl (lv_at hl 0 rfl) ?_
      refine lv_iconst (v := (4 : Int32)) hx hb d_M_next_276 (by decide) ?_
      refine lv_iload_n hx hb d_M_next_277 rfl (lv_at hl 1 rfl) ?_
      refine lv_iload_n hx hb d_M_next_278 rfl (lv_at hl 1 rfl) ?_
      refine lv_iconst (v := (1 : Int32)) hx hb d_M_next_279 (by decide) ?_
      refine lv_iadd hx hb d_M_next_280 ?_
      refine lv_iload_n hx hb d_M_next_281 rfl (lv_at hl 2 rfl) ?_
      refine lv_i2l (v := x2.toInt64) hx hb d_M_next_282 rfl ?_
      obtain ⟨o_11, hM_11, hf⟩ := bd_some hf
      refine cl_v (wr := [(bLi, .inl (cLim, 1024, .inl mli))]) (va_runV (As := [.int (4 : Int32), .int x1, .int (x1 + (1 : Int32)), .long x2.toInt64]) (rest := []) ⟨hx, hb, hml, hown, hts⟩ (c_M_add l dC dI bM bLi bLe bNa bNs bSt bCo bKi bBe bEn bWo bSi bPl bMi bVa cKim cBem cEnm cWom H.size mth mle mnm msp mpl mto mlr mma mod mfa mlp mlm mlv mki mbe men mwo (4 : Int32) x1 (x1 + (1 : Int32)) x2.toInt64 o_11 hM_11) (cwV 4 hts (gwV wb_197 wb_199 wb_200 wb_179 wb_198) rfl rfl rfl (by decide +kernel) ⟨Nat.le_of_ble_eq_true rfl, Nat.le_of_ble_eq_true rfl⟩) (pr_V (hP.sub [0, 2, 3, 4, 5] rfl) (hD.sub [0, 2, 3, 4, 5] (by decide) rfl) hK hN [1, 2, 3, 4] rfl (ci := 7) rfl rfl rfl) rfl rfl hl.1 rfl (lv_room (Nat.le_of_ble_eq_true rfl)) d_M_next_283 ⟨Nat.zero_le _, Nat.zero_le _⟩) hP hD hS hA [0, 2, 3, 4, 5] [1] rfl rfl (by decide) (by decide) (fun H locs hw hP hD hS => ?_)
      have hP : va_P (dC, dI) vwCl [(bLi, .inl (cLim, 1024, .inl mli)), (bM, .inr (7, [.int mth, .ref bLi, .int mle, .ref bLe, .ref bNa, .ref bNs, .ref bSt, .ref bCo, .int mnm, .int msp, .int mpl, .ref bKi, .ref bBe, .ref bEn, .ref bWo, .int o_11.1, .int mlr, .ref bSi, .ref bPl, .ref bMi, .ref bVa, .int mma, .int mod, .int mfa, .int mlp, .int mlm, .long mlv])), (bKi, .inl (cKim, 1100, .inl o_11.2.1)), (bBe, .inl (cBem, 1100, .inl o_11.2.2.1)), (bEn, .inl (cEnm, 1100, .inl o_11.2.2.2.1)), (bWo, .inl (cWom, 1100, .inr (.inl o_11.2.2.2.2)))] H := hP
      have hD : va_D A [(bLi, .inl (cLim, 1024, .inl mli)), (bM, .inr (7, [.int mth, .ref bLi, .int mle, .ref bLe, .ref bNa, .ref bNs, .ref bSt, .ref bCo, .int mnm, .int msp, .int mpl, .ref bKi, .ref bBe, .ref bEn, .ref bWo, .int o_11.1, .int mlr, .ref bSi, .ref bPl, .ref bMi, .ref bVa, .int mma, .int mod, .int mfa, .int mlp, .int mlm, .long mlv])), (bKi, .inl (cKim, 1100, .inl o_11.2.1)), (bBe, .inl (cBem, 1100, .inl o_11.2.2.1)), (bEn, .inl (cEnm, 1100, .inl o_11.2.2.2.1)), (bWo, .inl (cWom, 1100, .inr (.inl o_11.2.2.2.2)))] := hD
      refine lv_iload_n hx hb d_M_next_286 rfl (lv_at hl 1 rfl) ?_
      refine lv_iconst (v := (1 : Int32)) hx hb d_M_next_287 (by decide) ?_
      refine lv_iadd hx hb d_M_next_288 ?_
      have ho := Option.some.inj hf
      subst o
      have hP9 := hP.sub (ws' := [(bM, .inr (7, [.int mth, .ref bLi, .int mle, .ref bLe, .ref bNa, .ref bNs, .ref bSt, .ref bCo, .int mnm, .int msp, .int mpl, .ref bKi, .ref bBe, .ref bEn, .ref bWo, .int o_11.1, .int mlr, .ref bSi, .ref bPl, .ref bMi, .ref bVa, .int mma, .int mod, .int mfa, .int mlp, .int mlm, .long mlv])), (bLi, .inl (cLim, 1024, .inl mli)), (bKi, .inl (cKim, 1100, .inl o_11.2.1)), (bBe, .inl (cBem, 1100, .inl o_11.2.2.1)), (bEn, .inl (cEnm, 1100, .inl o_11.2.2.2.1)), (bWo, .inl (cWom, 1100, .inr (.inl o_11.2.2.2.2)))]) [1, 0, 2, 3, 4, 5] rfl
      have hD9 := hD.sub (ws' := [(bM, .inr (7, [.int mth, .ref bLi, .int mle, .ref bLe, .ref bNa, .ref bNs, .ref bSt, .ref bCo, .int mnm, .int msp, .int mpl, .ref bKi, .ref bBe, .ref bEn, .ref bWo, .int o_11.1, .int mlr, .ref bSi, .ref bPl, .ref bMi, .ref bVa, .int mma, .int mod, .int mfa, .int mlp, .int mlm, .long mlv])), (bLi, .inl (cLim, 1024, .inl mli)), (bKi, .inl (cKim, 1100, .inl o_11.2.1)), (bBe, .inl (cBem, 1100, .inl o_11.2.2.1)), (bEn, .inl (cEnm, 1100, .inl o_11.2.2.2.1)), (bWo, .inl (cWom, 1100, .inr (.inl o_11.2.2.2.2)))]) [1, 0, 2, 3, 4, 5] (by decide) rfl
      exact W.iret (v := x1 + (1 : Int32)) hx hb hr (fun t ht hW => ⟨⟨x1 + (1 : Int32), (), rfl, rfl, by rw [ht]; exact hP9, va_K.moved hW.alike hK, hD9⟩, hS.F ht⟩) hS.2.2 d_M_next_289
    · rw [if_pos c_10] at hf
      refine lv_iconst (v := (-1 : Int32)) hx hb d_M_next_273 (by decide) ?_
      have ho := Option.some.inj hf
      subst o
      have hP9 := hP.sub (ws' := [(bM, .inr (7, [.int mth, .ref bLi, .int mle, .ref bLe, .ref bNa, .ref bNs, .ref bSt, .ref bCo, .int mnm, .int msp, .int mpl, .ref bKi, .ref bBe, .ref bEn, .ref bWo, .int mto, .int mlr, .ref bSi, .ref bPl, .ref bMi, .ref bVa, .int mma, .int mod, .int mfa, .int mlp, .int mlm, .long mlv])), (bLi, .inl (cLim, 1024, .inl mli)), (bKi, .inl (cKim, 1100, .inl mki)), (bBe, .inl (cBem, 1100, .inl mbe)), (bEn, .inl (cEnm, 1100, .inl men)), (bWo, .inl (cWom, 1100, .inr (.inl mwo)))]) [0, 1, 2, 3, 4, 5] rfl
      have hD9 := hD.sub (ws' := [(bM, .inr (7, [.int mth, .ref bLi, .int mle, .ref bLe, .ref bNa, .ref bNs, .ref bSt, .ref bCo, .int mnm, .int msp, .int mpl, .ref bKi, .ref bBe, .ref bEn, .ref bWo, .int mto, .int mlr, .ref bSi, .ref bPl, .ref bMi, .ref bVa, .int mma, .int mod, .int mfa, .int mlp, .int mlm, .long mlv])), (bLi, .inl (cLim, 1024, .inl mli)), (bKi, .inl (cKim, 1100, .inl mki)), (bBe, .inl (cBem, 1100, .inl mbe)), (bEn, .inl (cEnm, 1100, .inl men)), (bWo, .inl (cWom, 1100, .inr (.inl mwo)))]) [0, 1, 2, 3, 4, 5] (by decide) rfl
      exact W.iret (v := (-1 : Int32)) hx hb hr (fun t ht hW => ⟨⟨(-1 : Int32), (), rfl, rfl, by rw [ht]; exact hP9, va_K.moved hW.alike hK, hD9⟩, hS.F ht⟩) hS.2.2 d_M_next_274
  have join_216 : ∀ (mle : Int32) (mto : Int32) (mlr : Int32) (mli : Nat → Int32) (mki : Nat → Int32) (mbe : Nat → Int32) (men : Nat → Int32) (mwo : Nat → Int64) (x1 : Int32) (x2 : Int32) (H : Heap) (locs : List Loc) (ls : Array Slot), f_M_next_j216 mle mto mlr mli mki mbe men mwo x1 x2 = some o → va_P (dC, dI) vwCl [(bM, .inr (7, [.int mth, .ref bLi, .int mle, .ref bLe, .ref bNa, .ref bNs, .ref bSt, .ref bCo, .int mnm, .int msp, .int mpl, .ref bKi, .ref bBe, .ref bEn, .ref bWo, .int mto, .int mlr, .ref bSi, .ref bPl, .ref bMi, .ref bVa, .int mma, .int mod, .int mfa, .int mlp, .int mlm, .long mlv])), (bLi, .inl (cLim, 1024, .inl mli)), (bKi, .inl (cKim, 1100, .inl mki)), (bBe, .inl (cBem, 1100, .inl mbe)), (bEn, .inl (cEnm, 1100, .inl men)), (bWo, .inl (cWom, 1100, .inr (.inl mwo)))] H → va_D A [(bM, .inr (7, [.int mth, .ref bLi, .int mle, .ref bLe, .ref bNa, .ref bNs, .ref bSt, .ref bCo, .int mnm, .int msp, .int mpl, .ref bKi, .ref bBe, .ref bEn, .ref bWo, .int mto, .int mlr, .ref bSi, .ref bPl, .ref bMi, .ref bVa, .int mma, .int mod, .int mfa, .int mlp, .int mlm, .long mlv])), (bLi, .inl (cLim, 1024, .inl mli)), (bKi, .inl (cKim, 1100, .inl mki)), (bBe, .inl (cBem, 1100, .inl mbe)), (bEn, .inl (cEnm, 1100, .inl men)), (bWo, .inl (cWom, 1100, .inr (.inl mwo)))] → va_S A s.heap H locs → lv_has ls 4 [(0, .ref bM), (1, .int x1), (2, .int x2)] → W p l e (headSpec (w_M_next) ({ frames := 3, cells := 0, slots := 0, locals := 69 })).room s m [.ref bM, .int p0].toArray below meth c H locs 0 0 (MQ below (va_Qi (fun (r : Int32) (_ : Unit) => r = o.1) (fun _ t => va_P (dC, dI) vwCl [(bM, .inr (7, [.int mth, .ref bLi, .int mle, .ref bLe, .ref bNa, .ref bNs, .ref bSt, .ref bCo, .int mnm, .int msp, .int mpl, .ref bKi, .ref bBe, .ref bEn, .ref bWo, .int o.2.1, .int o.2.2.1, .ref bSi, .ref bPl, .ref bMi, .ref bVa, .int mma, .int mod, .int mfa, .int mlp, .int mlm, .long mlv])), (bLi, .inl (cLim, 1024, .inl mli)), (bKi, .inl (cKim, 1100, .inl o.2.2.2.1)), (bBe, .inl (cBem, 1100, .inl o.2.2.2.2.1)), (bEn, .inl (cEnm, 1100, .inl o.2.2.2.2.2.1)), (bWo, .inl (cWom, 1100, .inr (.inl o.2.2.2.2.2.2)))] t.heap ∧ va_K (dC, dI) vwCl [(cLim, .int), (cKim, .int), (cBem, .int), (cEnm, .int), (cWom, .long)] t ∧ va_D A [(bM, .inr (7, [.int mth, .ref bLi, .int mle, .ref bLe, .ref bNa, .ref bNs, .ref bSt, .ref bCo, .int mnm, .int msp, .int mpl, .ref bKi, .ref bBe, .ref bEn, .ref bWo, .int o.2.1, .int o.2.2.1, .ref bSi, .ref bPl, .ref bMi, .ref bVa, .int mma, .int mod, .int mfa, .int mlp, .int mlm, .long mlv])), (bLi, .inl (cLim, 1024, .inl mli)), (bKi, .inl (cKim, 1100, .inl o.2.2.2.1)), (bBe, .inl (cBem, 1100, .inl o.2.2.2.2.1)), (bEn, .inl (cEnm, 1100, .inl o.2.2.2.2.2.1)), (bWo, .inl (cWom, 1100, .inr (.inl o.2.2.2.2.2.2)))]) A) [.ref bM, .int p0].toArray s 0 0 A) (F0 m 216 ls []) := by
    intro mle mto mlr mli mki mbe men mwo x1 x2 H locs ls hf hP hD hS hl
    rw [f_M_next_j216] at hf
    refine lv_iload_n hx hb d_M_next_216 rfl (lv_at hl 1 rfl) ?_
    refine lv_iconst (v := (1 : Int32)) hx hb d_M_next_217 (by decide) ?_
    refine lv_iadd hx hb d_M_next_218 ?_
    refine lv_aload_n hx hb d_M_next_219 rfl (lv_at hl 0 rfl) ?_
    refine va_get (D := (dC, dI)) (ci := 7) (v := .int mle) (C := R_M) (T := F_M) (N := 27) hx hb hts i_M hown hK hP 0 rfl rfl 2 (by decide) (hts _ wb_173) (fun _ h9 => h9) rfl d_M_next_220 ?_
    refine lv_icmp_ge (tgt := 266) hx hb d_M_next_223 (by decide) (fun c_8 => ?_) (fun c_8 => ?_)
    · rw [if_pos c_8] at hf
      exact join_266 mle mto mlr mli mki mbe men mwo x1 x2 H locs ls hf (hP.sub (ws' := [(bM, .inr (7, [.int mth, .ref bLi, .int mle, .ref bLe, .ref bNa, .ref bNs, .ref bSt, .ref bCo, .int mnm, .int msp, .int mpl, .ref bKi, .ref bBe, .ref bEn, .ref bWo, .int mto, .int mlr, .ref bSi, .ref bPl, .ref bMi, .ref bVa, .int mma, .int mod, .int mfa, .int mlp, .int mlm, .long mlv])), (bLi, .inl (cLim, 1024, .inl mli)), (bKi, .inl (cKim, 1100, .inl mki)), (bBe, .inl (cBem, 1100, .inl mbe)), (bEn, .inl (cEnm, 1100, .inl men)), (bWo, .inl (cWom, 1100, .inr (.inl mwo)))]) [0, 1, 2, 3, 4, 5] rfl) (hD.sub (ws' := [(bM, .inr (7, [.int mth, .ref bLi, .int mle, .ref bLe, .ref bNa, .ref bNs, .ref bSt, .ref bCo, .int mnm, .int msp, .int mpl, .ref bKi, .ref bBe, .ref bEn, .ref bWo, .int mto, .int mlr, .ref bSi, .ref bPl, .ref bMi, .ref bVa, .int mma, .int mod, .int mfa, .int mlp, .int mlm, .long mlv])), (bLi, .inl (cLim, 1024, .inl mli)), (bKi, .inl (cKim, 1100, .inl mki)), (bBe, .inl (cBem, 1100, .inl mbe)), (bEn, .inl (cEnm, 1100, .inl men)), (bWo, .inl (cWom, 1100, .inr (.inl mwo)))]) [0, 1, 2, 3, 4, 5] (by decide) rfl) hS (lv_sub hl [0, 1, 2] rfl)
    · rw [if_neg c_8] at hf
      refine lv_aload_n hx hb d_M_next_226 rfl (lv_at hl 0 rfl) ?_
      refine va_get (D := (dC, dI)) (ci := 7) (v := .ref bLi) (C := R_M) (T := F_M) (N := 27) hx hb hts i_M hown hK hP 0 rfl rfl 1 (by decide) (hts _ wb_174) (fun _ h9 => h9) rfl d_M_next_227 ?_
      refine lv_iload_n hx hb d_M_next_230 rfl (lv_at hl 1 rfl) ?_
      refine lv_iconst (v := (1 : Int32)) hx hb d_M_next_231 (by decide) ?_
      refine lv_iadd hx hb d_M_next_232 ?_
      obtain ⟨hin, hf⟩ := gi_some hf
      refine va_iald hx hb hK hP 1 0 rfl rfl hin d_M_next_233 ?_
      refine lv_iload_n hx hb d_M_next_234 rfl (lv_at hl 2 rfl) ?_
      refine lv_icmp_ne (tgt := 266) hx hb d_M_next_235 (by decide) (fun c_12 => ?_) (fun c_12 => ?_)
      · rw [if_neg c_12] at hf
        exact join_266 mle mto mlr mli mki mbe men mwo x1 x2 H locs ls hf (hP.sub (ws' := [(bM, .inr (7, [.int mth, .ref bLi, .int mle, .ref bLe, .ref bNa, .ref bNs, .ref bSt, .ref bCo, .int mnm, .int msp, .int mpl, .ref bKi, .ref bBe, .ref bEn, .ref bWo, .int mto, .int mlr, .ref bSi, .ref bPl, .ref bMi, .ref bVa, .int mma, .int mod, .int mfa, .int mlp, .int mlm, .long mlv])), (bLi, .inl (cLim, 1024, .inl mli)), (bKi, .inl (cKim, 1100, .inl mki)), (bBe, .inl (cBem, 1100, .inl mbe)), (bEn, .inl (cEnm, 1100, .inl men)), (bWo, .inl (cWom, 1100, .inr (.inl mwo)))]) [0, 1, 2, 3, 4, 5] rfl) (hD.sub (ws' := [(bM, .inr (7, [.int mth, .ref bLi, .int mle, .ref bLe, .ref bNa, .ref bNs, .ref bSt, .ref bCo, .int mnm, .int msp, .int mpl, .ref bKi, .ref bBe, .ref bEn, .ref bWo, .int mto, .int mlr, .ref bSi, .ref bPl, .ref bMi, .ref bVa, .int mma, .int mod, .int mfa, .int mlp, .int mlm, .long mlv])), (bLi, .inl (cLim, 1024, .inl mli)), (bKi, .inl (cKim, 1100, .inl mki)), (bBe, .inl (cBem, 1100, .inl mbe)), (bEn, .inl (cEnm, 1100, .inl men)), (bWo, .inl (cWom, 1100, .inr (.inl mwo)))]) [0, 1, 2, 3, 4, 5] (by decide) rfl) hS (lv_sub hl [0, 1, 2] rfl)
      · rw [if_pos c_12] at hf
        refine lv_aload_n hx hb d_M_next_238 rfl (lv_at hl 0 rfl) ?_
        refine lv_iconst (v := (4 : Int32)) hx hb d_M_next_239 (by decide) ?_
        refine lv_iload_n hx hb d_M_next_240 rfl (lv_at hl 1 rfl) ?_
        refine lv_iload_n hx hb d_M_next_241 rfl (lv_at hl 1 rfl) ?_
        refine lv_iconst (v := (2 : Int32)) hx hb d_M_next_242 (by decide) ?_
        refine lv_iadd hx hb d_M_next_243 ?_
        refine lv_iload_n hx hb d_M_next_244 rfl (lv_at hl 2 rfl) ?_
        refine lv_bipush (v := (60 : Int32)) hx hb d_M_next_245 (by decide) ?_
        refine lv_icmp_ne (tgt := 256) hx hb d_M_next_247 (by decide) (fun c_13 => ?_) (fun c_13 => ?_)
        · rw [if_neg c_13] at hf
          refine lv_ldc2 (v := (257 : Int64)) hx hb hown (hts _ wb_208) d_M_next_256 ?_
          obtain ⟨o_14, hM_14, hf⟩ := bd_some hf
          refine cl_v (wr := [(bLi, .inl (cLim, 1024, .inl mli))]) (va_runV (As := [.int (4 : Int32), .int x1, .int (x1 + (2 : Int32)), .long (257 : Int64)]) (rest := []) ⟨hx, hb, hml, hown, hts⟩ (c_M_add l dC dI bM bLi bLe bNa bNs bSt bCo bKi bBe bEn bWo bSi bPl bMi bVa cKim cBem cEnm cWom H.size mth mle mnm msp mpl mto mlr mma mod mfa mlp mlm mlv mki mbe men mwo (4 : Int32) x1 (x1 + (2 : Int32)) (257 : Int64) o_14 hM_14) (cwV 4 hts (gwV wb_197 wb_199 wb_200 wb_179 wb_198) rfl rfl rfl (by decide +kernel) ⟨Nat.le_of_ble_eq_true rfl, Nat.le_of_ble_eq_true rfl⟩) (pr_V (hP.sub [0, 2, 3, 4, 5] rfl) (hD.sub [0, 2, 3, 4, 5] (by decide) rfl) hK hN [1, 2, 3, 4] rfl (ci := 7) rfl rfl rfl) rfl rfl hl.1 rfl (lv_room (Nat.le_of_ble_eq_true rfl)) d_M_next_259 ⟨Nat.zero_le _, Nat.zero_le _⟩) hP hD hS hA [0, 2, 3, 4, 5] [1] rfl rfl (by decide) (by decide) (fun H locs hw hP hD hS => ?_)
          have hP : va_P (dC, dI) vwCl [(bLi, .inl (cLim, 1024, .inl mli)), (bM, .inr (7, [.int mth, .ref bLi, .int mle, .ref bLe, .ref bNa, .ref bNs, .ref bSt, .ref bCo, .int mnm, .int msp, .int mpl, .ref bKi, .ref bBe, .ref bEn, .ref bWo, .int o_14.1, .int mlr, .ref bSi, .ref bPl, .ref bMi, .ref bVa, .int mma, .int mod, .int mfa, .int mlp, .int mlm, .long mlv])), (bKi, .inl (cKim, 1100, .inl o_14.2.1)), (bBe, .inl (cBem, 1100, .inl o_14.2.2.1)), (bEn, .inl (cEnm, 1100, .inl o_14.2.2.2.1)), (bWo, .inl (cWom, 1100, .inr (.inl o_14.2.2.2.2)))] H := hP
          have hD : va_D A [(bLi, .inl (cLim, 1024, .inl mli)), (bM, .inr (7, [.int mth, .ref bLi, .int mle, .ref bLe, .ref bNa, .ref bNs, .ref bSt, .ref bCo, .int mnm, .int msp, .int mpl, .ref bKi, .ref bBe, .ref bEn, .ref bWo, .int o_14.1, .int mlr, .ref bSi, .ref bPl, .ref bMi, .ref bVa, .int mma, .int mod, .int mfa, .int mlp, .int mlm, .long mlv])), (bKi, .inl (cKim, 1100, .inl o_14.2.1)), (bBe, .inl (cBem, 1100, .inl o_14.2.2.1)), (bEn, .inl (cEnm, 1100, .inl o_14.2.2.2.1)), (bWo, .inl (cWom, 1100, .inr (.inl o_14.2.2.2.2)))] := hD
          refine lv_iload_n hx hb d_M_next_262 rfl (lv_at hl 1 rfl) ?_
          refine lv_iconst (v := (2 : Int32)) hx hb d_M_next_263 (by decide) ?_
          refine lv_iadd hx hb d_M_next_264 ?_
          have ho := Option.some.inj hf
          subst o
          have hP9 := hP.sub (ws' := [(bM, .inr (7, [.int mth, .ref bLi, .int mle, .ref bLe, .ref bNa, .ref bNs, .ref bSt, .ref bCo, .int mnm, .int msp, .int mpl, .ref bKi, .ref bBe, .ref bEn, .ref bWo, .int o_14.1, .int mlr, .ref bSi, .ref bPl, .ref bMi, .ref bVa, .int mma, .int mod, .int mfa, .int mlp, .int mlm, .long mlv])), (bLi, .inl (cLim, 1024, .inl mli)), (bKi, .inl (cKim, 1100, .inl o_14.2.1)), (bBe, .inl (cBem, 1100, .inl o_14.2.2.1)), (bEn, .inl (cEnm, 1100, .inl o_14.2.2.2.1)), (bWo, .inl (cWom, 1100, .inr (.inl o_14.2.2.2.2)))]) [1, 0, 2, 3, 4, 5] rfl
          have hD9 := hD.sub (ws' := [(bM, .inr (7, [.int mth, .ref bLi, .int mle, .ref bLe, .ref bNa, .ref bNs, .ref bSt, .ref bCo, .int mnm, .int msp, .int mpl, .ref bKi, .ref bBe, .ref bEn, .ref bWo, .int o_14.1, .int mlr, .ref bSi, .ref bPl, .ref bMi, .ref bVa, .int mma, .int mod, .int mfa, .int mlp, .int mlm, .long mlv])), (bLi, .inl (cLim, 1024, .inl mli)), (bKi, .inl (cKim, 1100, .inl o_14.2.1)), (bBe, .inl (cBem, 1100, .inl o_14.2.2.1)), (bEn, .inl (cEnm, 1100, .inl o_14.2.2.2.1)), (bWo, .inl (cWom, 1100, .inr (.inl o_14.2.2.2.2)))]) [1, 0, 2, 3, 4, 5] (by decide) rfl
          exact W.iret (v := x1 + (2 : Int32)) hx hb hr (fun t ht hW => ⟨⟨x1 + (2 : Int32), (), rfl, rfl, by rw [ht]; exact hP9, va_K.moved hW.alike hK, hD9⟩, hS.F ht⟩) hS.2.2 d_M_next_265
        · rw [if_pos c_13] at hf
          refine lv_ldc2 (v := (256 : Int64)) hx hb hown (hts _ wb_209) d_M_next_250 ?_
          refine lv_goto (tgt := 259) hx hb d_M_next_253 (by decide) ?_
          obtain ⟨o_15, hM_15, hf⟩ := bd_some hf
          refine cl_v (wr := [(bLi, .inl (cLim, 1024, .inl mli))]) (va_runV (As := [.int (4 : Int32), .int x1, .int (x1 + (2 : Int32)), .long (256 : Int64)]) (rest := []) ⟨hx, hb, hml, hown, hts⟩ (c_M_add l dC dI bM bLi bLe bNa bNs bSt bCo bKi bBe bEn bWo bSi bPl bMi bVa cKim cBem cEnm cWom H.size mth mle mnm msp mpl mto mlr mma mod mfa mlp mlm mlv mki mbe men mwo (4 : Int32) x1 (x1 + (2 : Int32)) (256 : Int64) o_15 hM_15) (cwV 4 hts (gwV wb_197 wb_199 wb_200 wb_179 wb_198) rfl rfl rfl (by decide +kernel) ⟨Nat.le_of_ble_eq_true rfl, Nat.le_of_ble_eq_true rfl⟩) (pr_V (hP.sub [0, 2, 3, 4, 5] rfl) (hD.sub [0, 2, 3, 4, 5] (by decide) rfl) hK hN [1, 2, 3, 4] rfl (ci := 7) rfl rfl rfl) rfl rfl hl.1 rfl (lv_room (Nat.le_of_ble_eq_true rfl)) d_M_next_259 ⟨Nat.zero_le _, Nat.zero_le _⟩) hP hD hS hA [0, 2, 3, 4, 5] [1] rfl rfl (by decide) (by decide) (fun H locs hw hP hD hS => ?_)
          have hP : va_P (dC, dI) vwCl [(bLi, .inl (cLim, 1024, .inl mli)), (bM, .inr (7, [.int mth, .ref bLi, .int mle, .ref bLe, .ref bNa, .ref bNs, .ref bSt, .ref bCo, .int mnm, .int msp, .int mpl, .ref bKi, .ref bBe, .ref bEn, .ref bWo, .int o_15.1, .int mlr, .ref bSi, .ref bPl, .ref bMi, .ref bVa, .int mma, .int mod, .int mfa, .int mlp, .int mlm, .long mlv])), (bKi, .inl (cKim, 1100, .inl o_15.2.1)), (bBe, .inl (cBem, 1100, .inl o_15.2.2.1)), (bEn, .inl (cEnm, 1100, .inl o_15.2.2.2.1)), (bWo, .inl (cWom, 1100, .inr (.inl o_15.2.2.2.2)))] H := hP
          have hD : va_D A [(bLi, .inl (cLim, 1024, .inl mli)), (bM, .inr (7, [.int mth, .ref bLi, .int mle, .ref bLe, .ref bNa, .ref bNs, .ref bSt, .ref bCo, .int mnm, .int msp, .int mpl, .ref bKi, .ref bBe, .ref bEn, .ref bWo, .int o_15.1, .int mlr, .ref bSi, .ref bPl, .ref bMi, .ref bVa, .int mma, .int mod, .int mfa, .int mlp, .int mlm, .long mlv])), (bKi, .inl (cKim, 1100, .inl o_15.2.1)), (bBe, .inl (cBem, 1100, .inl o_15.2.2.1)), (bEn, .inl (cEnm, 1100, .inl o_15.2.2.2.1)), (bWo, .inl (cWom, 1100, .inr (.inl o_15.2.2.2.2)))] := hD
          refine lv_iload_n hx hb d_M_next_262 rfl (lv_at hl 1 rfl) ?_
          refine lv_iconst (v := (2 : Int32)) hx hb d_M_next_263 (by decide) ?_
          refine lv_iadd hx hb d_M_next_264 ?_
          have ho := Option.some.inj hf
          subst o
          have hP9 := hP.sub (ws' := [(bM, .inr (7, [.int mth, .ref bLi, .int mle, .ref bLe, .ref bNa, .ref bNs, .ref bSt, .ref bCo, .int mnm, .int msp, .int mpl, .ref bKi, .ref bBe, .ref bEn, .ref bWo, .int o_15.1, .int mlr, .ref bSi, .ref bPl, .ref bMi, .ref bVa, .int mma, .int mod, .int mfa, .int mlp, .int mlm, .long mlv])), (bLi, .inl (cLim, 1024, .inl mli)), (bKi, .inl (cKim, 1100, .inl o_15.2.1)), (bBe, .inl (cBem, 1100, .inl o_15.2.2.1)), (bEn, .inl (cEnm, 1100, .inl o_15.2.2.2.1)), (bWo, .inl (cWom, 1100, .inr (.inl o_15.2.2.2.2)))]) [1, 0, 2, 3, 4, 5] rfl
          have hD9 := hD.sub (ws' := [(bM, .inr (7, [.int mth, .ref bLi, .int mle, .ref bLe, .ref bNa, .ref bNs, .ref bSt, .ref bCo, .int mnm, .int msp, .int mpl, .ref bKi, .ref bBe, .ref bEn, .ref bWo, .int o_15.1, .int mlr, .ref bSi, .ref bPl, .ref bMi, .ref bVa, .int mma, .int mod, .int mfa, .int mlp, .int mlm, .long mlv])), (bLi, .inl (cLim, 1024, .inl mli)), (bKi, .inl (cKim, 1100, .inl o_15.2.1)), (bBe, .inl (cBem, 1100, .inl o_15.2.2.1)), (bEn, .inl (cEnm, 1100, .inl o_15.2.2.2.1)), (bWo, .inl (cWom, 1100, .inr (.inl o_15.2.2.2.2)))]) [1, 0, 2, 3, 4, 5] (by decide) rfl
          exact W.iret (v := x1 + (2 : Int32)) hx hb hr (fun t ht hW => ⟨⟨x1 + (2 : Int32), (), rfl, rfl, by rw [ht]; exact hP9, va_K.moved hW.alike hK, hD9⟩, hS.F ht⟩) hS.2.2 d_M_next_265
  rw [f_M_next] at hf
  refine lv_aload_n hx hb d_M_next_0 rfl (lv_at hl 0 rfl) ?_
  refine va_get (D := (dC, dI)) (ci := 7) (v := .ref bLi) (C := R_M) (T := F_M) (N := 27) hx hb hts i_M hown hK hP 0 rfl rfl 1 (by decide) (hts _ wb_174) (fun _ h9 => h9) rfl d_M_next_1 ?_
  refine lv_iload_n hx hb d_M_next_4 rfl (lv_at hl 1 rfl) ?_
  obtain ⟨hin, hf⟩ := gi_some hf
  refine va_iald hx hb hK hP 1 0 rfl rfl hin d_M_next_5 ?_
  refine lv_istore_n (lv' := [(2, .int (mli p0.toNatClampNeg)), (0, .ref bM), (1, .int p0)]) hx hb d_M_next_6 rfl hl (by decide) rfl (fun ls hl => ?_)
  refine lv_iload_n hx hb d_M_next_7 rfl (lv_at hl 0 rfl) ?_
  obtain ⟨o_1, hM_1, hf⟩ := bd_some hf
  refine cr_i (va_runS (As := [.int (mli p0.toNatClampNeg)]) (rest := []) ⟨hx, hb, hml, hown, hts⟩ (c_M_isDigit l dC dI   s.heap.size  (mli p0.toNatClampNeg) o_1 hM_1) (va_cwS 1 hts (gwS wb_180 wb_182 wb_179 wb_181) rfl rfl rfl (by decide +kernel) ⟨Nat.le_of_ble_eq_true rfl, Nat.le_of_ble_eq_true rfl⟩) (pr_S (hP.sub [] rfl) (hD.sub [] (by decide) rfl) hK hN [] rfl) rfl rfl hl.1 rfl (lv_room (Nat.le_of_ble_eq_true rfl)) d_M_next_8 ⟨Nat.zero_le _, Nat.zero_le _⟩) hP hD hS hA (in_of [] rfl) (fun r_1 H locs hw hP hS => ?_)
  obtain ⟨hw, hz_1⟩ := hw
  subst r_1
  refine lv_if_eq (tgt := 20) hx hb d_M_next_11 (by decide) (fun c_2 => ?_) (fun c_2 => ?_)
  · rw [if_pos c_2] at hf
    refine lv_iload_n hx hb d_M_next_20 rfl (lv_at hl 2 rfl) ?_
    refine lv_istore_n (lv' := [(3, .int p0), (2, .int (mli p0.toNatClampNeg)), (0, .ref bM), (1, .int p0)]) hx hb d_M_next_21 rfl hl (by decide) rfl (fun ls hl => ?_)
    refine lv_iload_n hx hb d_M_next_22 rfl (lv_at hl 1 rfl) ?_
    obtain ⟨o_3, hM_3, hf⟩ := bd_some hf
    refine cr_i (va_runS (As := [.int (mli p0.toNatClampNeg)]) (rest := []) ⟨hx, hb, hml, hown, hts⟩ (c_M_isLetter l dC dI   H.size  (mli p0.toNatClampNeg) o_3 hM_3) (va_cwS 1 hts (gwS wb_176 wb_178 wb_179 wb_177) rfl rfl rfl (by decide +kernel) ⟨Nat.le_of_ble_eq_true rfl, Nat.le_of_ble_eq_true rfl⟩) (pr_S (hP.sub [] rfl) (hD.sub [] (by decide) rfl) hK hN [] rfl) rfl rfl hl.1 rfl (lv_room (Nat.le_of_ble_eq_true rfl)) d_M_next_23 ⟨Nat.zero_le _, Nat.zero_le _⟩) hP hD hS hA (in_of [] rfl) (fun r_3 H locs hw hP hS => ?_)
    obtain ⟨hw, hz_3⟩ := hw
    subst r_3
    refine lv_if_eq (tgt := 63) hx hb d_M_next_26 (by decide) (fun c_4 => ?_) (fun c_4 => ?_)
    · rw [if_pos c_4] at hf
      refine lv_iload_n hx hb d_M_next_63 rfl (lv_at hl 1 rfl) ?_
      refine lv_bipush (v := (39 : Int32)) hx hb d_M_next_64 (by decide) ?_
      refine lv_icmp_ne (tgt := 132) hx hb d_M_next_66 (by decide) (fun c_5 => ?_) (fun c_5 => ?_)
      · rw [if_neg c_5] at hf
        refine lv_iload_n hx hb d_M_next_132 rfl (lv_at hl 1 rfl) ?_
        refine lv_bipush (v := (34 : Int32)) hx hb d_M_next_133 (by decide) ?_
        refine lv_icmp_ne (tgt := 204) hx hb d_M_next_135 (by decide) (fun c_6 => ?_) (fun c_6 => ?_)
        · rw [if_neg c_6] at hf
          refine lv_iload_n hx hb d_M_next_204 rfl (lv_at hl 1 rfl) ?_
          refine lv_bipush (v := (60 : Int32)) hx hb d_M_next_205 (by decide) ?_
          refine lv_icmp_eq (tgt := 216) hx hb d_M_next_207 (by decide) (fun c_7 => ?_) (fun c_7 => ?_)
          · rw [if_pos c_7] at hf
            exact join_216 mle mto mlr mli mki mbe men mwo p0 (mli p0.toNatClampNeg) H locs ls hf (hP.sub (ws' := [(bM, .inr (7, [.int mth, .ref bLi, .int mle, .ref bLe, .ref bNa, .ref bNs, .ref bSt, .ref bCo, .int mnm, .int msp, .int mpl, .ref bKi, .ref bBe, .ref bEn, .ref bWo, .int mto, .int mlr, .ref bSi, .ref bPl, .ref bMi, .ref bVa, .int mma, .int mod, .int mfa, .int mlp, .int mlm, .long mlv])), (bLi, .inl (cLim, 1024, .inl mli)), (bKi, .inl (cKim, 1100, .inl mki)), (bBe, .inl (cBem, 1100, .inl mbe)), (bEn, .inl (cEnm, 1100, .inl men)), (bWo, .inl (cWom, 1100, .inr (.inl mwo)))]) [0, 1, 2, 3, 4, 5] rfl) (hD.sub (ws' := [(bM, .inr (7, [.int mth, .ref bLi, .int mle, .ref bLe, .ref bNa, .ref bNs, .ref bSt, .ref bCo, .int mnm, .int msp, .int mpl, .ref bKi, .ref bBe, .ref bEn, .ref bWo, .int mto, .int mlr, .ref bSi, .ref bPl, .ref bMi, .ref bVa, .int mma, .int mod, .int mfa, .int mlp, .int mlm, .long mlv])), (bLi, .inl (cLim, 1024, .inl mli)), (bKi, .inl (cKim, 1100, .inl mki)), (bBe, .inl (cBem, 1100, .inl mbe)), (bEn, .inl (cEnm, 1100, .inl men)), (bWo, .inl (cWom, 1100, .inr (.inl mwo)))]) [0, 1, 2, 3, 4, 5] (by decide) rfl) hS (lv_sub hl [2, 3, 1] rfl)
          · rw [if_neg c_7] at hf
            refine lv_iload_n hx hb d_M_next_210 rfl (lv_at hl 1 rfl) ?_
            refine lv_bipush (v := (62 : Int32)) hx hb d_M_next_211 (by decide) ?_
            refine lv_icmp_ne (tgt := 266) hx hb d_M_next_213 (by decide) (fun c_16 => ?_) (fun c_16 => ?_)
            · rw [if_neg c_16] at hf
              exact join_266 mle mto mlr mli mki mbe men mwo p0 (mli p0.toNatClampNeg) H locs ls hf (hP.sub (ws' := [(bM, .inr (7, [.int mth, .ref bLi, .int mle, .ref bLe, .ref bNa, .ref bNs, .ref bSt, .ref bCo, .int mnm, .int msp, .int mpl, .ref bKi, .ref bBe, .ref bEn, .ref bWo, .int mto, .int mlr, .ref bSi, .ref bPl, .ref bMi, .ref bVa, .int mma, .int mod, .int mfa, .int mlp, .int mlm, .long mlv])), (bLi, .inl (cLim, 1024, .inl mli)), (bKi, .inl (cKim, 1100, .inl mki)), (bBe, .inl (cBem, 1100, .inl mbe)), (bEn, .inl (cEnm, 1100, .inl men)), (bWo, .inl (cWom, 1100, .inr (.inl mwo)))]) [0, 1, 2, 3, 4, 5] rfl) (hD.sub (ws' := [(bM, .inr (7, [.int mth, .ref bLi, .int mle, .ref bLe, .ref bNa, .ref bNs, .ref bSt, .ref bCo, .int mnm, .int msp, .int mpl, .ref bKi, .ref bBe, .ref bEn, .ref bWo, .int mto, .int mlr, .ref bSi, .ref bPl, .ref bMi, .ref bVa, .int mma, .int mod, .int mfa, .int mlp, .int mlm, .long mlv])), (bLi, .inl (cLim, 1024, .inl mli)), (bKi, .inl (cKim, 1100, .inl mki)), (bBe, .inl (cBem, 1100, .inl mbe)), (bEn, .inl (cEnm, 1100, .inl men)), (bWo, .inl (cWom, 1100, .inr (.inl mwo)))]) [0, 1, 2, 3, 4, 5] (by decide) rfl) hS (lv_sub hl [2, 3, 1] rfl)
            · rw [if_pos c_16] at hf
              exact join_216 mle mto mlr mli mki mbe men mwo p0 (mli p0.toNatClampNeg) H locs ls hf (hP.sub (ws' := [(bM, .inr (7, [.int mth, .ref bLi, .int mle, .ref bLe, .ref bNa, .ref bNs, .ref bSt, .ref bCo, .int mnm, .int msp, .int mpl, .ref bKi, .ref bBe, .ref bEn, .ref bWo, .int mto, .int mlr, .ref bSi, .ref bPl, .ref bMi, .ref bVa, .int mma, .int mod, .int mfa, .int mlp, .int mlm, .long mlv])), (bLi, .inl (cLim, 1024, .inl mli)), (bKi, .inl (cKim, 1100, .inl mki)), (bBe, .inl (cBem, 1100, .inl mbe)), (bEn, .inl (cEnm, 1100, .inl men)), (bWo, .inl (cWom, 1100, .inr (.inl mwo)))]) [0, 1, 2, 3, 4, 5] rfl) (hD.sub (ws' := [(bM, .inr (7, [.int mth, .ref bLi, .int mle, .ref bLe, .ref bNa, .ref bNs, .ref bSt, .ref bCo, .int mnm, .int msp, .int mpl, .ref bKi, .ref bBe, .ref bEn, .ref bWo, .int mto, .int mlr, .ref bSi, .ref bPl, .ref bMi, .ref bVa, .int mma, .int mod, .int mfa, .int mlp, .int mlm, .long mlv])), (bLi, .inl (cLim, 1024, .inl mli)), (bKi, .inl (cKim, 1100, .inl mki)), (bBe, .inl (cBem, 1100, .inl mbe)), (bEn, .inl (cEnm, 1100, .inl men)), (bWo, .inl (cWom, 1100, .inr (.inl mwo)))]) [0, 1, 2, 3, 4, 5] (by decide) rfl) hS (lv_sub hl [2, 3, 1] rfl)
        · rw [if_pos c_6] at hf
          refine lv_iload_n hx hb d_M_next_138 rfl (lv_at hl 3 rfl) ?_
          refine lv_iconst (v := (1 : Int32)) hx hb d_M_next_139 (by decide) ?_
          refine lv_iadd hx hb d_M_next_140 ?_
          refine lv_istore_n (lv' := [(3, .int (p0 + (1 : Int32))), (2, .int (mli p0.toNatClampNeg)), (0, .ref bM), (1, .int p0)]) hx hb d_M_next_141 rfl hl (by decide) rfl (fun ls hl => ?_)
          exact loop_142 FU mle mto mlr mli mki mbe men mwo p0 (p0 + (1 : Int32)) H locs ls hf (hP.sub (ws' := [(bM, .inr (7, [.int mth, .ref bLi, .int mle, .ref bLe, .ref bNa, .ref bNs, .ref bSt, .ref bCo, .int mnm, .int msp, .int mpl, .ref bKi, .ref bBe, .ref bEn, .ref bWo, .int mto, .int mlr, .ref bSi, .ref bPl, .ref bMi, .ref bVa, .int mma, .int mod, .int mfa, .int mlp, .int mlm, .long mlv])), (bLi, .inl (cLim, 1024, .inl mli)), (bKi, .inl (cKim, 1100, .inl mki)), (bBe, .inl (cBem, 1100, .inl mbe)), (bEn, .inl (cEnm, 1100, .inl men)), (bWo, .inl (cWom, 1100, .inr (.inl mwo)))]) [0, 1, 2, 3, 4, 5] rfl) (hD.sub (ws' := [(bM, .inr (7, [.int mth, .ref bLi, .int mle, .ref bLe, .ref bNa, .ref bNs, .ref bSt, .ref bCo, .int mnm, .int msp, .int mpl, .ref bKi, .ref bBe, .ref bEn, .ref bWo, .int mto, .int mlr, .ref bSi, .ref bPl, .ref bMi, .ref bVa, .int mma, .int mod, .int mfa, .int mlp, .int mlm, .long mlv])), (bLi, .inl (cLim, 1024, .inl mli)), (bKi, .inl (cKim, 1100, .inl mki)), (bBe, .inl (cBem, 1100, .inl mbe)), (bEn, .inl (cEnm, 1100, .inl men)), (bWo, .inl (cWom, 1100, .inr (.inl mwo)))]) [0, 1, 2, 3, 4, 5] (by decide) rfl) hS (lv_sub hl [2, 3, 0] rfl)
      · rw [if_pos c_5] at hf
        refine lv_aload_n hx hb d_M_next_69 rfl (lv_at hl 2 rfl) ?_
        refine lv_iload_n hx hb d_M_next_70 rfl (lv_at hl 3 rfl) ?_
        refine lv_iconst (v := (1 : Int32)) hx hb d_M_next_71 (by decide) ?_
        refine lv_iadd hx hb d_M_next_72 ?_
        refine lv_bipush (v := (39 : Int32)) hx hb d_M_next_73 (by decide) ?_
        obtain ⟨o_24, hM_24, hf⟩ := bd_some hf
        refine cl_i (wr := [(bKi, .inl (cKim, 1100, .inl mki)), (bBe, .inl (cBem, 1100, .inl mbe)), (bEn, .inl (cEnm, 1100, .inl men)), (bWo, .inl (cWom, 1100, .inr (.inl mwo)))]) (va_runV (As := [.int (p0 + (1 : Int32)), .int (39 : Int32)]) (rest := []) ⟨hx, hb, hml, hown, hts⟩ (c_M_character l dC dI bM bLi bLe bNa bNs bSt bCo bKi bBe bEn bWo bSi bPl bMi bVa cLim H.size mth mle mnm msp mpl mto mlr mma mod mfa mlp mlm mlv mli (p0 + (1 : Int32)) (39 : Int32) o_24 hM_24) (cwV 2 hts (gwV wb_210 wb_212 wb_213 wb_179 wb_211) rfl rfl rfl (by decide +kernel) ⟨Nat.le_of_ble_eq_true rfl, Nat.le_of_ble_eq_true rfl⟩) (pr_V (hP.sub [0, 1] rfl) (hD.sub [0, 1] (by decide) rfl) hK hN [0] rfl (ci := 7) rfl rfl rfl) rfl rfl hl.1 rfl (lv_room (Nat.le_of_ble_eq_true rfl)) d_M_next_75 ⟨Nat.zero_le _, Nat.zero_le _⟩) hP hD hS hA [0, 1] [2, 3, 4, 5] rfl rfl (by decide) (by decide) (fun r_24 H locs hw hP hD hS => ?_)
        subst r_24
        have hP : va_P (dC, dI) vwCl [(bKi, .inl (cKim, 1100, .inl mki)), (bBe, .inl (cBem, 1100, .inl mbe)), (bEn, .inl (cEnm, 1100, .inl men)), (bWo, .inl (cWom, 1100, .inr (.inl mwo))), (bM, .inr (7, [.int mth, .ref bLi, .int mle, .ref bLe, .ref bNa, .ref bNs, .ref bSt, .ref bCo, .int mnm, .int msp, .int mpl, .ref bKi, .ref bBe, .ref bEn, .ref bWo, .int mto, .int o_24.2, .ref bSi, .ref bPl, .ref bMi, .ref bVa, .int mma, .int mod, .int mfa, .int mlp, .int mlm, .long mlv])), (bLi, .inl (cLim, 1024, .inl mli))] H := hP
        have hD : va_D A [(bKi, .inl (cKim, 1100, .inl mki)), (bBe, .inl (cBem, 1100, .inl mbe)), (bEn, .inl (cEnm, 1100, .inl men)), (bWo, .inl (cWom, 1100, .inr (.inl mwo))), (bM, .inr (7, [.int mth, .ref bLi, .int mle, .ref bLe, .ref bNa, .ref bNs, .ref bSt, .ref bCo, .int mnm, .int msp, .int mpl, .ref bKi, .ref bBe, .ref bEn, .ref bWo, .int mto, .int o_24.2, .ref bSi, .ref bPl, .ref bMi, .ref bVa, .int mma, .int mod, .int mfa, .int mlp, .int mlm, .long mlv])), (bLi, .inl (cLim, 1024, .inl mli))] := hD
        refine lv_istore_n (lv' := [(3, .int o_24.1), (2, .int (mli p0.toNatClampNeg)), (0, .ref bM), (1, .int p0)]) hx hb d_M_next_78 rfl hl (by decide) rfl (fun ls hl => ?_)
        refine lv_iload_n hx hb d_M_next_79 rfl (lv_at hl 0 rfl) ?_
        refine lv_if_lt (tgt := 112) hx hb d_M_next_80 (by decide) (fun c_25 => ?_) (fun c_25 => ?_)
        · rw [if_pos c_25] at hf
          refine lv_iconst (v := (-1 : Int32)) hx hb d_M_next_112 (by decide) ?_
          have ho := Option.some.inj hf
          subst o
          have hP9 := hP.sub (ws' := [(bM, .inr (7, [.int mth, .ref bLi, .int mle, .ref bLe, .ref bNa, .ref bNs, .ref bSt, .ref bCo, .int mnm, .int msp, .int mpl, .ref bKi, .ref bBe, .ref bEn, .ref bWo, .int mto, .int o_24.2, .ref bSi, .ref bPl, .ref bMi, .ref bVa, .int mma, .int mod, .int mfa, .int mlp, .int mlm, .long mlv])), (bLi, .inl (cLim, 1024, .inl mli)), (bKi, .inl (cKim, 1100, .inl mki)), (bBe, .inl (cBem, 1100, .inl mbe)), (bEn, .inl (cEnm, 1100, .inl men)), (bWo, .inl (cWom, 1100, .inr (.inl mwo)))]) [4, 5, 0, 1, 2, 3] rfl
          have hD9 := hD.sub (ws' := [(bM, .inr (7, [.int mth, .ref bLi, .int mle, .ref bLe, .ref bNa, .ref bNs, .ref bSt, .ref bCo, .int mnm, .int msp, .int mpl, .ref bKi, .ref bBe, .ref bEn, .ref bWo, .int mto, .int o_24.2, .ref bSi, .ref bPl, .ref bMi, .ref bVa, .int mma, .int mod, .int mfa, .int mlp, .int mlm, .long mlv])), (bLi, .inl (cLim, 1024, .inl mli)), (bKi, .inl (cKim, 1100, .inl mki)), (bBe, .inl (cBem, 1100, .inl mbe)), (bEn, .inl (cEnm, 1100, .inl men)), (bWo, .inl (cWom, 1100, .inr (.inl mwo)))]) [4, 5, 0, 1, 2, 3] (by decide) rfl
          exact W.iret (v := (-1 : Int32)) hx hb hr (fun t ht hW => ⟨⟨(-1 : Int32), (), rfl, rfl, by rw [ht]; exact hP9, va_K.moved hW.alike hK, hD9⟩, hS.F ht⟩) hS.2.2 d_M_next_113
        · rw [if_neg c_25] at hf
          refine lv_iload_n hx hb d_M_next_83 rfl (lv_at hl 0 rfl) ?_
          refine lv_aload_n hx hb d_M_next_84 rfl (lv_at hl 2 rfl) ?_
          refine va_get (D := (dC, dI)) (ci := 7) (v := .int mle) (C := R_M) (T := F_M) (N := 27) hx hb hts i_M hown hK hP 4 rfl rfl 2 (by decide) (hts _ wb_173) (fun _ h9 => h9) rfl d_M_next_85 ?_
          refine lv_icmp_ge (tgt := 112) hx hb d_M_next_88 (by decide) (fun c_26 => ?_) (fun c_26 => ?_)
          · rw [if_pos c_26] at hf
            refine lv_iconst (v := (-1 : Int32)) hx hb d_M_next_112 (by decide) ?_
            have ho := Option.some.inj hf
            subst o
            have hP9 := hP.sub (ws' := [(bM, .inr (7, [.int mth, .ref bLi, .int mle, .ref bLe, .ref bNa, .ref bNs, .ref bSt, .ref bCo, .int mnm, .int msp, .int mpl, .ref bKi, .ref bBe, .ref bEn, .ref bWo, .int mto, .int o_24.2, .ref bSi, .ref bPl, .ref bMi, .ref bVa, .int mma, .int mod, .int mfa, .int mlp, .int mlm, .long mlv])), (bLi, .inl (cLim, 1024, .inl mli)), (bKi, .inl (cKim, 1100, .inl mki)), (bBe, .inl (cBem, 1100, .inl mbe)), (bEn, .inl (cEnm, 1100, .inl men)), (bWo, .inl (cWom, 1100, .inr (.inl mwo)))]) [4, 5, 0, 1, 2, 3] rfl
            have hD9 := hD.sub (ws' := [(bM, .inr (7, [.int mth, .ref bLi, .int mle, .ref bLe, .ref bNa, .ref bNs, .ref bSt, .ref bCo, .int mnm, .int msp, .int mpl, .ref bKi, .ref bBe, .ref bEn, .ref bWo, .int mto, .int o_24.2, .ref bSi, .ref bPl, .ref bMi, .ref bVa, .int mma, .int mod, .int mfa, .int mlp, .int mlm, .long mlv])), (bLi, .inl (cLim, 1024, .inl mli)), (bKi, .inl (cKim, 1100, .inl mki)), (bBe, .inl (cBem, 1100, .inl mbe)), (bEn, .inl (cEnm, 1100, .inl men)), (bWo, .inl (cWom, 1100, .inr (.inl mwo)))]) [4, 5, 0, 1, 2, 3] (by decide) rfl
            exact W.iret (v := (-1 : Int32)) hx hb hr (fun t ht hW => ⟨⟨(-1 : Int32), (), rfl, rfl, by rw [ht]; exact hP9, va_K.moved hW.alike hK, hD9⟩, hS.F ht⟩) hS.2.2 d_M_next_113
          · rw [if_neg c_26] at hf
            refine lv_aload_n hx hb d_M_next_91 rfl (lv_at hl 2 rfl) ?_
            refine va_get (D := (dC, dI)) (ci := 7) (v := .ref bLi) (C := R_M) (T := F_M) (N := 27) hx hb hts i_M hown hK hP 4 rfl rfl 1 (by decide) (hts _ wb_174) (fun _ h9 => h9) rfl d_M_next_92 ?_
            refine lv_iload_n hx hb d_M_next_95 rfl (lv_at hl 0 rfl) ?_
            obtain ⟨hin, hf⟩ := gi_some hf
            refine va_iald hx hb hK hP 5 0 rfl rfl hin d_M_next_96 ?_
            refine lv_bipush (v := (39 : Int32)) hx hb d_M_next_97 (by decide) ?_
            refine lv_icmp_ne (tgt := 112) hx hb d_M_next_99 (by decide) (fun c_27 => ?_) (fun c_27 => ?_)
            · rw [if_neg c_27] at hf
              refine lv_iconst (v := (-1 : Int32)) hx hb d_M_next_112 (by decide) ?_
              have ho := Option.some.inj hf
              subst o
              have hP9 := hP.sub (ws' := [(bM, .inr (7, [.int mth, .ref bLi, .int mle, .ref bLe, .ref bNa, .ref bNs, .ref bSt, .ref bCo, .int mnm, .int msp, .int mpl, .ref bKi, .ref bBe, .ref bEn, .ref bWo, .int mto, .int o_24.2, .ref bSi, .ref bPl, .ref bMi, .ref bVa, .int mma, .int mod, .int mfa, .int mlp, .int mlm, .long mlv])), (bLi, .inl (cLim, 1024, .inl mli)), (bKi, .inl (cKim, 1100, .inl mki)), (bBe, .inl (cBem, 1100, .inl mbe)), (bEn, .inl (cEnm, 1100, .inl men)), (bWo, .inl (cWom, 1100, .inr (.inl mwo)))]) [4, 5, 0, 1, 2, 3] rfl
              have hD9 := hD.sub (ws' := [(bM, .inr (7, [.int mth, .ref bLi, .int mle, .ref bLe, .ref bNa, .ref bNs, .ref bSt, .ref bCo, .int mnm, .int msp, .int mpl, .ref bKi, .ref bBe, .ref bEn, .ref bWo, .int mto, .int o_24.2, .ref bSi, .ref bPl, .ref bMi, .ref bVa, .int mma, .int mod, .int mfa, .int mlp, .int mlm, .long mlv])), (bLi, .inl (cLim, 1024, .inl mli)), (bKi, .inl (cKim, 1100, .inl mki)), (bBe, .inl (cBem, 1100, .inl mbe)), (bEn, .inl (cEnm, 1100, .inl men)), (bWo, .inl (cWom, 1100, .inr (.inl mwo)))]) [4, 5, 0, 1, 2, 3] (by decide) rfl
              exact W.iret (v := (-1 : Int32)) hx hb hr (fun t ht hW => ⟨⟨(-1 : Int32), (), rfl, rfl, by rw [ht]; exact hP9, va_K.moved hW.alike hK, hD9⟩, hS.F ht⟩) hS.2.2 d_M_next_113
            · rw [if_pos c_27] at hf
              refine lv_aload_n hx hb d_M_next_102 rfl (lv_at hl 2 rfl) ?_
              refine lv_iload_n hx hb d_M_next_103 rfl (lv_at hl 0 rfl) ?_
              refine lv_iconst (v := (1 : Int32)) hx hb d_M_next_104 (by decide) ?_
              refine lv_iadd hx hb d_M_next_105 ?_
              obtain ⟨o_28, hM_28, hf⟩ := bd_some hf
              refine cr_i (va_runV (As := [.int (o_24.1 + (1 : Int32))]) (rest := []) ⟨hx, hb, hml, hown, hts⟩ (c_M_isPart l dC dI bM bLi bLe bNa bNs bSt bCo bKi bBe bEn bWo bSi bPl bMi bVa cLim H.size mth mle mnm msp mpl mto o_24.2 mma mod mfa mlp mlm mlv mli (o_24.1 + (1 : Int32)) o_28 hM_28) (cwV 1 hts (gwV wb_193 wb_195 wb_196 wb_179 wb_194) rfl rfl rfl (by decide +kernel) ⟨Nat.le_of_ble_eq_true rfl, Nat.le_of_ble_eq_true rfl⟩) (pr_V (hP.sub [4, 5] rfl) (hD.sub [4, 5] (by decide) rfl) hK hN [0] rfl (ci := 7) rfl rfl rfl) rfl rfl hl.1 rfl (lv_room (Nat.le_of_ble_eq_true rfl)) d_M_next_106 ⟨Nat.zero_le _, Nat.zero_le _⟩) hP hD hS hA (in_of [4, 5] rfl) (fun r_28 H locs hw hP hS => ?_)
              obtain ⟨hw, hz_28⟩ := hw
              subst r_28
              refine lv_if_eq (tgt := 114) hx hb d_M_next_109 (by decide) (fun c_29 => ?_) (fun c_29 => ?_)
              · rw [if_pos c_29] at hf
                refine lv_aload_n hx hb d_M_next_114 rfl (lv_at hl 2 rfl) ?_
                refine lv_iconst (v := (2 : Int32)) hx hb d_M_next_115 (by decide) ?_
                refine lv_iload_n hx hb d_M_next_116 rfl (lv_at hl 3 rfl) ?_
                refine lv_iload_n hx hb d_M_next_117 rfl (lv_at hl 0 rfl) ?_
                refine lv_iconst (v := (1 : Int32)) hx hb d_M_next_118 (by decide) ?_
                refine lv_iadd hx hb d_M_next_119 ?_
                refine lv_aload_n hx hb d_M_next_120 rfl (lv_at hl 2 rfl) ?_
                refine va_get (D := (dC, dI)) (ci := 7) (v := .int o_24.2) (C := R_M) (T := F_M) (N := 27) hx hb hts i_M hown hK hP 4 rfl rfl 16 (by decide) (hts _ wb_192) (fun _ h9 => h9) rfl d_M_next_121 ?_
                refine lv_i2l (v := o_24.2.toInt64) hx hb d_M_next_124 rfl ?_
                obtain ⟨o_30, hM_30, hf⟩ := bd_some hf
                refine cl_v (wr := [(bLi, .inl (cLim, 1024, .inl mli))]) (va_runV (As := [.int (2 : Int32), .int p0, .int (o_24.1 + (1 : Int32)), .long o_24.2.toInt64]) (rest := []) ⟨hx, hb, hml, hown, hts⟩ (c_M_add l dC dI bM bLi bLe bNa bNs bSt bCo bKi bBe bEn bWo bSi bPl bMi bVa cKim cBem cEnm cWom H.size mth mle mnm msp mpl mto o_24.2 mma mod mfa mlp mlm mlv mki mbe men mwo (2 : Int32) p0 (o_24.1 + (1 : Int32)) o_24.2.toInt64 o_30 hM_30) (cwV 4 hts (gwV wb_197 wb_199 wb_200 wb_179 wb_198) rfl rfl rfl (by decide +kernel) ⟨Nat.le_of_ble_eq_true rfl, Nat.le_of_ble_eq_true rfl⟩) (pr_V (hP.sub [4, 0, 1, 2, 3] rfl) (hD.sub [4, 0, 1, 2, 3] (by decide) rfl) hK hN [1, 2, 3, 4] rfl (ci := 7) rfl rfl rfl) rfl rfl hl.1 rfl (lv_room (Nat.le_of_ble_eq_true rfl)) d_M_next_125 ⟨Nat.zero_le _, Nat.zero_le _⟩) hP hD hS hA [4, 0, 1, 2, 3] [5] rfl rfl (by decide) (by decide) (fun H locs hw hP hD hS => ?_)
                have hP : va_P (dC, dI) vwCl [(bLi, .inl (cLim, 1024, .inl mli)), (bM, .inr (7, [.int mth, .ref bLi, .int mle, .ref bLe, .ref bNa, .ref bNs, .ref bSt, .ref bCo, .int mnm, .int msp, .int mpl, .ref bKi, .ref bBe, .ref bEn, .ref bWo, .int o_30.1, .int o_24.2, .ref bSi, .ref bPl, .ref bMi, .ref bVa, .int mma, .int mod, .int mfa, .int mlp, .int mlm, .long mlv])), (bKi, .inl (cKim, 1100, .inl o_30.2.1)), (bBe, .inl (cBem, 1100, .inl o_30.2.2.1)), (bEn, .inl (cEnm, 1100, .inl o_30.2.2.2.1)), (bWo, .inl (cWom, 1100, .inr (.inl o_30.2.2.2.2)))] H := hP
                have hD : va_D A [(bLi, .inl (cLim, 1024, .inl mli)), (bM, .inr (7, [.int mth, .ref bLi, .int mle, .ref bLe, .ref bNa, .ref bNs, .ref bSt, .ref bCo, .int mnm, .int msp, .int mpl, .ref bKi, .ref bBe, .ref bEn, .ref bWo, .int o_30.1, .int o_24.2, .ref bSi, .ref bPl, .ref bMi, .ref bVa, .int mma, .int mod, .int mfa, .int mlp, .int mlm, .long mlv])), (bKi, .inl (cKim, 1100, .inl o_30.2.1)), (bBe, .inl (cBem, 1100, .inl o_30.2.2.1)), (bEn, .inl (cEnm, 1100, .inl o_30.2.2.2.1)), (bWo, .inl (cWom, 1100, .inr (.inl o_30.2.2.2.2)))] := hD
                refine lv_iload_n hx hb d_M_next_128 rfl (lv_at hl 0 rfl) ?_
                refine lv_iconst (v := (1 : Int32)) hx hb d_M_next_129 (by decide) ?_
                refine lv_iadd hx hb d_M_next_130 ?_
                have ho := Option.some.inj hf
                subst o
                have hP9 := hP.sub (ws' := [(bM, .inr (7, [.int mth, .ref bLi, .int mle, .ref bLe, .ref bNa, .ref bNs, .ref bSt, .ref bCo, .int mnm, .int msp, .int mpl, .ref bKi, .ref bBe, .ref bEn, .ref bWo, .int o_30.1, .int o_24.2, .ref bSi, .ref bPl, .ref bMi, .ref bVa, .int mma, .int mod, .int mfa, .int mlp, .int mlm, .long mlv])), (bLi, .inl (cLim, 1024, .inl mli)), (bKi, .inl (cKim, 1100, .inl o_30.2.1)), (bBe, .inl (cBem, 1100, .inl o_30.2.2.1)), (bEn, .inl (cEnm, 1100, .inl o_30.2.2.2.1)), (bWo, .inl (cWom, 1100, .inr (.inl o_30.2.2.2.2)))]) [1, 0, 2, 3, 4, 5] rfl
                have hD9 := hD.sub (ws' := [(bM, .inr (7, [.int mth, .ref bLi, .int mle, .ref bLe, .ref bNa, .ref bNs, .ref bSt, .ref bCo, .int mnm, .int msp, .int mpl, .ref bKi, .ref bBe, .ref bEn, .ref bWo, .int o_30.1, .int o_24.2, .ref bSi, .ref bPl, .ref bMi, .ref bVa, .int mma, .int mod, .int mfa, .int mlp, .int mlm, .long mlv])), (bLi, .inl (cLim, 1024, .inl mli)), (bKi, .inl (cKim, 1100, .inl o_30.2.1)), (bBe, .inl (cBem, 1100, .inl o_30.2.2.1)), (bEn, .inl (cEnm, 1100, .inl o_30.2.2.2.1)), (bWo, .inl (cWom, 1100, .inr (.inl o_30.2.2.2.2)))]) [1, 0, 2, 3, 4, 5] (by decide) rfl
                exact W.iret (v := o_24.1 + (1 : Int32)) hx hb hr (fun t ht hW => ⟨⟨o_24.1 + (1 : Int32), (), rfl, rfl, by rw [ht]; exact hP9, va_K.moved hW.alike hK, hD9⟩, hS.F ht⟩) hS.2.2 d_M_next_131
              · rw [if_neg c_29] at hf
                refine lv_iconst (v := (-1 : Int32)) hx hb d_M_next_112 (by decide) ?_
                have ho := Option.some.inj hf
                subst o
                have hP9 := hP.sub (ws' := [(bM, .inr (7, [.int mth, .ref bLi, .int mle, .ref bLe, .ref bNa, .ref bNs, .ref bSt, .ref bCo, .int mnm, .int msp, .int mpl, .ref bKi, .ref bBe, .ref bEn, .ref bWo, .int mto, .int o_24.2, .ref bSi, .ref bPl, .ref bMi, .ref bVa, .int mma, .int mod, .int mfa, .int mlp, .int mlm, .long mlv])), (bLi, .inl (cLim, 1024, .inl mli)), (bKi, .inl (cKim, 1100, .inl mki)), (bBe, .inl (cBem, 1100, .inl mbe)), (bEn, .inl (cEnm, 1100, .inl men)), (bWo, .inl (cWom, 1100, .inr (.inl mwo)))]) [4, 5, 0, 1, 2, 3] rfl
                have hD9 := hD.sub (ws' := [(bM, .inr (7, [.int mth, .ref bLi, .int mle, .ref bLe, .ref bNa, .ref bNs, .ref bSt, .ref bCo, .int mnm, .int msp, .int mpl, .ref bKi, .ref bBe, .ref bEn, .ref bWo, .int mto, .int o_24.2, .ref bSi, .ref bPl, .ref bMi, .ref bVa, .int mma, .int mod, .int mfa, .int mlp, .int mlm, .long mlv])), (bLi, .inl (cLim, 1024, .inl mli)), (bKi, .inl (cKim, 1100, .inl mki)), (bBe, .inl (cBem, 1100, .inl mbe)), (bEn, .inl (cEnm, 1100, .inl men)), (bWo, .inl (cWom, 1100, .inr (.inl mwo)))]) [4, 5, 0, 1, 2, 3] (by decide) rfl
                exact W.iret (v := (-1 : Int32)) hx hb hr (fun t ht hW => ⟨⟨(-1 : Int32), (), rfl, rfl, by rw [ht]; exact hP9, va_K.moved hW.alike hK, hD9⟩, hS.F ht⟩) hS.2.2 d_M_next_113
    · rw [if_neg c_4] at hf
      exact loop_29 FU mle mto mlr mli mki mbe men mwo p0 p0 H locs ls hf (hP.sub (ws' := [(bM, .inr (7, [.int mth, .ref bLi, .int mle, .ref bLe, .ref bNa, .ref bNs, .ref bSt, .ref bCo, .int mnm, .int msp, .int mpl, .ref bKi, .ref bBe, .ref bEn, .ref bWo, .int mto, .int mlr, .ref bSi, .ref bPl, .ref bMi, .ref bVa, .int mma, .int mod, .int mfa, .int mlp, .int mlm, .long mlv])), (bLi, .inl (cLim, 1024, .inl mli)), (bKi, .inl (cKim, 1100, .inl mki)), (bBe, .inl (cBem, 1100, .inl mbe)), (bEn, .inl (cEnm, 1100, .inl men)), (bWo, .inl (cWom, 1100, .inr (.inl mwo)))]) [0, 1, 2, 3, 4, 5] rfl) (hD.sub (ws' := [(bM, .inr (7, [.int mth, .ref bLi, .int mle, .ref bLe, .ref bNa, .ref bNs, .ref bSt, .ref bCo, .int mnm, .int msp, .int mpl, .ref bKi, .ref bBe, .ref bEn, .ref bWo, .int mto, .int mlr, .ref bSi, .ref bPl, .ref bMi, .ref bVa, .int mma, .int mod, .int mfa, .int mlp, .int mlm, .long mlv])), (bLi, .inl (cLim, 1024, .inl mli)), (bKi, .inl (cKim, 1100, .inl mki)), (bBe, .inl (cBem, 1100, .inl mbe)), (bEn, .inl (cEnm, 1100, .inl men)), (bWo, .inl (cWom, 1100, .inr (.inl mwo)))]) [0, 1, 2, 3, 4, 5] (by decide) rfl) hS (lv_sub hl [2, 3, 0] rfl)
  · rw [if_neg c_2] at hf
    refine lv_aload_n hx hb d_M_next_14 rfl (lv_at hl 1 rfl) ?_
    refine lv_iload_n hx hb d_M_next_15 rfl (lv_at hl 2 rfl) ?_
    obtain ⟨o_35, hM_35, hf⟩ := bd_some hf
    refine cl_i (wr := []) (va_runV (As := [.int p0]) (rest := []) ⟨hx, hb, hml, hown, hts⟩ (c_M_number l dC dI bM bLi bLe bNa bNs bSt bCo bKi bBe bEn bWo bSi bPl bMi bVa cLim cKim cBem cEnm cWom H.size mth mle mnm msp mpl mto mlr mma mod mfa mlp mlm mlv mli mki mbe men mwo p0 o_35 hM_35) (cwV 1 hts (gwV wb_214 wb_216 wb_217 wb_179 wb_215) rfl rfl rfl (by decide +kernel) ⟨Nat.le_of_ble_eq_true rfl, Nat.le_of_ble_eq_true rfl⟩) (pr_V (hP.sub [0, 1, 2, 3, 4, 5] rfl) (hD.sub [0, 1, 2, 3, 4, 5] (by decide) rfl) hK hN [0, 1, 2, 3, 4] rfl (ci := 7) rfl rfl rfl) rfl rfl hl.1 rfl (lv_room (Nat.le_of_ble_eq_true rfl)) d_M_next_16 ⟨Nat.zero_le _, Nat.zero_le _⟩) hP hD hS hA [0, 1, 2, 3, 4, 5] [] rfl rfl (by decide) (by decide) (fun r_35 H locs hw hP hD hS => ?_)
    subst r_35
    have hP : va_P (dC, dI) vwCl [(bM, .inr (7, [.int mth, .ref bLi, .int mle, .ref bLe, .ref bNa, .ref bNs, .ref bSt, .ref bCo, .int mnm, .int msp, .int mpl, .ref bKi, .ref bBe, .ref bEn, .ref bWo, .int o_35.2.1, .int mlr, .ref bSi, .ref bPl, .ref bMi, .ref bVa, .int mma, .int mod, .int mfa, .int mlp, .int mlm, .long mlv])), (bLi, .inl (cLim, 1024, .inl mli)), (bKi, .inl (cKim, 1100, .inl o_35.2.2.1)), (bBe, .inl (cBem, 1100, .inl o_35.2.2.2.1)), (bEn, .inl (cEnm, 1100, .inl o_35.2.2.2.2.1)), (bWo, .inl (cWom, 1100, .inr (.inl o_35.2.2.2.2.2)))] H := hP
    have hD : va_D A [(bM, .inr (7, [.int mth, .ref bLi, .int mle, .ref bLe, .ref bNa, .ref bNs, .ref bSt, .ref bCo, .int mnm, .int msp, .int mpl, .ref bKi, .ref bBe, .ref bEn, .ref bWo, .int o_35.2.1, .int mlr, .ref bSi, .ref bPl, .ref bMi, .ref bVa, .int mma, .int mod, .int mfa, .int mlp, .int mlm, .long mlv])), (bLi, .inl (cLim, 1024, .inl mli)), (bKi, .inl (cKim, 1100, .inl o_35.2.2.1)), (bBe, .inl (cBem, 1100, .inl o_35.2.2.2.1)), (bEn, .inl (cEnm, 1100, .inl o_35.2.2.2.2.1)), (bWo, .inl (cWom, 1100, .inr (.inl o_35.2.2.2.2.2)))] := hD
    have ho := Option.some.inj hf
    subst o
    have hP9 := hP.sub (ws' := [(bM, .inr (7, [.int mth, .ref bLi, .int mle, .ref bLe, .ref bNa, .ref bNs, .ref bSt, .ref bCo, .int mnm, .int msp, .int mpl, .ref bKi, .ref bBe, .ref bEn, .ref bWo, .int o_35.2.1, .int mlr, .ref bSi, .ref bPl, .ref bMi, .ref bVa, .int mma, .int mod, .int mfa, .int mlp, .int mlm, .long mlv])), (bLi, .inl (cLim, 1024, .inl mli)), (bKi, .inl (cKim, 1100, .inl o_35.2.2.1)), (bBe, .inl (cBem, 1100, .inl o_35.2.2.2.1)), (bEn, .inl (cEnm, 1100, .inl o_35.2.2.2.2.1)), (bWo, .inl (cWom, 1100, .inr (.inl o_35.2.2.2.2.2)))]) [0, 1, 2, 3, 4, 5] rfl
    have hD9 := hD.sub (ws' := [(bM, .inr (7, [.int mth, .ref bLi, .int mle, .ref bLe, .ref bNa, .ref bNs, .ref bSt, .ref bCo, .int mnm, .int msp, .int mpl, .ref bKi, .ref bBe, .ref bEn, .ref bWo, .int o_35.2.1, .int mlr, .ref bSi, .ref bPl, .ref bMi, .ref bVa, .int mma, .int mod, .int mfa, .int mlp, .int mlm, .long mlv])), (bLi, .inl (cLim, 1024, .inl mli)), (bKi, .inl (cKim, 1100, .inl o_35.2.2.1)), (bBe, .inl (cBem, 1100, .inl o_35.2.2.2.1)), (bEn, .inl (cEnm, 1100, .inl o_35.2.2.2.2.1)), (bWo, .inl (cWom, 1100, .inr (.inl o_35.2.2.2.2.2)))]) [0, 1, 2, 3, 4, 5] (by decide) rfl
    exact W.iret (v := o_35.1) hx hb hr (fun t ht hW => ⟨⟨o_35.1, (), rfl, rfl, by rw [ht]; exact hP9, va_K.moved hW.alike hK, hD9⟩, hS.F ht⟩) hS.2.2 d_M_next_19

def f_M_cut_l7 : Nat → Int32 → Int32 → Int32 → (Nat → Int32) → (Nat → Int32) → (Nat → Int32) → (Nat → Int32) → (Nat → Int64) → Int32 → Option (Int32 × Int32 × Int32 × (Nat → Int32) × (Nat → Int32) × (Nat → Int32) × (Nat → Int64))
  | 0, _, _, _, _, _, _, _, _, _ => none
  | n + 1, mle, mto, mlr, mli, mki, mbe, men, mwo, x1 => if x1 < (0 : Int32) then if x1 < (0 : Int32) then some ((0 : Int32), mto, mlr, mki, mbe, men, mwo) else some ((1 : Int32), mto, mlr, mki, mbe, men, mwo) else if mle ≤ x1 then if x1 < (0 : Int32) then some ((0 : Int32), mto, mlr, mki, mbe, men, mwo) else some ((1 : Int32), mto, mlr, mki, mbe, men, mwo) else gi x1 1024 (if (mli x1.toNatClampNeg) = (59 : Int32) then if x1 < (0 : Int32) then some ((0 : Int32), mto, mlr, mki, mbe, men, mwo) else some ((1 : Int32), mto, mlr, mki, mbe, men, mwo) else gi x1 1024 (if (mli x1.toNatClampNeg) = (32 : Int32) then f_M_cut_l7 n mle mto mlr mli mki mbe men mwo (x1 + (1 : Int32)) else gi x1 1024 (if (mli x1.toNatClampNeg) = (9 : Int32) then f_M_cut_l7 n mle mto mlr mli mki mbe men mwo (x1 + (1 : Int32)) else (f_M_next mle mto mlr mli mki mbe men mwo x1).bind (fun o_9 => f_M_cut_l7 n mle o_9.2.1 o_9.2.2.1 mli o_9.2.2.2.1 o_9.2.2.2.2.1 o_9.2.2.2.2.2.1 o_9.2.2.2.2.2.2 o_9.1))))
def f_M_cut (mle : Int32) (mto : Int32) (mlr : Int32) (mli : Nat → Int32) (mki : Nat → Int32) (mbe : Nat → Int32) (men : Nat → Int32) (mwo : Nat → Int64) : Option (Int32 × Int32 × Int32 × (Nat → Int32) × (Nat → Int32) × (Nat → Int32) × (Nat → Int64)) := f_M_cut_l7 FU mle (0 : Int32) mlr mli mki mbe men mwo (0 : Int32)
set_option maxHeartbeats 4000000 in
set_option maxRecDepth 100000 in
theorem c_M_cut (l : Launch) (dC : Nat → ClassId) (dI : Nat → Nat → Nat) (bM bLi bLe bNa bNs bSt bCo bKi bBe bEn bWo bSi bPl bMi bVa : Nat) (cLim cKim cBem cEnm cWom : ClassId) (sz : Nat) (mth : Int32) (mle : Int32) (mnm : Int32) (msp : Int32) (mpl : Int32) (mto : Int32) (mlr : Int32) (mma : Int32) (mod : Int32) (mfa : Int32) (mlp : Int32) (mlm : Int32) (mlv : Int64) (mli : Nat → Int32) (mki : Nat → Int32) (mbe : Nat → Int32) (men : Nat → Int32) (mwo : Nat → Int64) (o : Int32 × Int32 × Int32 × (Nat → Int32) × (Nat → Int32) × (Nat → Int32) × (Nat → Int64)) (hf : f_M_cut mle mto mlr mli mki mbe men mwo = some o) : Met l y_M_cut (w_M_cut) ({ frames := 4, cells := 0, slots := 0, locals := 92 }) (va_Pc [.ref bM] (fun U => U.heap.size = sz ∧ va_P (dC, dI) vwCl [(bM, .inr (7, [.int mth, .ref bLi, .int mle, .ref bLe, .ref bNa, .ref bNs, .ref bSt, .ref bCo, .int mnm, .int msp, .int mpl, .ref bKi, .ref bBe, .ref bEn, .ref bWo, .int mto, .int mlr, .ref bSi, .ref bPl, .ref bMi, .ref bVa, .int mma, .int mod, .int mfa, .int mlp, .int mlm, .long mlv])), (bLi, .inl (cLim, 1024, .inl mli)), (bKi, .inl (cKim, 1100, .inl mki)), (bBe, .inl (cBem, 1100, .inl mbe)), (bEn, .inl (cEnm, 1100, .inl men)), (bWo, .inl (cWom, 1100, .inr (.inl mwo)))] U.heap ∧ va_K (dC, dI) vwCl [(cLim, .int), (cKim, .int), (cBem, .int), (cEnm, .int), (cWom, .long)] U ∧ va_D (fun _ => True) [(bM, .inr (7, [.int mth, .ref bLi, .int mle, .ref bLe, .ref bNa, .ref bNs, .ref bSt, .ref bCo, .int mnm, .int msp, .int mpl, .ref bKi, .ref bBe, .ref bEn, .ref bWo, .int mto, .int mlr, .ref bSi, .ref bPl, .ref bMi, .ref bVa, .int mma, .int mod, .int mfa, .int mlp, .int mlm, .long mlv])), (bLi, .inl (cLim, 1024, .inl mli)), (bKi, .inl (cKim, 1100, .inl mki)), (bBe, .inl (cBem, 1100, .inl mbe)), (bEn, .inl (cEnm, 1100, .inl men)), (bWo, .inl (cWom, 1100, .inr (.inl mwo)))] ∧ NW U)) (va_Qi (fun (r : Int32) (_ : Unit) => r = o.1 ∧ narrow .boolean (.int r) = .int r) (fun _ t => va_P (dC, dI) vwCl [(bM, .inr (7, [.int mth, .ref bLi, .int mle, .ref bLe, .ref bNa, .ref bNs, .ref bSt, .ref bCo, .int mnm, .int msp, .int mpl, .ref bKi, .ref bBe, .ref bEn, .ref bWo, .int o.2.1, .int o.2.2.1, .ref bSi, .ref bPl, .ref bMi, .ref bVa, .int mma, .int mod, .int mfa, .int mlp, .int mlm, .long mlv])), (bLi, .inl (cLim, 1024, .inl mli)), (bKi, .inl (cKim, 1100, .inl o.2.2.2.1)), (bBe, .inl (cBem, 1100, .inl o.2.2.2.2.1)), (bEn, .inl (cEnm, 1100, .inl o.2.2.2.2.2.1)), (bWo, .inl (cWom, 1100, .inr (.inl o.2.2.2.2.2.2)))] t.heap ∧ va_K (dC, dI) vwCl [(cLim, .int), (cKim, .int), (cBem, .int), (cEnm, .int), (cWom, .long)] t ∧ va_D (va_A [(bM, .inr (7, [.int mth, .ref bLi, .int mle, .ref bLe, .ref bNa, .ref bNs, .ref bSt, .ref bCo, .int mnm, .int msp, .int mpl, .ref bKi, .ref bBe, .ref bEn, .ref bWo, .int mto, .int mlr, .ref bSi, .ref bPl, .ref bMi, .ref bVa, .int mma, .int mod, .int mfa, .int mlp, .int mlm, .long mlv])), (bLi, .inl (cLim, 1024, .inl mli)), (bKi, .inl (cKim, 1100, .inl mki)), (bBe, .inl (cBem, 1100, .inl mbe)), (bEn, .inl (cEnm, 1100, .inl men)), (bWo, .inl (cWom, 1100, .inr (.inl mwo)))] sz) [(bM, .inr (7, [.int mth, .ref bLi, .int mle, .ref bLe, .ref bNa, .ref bNs, .ref bSt, .ref bCo, .int mnm, .int msp, .int mpl, .ref bKi, .ref bBe, .ref bEn, .ref bWo, .int o.2.1, .int o.2.2.1, .ref bSi, .ref bPl, .ref bMi, .ref bVa, .int mma, .int mod, .int mfa, .int mlp, .int mlm, .long mlv])), (bLi, .inl (cLim, 1024, .inl mli)), (bKi, .inl (cKim, 1100, .inl o.2.2.2.1)), (bBe, .inl (cBem, 1100, .inl o.2.2.2.2.1)), (bEn, .inl (cEnm, 1100, .inl o.2.2.2.2.2.1)), (bWo, .inl (cWom, 1100, .inr (.inl o.2.2.2.2.2.2)))]) (va_A [(bM, .inr (7, [.int mth, .ref bLi, .int mle, .ref bLe, .ref bNa, .ref bNs, .ref bSt, .ref bCo, .int mnm, .int msp, .int mpl, .ref bKi, .ref bBe, .ref bEn, .ref bWo, .int mto, .int mlr, .ref bSi, .ref bPl, .ref bMi, .ref bVa, .int mma, .int mod, .int mfa, .int mlp, .int mlm, .long mlv])), (bLi, .inl (cLim, 1024, .inl mli)), (bKi, .inl (cKim, 1100, .inl mki)), (bBe, .inl (cBem, 1100, .inl mbe)), (bEn, .inl (cEnm, 1100, .inl men)), (bWo, .inl (cWom, 1100, .inr (.inl mwo)))] sz)) 0 0 (va_A [(bM, .inr (7, [.int mth, .ref bLi, .int mle, .ref bLe, .ref bNa, .ref bNs, .ref bSt, .ref bCo, .int mnm, .int msp, .int mpl, .ref bKi, .ref bBe, .ref bEn, .ref bWo, .int mto, .int mlr, .ref bSi, .ref bPl, .ref bMi, .ref bVa, .int mma, .int mod, .int mfa, .int mlp, .int mlm, .long mlv])), (bLi, .inl (cLim, 1024, .inl mli)), (bKi, .inl (cKim, 1100, .inl mki)), (bBe, .inl (cBem, 1100, .inl mbe)), (bEn, .inl (cEnm, 1100, .inl men)), (bWo, .inl (cWom, 1100, .inr (.inl mwo)))] sz) := by
  refine Met.ofW (cc := b_M_cut) (maxL := 2) (ret := (some .boolean)) (by decide) rfl ?_
  intro p e s m args below meth c s₁ B hml hv
  obtain ⟨rfl, hsz, hP, hK, hD0, hN⟩ := hv
  have hx := B.exec
  have hb := B.bytes
  have hr := B.returns
  have hts : ∀ w ∈ WB, w.before _ s = true := fun w h => atoms_spec (ws := w_M_cut) B.pre w (List.mem_cons_of_mem _ h)
  have hown : s.vm.findClass R_M = some m.cls := findClass_of_methodNamed B.named
  have hlocks := B.notSynchronized
  subst hsz
  have hD := hD0.self (sz := s.heap.size)
  generalize hAe : va_A [(bM, .inr (7, [.int mth, .ref bLi, .int mle, .ref bLe, .ref bNa, .ref bNs, .ref bSt, .ref bCo, .int mnm, .int msp, .int mpl, .ref bKi, .ref bBe, .ref bEn, .ref bWo, .int mto, .int mlr, .ref bSi, .ref bPl, .ref bMi, .ref bVa, .int mma, .int mod, .int mfa, .int mlp, .int mlm, .long mlv])), (bLi, .inl (cLim, 1024, .inl mli)), (bKi, .inl (cKim, 1100, .inl mki)), (bBe, .inl (cBem, 1100, .inl mbe)), (bEn, .inl (cEnm, 1100, .inl men)), (bWo, .inl (cWom, 1100, .inr (.inl mwo)))] s.heap.size = A at hD ⊢
  have hA : ∀ q : Nat, s.heap.size ≤ q → A q := fun q h => by rw [← hAe]; exact Or.inr h
  have hS : va_S A s.heap s.heap [] := va_S.rf
  have hP : va_P (dC, dI) vwCl [(bM, .inr (7, [.int mth, .ref bLi, .int mle, .ref bLe, .ref bNa, .ref bNs, .ref bSt, .ref bCo, .int mnm, .int msp, .int mpl, .ref bKi, .ref bBe, .ref bEn, .ref bWo, .int mto, .int mlr, .ref bSi, .ref bPl, .ref bMi, .ref bVa, .int mma, .int mod, .int mfa, .int mlp, .int mlm, .long mlv])), (bLi, .inl (cLim, 1024, .inl mli)), (bKi, .inl (cKim, 1100, .inl mki)), (bBe, .inl (cBem, 1100, .inl mbe)), (bEn, .inl (cEnm, 1100, .inl men)), (bWo, .inl (cWom, 1100, .inr (.inl mwo)))] s.heap := hP
  have hl := lv_entry [.ref bM] (n := 2) (Nat.le_of_ble_eq_true rfl)
  rw [lg_entry_eq]
  generalize (lg_sl [.ref bM] ++ List.replicate (2 - (lg_sl [.ref bM]).length) Slot.unset).toArray = ls at hl ⊢
  have hl : lv_has ls 2 [(0, .ref bM)] := hl
  have loop_7 : ∀ (n : Nat) (mle : Int32) (mto : Int32) (mlr : Int32) (mli : Nat → Int32) (mki : Nat → Int32) (mbe : Nat → Int32) (men : Nat → Int32) (mwo : Nat → Int64) (x1 : Int32) (H : Heap) (locs : List Loc) (ls : Array Slot), f_M_cut_l7 n mle mto mlr mli mki mbe men mwo x1 = some o → va_P (dC, dI) vwCl [(bM, .inr (7, [.int mth, .ref bLi, .int mle, .ref bLe, .ref bNa, .ref bNs, .ref bSt, .ref bCo, .int mnm, .int msp, .int mpl, .ref bKi, .ref bBe, .ref bEn, .ref bWo, .int mto, .int mlr, .ref bSi, .ref bPl, .ref bMi, .ref bVa, .int mma, .int mod, .int mfa, .int mlp, .int mlm, .long mlv])), (bLi, .inl (cLim, 1024, .inl mli)), (bKi, .inl (cKim, 1100, .inl mki)), (bBe, .inl (cBem, 1100, .inl mbe)), (bEn, .inl (cEnm, 1100, .inl men)), (bWo, .inl (cWom, 1100, .inr (.inl mwo)))] H → va_D A [(bM, .inr (7, [.int mth, .ref bLi, .int mle, .ref bLe, .ref bNa, .ref bNs, .ref bSt, .ref bCo, .int mnm, .int msp, .int mpl, .ref bKi, .ref bBe, .ref bEn, .ref bWo, .int mto, .int mlr, .ref bSi, .ref bPl, .ref bMi, .ref bVa, .int mma, .int mod, .int mfa, .int mlp, .int mlm, .long mlv])), (bLi, .inl (cLim, 1024, .inl mli)), (bKi, .inl (cKim, 1100, .inl mki)), (bBe, .inl (cBem, 1100, .inl mbe)), (bEn, .inl (cEnm, 1100, .inl men)), (bWo, .inl (cWom, 1100, .inr (.inl mwo)))] → va_S A s.heap H locs → lv_has ls 2 [(0, .ref bM), (1, .int x1)] → W p l e (headSpec (w_M_cut) ({ frames := 4, cells := 0, slots := 0, locals := 92 })).room s m [.ref bM].toArray below meth c H locs 0 0 (MQ below (va_Qi (fun (r : Int32) (_ : Unit) => r = o.1 ∧ narrow .boolean (.int r) = .int r) (fun _ t => va_P (dC, dI) vwCl [(bM, .inr (7, [.int mth, .ref bLi, .int mle, .ref bLe, .ref bNa, .ref bNs, .ref bSt, .ref bCo, .int mnm, .int msp, .int mpl, .ref bKi, .ref bBe, .ref bEn, .ref bWo, .int o.2.1, .int o.2.2.1, .ref bSi, .ref bPl, .ref bMi, .ref bVa, .int mma, .int mod, .int mfa, .int mlp, .int mlm, .long mlv])), (bLi, .inl (cLim, 1024, .inl mli)), (bKi, .inl (cKim, 1100, .inl o.2.2.2.1)), (bBe, .inl (cBem, 1100, .inl o.2.2.2.2.1)), (bEn, .inl (cEnm, 1100, .inl o.2.2.2.2.2.1)), (bWo, .inl (cWom, 1100, .inr (.inl o.2.2.2.2.2.2)))] t.heap ∧ va_K (dC, dI) vwCl [(cLim, .int), (cKim, .int), (cBem, .int), (cEnm, .int), (cWom, .long)] t ∧ va_D A [(bM, .inr (7, [.int mth, .ref bLi, .int mle, .ref bLe, .ref bNa, .ref bNs, .ref bSt, .ref bCo, .int mnm, .int msp, .int mpl, .ref bKi, .ref bBe, .ref bEn, .ref bWo, .int o.2.1, .int o.2.2.1, .ref bSi, .ref bPl, .ref bMi, .ref bVa, .int mma, .int mod, .int mfa, .int mlp, .int mlm, .long mlv])), (bLi, .inl (cLim, 1024, .inl mli)), (bKi, .inl (cKim, 1100, .inl o.2.2.2.1)), (bBe, .inl (cBem, 1100, .inl o.2.2.2.2.1)), (bEn, .inl (cEnm, 1100, .inl o.2.2.2.2.2.1)), (bWo, .inl (cWom, 1100, .inr (.inl o.2.2.2.2.2.2)))]) A) [.ref bM].toArray s 0 0 A) (F0 m 7 ls []) := by
    intro n
    induction n with
    | zero => intro mle mto mlr mli mki mbe men mwo x1 H locs ls hf; exact absurd hf (by simp [f_M_cut_l7])
    | succ n ih =>
      intro mle mto mlr mli mki mbe men mwo x1 H locs ls hf hP hD hS hl
      rw [f_M_cut_l7] at hf
      refine lv_iload_n hx hb d_M_cut_7 rfl (lv_at hl 1 rfl) ?_
      refine lv_if_lt (tgt := 67) hx hb d_M_cut_8 (by decide) (fun c_1 => ?_) (fun c_1 => ?_)
      · rw [if_pos c_1] at hf
        refine lv_iload_n hx hb d_M_cut_67 rfl (lv_at hl 1 rfl) ?_
        refine lv_if_lt (tgt := 75) hx hb d_M_cut_68 (by decide) (fun c_2 => ?_) (fun c_2 => ?_)
        · rw [if_pos c_2] at hf
          refine lv_iconst (v := (0 : Int32)) hx hb d_M_cut_75 (by decide) ?_
          have ho := Option.some.inj hf
          subst o
          have hP9 := hP.sub (ws' := [(bM, .inr (7, [.int mth, .ref bLi, .int mle, .ref bLe, .ref bNa, .ref bNs, .ref bSt, .ref bCo, .int mnm, .int msp, .int mpl, .ref bKi, .ref bBe, .ref bEn, .ref bWo, .int mto, .int mlr, .ref bSi, .ref bPl, .ref bMi, .ref bVa, .int mma, .int mod, .int mfa, .int mlp, .int mlm, .long mlv])), (bLi, .inl (cLim, 1024, .inl mli)), (bKi, .inl (cKim, 1100, .inl mki)), (bBe, .inl (cBem, 1100, .inl mbe)), (bEn, .inl (cEnm, 1100, .inl men)), (bWo, .inl (cWom, 1100, .inr (.inl mwo)))]) [0, 1, 2, 3, 4, 5] rfl
          have hD9 := hD.sub (ws' := [(bM, .inr (7, [.int mth, .ref bLi, .int mle, .ref bLe, .ref bNa, .ref bNs, .ref bSt, .ref bCo, .int mnm, .int msp, .int mpl, .ref bKi, .ref bBe, .ref bEn, .ref bWo, .int mto, .int mlr, .ref bSi, .ref bPl, .ref bMi, .ref bVa, .int mma, .int mod, .int mfa, .int mlp, .int mlm, .long mlv])), (bLi, .inl (cLim, 1024, .inl mli)), (bKi, .inl (cKim, 1100, .inl mki)), (bBe, .inl (cBem, 1100, .inl mbe)), (bEn, .inl (cEnm, 1100, .inl men)), (bWo, .inl (cWom, 1100, .inr (.inl mwo)))]) [0, 1, 2, 3, 4, 5] (by decide) rfl
          exact W.zret (v := (0 : Int32)) (ty := .boolean) hx hb hr rfl (fun t ht hW => ⟨⟨(0 : Int32), (), rfl, ⟨rfl, rfl⟩, by rw [ht]; exact hP9, va_K.moved hW.alike hK, hD9⟩, hS.F ht⟩) hS.2.2 d_M_cut_76
        · rw [if_neg c_2] at hf
          refine lv_iconst (v := (1 : Int32)) hx hb d_M_cut_71 (by decide) ?_
          refine lv_goto (tgt := 76) hx hb d_M_cut_72 (by decide) ?_
          have ho := Option.some.inj hf
          subst o
          have hP9 := hP.sub (ws' := [(bM, .inr (7, [.int mth, .ref bLi, .int mle, .ref bLe, .ref bNa, .ref bNs, .ref bSt, .ref bCo, .int mnm, .int msp, .int mpl, .ref bKi, .ref bBe, .ref bEn, .ref bWo, .int mto, .int mlr, .ref bSi, .ref bPl, .ref bMi, .ref bVa, .int mma, .int mod, .int mfa, .int mlp, .int mlm, .long mlv])), (bLi, .inl (cLim, 1024, .inl mli)), (bKi, .inl (cKim, 1100, .inl mki)), (bBe, .inl (cBem, 1100, .inl mbe)), (bEn, .inl (cEnm, 1100, .inl men)), (bWo, .inl (cWom, 1100, .inr (.inl mwo)))]) [0, 1, 2, 3, 4, 5] rfl
          have hD9 := hD.sub (ws' := [(bM, .inr (7, [.int mth, .ref bLi, .int mle, .ref bLe, .ref bNa, .ref bNs, .ref bSt, .ref bCo, .int mnm, .int msp, .int mpl, .ref bKi, .ref bBe, .ref bEn, .ref bWo, .int mto, .int mlr, .ref bSi, .ref bPl, .ref bMi, .ref bVa, .int mma, .int mod, .int mfa, .int mlp, .int mlm, .long mlv])), (bLi, .inl (cLim, 1024, .inl mli)), (bKi, .inl (cKim, 1100, .inl mki)), (bBe, .inl (cBem, 1100, .inl mbe)), (bEn, .inl (cEnm, 1100, .inl men)), (bWo, .inl (cWom, 1100, .inr (.inl mwo)))]) [0, 1, 2, 3, 4, 5] (by decide) rfl
          exact W.zret (v := (1 : Int32)) (ty := .boolean) hx hb hr rfl (fun t ht hW => ⟨⟨(1 : Int32), (), rfl, ⟨rfl, rfl⟩, by rw [ht]; exact hP9, va_K.moved hW.alike hK, hD9⟩, hS.F ht⟩) hS.2.2 d_M_cut_76
      · rw [if_neg c_1] at hf
        refine lv_iload_n hx hb d_M_cut_11 rfl (lv_at hl 1 rfl) ?_
        refine lv_aload_n hx hb d_M_cut_12 rfl (lv_at hl 0 rfl) ?_
        refine va_get (D := (dC, dI)) (ci := 7) (v := .int mle) (C := R_M) (T := F_M) (N := 27) hx hb hts i_M hown hK hP 0 rfl rfl 2 (by decide) (hts _ wb_173) (fun _ h9 => h9) rfl d_M_cut_13 ?_
        refine lv_icmp_ge (tgt := 67) hx hb d_M_cut_16 (by decide) (fun c_3 => ?_) (fun c_3 => ?_)
        · rw [if_pos c_3] at hf
          refine lv_iload_n hx hb d_M_cut_67 rfl (lv_at hl 1 rfl) ?_
          refine lv_if_lt (tgt := 75) hx hb d_M_cut_68 (by decide) (fun c_4 => ?_) (fun c_4 => ?_)
          · rw [if_pos c_4] at hf
            refine lv_iconst (v := (0 : Int32)) hx hb d_M_cut_75 (by decide) ?_
            have ho := Option.some.inj hf
            subst o
            have hP9 := hP.sub (ws' := [(bM, .inr (7, [.int mth, .ref bLi, .int mle, .ref bLe, .ref bNa, .ref bNs, .ref bSt, .ref bCo, .int mnm, .int msp, .int mpl, .ref bKi, .ref bBe, .ref bEn, .ref bWo, .int mto, .int mlr, .ref bSi, .ref bPl, .ref bMi, .ref bVa, .int mma, .int mod, .int mfa, .int mlp, .int mlm, .long mlv])), (bLi, .inl (cLim, 1024, .inl mli)), (bKi, .inl (cKim, 1100, .inl mki)), (bBe, .inl (cBem, 1100, .inl mbe)), (bEn, .inl (cEnm, 1100, .inl men)), (bWo, .inl (cWom, 1100, .inr (.inl mwo)))]) [0, 1, 2, 3, 4, 5] rfl
            have hD9 := hD.sub (ws' := [(bM, .inr (7, [.int mth, .ref bLi, .int mle, .ref bLe, .ref bNa, .ref bNs, .ref bSt, .ref bCo, .int mnm, .int msp, .int mpl, .ref bKi, .ref bBe, .ref bEn, .ref bWo, .int mto, .int mlr, .ref bSi, .ref bPl, .ref bMi, .ref bVa, .int mma, .int mod, .int mfa, .int mlp, .int mlm, .long mlv])), (bLi, .inl (cLim, 1024, .inl mli)), (bKi, .inl (cKim, 1100, .inl mki)), (bBe, .inl (cBem, 1100, .inl mbe)), (bEn, .inl (cEnm, 1100, .inl men)), (bWo, .inl (cWom, 1100, .inr (.inl mwo)))]) [0, 1, 2, 3, 4, 5] (by decide) rfl
            exact W.zret (v := (0 : Int32)) (ty := .boolean) hx hb hr rfl (fun t ht hW => ⟨⟨(0 : Int32), (), rfl, ⟨rfl, rfl⟩, by rw [ht]; exact hP9, va_K.moved hW.alike hK, hD9⟩, hS.F ht⟩) hS.2.2 d_M_cut_76
          · rw [if_neg c_4] at hf
            refine lv_iconst (v := (1 : Int32)) hx hb d_M_cut_71 (by decide) ?_
            refine lv_goto (tgt := 76) hx hb d_M_cut_72 (by decide) ?_
            have ho := Option.some.inj hf
            subst o
            have hP9 := hP.sub (ws' := [(bM, .inr (7, [.int mth, .ref bLi, .int mle, .ref bLe, .ref bNa, .ref bNs, .ref bSt, .ref bCo, .int mnm, .int msp, .int mpl, .ref bKi, .ref bBe, .ref bEn, .ref bWo, .int mto, .int mlr, .ref bSi, .ref bPl, .ref bMi, .ref bVa, .int mma, .int mod, .int mfa, .int mlp, .int mlm, .long mlv])), (bLi, .inl (cLim, 1024, .inl mli)), (bKi, .inl (cKim, 1100, .inl mki)), (bBe, .inl (cBem, 1100, .inl mbe)), (bEn, .inl (cEnm, 1100, .inl men)), (bWo, .inl (cWom, 1100, .inr (.inl mwo)))]) [0, 1, 2, 3, 4, 5] rfl
            have hD9 := hD.sub (ws' := [(bM, .inr (7, [.int mth, .ref bLi, .int mle, .ref bLe, .ref bNa, .ref bNs, .ref bSt, .ref bCo, .int mnm, .int msp, .int mpl, .ref bKi, .ref bBe, .ref bEn, .ref bWo, .int mto, .int mlr, .ref bSi, .ref bPl, .ref bMi, .ref bVa, .int mma, .int mod, .int mfa, .int mlp, .int mlm, .long mlv])), (bLi, .inl (cLim, 1024, .inl mli)), (bKi, .inl (cKim, 1100, .inl mki)), (bBe, .inl (cBem, 1100, .inl mbe)), (bEn, .inl (cEnm, 1100, .inl men)), (bWo, .inl (cWom, 1100, .inr (.inl mwo)))]) [0, 1, 2, 3, 4, 5] (by decide) rfl
            exact W.zret (v := (1 : Int32)) (ty := .boolean) hx hb hr rfl (fun t ht hW => ⟨⟨(1 : Int32), (), rfl, ⟨rfl, rfl⟩, by rw [ht]; exact hP9, va_K.moved hW.alike hK, hD9⟩, hS.F ht⟩) hS.2.2 d_M_cut_76
        · rw [if_neg c_3] at hf
          refine lv_aload_n hx hb d_M_cut_19 rfl (lv_at hl 0 rfl) ?_
          refine va_get (D := (dC, dI)) (ci := 7) (v := .ref bLi) (C := R_M) (T := F_M) (N := 27) hx hb hts i_M hown hK hP 0 rfl rfl 1 (by decide) (hts _ wb_174) (fun _ h9 => h9) rfl d_M_cut_20 ?_
          refine lv_iload_n hx hb d_M_cut_23 rfl (lv_at hl 1 rfl) ?_
          obtain ⟨hin, hf⟩ := gi_some hf
          refine va_iald hx hb hK hP 1 0 rfl rfl hin d_M_cut_24 ?_
          refine lv_bipush (v := (59 : Int32)) hx hb d_M_cut_25 (by decide) ?_
          refine lv_icmp_eq (tgt := 67) hx hb d_M_cut_27 (by decide) (fun c_5 => ?_) (fun c_5 => ?_)
          · rw [if_pos c_5] at hf
            refine lv_iload_n hx hb d_M_cut_67 rfl (lv_at hl 1 rfl) ?_
            refine lv_if_lt (tgt := 75) hx hb d_M_cut_68 (by decide) (fun c_6 => ?_) (fun c_6 => ?_)
            · rw [if_pos c_6] at hf
              refine lv_iconst (v := (0 : Int32)) hx hb d_M_cut_75 (by decide) ?_
              have ho := Option.some.inj hf
              subst o
              have hP9 := hP.sub (ws' := [(bM, .inr (7, [.int mth, .ref bLi, .int mle, .ref bLe, .ref bNa, .ref bNs, .ref bSt, .ref bCo, .int mnm, .int msp, .int mpl, .ref bKi, .ref bBe, .ref bEn, .ref bWo, .int mto, .int mlr, .ref bSi, .ref bPl, .ref bMi, .ref bVa, .int mma, .int mod, .int mfa, .int mlp, .int mlm, .long mlv])), (bLi, .inl (cLim, 1024, .inl mli)), (bKi, .inl (cKim, 1100, .inl mki)), (bBe, .inl (cBem, 1100, .inl mbe)), (bEn, .inl (cEnm, 1100, .inl men)), (bWo, .inl (cWom, 1100, .inr (.inl mwo)))]) [0, 1, 2, 3, 4, 5] rfl
              have hD9 := hD.sub (ws' := [(bM, .inr (7, [.int mth, .ref bLi, .int mle, .ref bLe, .ref bNa, .ref bNs, .ref bSt, .ref bCo, .int mnm, .int msp, .int mpl, .ref bKi, .ref bBe, .ref bEn, .ref bWo, .int mto, .int mlr, .ref bSi, .ref bPl, .ref bMi, .ref bVa, .int mma, .int mod, .int mfa, .int mlp, .int mlm, .long mlv])), (bLi, .inl (cLim, 1024, .inl mli)), (bKi, .inl (cKim, 1100, .inl mki)), (bBe, .inl (cBem, 1100, .inl mbe)), (bEn, .inl (cEnm, 1100, .inl men)), (bWo, .inl (cWom, 1100, .inr (.inl mwo)))]) [0, 1, 2, 3, 4, 5] (by decide) rfl
              exact W.zret (v := (0 : Int32)) (ty := .boolean) hx hb hr rfl (fun t ht hW => ⟨⟨(0 : Int32), (), rfl, ⟨rfl, rfl⟩, by rw [ht]; exact hP9, va_K.moved hW.alike hK, hD9⟩, hS.F ht⟩) hS.2.2 d_M_cut_76
            · rw [if_neg c_6] at hf
              refine lv_iconst (v := (1 : Int32)) hx hb d_M_cut_71 (by decide) ?_
              refine lv_goto (tgt := 76) hx hb d_M_cut_72 (by decide) ?_
              have ho := Option.some.inj hf
              subst o
              have hP9 := hP.sub (ws' := [(bM, .inr (7, [.int mth, .ref bLi, .int mle, .ref bLe, .ref bNa, .ref bNs, .ref bSt, .ref bCo, .int mnm, .int msp, .int mpl, .ref bKi, .ref bBe, .ref bEn, .ref bWo, .int mto, .int mlr, .ref bSi, .ref bPl, .ref bMi, .ref bVa, .int mma, .int mod, .int mfa, .int mlp, .int mlm, .long mlv])), (bLi, .inl (cLim, 1024, .inl mli)), (bKi, .inl (cKim, 1100, .inl mki)), (bBe, .inl (cBem, 1100, .inl mbe)), (bEn, .inl (cEnm, 1100, .inl men)), (bWo, .inl (cWom, 1100, .inr (.inl mwo)))]) [0, 1, 2, 3, 4, 5] rfl
              have hD9 := hD.sub (ws' := [(bM, .inr (7, [.int mth, .ref bLi, .int mle, .ref bLe, .ref bNa, .ref bNs, .ref bSt, .ref bCo, .int mnm, .int msp, .int mpl, .ref bKi, .ref bBe, .ref bEn, .ref bWo, .int mto, .int mlr, .ref bSi, .ref bPl, .ref bMi, .ref bVa, .int mma, .int mod, .int mfa, .int mlp, .int mlm, .long mlv])), (bLi, .inl (cLim, 1024, .inl mli)), (bKi, .inl (cKim, 1100, .inl mki)), (bBe, .inl (cBem, 1100, .inl mbe)), (bEn, .inl (cEnm, 1100, .inl men)), (bWo, .inl (cWom, 1100, .inr (.inl mwo)))]) [0, 1, 2, 3, 4, 5] (by decide) rfl
              exact W.zret (v := (1 : Int32)) (ty := .boolean) hx hb hr rfl (fun t ht hW => ⟨⟨(1 : Int32), (), rfl, ⟨rfl, rfl⟩, by rw [ht]; exact hP9, va_K.moved hW.alike hK, hD9⟩, hS.F ht⟩) hS.2.2 d_M_cut_76
          · rw [if_neg c_5] at hf
            refine lv_aload_n hx hb d_M_cut_30 rfl (lv_at hl 0 rfl) ?_
            refine va_get (D := (dC, dI)) (ci := 7) (v := .ref bLi) (C := R_M) (T := F_M) (N := 27) hx hb hts i_M hown hK hP 0 rfl rfl 1 (by decide) (hts _ wb_174) (fun _ h9 => h9) rfl d_M_cut_31 ?_
            refine lv_iload_n hx hb d_M_cut_34 rfl (lv_at hl 1 rfl) ?_
            obtain ⟨hin, hf⟩ := gi_some hf
            refine va_iald hx hb hK hP 1 0 rfl rfl hin d_M_cut_35 ?_
            refine lv_bipush (v := (32 : Int32)) hx hb d_M_cut_36 (by decide) ?_
            refine lv_icmp_eq (tgt := 52) hx hb d_M_cut_38 (by decide) (fun c_7 => ?_) (fun c_7 => ?_)
            · rw [if_pos c_7] at hf
              refine lv_iinc (v := x1 + (1 : Int32)) (lv' := [(1, .int (x1 + (1 : Int32))), (0, .ref bM)]) hx hb d_M_cut_52 hl (k := 1) rfl rfl (by decide) rfl (fun ls hl => ?_)
              refine lv_goto (tgt := 7) hx hb d_M_cut_55 (by decide) ?_
              exact ih mle mto mlr mli mki mbe men mwo (x1 + (1 : Int32)) H locs ls hf (hP.sub (ws' := [(bM, .inr (7, [.int mth, .ref bLi, .int mle, .ref bLe, .ref bNa, .ref bNs, .ref bSt, .ref bCo, .int mnm, .int msp, .int mpl, .ref bKi, .ref bBe, .ref bEn, .ref bWo, .int mto, .int mlr, .ref bSi, .ref bPl, .ref bMi, .ref bVa, .int mma, .int mod, .int mfa, .int mlp, .int mlm, .long mlv])), (bLi, .inl (cLim, 1024, .inl mli)), (bKi, .inl (cKim, 1100, .inl mki)), (bBe, .inl (cBem, 1100, .inl mbe)), (bEn, .inl (cEnm, 1100, .inl men)), (bWo, .inl (cWom, 1100, .inr (.inl mwo)))]) [0, 1, 2, 3, 4, 5] rfl) (hD.sub (ws' := [(bM, .inr (7, [.int mth, .ref bLi, .int mle, .ref bLe, .ref bNa, .ref bNs, .ref bSt, .ref bCo, .int mnm, .int msp, .int mpl, .ref bKi, .ref bBe, .ref bEn, .ref bWo, .int mto, .int mlr, .ref bSi, .ref bPl, .ref bMi, .ref bVa, .int mma, .int mod, .int mfa, .int mlp, .int mlm, .long mlv])), (bLi, .inl (cLim, 1024, .inl mli)), (bKi, .inl (cKim, 1100, .inl mki)), (bBe, .inl (cBem, 1100, .inl mbe)), (bEn, .inl (cEnm, 1100, .inl men)), (bWo, .inl (cWom, 1100, .inr (.inl mwo)))]) [0, 1, 2, 3, 4, 5] (by decide) rfl) hS (lv_sub hl [1, 0] rfl)
            · rw [if_neg c_7] at hf
              refine lv_aload_n hx hb d_M_cut_41 rfl (lv_at hl 0 rfl) ?_
              refine va_get (D := (dC, dI)) (ci := 7) (v := .ref bLi) (C := R_M) (T := F_M) (N := 27) hx hb hts i_M hown hK hP 0 rfl rfl 1 (by decide) (hts _ wb_174) (fun _ h9 => h9) rfl d_M_cut_42 ?_
              refine lv_iload_n hx hb d_M_cut_45 rfl (lv_at hl 1 rfl) ?_
              obtain ⟨hin, hf⟩ := gi_some hf
              refine va_iald hx hb hK hP 1 0 rfl rfl hin d_M_cut_46 ?_
              refine lv_bipush (v := (9 : Int32)) hx hb d_M_cut_47 (by decide) ?_
              refine lv_icmp_ne (tgt := 58) hx hb d_M_cut_49 (by decide) (fun c_8 => ?_) (fun c_8 => ?_)
              · rw [if_neg c_8] at hf
                refine lv_aload_n hx hb d_M_cut_58 rfl (lv_at hl 0 rfl) ?_
                refine lv_iload_n hx hb d_M_cut_59 rfl (lv_at hl 1 rfl) ?_
                obtain ⟨o_9, hM_9, hf⟩ := bd_some hf
                refine cl_i (wr := []) (va_runV (As := [.int x1]) (rest := []) ⟨hx, hb, hml, hown, hts⟩ (c_M_next l dC dI bM bLi bLe bNa bNs bSt bCo bKi bBe bEn bWo bSi bPl bMi bVa cLim cKim cBem cEnm cWom H.size mth mle mnm msp mpl mto mlr mma mod mfa mlp mlm mlv mli mki mbe men mwo x1 o_9 hM_9) (cwV 1 hts (gwV wb_218 wb_220 wb_221 wb_179 wb_219) rfl rfl rfl (by decide +kernel) ⟨Nat.le_of_ble_eq_true rfl, Nat.le_of_ble_eq_true rfl⟩) (pr_V (hP.sub [0, 1, 2, 3, 4, 5] rfl) (hD.sub [0, 1, 2, 3, 4, 5] (by decide) rfl) hK hN [0, 1, 2, 3, 4] rfl (ci := 7) rfl rfl rfl) rfl rfl hl.1 rfl (lv_room (Nat.le_of_ble_eq_true rfl)) d_M_cut_60 ⟨Nat.zero_le _, Nat.zero_le _⟩) hP hD hS hA [0, 1, 2, 3, 4, 5] [] rfl rfl (by decide) (by decide) (fun r_9 H locs hw hP hD hS => ?_)
                subst r_9
                have hP : va_P (dC, dI) vwCl [(bM, .inr (7, [.int mth, .ref bLi, .int mle, .ref bLe, .ref bNa, .ref bNs, .ref bSt, .ref bCo, .int mnm, .int msp, .int mpl, .ref bKi, .ref bBe, .ref bEn, .ref bWo, .int o_9.2.1, .int o_9.2.2.1, .ref bSi, .ref bPl, .ref bMi, .ref bVa, .int mma, .int mod, .int mfa, .int mlp, .int mlm, .long mlv])), (bLi, .inl (cLim, 1024, .inl mli)), (bKi, .inl (cKim, 1100, .inl o_9.2.2.2.1)), (bBe, .inl (cBem, 1100, .inl o_9.2.2.2.2.1)), (bEn, .inl (cEnm, 1100, .inl o_9.2.2.2.2.2.1)), (bWo, .inl (cWom, 1100, .inr (.inl o_9.2.2.2.2.2.2)))] H := hP
                have hD : va_D A [(bM, .inr (7, [.int mth, .ref bLi, .int mle, .ref bLe, .ref bNa, .ref bNs, .ref bSt, .ref bCo, .int mnm, .int msp, .int mpl, .ref bKi, .ref bBe, .ref bEn, .ref bWo, .int o_9.2.1, .int o_9.2.2.1, .ref bSi, .ref bPl, .ref bMi, .ref bVa, .int mma, .int mod, .int mfa, .int mlp, .int mlm, .long mlv])), (bLi, .inl (cLim, 1024, .inl mli)), (bKi, .inl (cKim, 1100, .inl o_9.2.2.2.1)), (bBe, .inl (cBem, 1100, .inl o_9.2.2.2.2.1)), (bEn, .inl (cEnm, 1100, .inl o_9.2.2.2.2.2.1)), (bWo, .inl (cWom, 1100, .inr (.inl o_9.2.2.2.2.2.2)))] := hD
                refine lv_istore_n (lv' := [(1, .int o_9.1), (0, .ref bM)]) hx hb d_M_cut_63 rfl hl (by decide) rfl (fun ls hl => ?_)
                refine lv_goto (tgt := 7) hx hb d_M_cut_64 (by decide) ?_
                exact ih mle o_9.2.1 o_9.2.2.1 mli o_9.2.2.2.1 o_9.2.2.2.2.1 o_9.2.2.2.2.2.1 o_9.2.2.2.2.2.2 o_9.1 H locs ls hf (hP.sub (ws' := [(bM, .inr (7, [.int mth, .ref bLi, .int mle, .ref bLe, .ref bNa, .ref bNs, .ref bSt, .ref bCo, .int mnm, .int msp, .int mpl, .ref bKi, .ref bBe, .ref bEn, .ref bWo, .int o_9.2.1, .int o_9.2.2.1, .ref bSi, .ref bPl, .ref bMi, .ref bVa, .int mma, .int mod, .int mfa, .int mlp, .int mlm, .long mlv])), (bLi, .inl (cLim, 1024, .inl mli)), (bKi, .inl (cKim, 1100, .inl o_9.2.2.2.1)), (bBe, .inl (cBem, 1100, .inl o_9.2.2.2.2.1)), (bEn, .inl (cEnm, 1100, .inl o_9.2.2.2.2.2.1)), (bWo, .inl (cWom, 1100, .inr (.inl o_9.2.2.2.2.2.2)))]) [0, 1, 2, 3, 4, 5] rfl) (hD.sub (ws' := [(bM, .inr (7, [.int mth, .ref bLi, .int mle, .ref bLe, .ref bNa, .ref bNs, .ref bSt, .ref bCo, .int mnm, .int msp, .int mpl, .ref bKi, .ref bBe, .ref bEn, .ref bWo, .int o_9.2.1, .int o_9.2.2.1, .ref bSi, .ref bPl, .ref bMi, .ref bVa, .int mma, .int mod, .int mfa, .int mlp, .int mlm, .long mlv])), (bLi, .inl (cLim, 1024, .inl mli)), (bKi, .inl (cKim, 1100, .inl o_9.2.2.2.1)), (bBe, .inl (cBem, 1100, .inl o_9.2.2.2.2.1)), (bEn, .inl (cEnm, 1100, .inl o_9.2.2.2.2.2.1)), (bWo, .inl (cWom, 1100, .inr (.inl o_9.2.2.2.2.2.2)))]) [0, 1, 2, 3, 4, 5] (by decide) rfl) hS (lv_sub hl [1, 0] rfl)
              · rw [if_pos c_8] at hf
                refine lv_iinc (v := x1 + (1 : Int32)) (lv' := [(1, .int (x1 + (1 : Int32))), (0, .ref bM)]) hx hb d_M_cut_52 hl (k := 1) rfl rfl (by decide) rfl (fun ls hl => ?_)
                refine lv_goto (tgt := 7) hx hb d_M_cut_55 (by decide) ?_
                exact ih mle mto mlr mli mki mbe men mwo (x1 + (1 : Int32)) H locs ls hf (hP.sub (ws' := [(bM, .inr (7, [.int mth, .ref bLi, .int mle, .ref bLe, .ref bNa, .ref bNs, .ref bSt, .ref bCo, .int mnm, .int msp, .int mpl, .ref bKi, .ref bBe, .ref bEn, .ref bWo, .int mto, .int mlr, .ref bSi, .ref bPl, .ref bMi, .ref bVa, .int mma, .int mod, .int mfa, .int mlp, .int mlm, .long mlv])), (bLi, .inl (cLim, 1024, .inl mli)), (bKi, .inl (cKim, 1100, .inl mki)), (bBe, .inl (cBem, 1100, .inl mbe)), (bEn, .inl (cEnm, 1100, .inl men)), (bWo, .inl (cWom, 1100, .inr (.inl mwo)))]) [0, 1, 2, 3, 4, 5] rfl) (hD.sub (ws' := [(bM, .inr (7, [.int mth, .ref bLi, .int mle, .ref bLe, .ref bNa, .ref bNs, .ref bSt, .ref bCo, .int mnm, .int msp, .int mpl, .ref bKi, .ref bBe, .ref bEn, .ref bWo, .int mto, .int mlr, .ref bSi, .ref bPl, .ref bMi, .ref bVa, .int mma, .int mod, .int mfa, .int mlp, .int mlm, .long mlv])), (bLi, .inl (cLim, 1024, .inl mli)), (bKi, .inl (cKim, 1100, .inl mki)), (bBe, .inl (cBem, 1100, .inl mbe)), (bEn, .inl (cEnm, 1100, .inl men)), (bWo, .inl (cWom, 1100, .inr (.inl mwo)))]) [0, 1, 2, 3, 4, 5] (by decide) rfl) hS (lv_sub hl [1, 0] rfl)
  rw [f_M_cut] at hf
  refine lv_aload_n hx hb d_M_cut_0 rfl (lv_at hl 0 rfl) ?_
  refine lv_iconst (v := (0 : Int32)) hx hb d_M_cut_1 (by decide) ?_
  refine va_put (D := (dC, dI)) (ci := 7) (v := .int (0 : Int32)) (ty := .int) (C := R_M) (T := F_M) (N := 27) hx hb hts i_M ft_M tk_M n_M hown hK hP hD hS 0 rfl rfl 15 (by decide) (hts _ wb_184) (fun _ h9 => h9) rfl (by decide +kernel) rfl rfl (Nat.le_of_ble_eq_true rfl) d_M_cut_2 (fun H locs hP hD hS => ?_)
  have hP : va_P (dC, dI) vwCl [(bM, .inr (7, [.int mth, .ref bLi, .int mle, .ref bLe, .ref bNa, .ref bNs, .ref bSt, .ref bCo, .int mnm, .int msp, .int mpl, .ref bKi, .ref bBe, .ref bEn, .ref bWo, .int (0 : Int32), .int mlr, .ref bSi, .ref bPl, .ref bMi, .ref bVa, .int mma, .int mod, .int mfa, .int mlp, .int mlm, .long mlv])), (bLi, .inl (cLim, 1024, .inl mli)), (bKi, .inl (cKim, 1100, .inl mki)), (bBe, .inl (cBem, 1100, .inl mbe)), (bEn, .inl (cEnm, 1100, .inl men)), (bWo, .inl (cWom, 1100, .inr (.inl mwo)))] H := hP
  have hD : va_D A [(bM, .inr (7, [.int mth, .ref bLi, .int mle, .ref bLe, .ref bNa, .ref bNs, .ref bSt, .ref bCo, .int mnm, .int msp, .int mpl, .ref bKi, .ref bBe, .ref bEn, .ref bWo, .int (0 : Int32), .int mlr, .ref bSi, .ref bPl, .ref bMi, .ref bVa, .int mma, .int mod, .int mfa, .int mlp, .int mlm, .long mlv])), (bLi, .inl (cLim, 1024, .inl mli)), (bKi, .inl (cKim, 1100, .inl mki)), (bBe, .inl (cBem, 1100, .inl mbe)), (bEn, .inl (cEnm, 1100, .inl men)), (bWo, .inl (cWom, 1100, .inr (.inl mwo)))] := hD
  refine lv_iconst (v := (0 : Int32)) hx hb d_M_cut_5 (by decide) ?_
  refine lv_istore_n (lv' := [(1, .int (0 : Int32)), (0, .ref bM)]) hx hb d_M_cut_6 rfl hl (by decide) rfl (fun ls hl => ?_)
  exact loop_7 FU mle (0 : Int32) mlr mli mki mbe men mwo (0 : Int32) H locs ls hf (hP.sub (ws' := [(bM, .inr (7, [.int mth, .ref bLi, .int mle, .ref bLe, .ref bNa, .ref bNs, .ref bSt, .ref bCo, .int mnm, .int msp, .int mpl, .ref bKi, .ref bBe, .ref bEn, .ref bWo, .int (0 : Int32), .int mlr, .ref bSi, .ref bPl, .ref bMi, .ref bVa, .int mma, .int mod, .int mfa, .int mlp, .int mlm, .long mlv])), (bLi, .inl (cLim, 1024, .inl mli)), (bKi, .inl (cKim, 1100, .inl mki)), (bBe, .inl (cBem, 1100, .inl mbe)), (bEn, .inl (cEnm, 1100, .inl men)), (bWo, .inl (cWom, 1100, .inr (.inl mwo)))]) [0, 1, 2, 3, 4, 5] rfl) (hD.sub (ws' := [(bM, .inr (7, [.int mth, .ref bLi, .int mle, .ref bLe, .ref bNa, .ref bNs, .ref bSt, .ref bCo, .int mnm, .int msp, .int mpl, .ref bKi, .ref bBe, .ref bEn, .ref bWo, .int (0 : Int32), .int mlr, .ref bSi, .ref bPl, .ref bMi, .ref bVa, .int mma, .int mod, .int mfa, .int mlp, .int mlm, .long mlv])), (bLi, .inl (cLim, 1024, .inl mli)), (bKi, .inl (cKim, 1100, .inl mki)), (bBe, .inl (cBem, 1100, .inl mbe)), (bEn, .inl (cEnm, 1100, .inl men)), (bWo, .inl (cWom, 1100, .inr (.inl mwo)))]) [0, 1, 2, 3, 4, 5] (by decide) rfl) hS (lv_sub hl [1, 0] rfl)
