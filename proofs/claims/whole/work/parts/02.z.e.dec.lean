/-! decode rows -/
theorem dX11_wordComes_27 : decode cX11_wordComes 27 = .ok (.bipush 8, 2) := by decide +kernel
theorem dX11_wordComes_29 : decode cX11_wordComes 29 = .ok (.goto 16, 3) := by decide +kernel
theorem dX11_wordComes_32 : decode cX11_wordComes 32 = .ok (.iload_n 1, 1) := by decide +kernel
theorem dX11_wordComes_33 : decode cX11_wordComes 33 = .ok (.bipush 27, 2) := by decide +kernel
theorem dX11_wordComes_35 : decode cX11_wordComes 35 = .ok (.if_icmp .ne 8, 3) := by decide +kernel
theorem dX11_wordComes_38 : decode cX11_wordComes 38 = .ok (.bipush 9, 2) := by decide +kernel
theorem dX11_wordComes_40 : decode cX11_wordComes 40 = .ok (.goto 5, 3) := by decide +kernel
theorem dX11_wordComes_43 : decode cX11_wordComes 43 = .ok (.bipush 10, 2) := by decide +kernel
theorem dX11_wordComes_45 : decode cX11_wordComes 45 = .ok (.invokevirtual 326, 3) := by decide +kernel
theorem dX11_wordComes_48 : decode cX11_wordComes 48 = .ok (.return_, 1) := by decide +kernel
theorem dX11_notsCome_0 : decode cX11_notsCome 0 = .ok (.aload_n 0, 1) := by decide +kernel
theorem dX11_notsCome_1 : decode cX11_notsCome 1 = .ok (.bipush 28, 2) := by decide +kernel
theorem dX11_notsCome_3 : decode cX11_notsCome 3 = .ok (.invokevirtual 329, 3) := by decide +kernel
theorem dX11_notsCome_6 : decode cX11_notsCome 6 = .ok (.ifCond .eq 10, 3) := by decide +kernel
theorem dX11_notsCome_9 : decode cX11_notsCome 9 = .ok (.aload_n 0, 1) := by decide +kernel
theorem dX11_notsCome_10 : decode cX11_notsCome 10 = .ok (.invokevirtual 332, 3) := by decide +kernel
theorem dX11_notsCome_13 : decode cX11_notsCome 13 = .ok (.goto (-13), 3) := by decide +kernel
theorem dX11_notsCome_16 : decode cX11_notsCome 16 = .ok (.return_, 1) := by decide +kernel
theorem dX11_closes_0 : decode cX11_closes 0 = .ok (.aload_n 0, 1) := by decide +kernel
theorem dX11_closes_1 : decode cX11_closes 1 = .ok (.bipush 27, 2) := by decide +kernel
theorem dX11_closes_3 : decode cX11_closes 3 = .ok (.invokevirtual 329, 3) := by decide +kernel
theorem dX11_closes_6 : decode cX11_closes 6 = .ok (.ifCond .ne 12, 3) := by decide +kernel
theorem dX11_closes_9 : decode cX11_closes 9 = .ok (.aload_n 0, 1) := by decide +kernel
theorem dX11_closes_10 : decode cX11_closes 10 = .ok (.bipush 26, 2) := by decide +kernel
theorem dX11_closes_12 : decode cX11_closes 12 = .ok (.invokevirtual 329, 3) := by decide +kernel
theorem dX11_closes_15 : decode cX11_closes 15 = .ok (.ifCond .eq 10, 3) := by decide +kernel
theorem dX11_closes_18 : decode cX11_closes 18 = .ok (.aload_n 0, 1) := by decide +kernel
theorem dX11_closes_19 : decode cX11_closes 19 = .ok (.invokevirtual 332, 3) := by decide +kernel
theorem dX11_closes_22 : decode cX11_closes 22 = .ok (.goto (-22), 3) := by decide +kernel
theorem dX11_closes_25 : decode cX11_closes 25 = .ok (.aload_n 0, 1) := by decide +kernel
theorem dX11_closes_26 : decode cX11_closes 26 = .ok (.dup, 1) := by decide +kernel
theorem dX11_closes_27 : decode cX11_closes 27 = .ok (.getfield 323, 3) := by decide +kernel
theorem dX11_closes_30 : decode cX11_closes 30 = .ok (.iconst 1, 1) := by decide +kernel
theorem dX11_closes_31 : decode cX11_closes 31 = .ok (.isub, 1) := by decide +kernel
theorem dX11_closes_32 : decode cX11_closes 32 = .ok (.putfield 323, 3) := by decide +kernel
theorem dX11_closes_35 : decode cX11_closes 35 = .ok (.aload_n 0, 1) := by decide +kernel
theorem dX11_closes_36 : decode cX11_closes 36 = .ok (.invokevirtual 248, 3) := by decide +kernel
theorem dX11_closes_39 : decode cX11_closes 39 = .ok (.aload_n 0, 1) := by decide +kernel
theorem dX11_closes_40 : decode cX11_closes 40 = .ok (.invokevirtual 335, 3) := by decide +kernel
theorem dX11_closes_43 : decode cX11_closes 43 = .ok (.return_, 1) := by decide +kernel
theorem dX11_bitOf_0 : decode cX11_bitOf 0 = .ok (.iconst 0, 1) := by decide +kernel
theorem dX11_bitOf_1 : decode cX11_bitOf 1 = .ok (.istore_n 1, 1) := by decide +kernel
theorem dX11_bitOf_2 : decode cX11_bitOf 2 = .ok (.iload_n 1, 1) := by decide +kernel
theorem dX11_bitOf_3 : decode cX11_bitOf 3 = .ok (.bipush 7, 2) := by decide +kernel
theorem dX11_bitOf_5 : decode cX11_bitOf 5 = .ok (.if_icmp .ge 16, 3) := by decide +kernel
theorem dX11_bitOf_8 : decode cX11_bitOf 8 = .ok (.iload_n 0, 1) := by decide +kernel
theorem dX11_bitOf_9 : decode cX11_bitOf 9 = .ok (.iload_n 1, 1) := by decide +kernel
theorem dX11_bitOf_10 : decode cX11_bitOf 10 = .ok (.ishr, 1) := by decide +kernel
theorem dX11_bitOf_11 : decode cX11_bitOf 11 = .ok (.iconst 1, 1) := by decide +kernel
theorem dX11_bitOf_12 : decode cX11_bitOf 12 = .ok (.if_icmp .eq 9, 3) := by decide +kernel
theorem dX11_bitOf_15 : decode cX11_bitOf 15 = .ok (.iinc 1 1, 3) := by decide +kernel
theorem dX11_bitOf_18 : decode cX11_bitOf 18 = .ok (.goto (-16), 3) := by decide +kernel
theorem dX11_bitOf_21 : decode cX11_bitOf 21 = .ok (.iload_n 1, 1) := by decide +kernel
theorem dX11_bitOf_22 : decode cX11_bitOf 22 = .ok (.ireturn, 1) := by decide +kernel
theorem dX11_tellClause_0 : decode cX11_tellClause 0 = .ok (.aload_n 0, 1) := by decide +kernel
theorem dX11_tellClause_1 : decode cX11_tellClause 1 = .ok (.iconst 0, 1) := by decide +kernel
theorem dX11_tellClause_2 : decode cX11_tellClause 2 = .ok (.putfield 323, 3) := by decide +kernel
theorem dX11_tellClause_5 : decode cX11_tellClause 5 = .ok (.iconst 0, 1) := by decide +kernel
theorem dX11_tellClause_6 : decode cX11_tellClause 6 = .ok (.istore_n 1, 1) := by decide +kernel
theorem dX11_tellClause_7 : decode cX11_tellClause 7 = .ok (.iconst 1, 1) := by decide +kernel
theorem dX11_tellClause_8 : decode cX11_tellClause 8 = .ok (.istore_n 2, 1) := by decide +kernel
theorem dX11_tellClause_9 : decode cX11_tellClause 9 = .ok (.iload_n 2, 1) := by decide +kernel
theorem dX11_tellClause_10 : decode cX11_tellClause 10 = .ok (.ifCond .eq 264, 3) := by decide +kernel
theorem dX11_tellClause_13 : decode cX11_tellClause 13 = .ok (.aload_n 0, 1) := by decide +kernel
theorem dX11_tellClause_14 : decode cX11_tellClause 14 = .ok (.getfield 227, 3) := by decide +kernel
theorem dX11_tellClause_17 : decode cX11_tellClause 17 = .ok (.ifCond .ne 257, 3) := by decide +kernel
theorem dX11_tellClause_20 : decode cX11_tellClause 20 = .ok (.iconst 0, 1) := by decide +kernel
theorem dX11_tellClause_21 : decode cX11_tellClause 21 = .ok (.istore_n 3, 1) := by decide +kernel
theorem dX11_tellClause_22 : decode cX11_tellClause 22 = .ok (.aload_n 0, 1) := by decide +kernel
theorem dX11_tellClause_23 : decode cX11_tellClause 23 = .ok (.bipush 28, 2) := by decide +kernel
theorem dX11_tellClause_25 : decode cX11_tellClause 25 = .ok (.invokevirtual 245, 3) := by decide +kernel
theorem dX11_tellClause_28 : decode cX11_tellClause 28 = .ok (.ifCond .ne 12, 3) := by decide +kernel
theorem dX11_tellClause_31 : decode cX11_tellClause 31 = .ok (.aload_n 0, 1) := by decide +kernel
theorem dX11_tellClause_32 : decode cX11_tellClause 32 = .ok (.bipush 6, 2) := by decide +kernel
theorem dX11_tellClause_34 : decode cX11_tellClause 34 = .ok (.invokevirtual 245, 3) := by decide +kernel
theorem dX11_tellClause_37 : decode cX11_tellClause 37 = .ok (.ifCond .eq 88, 3) := by decide +kernel
theorem dX11_tellClause_40 : decode cX11_tellClause 40 = .ok (.aload_n 0, 1) := by decide +kernel
theorem dX11_tellClause_41 : decode cX11_tellClause 41 = .ok (.bipush 6, 2) := by decide +kernel
theorem dX11_tellClause_43 : decode cX11_tellClause 43 = .ok (.invokevirtual 245, 3) := by decide +kernel
theorem dX11_tellClause_46 : decode cX11_tellClause 46 = .ok (.istore 4, 2) := by decide +kernel
theorem dX11_tellClause_48 : decode cX11_tellClause 48 = .ok (.iload 4, 2) := by decide +kernel
theorem dX11_tellClause_50 : decode cX11_tellClause 50 = .ok (.ifCond .eq 9, 3) := by decide +kernel
theorem dX11_tellClause_53 : decode cX11_tellClause 53 = .ok (.iload_n 1, 1) := by decide +kernel
theorem dX11_tellClause_54 : decode cX11_tellClause 54 = .ok (.bipush 6, 2) := by decide +kernel
theorem dX11_tellClause_56 : decode cX11_tellClause 56 = .ok (.if_icmp .eq 14, 3) := by decide +kernel
theorem dX11_tellClause_59 : decode cX11_tellClause 59 = .ok (.iload 4, 2) := by decide +kernel
theorem dX11_tellClause_61 : decode cX11_tellClause 61 = .ok (.ifCond .ne 14, 3) := by decide +kernel
theorem dX11_tellClause_64 : decode cX11_tellClause 64 = .ok (.iload_n 3, 1) := by decide +kernel
theorem dX11_tellClause_65 : decode cX11_tellClause 65 = .ok (.bipush 6, 2) := by decide +kernel
theorem dX11_tellClause_67 : decode cX11_tellClause 67 = .ok (.if_icmp .ne 8, 3) := by decide +kernel
theorem dX11_tellClause_70 : decode cX11_tellClause 70 = .ok (.aload_n 0, 1) := by decide +kernel
theorem dX11_tellClause_71 : decode cX11_tellClause 71 = .ok (.iconst 2, 1) := by decide +kernel
theorem dX11_tellClause_72 : decode cX11_tellClause 72 = .ok (.invokevirtual 242, 3) := by decide +kernel
theorem dX11_tellClause_75 : decode cX11_tellClause 75 = .ok (.aload_n 0, 1) := by decide +kernel
theorem dX11_tellClause_76 : decode cX11_tellClause 76 = .ok (.getfield 227, 3) := by decide +kernel
theorem dX11_tellClause_79 : decode cX11_tellClause 79 = .ok (.ifCond .le 4, 3) := by decide +kernel
theorem dX11_tellClause_82 : decode cX11_tellClause 82 = .ok (.return_, 1) := by decide +kernel
theorem dX11_tellClause_83 : decode cX11_tellClause 83 = .ok (.iload_n 1, 1) := by decide +kernel
theorem dX11_tellClause_84 : decode cX11_tellClause 84 = .ok (.iload 4, 2) := by decide +kernel
theorem dX11_tellClause_86 : decode cX11_tellClause 86 = .ok (.ifCond .eq 7, 3) := by decide +kernel
theorem dX11_tellClause_89 : decode cX11_tellClause 89 = .ok (.iconst 1, 1) := by decide +kernel
theorem dX11_tellClause_90 : decode cX11_tellClause 90 = .ok (.goto 4, 3) := by decide +kernel
theorem dX11_tellClause_93 : decode cX11_tellClause 93 = .ok (.iconst 0, 1) := by decide +kernel
theorem dX11_tellClause_94 : decode cX11_tellClause 94 = .ok (.iadd, 1) := by decide +kernel
theorem dX11_tellClause_95 : decode cX11_tellClause 95 = .ok (.istore_n 1, 1) := by decide +kernel
theorem dX11_tellClause_96 : decode cX11_tellClause 96 = .ok (.iload 4, 2) := by decide +kernel
theorem dX11_tellClause_98 : decode cX11_tellClause 98 = .ok (.ifCond .eq 7, 3) := by decide +kernel
theorem dX11_tellClause_101 : decode cX11_tellClause 101 = .ok (.iconst 0, 1) := by decide +kernel
theorem dX11_tellClause_102 : decode cX11_tellClause 102 = .ok (.goto 6, 3) := by decide +kernel
theorem dX11_tellClause_105 : decode cX11_tellClause 105 = .ok (.iload_n 3, 1) := by decide +kernel
theorem dX11_tellClause_106 : decode cX11_tellClause 106 = .ok (.iconst 1, 1) := by decide +kernel
theorem dX11_tellClause_107 : decode cX11_tellClause 107 = .ok (.iadd, 1) := by decide +kernel
theorem dX11_tellClause_108 : decode cX11_tellClause 108 = .ok (.istore_n 3, 1) := by decide +kernel
theorem dX11_tellClause_109 : decode cX11_tellClause 109 = .ok (.aload_n 0, 1) := by decide +kernel
theorem dX11_tellClause_110 : decode cX11_tellClause 110 = .ok (.aload_n 0, 1) := by decide +kernel
theorem dX11_tellClause_111 : decode cX11_tellClause 111 = .ok (.getfield 20, 3) := by decide +kernel
theorem dX11_tellClause_114 : decode cX11_tellClause 114 = .ok (.aload_n 0, 1) := by decide +kernel
theorem dX11_tellClause_115 : decode cX11_tellClause 115 = .ok (.getfield 230, 3) := by decide +kernel
theorem dX11_tellClause_118 : decode cX11_tellClause 118 = .ok (.iaload, 1) := by decide +kernel
theorem dX11_tellClause_119 : decode cX11_tellClause 119 = .ok (.invokevirtual 338, 3) := by decide +kernel
theorem dX11_tellClause_122 : decode cX11_tellClause 122 = .ok (.goto (-100), 3) := by decide +kernel
theorem dX11_tellClause_125 : decode cX11_tellClause 125 = .ok (.aload_n 0, 1) := by decide +kernel
theorem dX11_tellClause_126 : decode cX11_tellClause 126 = .ok (.invokevirtual 317, 3) := by decide +kernel
theorem dX11_tellClause_129 : decode cX11_tellClause 129 = .ok (.istore 4, 2) := by decide +kernel
theorem dX11_tellClause_131 : decode cX11_tellClause 131 = .ok (.aload_n 0, 1) := by decide +kernel
theorem dX11_tellClause_132 : decode cX11_tellClause 132 = .ok (.getfield 227, 3) := by decide +kernel
theorem dX11_tellClause_135 : decode cX11_tellClause 135 = .ok (.ifCond .le 4, 3) := by decide +kernel
theorem dX11_tellClause_138 : decode cX11_tellClause 138 = .ok (.return_, 1) := by decide +kernel
theorem dX11_tellClause_139 : decode cX11_tellClause 139 = .ok (.aload_n 0, 1) := by decide +kernel
theorem dX11_tellClause_140 : decode cX11_tellClause 140 = .ok (.iload 4, 2) := by decide +kernel
theorem dX11_tellClause_142 : decode cX11_tellClause 142 = .ok (.invokestatic 341, 3) := by decide +kernel
theorem dX11_tellClause_145 : decode cX11_tellClause 145 = .ok (.invokevirtual 326, 3) := by decide +kernel
theorem dX11_tellClause_148 : decode cX11_tellClause 148 = .ok (.aload_n 0, 1) := by decide +kernel
theorem dX11_tellClause_149 : decode cX11_tellClause 149 = .ok (.invokevirtual 335, 3) := by decide +kernel
theorem dX11_tellClause_152 : decode cX11_tellClause 152 = .ok (.aload_n 0, 1) := by decide +kernel
theorem dX11_tellClause_153 : decode cX11_tellClause 153 = .ok (.bipush 7, 2) := by decide +kernel
theorem dX11_tellClause_155 : decode cX11_tellClause 155 = .ok (.invokevirtual 245, 3) := by decide +kernel
theorem dX11_tellClause_158 : decode cX11_tellClause 158 = .ok (.ifCond .eq 17, 3) := by decide +kernel
theorem dX11_tellClause_161 : decode cX11_tellClause 161 = .ok (.iload_n 1, 1) := by decide +kernel
theorem dX11_tellClause_162 : decode cX11_tellClause 162 = .ok (.ifCond .le 13, 3) := by decide +kernel
theorem dX11_tellClause_165 : decode cX11_tellClause 165 = .ok (.iinc 1 (-1), 3) := by decide +kernel
theorem dX11_tellClause_168 : decode cX11_tellClause 168 = .ok (.aload_n 0, 1) := by decide +kernel
theorem dX11_tellClause_169 : decode cX11_tellClause 169 = .ok (.invokevirtual 344, 3) := by decide +kernel
theorem dX11_tellClause_172 : decode cX11_tellClause 172 = .ok (.goto (-20), 3) := by decide +kernel
theorem dX11_tellClause_175 : decode cX11_tellClause 175 = .ok (.aload_n 0, 1) := by decide +kernel
theorem dX11_tellClause_176 : decode cX11_tellClause 176 = .ok (.bipush 27, 2) := by decide +kernel
theorem dX11_tellClause_178 : decode cX11_tellClause 178 = .ok (.invokevirtual 245, 3) := by decide +kernel
theorem dX11_tellClause_181 : decode cX11_tellClause 181 = .ok (.ifCond .ne 12, 3) := by decide +kernel
theorem dX11_tellClause_184 : decode cX11_tellClause 184 = .ok (.aload_n 0, 1) := by decide +kernel
theorem dX11_tellClause_185 : decode cX11_tellClause 185 = .ok (.bipush 26, 2) := by decide +kernel
theorem dX11_tellClause_187 : decode cX11_tellClause 187 = .ok (.invokevirtual 245, 3) := by decide +kernel
theorem dX11_tellClause_190 : decode cX11_tellClause 190 = .ok (.ifCond .eq 7, 3) := by decide +kernel
theorem dX11_tellClause_193 : decode cX11_tellClause 193 = .ok (.iconst 1, 1) := by decide +kernel
theorem dX11_tellClause_194 : decode cX11_tellClause 194 = .ok (.goto 4, 3) := by decide +kernel
theorem dX11_tellClause_197 : decode cX11_tellClause 197 = .ok (.iconst 0, 1) := by decide +kernel
theorem dX11_tellClause_198 : decode cX11_tellClause 198 = .ok (.istore_n 2, 1) := by decide +kernel
theorem dX11_tellClause_199 : decode cX11_tellClause 199 = .ok (.iload_n 2, 1) := by decide +kernel
theorem dX11_tellClause_200 : decode cX11_tellClause 200 = .ok (.ifCond .ne 12, 3) := by decide +kernel
theorem dX11_tellClause_203 : decode cX11_tellClause 203 = .ok (.iload_n 1, 1) := by decide +kernel
theorem dX11_tellClause_204 : decode cX11_tellClause 204 = .ok (.ifCond .le 8, 3) := by decide +kernel
theorem dX11_tellClause_207 : decode cX11_tellClause 207 = .ok (.aload_n 0, 1) := by decide +kernel
theorem dX11_tellClause_208 : decode cX11_tellClause 208 = .ok (.iconst 1, 1) := by decide +kernel
theorem dX11_tellClause_209 : decode cX11_tellClause 209 = .ok (.invokevirtual 242, 3) := by decide +kernel
theorem dX11_tellClause_212 : decode cX11_tellClause 212 = .ok (.aload_n 0, 1) := by decide +kernel
theorem dX11_tellClause_213 : decode cX11_tellClause 213 = .ok (.getfield 227, 3) := by decide +kernel
theorem dX11_tellClause_216 : decode cX11_tellClause 216 = .ok (.ifCond .le 4, 3) := by decide +kernel
theorem dX11_tellClause_219 : decode cX11_tellClause 219 = .ok (.return_, 1) := by decide +kernel
theorem dX11_tellClause_220 : decode cX11_tellClause 220 = .ok (.aload_n 0, 1) := by decide +kernel
theorem dX11_tellClause_221 : decode cX11_tellClause 221 = .ok (.bipush 27, 2) := by decide +kernel
theorem dX11_tellClause_223 : decode cX11_tellClause 223 = .ok (.invokevirtual 329, 3) := by decide +kernel
theorem dX11_tellClause_226 : decode cX11_tellClause 226 = .ok (.ifCond .ne 21, 3) := by decide +kernel
theorem dX11_tellClause_229 : decode cX11_tellClause 229 = .ok (.aload_n 0, 1) := by decide +kernel
theorem dX11_tellClause_230 : decode cX11_tellClause 230 = .ok (.bipush 27, 2) := by decide +kernel
theorem dX11_tellClause_232 : decode cX11_tellClause 232 = .ok (.invokevirtual 245, 3) := by decide +kernel
theorem dX11_tellClause_235 : decode cX11_tellClause 235 = .ok (.ifCond .ne 19, 3) := by decide +kernel
theorem dX11_tellClause_238 : decode cX11_tellClause 238 = .ok (.aload_n 0, 1) := by decide +kernel
theorem dX11_tellClause_239 : decode cX11_tellClause 239 = .ok (.bipush 26, 2) := by decide +kernel
theorem dX11_tellClause_241 : decode cX11_tellClause 241 = .ok (.invokevirtual 329, 3) := by decide +kernel
theorem dX11_tellClause_244 : decode cX11_tellClause 244 = .ok (.ifCond .eq 10, 3) := by decide +kernel
theorem dX11_tellClause_247 : decode cX11_tellClause 247 = .ok (.aload_n 0, 1) := by decide +kernel
theorem dX11_tellClause_248 : decode cX11_tellClause 248 = .ok (.invokevirtual 332, 3) := by decide +kernel
theorem dX11_tellClause_251 : decode cX11_tellClause 251 = .ok (.goto (-31), 3) := by decide +kernel
theorem dX11_tellClause_254 : decode cX11_tellClause 254 = .ok (.iload_n 2, 1) := by decide +kernel
theorem dX11_tellClause_255 : decode cX11_tellClause 255 = .ok (.ifCond .eq 16, 3) := by decide +kernel
theorem dX11_tellClause_258 : decode cX11_tellClause 258 = .ok (.aload_n 0, 1) := by decide +kernel
theorem dX11_tellClause_259 : decode cX11_tellClause 259 = .ok (.aload_n 0, 1) := by decide +kernel
theorem dX11_tellClause_260 : decode cX11_tellClause 260 = .ok (.getfield 20, 3) := by decide +kernel
theorem dX11_tellClause_263 : decode cX11_tellClause 263 = .ok (.aload_n 0, 1) := by decide +kernel
theorem dX11_tellClause_264 : decode cX11_tellClause 264 = .ok (.getfield 230, 3) := by decide +kernel
theorem dX11_tellClause_267 : decode cX11_tellClause 267 = .ok (.iaload, 1) := by decide +kernel
theorem dX11_tellClause_268 : decode cX11_tellClause 268 = .ok (.invokevirtual 338, 3) := by decide +kernel
theorem dX11_tellClause_271 : decode cX11_tellClause 271 = .ok (.goto (-262), 3) := by decide +kernel
theorem dX11_tellClause_274 : decode cX11_tellClause 274 = .ok (.return_, 1) := by decide +kernel
theorem dX11_tellLaw_0 : decode cX11_tellLaw 0 = .ok (.aload_n 0, 1) := by decide +kernel
theorem dX11_tellLaw_1 : decode cX11_tellLaw 1 = .ok (.iconst 5, 1) := by decide +kernel
theorem dX11_tellLaw_2 : decode cX11_tellLaw 2 = .ok (.invokevirtual 308, 3) := by decide +kernel
theorem dX11_tellLaw_5 : decode cX11_tellLaw 5 = .ok (.aload_n 0, 1) := by decide +kernel
theorem dX11_tellLaw_6 : decode cX11_tellLaw 6 = .ok (.getfield 266, 3) := by decide +kernel
theorem dX11_tellLaw_9 : decode cX11_tellLaw 9 = .ok (.istore_n 2, 1) := by decide +kernel
theorem dX11_tellLaw_10 : decode cX11_tellLaw 10 = .ok (.iconst 0, 1) := by decide +kernel
theorem dX11_tellLaw_11 : decode cX11_tellLaw 11 = .ok (.istore_n 3, 1) := by decide +kernel
theorem dX11_tellLaw_12 : decode cX11_tellLaw 12 = .ok (.aload_n 0, 1) := by decide +kernel
theorem dX11_tellLaw_13 : decode cX11_tellLaw 13 = .ok (.getfield 227, 3) := by decide +kernel
theorem dX11_tellLaw_16 : decode cX11_tellLaw 16 = .ok (.ifCond .ne 113, 3) := by decide +kernel
theorem dX11_tellLaw_19 : decode cX11_tellLaw 19 = .ok (.aload_n 0, 1) := by decide +kernel
theorem dX11_tellLaw_20 : decode cX11_tellLaw 20 = .ok (.bipush 34, 2) := by decide +kernel
theorem dX11_tellLaw_22 : decode cX11_tellLaw 22 = .ok (.invokevirtual 245, 3) := by decide +kernel
theorem dX11_tellLaw_25 : decode cX11_tellLaw 25 = .ok (.ifCond .eq 104, 3) := by decide +kernel
theorem dX11_tellLaw_28 : decode cX11_tellLaw 28 = .ok (.iload_n 3, 1) := by decide +kernel
theorem dX11_tellLaw_29 : decode cX11_tellLaw 29 = .ok (.iconst 4, 1) := by decide +kernel
theorem dX11_tellLaw_30 : decode cX11_tellLaw 30 = .ok (.if_icmp .ne 8, 3) := by decide +kernel
theorem dX11_tellLaw_33 : decode cX11_tellLaw 33 = .ok (.aload_n 0, 1) := by decide +kernel
theorem dX11_tellLaw_34 : decode cX11_tellLaw 34 = .ok (.iconst 2, 1) := by decide +kernel
theorem dX11_tellLaw_35 : decode cX11_tellLaw 35 = .ok (.invokevirtual 242, 3) := by decide +kernel
theorem dX11_tellLaw_38 : decode cX11_tellLaw 38 = .ok (.aload_n 0, 1) := by decide +kernel
theorem dX11_tellLaw_39 : decode cX11_tellLaw 39 = .ok (.getfield 227, 3) := by decide +kernel
theorem dX11_tellLaw_42 : decode cX11_tellLaw 42 = .ok (.ifCond .le 4, 3) := by decide +kernel
theorem dX11_tellLaw_45 : decode cX11_tellLaw 45 = .ok (.return_, 1) := by decide +kernel
theorem dX11_tellLaw_46 : decode cX11_tellLaw 46 = .ok (.iinc 3 1, 3) := by decide +kernel
theorem dX11_tellLaw_49 : decode cX11_tellLaw 49 = .ok (.aload_n 0, 1) := by decide +kernel
theorem dX11_tellLaw_50 : decode cX11_tellLaw 50 = .ok (.invokevirtual 248, 3) := by decide +kernel
theorem dX11_tellLaw_53 : decode cX11_tellLaw 53 = .ok (.aload_n 0, 1) := by decide +kernel
theorem dX11_tellLaw_54 : decode cX11_tellLaw 54 = .ok (.getfield 100, 3) := by decide +kernel
theorem dX11_tellLaw_57 : decode cX11_tellLaw 57 = .ok (.aload_n 0, 1) := by decide +kernel
theorem dX11_tellLaw_58 : decode cX11_tellLaw 58 = .ok (.getfield 266, 3) := by decide +kernel
theorem dX11_tellLaw_61 : decode cX11_tellLaw 61 = .ok (.iconst 1, 1) := by decide +kernel
theorem dX11_tellLaw_62 : decode cX11_tellLaw 62 = .ok (.bastore, 1) := by decide +kernel
theorem dX11_tellLaw_63 : decode cX11_tellLaw 63 = .ok (.aload_n 0, 1) := by decide +kernel
theorem dX11_tellLaw_64 : decode cX11_tellLaw 64 = .ok (.getfield 104, 3) := by decide +kernel
theorem dX11_tellLaw_67 : decode cX11_tellLaw 67 = .ok (.aload_n 0, 1) := by decide +kernel
theorem dX11_tellLaw_68 : decode cX11_tellLaw 68 = .ok (.getfield 266, 3) := by decide +kernel
theorem dX11_tellLaw_71 : decode cX11_tellLaw 71 = .ok (.aload_n 0, 1) := by decide +kernel
theorem dX11_tellLaw_72 : decode cX11_tellLaw 72 = .ok (.getfield 269, 3) := by decide +kernel
theorem dX11_tellLaw_75 : decode cX11_tellLaw 75 = .ok (.iastore, 1) := by decide +kernel
theorem dX11_tellLaw_76 : decode cX11_tellLaw 76 = .ok (.aload_n 0, 1) := by decide +kernel
theorem dX11_tellLaw_77 : decode cX11_tellLaw 77 = .ok (.invokevirtual 347, 3) := by decide +kernel
theorem dX11_tellLaw_80 : decode cX11_tellLaw 80 = .ok (.aload_n 0, 1) := by decide +kernel
theorem dX11_tellLaw_81 : decode cX11_tellLaw 81 = .ok (.bipush 13, 2) := by decide +kernel
theorem dX11_tellLaw_83 : decode cX11_tellLaw 83 = .ok (.invokevirtual 308, 3) := by decide +kernel
theorem dX11_tellLaw_86 : decode cX11_tellLaw 86 = .ok (.aload_n 0, 1) := by decide +kernel
theorem dX11_tellLaw_87 : decode cX11_tellLaw 87 = .ok (.getfield 107, 3) := by decide +kernel
theorem dX11_tellLaw_90 : decode cX11_tellLaw 90 = .ok (.aload_n 0, 1) := by decide +kernel
theorem dX11_tellLaw_91 : decode cX11_tellLaw 91 = .ok (.getfield 266, 3) := by decide +kernel
theorem dX11_tellLaw_94 : decode cX11_tellLaw 94 = .ok (.aload_n 0, 1) := by decide +kernel
theorem dX11_tellLaw_95 : decode cX11_tellLaw 95 = .ok (.getfield 269, 3) := by decide +kernel
theorem dX11_tellLaw_98 : decode cX11_tellLaw 98 = .ok (.iastore, 1) := by decide +kernel
theorem dX11_tellLaw_99 : decode cX11_tellLaw 99 = .ok (.aload_n 0, 1) := by decide +kernel
theorem dX11_tellLaw_100 : decode cX11_tellLaw 100 = .ok (.getfield 227, 3) := by decide +kernel
theorem dX11_tellLaw_103 : decode cX11_tellLaw 103 = .ok (.ifCond .ne 7, 3) := by decide +kernel
theorem dX11_tellLaw_106 : decode cX11_tellLaw 106 = .ok (.aload_n 0, 1) := by decide +kernel
theorem dX11_tellLaw_107 : decode cX11_tellLaw 107 = .ok (.invokevirtual 347, 3) := by decide +kernel
theorem dX11_tellLaw_110 : decode cX11_tellLaw 110 = .ok (.aload_n 0, 1) := by decide +kernel
theorem dX11_tellLaw_111 : decode cX11_tellLaw 111 = .ok (.bipush 35, 2) := by decide +kernel
theorem dX11_tellLaw_113 : decode cX11_tellLaw 113 = .ok (.invokevirtual 308, 3) := by decide +kernel
theorem dX11_tellLaw_116 : decode cX11_tellLaw 116 = .ok (.aload_n 0, 1) := by decide +kernel
theorem dX11_tellLaw_117 : decode cX11_tellLaw 117 = .ok (.invokevirtual 350, 3) := by decide +kernel
theorem dX11_tellLaw_120 : decode cX11_tellLaw 120 = .ok (.aload_n 0, 1) := by decide +kernel
theorem dX11_tellLaw_121 : decode cX11_tellLaw 121 = .ok (.bipush 36, 2) := by decide +kernel
theorem dX11_tellLaw_123 : decode cX11_tellLaw 123 = .ok (.invokevirtual 308, 3) := by decide +kernel
theorem dX11_tellLaw_126 : decode cX11_tellLaw 126 = .ok (.goto (-114), 3) := by decide +kernel
theorem dX11_tellLaw_129 : decode cX11_tellLaw 129 = .ok (.aload_n 0, 1) := by decide +kernel
theorem dX11_tellLaw_130 : decode cX11_tellLaw 130 = .ok (.getfield 100, 3) := by decide +kernel
theorem dX11_tellLaw_133 : decode cX11_tellLaw 133 = .ok (.aload_n 0, 1) := by decide +kernel
theorem dX11_tellLaw_134 : decode cX11_tellLaw 134 = .ok (.getfield 266, 3) := by decide +kernel
theorem dX11_tellLaw_137 : decode cX11_tellLaw 137 = .ok (.iconst 0, 1) := by decide +kernel
theorem dX11_tellLaw_138 : decode cX11_tellLaw 138 = .ok (.bastore, 1) := by decide +kernel
theorem dX11_tellLaw_139 : decode cX11_tellLaw 139 = .ok (.aload_n 0, 1) := by decide +kernel
theorem dX11_tellLaw_140 : decode cX11_tellLaw 140 = .ok (.invokevirtual 350, 3) := by decide +kernel
theorem dX11_tellLaw_143 : decode cX11_tellLaw 143 = .ok (.aload_n 0, 1) := by decide +kernel
theorem dX11_tellLaw_144 : decode cX11_tellLaw 144 = .ok (.iconst 4, 1) := by decide +kernel
theorem dX11_tellLaw_145 : decode cX11_tellLaw 145 = .ok (.invokevirtual 308, 3) := by decide +kernel
theorem dX11_tellLaw_148 : decode cX11_tellLaw 148 = .ok (.aload_n 0, 1) := by decide +kernel
theorem dX11_tellLaw_149 : decode cX11_tellLaw 149 = .ok (.getfield 227, 3) := by decide +kernel
theorem dX11_tellLaw_152 : decode cX11_tellLaw 152 = .ok (.ifCond .le 4, 3) := by decide +kernel
theorem dX11_tellLaw_155 : decode cX11_tellLaw 155 = .ok (.return_, 1) := by decide +kernel
theorem dX11_tellLaw_156 : decode cX11_tellLaw 156 = .ok (.aload_n 0, 1) := by decide +kernel
theorem dX11_tellLaw_157 : decode cX11_tellLaw 157 = .ok (.getfield 94, 3) := by decide +kernel
theorem dX11_tellLaw_160 : decode cX11_tellLaw 160 = .ok (.iconst 3, 1) := by decide +kernel
theorem dX11_tellLaw_161 : decode cX11_tellLaw 161 = .ok (.aload_n 0, 1) := by decide +kernel
theorem dX11_tellLaw_162 : decode cX11_tellLaw 162 = .ok (.getfield 260, 3) := by decide +kernel
theorem dX11_tellLaw_165 : decode cX11_tellLaw 165 = .ok (.imul, 1) := by decide +kernel
theorem dX11_tellLaw_166 : decode cX11_tellLaw 166 = .ok (.iload_n 1, 1) := by decide +kernel
theorem dX11_tellLaw_167 : decode cX11_tellLaw 167 = .ok (.iadd, 1) := by decide +kernel
theorem dX11_tellLaw_168 : decode cX11_tellLaw 168 = .ok (.iload_n 2, 1) := by decide +kernel
theorem dX11_tellLaw_169 : decode cX11_tellLaw 169 = .ok (.iastore, 1) := by decide +kernel
theorem dX11_tellLaw_170 : decode cX11_tellLaw 170 = .ok (.aload_n 0, 1) := by decide +kernel
theorem dX11_tellLaw_171 : decode cX11_tellLaw 171 = .ok (.getfield 97, 3) := by decide +kernel
theorem dX11_tellLaw_174 : decode cX11_tellLaw 174 = .ok (.iconst 3, 1) := by decide +kernel
theorem dX11_tellLaw_175 : decode cX11_tellLaw 175 = .ok (.aload_n 0, 1) := by decide +kernel
theorem dX11_tellLaw_176 : decode cX11_tellLaw 176 = .ok (.getfield 260, 3) := by decide +kernel
theorem dX11_tellLaw_179 : decode cX11_tellLaw 179 = .ok (.imul, 1) := by decide +kernel
theorem dX11_tellLaw_180 : decode cX11_tellLaw 180 = .ok (.iload_n 1, 1) := by decide +kernel
theorem dX11_tellLaw_181 : decode cX11_tellLaw 181 = .ok (.iadd, 1) := by decide +kernel
theorem dX11_tellLaw_182 : decode cX11_tellLaw 182 = .ok (.aload_n 0, 1) := by decide +kernel
theorem dX11_tellLaw_183 : decode cX11_tellLaw 183 = .ok (.getfield 266, 3) := by decide +kernel
theorem dX11_tellLaw_186 : decode cX11_tellLaw 186 = .ok (.iastore, 1) := by decide +kernel
theorem dX11_tellLaw_187 : decode cX11_tellLaw 187 = .ok (.return_, 1) := by decide +kernel
theorem dX11_term_0 : decode cX11_term 0 = .ok (.aload_n 0, 1) := by decide +kernel
theorem dX11_term_1 : decode cX11_term 1 = .ok (.getfield 110, 3) := by decide +kernel
theorem dX11_term_4 : decode cX11_term 4 = .ok (.aload_n 0, 1) := by decide +kernel
theorem dX11_term_5 : decode cX11_term 5 = .ok (.getfield 266, 3) := by decide +kernel
theorem dX11_term_8 : decode cX11_term 8 = .ok (.aload_n 0, 1) := by decide +kernel
theorem dX11_term_9 : decode cX11_term 9 = .ok (.getfield 269, 3) := by decide +kernel
theorem dX11_term_12 : decode cX11_term 12 = .ok (.iastore, 1) := by decide +kernel
theorem dX11_term_13 : decode cX11_term 13 = .ok (.aload_n 0, 1) := by decide +kernel
theorem dX11_term_14 : decode cX11_term 14 = .ok (.getfield 227, 3) := by decide +kernel
theorem dX11_term_17 : decode cX11_term 17 = .ok (.ifCond .ne 7, 3) := by decide +kernel
theorem dX11_term_20 : decode cX11_term 20 = .ok (.aload_n 0, 1) := by decide +kernel
theorem dX11_term_21 : decode cX11_term 21 = .ok (.invokevirtual 347, 3) := by decide +kernel
theorem dX11_term_24 : decode cX11_term 24 = .ok (.aload_n 0, 1) := by decide +kernel
theorem dX11_term_25 : decode cX11_term 25 = .ok (.getfield 113, 3) := by decide +kernel
theorem dX11_term_28 : decode cX11_term 28 = .ok (.aload_n 0, 1) := by decide +kernel
theorem dX11_term_29 : decode cX11_term 29 = .ok (.getfield 266, 3) := by decide +kernel
theorem dX11_term_32 : decode cX11_term 32 = .ok (.aload_n 0, 1) := by decide +kernel
theorem dX11_term_33 : decode cX11_term 33 = .ok (.getfield 269, 3) := by decide +kernel
theorem dX11_term_36 : decode cX11_term 36 = .ok (.iastore, 1) := by decide +kernel
theorem dX11_term_37 : decode cX11_term 37 = .ok (.aload_n 0, 1) := by decide +kernel
theorem dX11_term_38 : decode cX11_term 38 = .ok (.dup, 1) := by decide +kernel
theorem dX11_term_39 : decode cX11_term 39 = .ok (.getfield 266, 3) := by decide +kernel
theorem dX11_term_42 : decode cX11_term 42 = .ok (.iconst 1, 1) := by decide +kernel
theorem dX11_term_43 : decode cX11_term 43 = .ok (.iadd, 1) := by decide +kernel
theorem dX11_term_44 : decode cX11_term 44 = .ok (.putfield 266, 3) := by decide +kernel
theorem dX11_term_47 : decode cX11_term 47 = .ok (.return_, 1) := by decide +kernel
theorem dX11_emit_0 : decode cX11_emit 0 = .ok (.aload_n 0, 1) := by decide +kernel
theorem dX11_emit_1 : decode cX11_emit 1 = .ok (.getfield 116, 3) := by decide +kernel
theorem dX11_emit_4 : decode cX11_emit 4 = .ok (.aload_n 0, 1) := by decide +kernel
theorem dX11_emit_5 : decode cX11_emit 5 = .ok (.getfield 269, 3) := by decide +kernel
theorem dX11_emit_8 : decode cX11_emit 8 = .ok (.iload_n 1, 1) := by decide +kernel
theorem dX11_emit_9 : decode cX11_emit 9 = .ok (.iastore, 1) := by decide +kernel
theorem dX11_emit_10 : decode cX11_emit 10 = .ok (.aload_n 0, 1) := by decide +kernel
theorem dX11_emit_11 : decode cX11_emit 11 = .ok (.getfield 119, 3) := by decide +kernel
theorem dX11_emit_14 : decode cX11_emit 14 = .ok (.aload_n 0, 1) := by decide +kernel
theorem dX11_emit_15 : decode cX11_emit 15 = .ok (.getfield 269, 3) := by decide +kernel
theorem dX11_emit_18 : decode cX11_emit 18 = .ok (.iload_n 2, 1) := by decide +kernel
theorem dX11_emit_19 : decode cX11_emit 19 = .ok (.iastore, 1) := by decide +kernel
theorem dX11_emit_20 : decode cX11_emit 20 = .ok (.aload_n 0, 1) := by decide +kernel
theorem dX11_emit_21 : decode cX11_emit 21 = .ok (.dup, 1) := by decide +kernel
theorem dX11_emit_22 : decode cX11_emit 22 = .ok (.getfield 269, 3) := by decide +kernel
theorem dX11_emit_25 : decode cX11_emit 25 = .ok (.iconst 1, 1) := by decide +kernel
theorem dX11_emit_26 : decode cX11_emit 26 = .ok (.iadd, 1) := by decide +kernel
theorem dX11_emit_27 : decode cX11_emit 27 = .ok (.putfield 269, 3) := by decide +kernel
theorem dX11_emit_30 : decode cX11_emit 30 = .ok (.return_, 1) := by decide +kernel
theorem dX11_comesOut_0 : decode cX11_comesOut 0 = .ok (.aload_n 0, 1) := by decide +kernel
theorem dX11_comesOut_1 : decode cX11_comesOut 1 = .ok (.getfield 353, 3) := by decide +kernel
theorem dX11_comesOut_4 : decode cX11_comesOut 4 = .ok (.ifCond .le 87, 3) := by decide +kernel
theorem dX11_comesOut_7 : decode cX11_comesOut 7 = .ok (.aload_n 0, 1) := by decide +kernel
theorem dX11_comesOut_8 : decode cX11_comesOut 8 = .ok (.getfield 125, 3) := by decide +kernel
theorem dX11_comesOut_11 : decode cX11_comesOut 11 = .ok (.aload_n 0, 1) := by decide +kernel
theorem dX11_comesOut_12 : decode cX11_comesOut 12 = .ok (.getfield 353, 3) := by decide +kernel
theorem dX11_comesOut_15 : decode cX11_comesOut 15 = .ok (.iconst 1, 1) := by decide +kernel
theorem dX11_comesOut_16 : decode cX11_comesOut 16 = .ok (.isub, 1) := by decide +kernel
theorem dX11_comesOut_17 : decode cX11_comesOut 17 = .ok (.iaload, 1) := by decide +kernel
theorem dX11_comesOut_18 : decode cX11_comesOut 18 = .ok (.istore_n 2, 1) := by decide +kernel
theorem dX11_comesOut_19 : decode cX11_comesOut 19 = .ok (.iload_n 2, 1) := by decide +kernel
theorem dX11_comesOut_20 : decode cX11_comesOut 20 = .ok (.bipush 6, 2) := by decide +kernel
theorem dX11_comesOut_22 : decode cX11_comesOut 22 = .ok (.if_icmp .eq 19, 3) := by decide +kernel
theorem dX11_comesOut_25 : decode cX11_comesOut 25 = .ok (.iload_n 1, 1) := by decide +kernel
theorem dX11_comesOut_26 : decode cX11_comesOut 26 = .ok (.ifCond .eq 16, 3) := by decide +kernel
theorem dX11_comesOut_29 : decode cX11_comesOut 29 = .ok (.iload_n 2, 1) := by decide +kernel
theorem dX11_comesOut_30 : decode cX11_comesOut 30 = .ok (.bipush 8, 2) := by decide +kernel
theorem dX11_comesOut_32 : decode cX11_comesOut 32 = .ok (.if_icmp .eq 9, 3) := by decide +kernel
theorem dX11_comesOut_35 : decode cX11_comesOut 35 = .ok (.iload_n 2, 1) := by decide +kernel
theorem dX11_comesOut_36 : decode cX11_comesOut 36 = .ok (.bipush 9, 2) := by decide +kernel
theorem dX11_comesOut_38 : decode cX11_comesOut 38 = .ok (.if_icmp .ne 4, 3) := by decide +kernel
theorem dX11_comesOut_41 : decode cX11_comesOut 41 = .ok (.return_, 1) := by decide +kernel
theorem dX11_comesOut_42 : decode cX11_comesOut 42 = .ok (.aload_n 0, 1) := by decide +kernel
theorem dX11_comesOut_43 : decode cX11_comesOut 43 = .ok (.dup, 1) := by decide +kernel
theorem dX11_comesOut_44 : decode cX11_comesOut 44 = .ok (.getfield 353, 3) := by decide +kernel
theorem dX11_comesOut_47 : decode cX11_comesOut 47 = .ok (.iconst 1, 1) := by decide +kernel
theorem dX11_comesOut_48 : decode cX11_comesOut 48 = .ok (.isub, 1) := by decide +kernel
theorem dX11_comesOut_49 : decode cX11_comesOut 49 = .ok (.putfield 353, 3) := by decide +kernel
theorem dX11_comesOut_52 : decode cX11_comesOut 52 = .ok (.aload_n 0, 1) := by decide +kernel
theorem dX11_comesOut_53 : decode cX11_comesOut 53 = .ok (.iload_n 2, 1) := by decide +kernel
theorem dX11_comesOut_54 : decode cX11_comesOut 54 = .ok (.bipush 8, 2) := by decide +kernel
theorem dX11_comesOut_56 : decode cX11_comesOut 56 = .ok (.if_icmp .ne 7, 3) := by decide +kernel
theorem dX11_comesOut_59 : decode cX11_comesOut 59 = .ok (.iconst 2, 1) := by decide +kernel
theorem dX11_comesOut_60 : decode cX11_comesOut 60 = .ok (.goto 24, 3) := by decide +kernel
theorem dX11_comesOut_63 : decode cX11_comesOut 63 = .ok (.iload_n 2, 1) := by decide +kernel
theorem dX11_comesOut_64 : decode cX11_comesOut 64 = .ok (.bipush 9, 2) := by decide +kernel
theorem dX11_comesOut_66 : decode cX11_comesOut 66 = .ok (.if_icmp .ne 7, 3) := by decide +kernel
theorem dX11_comesOut_69 : decode cX11_comesOut 69 = .ok (.iconst 3, 1) := by decide +kernel
theorem dX11_comesOut_70 : decode cX11_comesOut 70 = .ok (.goto 14, 3) := by decide +kernel
theorem dX11_comesOut_73 : decode cX11_comesOut 73 = .ok (.iload_n 2, 1) := by decide +kernel
theorem dX11_comesOut_74 : decode cX11_comesOut 74 = .ok (.bipush 10, 2) := by decide +kernel
theorem dX11_comesOut_76 : decode cX11_comesOut 76 = .ok (.if_icmp .ne 7, 3) := by decide +kernel
theorem dX11_comesOut_79 : decode cX11_comesOut 79 = .ok (.iconst 4, 1) := by decide +kernel
theorem dX11_comesOut_80 : decode cX11_comesOut 80 = .ok (.goto 4, 3) := by decide +kernel
theorem dX11_comesOut_83 : decode cX11_comesOut 83 = .ok (.iconst 5, 1) := by decide +kernel
theorem dX11_comesOut_84 : decode cX11_comesOut 84 = .ok (.iconst 0, 1) := by decide +kernel
theorem dX11_comesOut_85 : decode cX11_comesOut 85 = .ok (.invokevirtual 356, 3) := by decide +kernel
theorem dX11_comesOut_88 : decode cX11_comesOut 88 = .ok (.goto (-88), 3) := by decide +kernel
theorem dX11_comesOut_91 : decode cX11_comesOut 91 = .ok (.return_, 1) := by decide +kernel
theorem dX11_expression_0 : decode cX11_expression 0 = .ok (.aload_n 0, 1) := by decide +kernel
theorem dX11_expression_1 : decode cX11_expression 1 = .ok (.iconst 0, 1) := by decide +kernel
theorem dX11_expression_2 : decode cX11_expression 2 = .ok (.putfield 353, 3) := by decide +kernel
theorem dX11_expression_5 : decode cX11_expression 5 = .ok (.aload_n 0, 1) := by decide +kernel
theorem dX11_expression_6 : decode cX11_expression 6 = .ok (.getfield 254, 3) := by decide +kernel
theorem dX11_expression_9 : decode cX11_expression 9 = .ok (.istore_n 1, 1) := by decide +kernel
theorem dX11_expression_10 : decode cX11_expression 10 = .ok (.iconst 1, 1) := by decide +kernel
theorem dX11_expression_11 : decode cX11_expression 11 = .ok (.istore_n 2, 1) := by decide +kernel
theorem dX11_expression_12 : decode cX11_expression 12 = .ok (.iload_n 2, 1) := by decide +kernel
theorem dX11_expression_13 : decode cX11_expression 13 = .ok (.ifCond .eq 259, 3) := by decide +kernel
theorem dX11_expression_16 : decode cX11_expression 16 = .ok (.aload_n 0, 1) := by decide +kernel
theorem dX11_expression_17 : decode cX11_expression 17 = .ok (.getfield 227, 3) := by decide +kernel
theorem dX11_expression_20 : decode cX11_expression 20 = .ok (.ifCond .ne 252, 3) := by decide +kernel
theorem dX11_expression_23 : decode cX11_expression 23 = .ok (.aload_n 0, 1) := by decide +kernel
theorem dX11_expression_24 : decode cX11_expression 24 = .ok (.bipush 6, 2) := by decide +kernel
theorem dX11_expression_26 : decode cX11_expression 26 = .ok (.invokevirtual 245, 3) := by decide +kernel
theorem dX11_expression_29 : decode cX11_expression 29 = .ok (.ifCond .eq 55, 3) := by decide +kernel
theorem dX11_expression_32 : decode cX11_expression 32 = .ok (.aload_n 0, 1) := by decide +kernel
theorem dX11_expression_33 : decode cX11_expression 33 = .ok (.getfield 254, 3) := by decide +kernel
theorem dX11_expression_36 : decode cX11_expression 36 = .ok (.bipush 6, 2) := by decide +kernel
theorem dX11_expression_38 : decode cX11_expression 38 = .ok (.if_icmp .ne 8, 3) := by decide +kernel
theorem dX11_expression_41 : decode cX11_expression 41 = .ok (.aload_n 0, 1) := by decide +kernel
theorem dX11_expression_42 : decode cX11_expression 42 = .ok (.iconst 2, 1) := by decide +kernel
theorem dX11_expression_43 : decode cX11_expression 43 = .ok (.invokevirtual 242, 3) := by decide +kernel
theorem dX11_expression_46 : decode cX11_expression 46 = .ok (.aload_n 0, 1) := by decide +kernel
theorem dX11_expression_47 : decode cX11_expression 47 = .ok (.dup, 1) := by decide +kernel
theorem dX11_expression_48 : decode cX11_expression 48 = .ok (.getfield 254, 3) := by decide +kernel
theorem dX11_expression_51 : decode cX11_expression 51 = .ok (.iconst 1, 1) := by decide +kernel
theorem dX11_expression_52 : decode cX11_expression 52 = .ok (.iadd, 1) := by decide +kernel
theorem dX11_expression_53 : decode cX11_expression 53 = .ok (.putfield 254, 3) := by decide +kernel
theorem dX11_expression_56 : decode cX11_expression 56 = .ok (.aload_n 0, 1) := by decide +kernel
theorem dX11_expression_57 : decode cX11_expression 57 = .ok (.invokevirtual 248, 3) := by decide +kernel
theorem dX11_expression_60 : decode cX11_expression 60 = .ok (.aload_n 0, 1) := by decide +kernel
theorem dX11_expression_61 : decode cX11_expression 61 = .ok (.getfield 125, 3) := by decide +kernel
theorem dX11_expression_64 : decode cX11_expression 64 = .ok (.aload_n 0, 1) := by decide +kernel
theorem dX11_expression_65 : decode cX11_expression 65 = .ok (.getfield 353, 3) := by decide +kernel
theorem dX11_expression_68 : decode cX11_expression 68 = .ok (.bipush 6, 2) := by decide +kernel
theorem dX11_expression_70 : decode cX11_expression 70 = .ok (.iastore, 1) := by decide +kernel
theorem dX11_expression_71 : decode cX11_expression 71 = .ok (.aload_n 0, 1) := by decide +kernel
theorem dX11_expression_72 : decode cX11_expression 72 = .ok (.dup, 1) := by decide +kernel
theorem dX11_expression_73 : decode cX11_expression 73 = .ok (.getfield 353, 3) := by decide +kernel
theorem dX11_expression_76 : decode cX11_expression 76 = .ok (.iconst 1, 1) := by decide +kernel
theorem dX11_expression_77 : decode cX11_expression 77 = .ok (.iadd, 1) := by decide +kernel
theorem dX11_expression_78 : decode cX11_expression 78 = .ok (.putfield 353, 3) := by decide +kernel
theorem dX11_expression_81 : decode cX11_expression 81 = .ok (.goto (-58), 3) := by decide +kernel
theorem dX11_expression_84 : decode cX11_expression 84 = .ok (.aload_n 0, 1) := by decide +kernel
theorem dX11_expression_85 : decode cX11_expression 85 = .ok (.invokevirtual 359, 3) := by decide +kernel
theorem dX11_expression_88 : decode cX11_expression 88 = .ok (.aload_n 0, 1) := by decide +kernel
theorem dX11_expression_89 : decode cX11_expression 89 = .ok (.getfield 227, 3) := by decide +kernel
theorem dX11_expression_92 : decode cX11_expression 92 = .ok (.ifCond .le 4, 3) := by decide +kernel
theorem dX11_expression_95 : decode cX11_expression 95 = .ok (.return_, 1) := by decide +kernel
theorem dX11_expression_96 : decode cX11_expression 96 = .ok (.aload_n 0, 1) := by decide +kernel
theorem dX11_expression_97 : decode cX11_expression 97 = .ok (.bipush 7, 2) := by decide +kernel
theorem dX11_expression_99 : decode cX11_expression 99 = .ok (.invokevirtual 245, 3) := by decide +kernel
theorem dX11_expression_102 : decode cX11_expression 102 = .ok (.ifCond .eq 43, 3) := by decide +kernel
theorem dX11_expression_105 : decode cX11_expression 105 = .ok (.aload_n 0, 1) := by decide +kernel
theorem dX11_expression_106 : decode cX11_expression 106 = .ok (.getfield 254, 3) := by decide +kernel
theorem dX11_expression_109 : decode cX11_expression 109 = .ok (.iload_n 1, 1) := by decide +kernel
theorem dX11_expression_110 : decode cX11_expression 110 = .ok (.if_icmp .le 35, 3) := by decide +kernel
theorem dX11_expression_113 : decode cX11_expression 113 = .ok (.aload_n 0, 1) := by decide +kernel
theorem dX11_expression_114 : decode cX11_expression 114 = .ok (.iconst 0, 1) := by decide +kernel
theorem dX11_expression_115 : decode cX11_expression 115 = .ok (.invokevirtual 362, 3) := by decide +kernel
theorem dX11_expression_118 : decode cX11_expression 118 = .ok (.aload_n 0, 1) := by decide +kernel
theorem dX11_expression_119 : decode cX11_expression 119 = .ok (.dup, 1) := by decide +kernel
theorem dX11_expression_120 : decode cX11_expression 120 = .ok (.getfield 353, 3) := by decide +kernel
theorem dX11_expression_123 : decode cX11_expression 123 = .ok (.iconst 1, 1) := by decide +kernel
theorem dX11_expression_124 : decode cX11_expression 124 = .ok (.isub, 1) := by decide +kernel
theorem dX11_expression_125 : decode cX11_expression 125 = .ok (.putfield 353, 3) := by decide +kernel
theorem dX11_expression_128 : decode cX11_expression 128 = .ok (.aload_n 0, 1) := by decide +kernel
theorem dX11_expression_129 : decode cX11_expression 129 = .ok (.dup, 1) := by decide +kernel
theorem dX11_expression_130 : decode cX11_expression 130 = .ok (.getfield 254, 3) := by decide +kernel
theorem dX11_expression_133 : decode cX11_expression 133 = .ok (.iconst 1, 1) := by decide +kernel
theorem dX11_expression_134 : decode cX11_expression 134 = .ok (.isub, 1) := by decide +kernel
theorem dX11_expression_135 : decode cX11_expression 135 = .ok (.putfield 254, 3) := by decide +kernel
theorem dX11_expression_138 : decode cX11_expression 138 = .ok (.aload_n 0, 1) := by decide +kernel
theorem dX11_expression_139 : decode cX11_expression 139 = .ok (.invokevirtual 248, 3) := by decide +kernel
theorem dX11_expression_142 : decode cX11_expression 142 = .ok (.goto (-46), 3) := by decide +kernel
theorem dX11_expression_145 : decode cX11_expression 145 = .ok (.aload_n 0, 1) := by decide +kernel
theorem dX11_expression_146 : decode cX11_expression 146 = .ok (.bipush 8, 2) := by decide +kernel
theorem dX11_expression_148 : decode cX11_expression 148 = .ok (.invokevirtual 245, 3) := by decide +kernel
theorem dX11_expression_151 : decode cX11_expression 151 = .ok (.ifCond .ne 30, 3) := by decide +kernel
theorem dX11_expression_154 : decode cX11_expression 154 = .ok (.aload_n 0, 1) := by decide +kernel
theorem dX11_expression_155 : decode cX11_expression 155 = .ok (.bipush 9, 2) := by decide +kernel
theorem dX11_expression_157 : decode cX11_expression 157 = .ok (.invokevirtual 245, 3) := by decide +kernel
theorem dX11_expression_160 : decode cX11_expression 160 = .ok (.ifCond .ne 21, 3) := by decide +kernel
theorem dX11_expression_163 : decode cX11_expression 163 = .ok (.aload_n 0, 1) := by decide +kernel
theorem dX11_expression_164 : decode cX11_expression 164 = .ok (.bipush 10, 2) := by decide +kernel
theorem dX11_expression_166 : decode cX11_expression 166 = .ok (.invokevirtual 245, 3) := by decide +kernel
theorem dX11_expression_169 : decode cX11_expression 169 = .ok (.ifCond .ne 12, 3) := by decide +kernel
theorem dX11_expression_172 : decode cX11_expression 172 = .ok (.aload_n 0, 1) := by decide +kernel
theorem dX11_expression_173 : decode cX11_expression 173 = .ok (.bipush 15, 2) := by decide +kernel
theorem dX11_expression_175 : decode cX11_expression 175 = .ok (.invokevirtual 245, 3) := by decide +kernel
theorem dX11_expression_178 : decode cX11_expression 178 = .ok (.ifCond .eq 7, 3) := by decide +kernel
theorem dX11_expression_181 : decode cX11_expression 181 = .ok (.iconst 1, 1) := by decide +kernel
theorem dX11_expression_182 : decode cX11_expression 182 = .ok (.goto 4, 3) := by decide +kernel
theorem dX11_expression_185 : decode cX11_expression 185 = .ok (.iconst 0, 1) := by decide +kernel
theorem dX11_expression_186 : decode cX11_expression 186 = .ok (.istore_n 2, 1) := by decide +kernel
theorem dX11_expression_187 : decode cX11_expression 187 = .ok (.iload_n 2, 1) := by decide +kernel
theorem dX11_expression_188 : decode cX11_expression 188 = .ok (.ifCond .ne 22, 3) := by decide +kernel
theorem dX11_expression_191 : decode cX11_expression 191 = .ok (.aload_n 0, 1) := by decide +kernel
theorem dX11_expression_192 : decode cX11_expression 192 = .ok (.getfield 254, 3) := by decide +kernel
theorem dX11_expression_195 : decode cX11_expression 195 = .ok (.iload_n 1, 1) := by decide +kernel
theorem dX11_expression_196 : decode cX11_expression 196 = .ok (.if_icmp .le 8, 3) := by decide +kernel
theorem dX11_expression_199 : decode cX11_expression 199 = .ok (.aload_n 0, 1) := by decide +kernel
theorem dX11_expression_200 : decode cX11_expression 200 = .ok (.iconst 1, 1) := by decide +kernel
theorem dX11_expression_201 : decode cX11_expression 201 = .ok (.invokevirtual 242, 3) := by decide +kernel
theorem dX11_expression_204 : decode cX11_expression 204 = .ok (.aload_n 0, 1) := by decide +kernel
theorem dX11_expression_205 : decode cX11_expression 205 = .ok (.iconst 0, 1) := by decide +kernel
theorem dX11_expression_206 : decode cX11_expression 206 = .ok (.invokevirtual 362, 3) := by decide +kernel
theorem dX11_expression_209 : decode cX11_expression 209 = .ok (.return_, 1) := by decide +kernel
theorem dX11_expression_210 : decode cX11_expression 210 = .ok (.aload_n 0, 1) := by decide +kernel
theorem dX11_expression_211 : decode cX11_expression 211 = .ok (.aload_n 0, 1) := by decide +kernel
theorem dX11_expression_212 : decode cX11_expression 212 = .ok (.bipush 10, 2) := by decide +kernel
theorem dX11_expression_214 : decode cX11_expression 214 = .ok (.invokevirtual 245, 3) := by decide +kernel
theorem dX11_expression_217 : decode cX11_expression 217 = .ok (.ifCond .ne 12, 3) := by decide +kernel
theorem dX11_expression_220 : decode cX11_expression 220 = .ok (.aload_n 0, 1) := by decide +kernel
theorem dX11_expression_221 : decode cX11_expression 221 = .ok (.bipush 15, 2) := by decide +kernel
theorem dX11_expression_223 : decode cX11_expression 223 = .ok (.invokevirtual 245, 3) := by decide +kernel
theorem dX11_expression_226 : decode cX11_expression 226 = .ok (.ifCond .eq 7, 3) := by decide +kernel
theorem dX11_expression_229 : decode cX11_expression 229 = .ok (.iconst 1, 1) := by decide +kernel
theorem dX11_expression_230 : decode cX11_expression 230 = .ok (.goto 4, 3) := by decide +kernel
theorem dX11_expression_233 : decode cX11_expression 233 = .ok (.iconst 0, 1) := by decide +kernel
theorem dX11_expression_234 : decode cX11_expression 234 = .ok (.invokevirtual 362, 3) := by decide +kernel
theorem dX11_expression_237 : decode cX11_expression 237 = .ok (.aload_n 0, 1) := by decide +kernel
theorem dX11_expression_238 : decode cX11_expression 238 = .ok (.getfield 125, 3) := by decide +kernel
theorem dX11_expression_241 : decode cX11_expression 241 = .ok (.aload_n 0, 1) := by decide +kernel
theorem dX11_expression_242 : decode cX11_expression 242 = .ok (.getfield 353, 3) := by decide +kernel
theorem dX11_expression_245 : decode cX11_expression 245 = .ok (.aload_n 0, 1) := by decide +kernel
theorem dX11_expression_246 : decode cX11_expression 246 = .ok (.getfield 20, 3) := by decide +kernel
theorem dX11_expression_249 : decode cX11_expression 249 = .ok (.aload_n 0, 1) := by decide +kernel
theorem dX11_expression_250 : decode cX11_expression 250 = .ok (.getfield 230, 3) := by decide +kernel
theorem dX11_expression_253 : decode cX11_expression 253 = .ok (.iaload, 1) := by decide +kernel
theorem dX11_expression_254 : decode cX11_expression 254 = .ok (.iastore, 1) := by decide +kernel
theorem dX11_expression_255 : decode cX11_expression 255 = .ok (.aload_n 0, 1) := by decide +kernel
theorem dX11_expression_256 : decode cX11_expression 256 = .ok (.dup, 1) := by decide +kernel
theorem dX11_expression_257 : decode cX11_expression 257 = .ok (.getfield 353, 3) := by decide +kernel
theorem dX11_expression_260 : decode cX11_expression 260 = .ok (.iconst 1, 1) := by decide +kernel
theorem dX11_expression_261 : decode cX11_expression 261 = .ok (.iadd, 1) := by decide +kernel
theorem dX11_expression_262 : decode cX11_expression 262 = .ok (.putfield 353, 3) := by decide +kernel
theorem dX11_expression_265 : decode cX11_expression 265 = .ok (.aload_n 0, 1) := by decide +kernel
theorem dX11_expression_266 : decode cX11_expression 266 = .ok (.invokevirtual 248, 3) := by decide +kernel
theorem dX11_expression_269 : decode cX11_expression 269 = .ok (.goto (-257), 3) := by decide +kernel
theorem dX11_expression_272 : decode cX11_expression 272 = .ok (.return_, 1) := by decide +kernel
theorem dX11_unit_0 : decode cX11_unit 0 = .ok (.aload_n 0, 1) := by decide +kernel
theorem dX11_unit_1 : decode cX11_unit 1 = .ok (.iconst 2, 1) := by decide +kernel
theorem dX11_unit_2 : decode cX11_unit 2 = .ok (.invokevirtual 245, 3) := by decide +kernel
theorem dX11_unit_5 : decode cX11_unit 5 = .ok (.ifCond .eq 24, 3) := by decide +kernel
theorem dX11_unit_8 : decode cX11_unit 8 = .ok (.aload_n 0, 1) := by decide +kernel
theorem dX11_unit_9 : decode cX11_unit 9 = .ok (.iconst 0, 1) := by decide +kernel
theorem dX11_unit_10 : decode cX11_unit 10 = .ok (.aload_n 0, 1) := by decide +kernel
theorem dX11_unit_11 : decode cX11_unit 11 = .ok (.getfield 27, 3) := by decide +kernel
theorem dX11_unit_14 : decode cX11_unit 14 = .ok (.aload_n 0, 1) := by decide +kernel
theorem dX11_unit_15 : decode cX11_unit 15 = .ok (.getfield 230, 3) := by decide +kernel
theorem dX11_unit_18 : decode cX11_unit 18 = .ok (.iaload, 1) := by decide +kernel
theorem dX11_unit_19 : decode cX11_unit 19 = .ok (.invokevirtual 356, 3) := by decide +kernel
theorem dX11_unit_22 : decode cX11_unit 22 = .ok (.aload_n 0, 1) := by decide +kernel
theorem dX11_unit_23 : decode cX11_unit 23 = .ok (.invokevirtual 248, 3) := by decide +kernel
theorem dX11_unit_26 : decode cX11_unit 26 = .ok (.goto 67, 3) := by decide +kernel
theorem dX11_unit_29 : decode cX11_unit 29 = .ok (.aload_n 0, 1) := by decide +kernel
theorem dX11_unit_30 : decode cX11_unit 30 = .ok (.getfield 227, 3) := by decide +kernel
theorem dX11_unit_33 : decode cX11_unit 33 = .ok (.ifCond .ne 55, 3) := by decide +kernel
theorem dX11_unit_36 : decode cX11_unit 36 = .ok (.aload_n 0, 1) := by decide +kernel
theorem dX11_unit_37 : decode cX11_unit 37 = .ok (.getfield 20, 3) := by decide +kernel
theorem dX11_unit_40 : decode cX11_unit 40 = .ok (.aload_n 0, 1) := by decide +kernel
theorem dX11_unit_41 : decode cX11_unit 41 = .ok (.getfield 230, 3) := by decide +kernel
theorem dX11_unit_44 : decode cX11_unit 44 = .ok (.iaload, 1) := by decide +kernel
theorem dX11_unit_45 : decode cX11_unit 45 = .ok (.bipush 37, 2) := by decide +kernel
theorem dX11_unit_47 : decode cX11_unit 47 = .ok (.if_icmp .lt 41, 3) := by decide +kernel
theorem dX11_unit_50 : decode cX11_unit 50 = .ok (.aload_n 0, 1) := by decide +kernel
theorem dX11_unit_51 : decode cX11_unit 51 = .ok (.getfield 20, 3) := by decide +kernel
theorem dX11_unit_54 : decode cX11_unit 54 = .ok (.aload_n 0, 1) := by decide +kernel
theorem dX11_unit_55 : decode cX11_unit 55 = .ok (.getfield 230, 3) := by decide +kernel
theorem dX11_unit_58 : decode cX11_unit 58 = .ok (.iaload, 1) := by decide +kernel
theorem dX11_unit_59 : decode cX11_unit 59 = .ok (.bipush 45, 2) := by decide +kernel
theorem dX11_unit_61 : decode cX11_unit 61 = .ok (.if_icmp .gt 27, 3) := by decide +kernel
theorem dX11_unit_64 : decode cX11_unit 64 = .ok (.aload_n 0, 1) := by decide +kernel
theorem dX11_unit_65 : decode cX11_unit 65 = .ok (.iconst 1, 1) := by decide +kernel
theorem dX11_unit_66 : decode cX11_unit 66 = .ok (.aload_n 0, 1) := by decide +kernel
theorem dX11_unit_67 : decode cX11_unit 67 = .ok (.getfield 20, 3) := by decide +kernel
theorem dX11_unit_70 : decode cX11_unit 70 = .ok (.aload_n 0, 1) := by decide +kernel
theorem dX11_unit_71 : decode cX11_unit 71 = .ok (.getfield 230, 3) := by decide +kernel
theorem dX11_unit_74 : decode cX11_unit 74 = .ok (.iaload, 1) := by decide +kernel
theorem dX11_unit_75 : decode cX11_unit 75 = .ok (.bipush 37, 2) := by decide +kernel
theorem dX11_unit_77 : decode cX11_unit 77 = .ok (.isub, 1) := by decide +kernel
theorem dX11_unit_78 : decode cX11_unit 78 = .ok (.invokevirtual 356, 3) := by decide +kernel
theorem dX11_unit_81 : decode cX11_unit 81 = .ok (.aload_n 0, 1) := by decide +kernel
theorem dX11_unit_82 : decode cX11_unit 82 = .ok (.invokevirtual 248, 3) := by decide +kernel
theorem dX11_unit_85 : decode cX11_unit 85 = .ok (.goto 8, 3) := by decide +kernel
theorem dX11_unit_88 : decode cX11_unit 88 = .ok (.aload_n 0, 1) := by decide +kernel
theorem dX11_unit_89 : decode cX11_unit 89 = .ok (.iconst 1, 1) := by decide +kernel
theorem dX11_unit_90 : decode cX11_unit 90 = .ok (.invokevirtual 242, 3) := by decide +kernel
theorem dX11_unit_93 : decode cX11_unit 93 = .ok (.return_, 1) := by decide +kernel
theorem dX11_termOf_0 : decode cX11_termOf 0 = .ok (.iconst 0, 1) := by decide +kernel
theorem dX11_termOf_1 : decode cX11_termOf 1 = .ok (.istore_n 3, 1) := by decide +kernel
theorem dX11_termOf_2 : decode cX11_termOf 2 = .ok (.iload_n 1, 1) := by decide +kernel
theorem dX11_termOf_3 : decode cX11_termOf 3 = .ok (.istore 4, 2) := by decide +kernel
theorem dX11_termOf_5 : decode cX11_termOf 5 = .ok (.iload 4, 2) := by decide +kernel
theorem dX11_termOf_7 : decode cX11_termOf 7 = .ok (.iload_n 2, 1) := by decide +kernel
theorem dX11_termOf_8 : decode cX11_termOf 8 = .ok (.if_icmp .ge 157, 3) := by decide +kernel
theorem dX11_termOf_11 : decode cX11_termOf 11 = .ok (.aload_n 0, 1) := by decide +kernel
theorem dX11_termOf_12 : decode cX11_termOf 12 = .ok (.getfield 116, 3) := by decide +kernel
theorem dX11_termOf_15 : decode cX11_termOf 15 = .ok (.iload 4, 2) := by decide +kernel
theorem dX11_termOf_17 : decode cX11_termOf 17 = .ok (.iaload, 1) := by decide +kernel
theorem dX11_termOf_18 : decode cX11_termOf 18 = .ok (.istore 5, 2) := by decide +kernel
theorem dX11_termOf_20 : decode cX11_termOf 20 = .ok (.iload 5, 2) := by decide +kernel
theorem dX11_termOf_22 : decode cX11_termOf 22 = .ok (.iconst 2, 1) := by decide +kernel
theorem dX11_termOf_23 : decode cX11_termOf 23 = .ok (.if_icmp .ge 42, 3) := by decide +kernel
theorem dX11_termOf_26 : decode cX11_termOf 26 = .ok (.aload_n 0, 1) := by decide +kernel
theorem dX11_termOf_27 : decode cX11_termOf 27 = .ok (.getfield 131, 3) := by decide +kernel
theorem dX11_termOf_30 : decode cX11_termOf 30 = .ok (.iload_n 3, 1) := by decide +kernel
theorem dX11_termOf_31 : decode cX11_termOf 31 = .ok (.iload 5, 2) := by decide +kernel
theorem dX11_termOf_33 : decode cX11_termOf 33 = .ok (.ifCond .ne 13, 3) := by decide +kernel
theorem dX11_termOf_36 : decode cX11_termOf 36 = .ok (.aload_n 0, 1) := by decide +kernel
theorem dX11_termOf_37 : decode cX11_termOf 37 = .ok (.getfield 119, 3) := by decide +kernel
theorem dX11_termOf_40 : decode cX11_termOf 40 = .ok (.iload 4, 2) := by decide +kernel
theorem dX11_termOf_42 : decode cX11_termOf 42 = .ok (.iaload, 1) := by decide +kernel
theorem dX11_termOf_43 : decode cX11_termOf 43 = .ok (.goto 15, 3) := by decide +kernel
theorem dX11_termOf_46 : decode cX11_termOf 46 = .ok (.aload_n 0, 1) := by decide +kernel
theorem dX11_termOf_47 : decode cX11_termOf 47 = .ok (.getfield 128, 3) := by decide +kernel
theorem dX11_termOf_50 : decode cX11_termOf 50 = .ok (.aload_n 0, 1) := by decide +kernel
theorem dX11_termOf_51 : decode cX11_termOf 51 = .ok (.getfield 119, 3) := by decide +kernel
theorem dX11_termOf_54 : decode cX11_termOf 54 = .ok (.iload 4, 2) := by decide +kernel
theorem dX11_termOf_56 : decode cX11_termOf 56 = .ok (.iaload, 1) := by decide +kernel
theorem dX11_termOf_57 : decode cX11_termOf 57 = .ok (.iaload, 1) := by decide +kernel
theorem dX11_termOf_58 : decode cX11_termOf 58 = .ok (.iastore, 1) := by decide +kernel
theorem dX11_termOf_59 : decode cX11_termOf 59 = .ok (.iinc 3 1, 3) := by decide +kernel
theorem dX11_termOf_62 : decode cX11_termOf 62 = .ok (.goto 97, 3) := by decide +kernel
theorem dX11_termOf_65 : decode cX11_termOf 65 = .ok (.iinc 3 (-1), 3) := by decide +kernel
theorem dX11_termOf_68 : decode cX11_termOf 68 = .ok (.aload_n 0, 1) := by decide +kernel
theorem dX11_termOf_69 : decode cX11_termOf 69 = .ok (.getfield 131, 3) := by decide +kernel
theorem dX11_termOf_72 : decode cX11_termOf 72 = .ok (.iload_n 3, 1) := by decide +kernel
theorem dX11_termOf_73 : decode cX11_termOf 73 = .ok (.iconst 1, 1) := by decide +kernel
theorem dX11_termOf_74 : decode cX11_termOf 74 = .ok (.isub, 1) := by decide +kernel
theorem dX11_termOf_75 : decode cX11_termOf 75 = .ok (.iaload, 1) := by decide +kernel
theorem dX11_termOf_76 : decode cX11_termOf 76 = .ok (.istore 6, 2) := by decide +kernel
theorem dX11_termOf_78 : decode cX11_termOf 78 = .ok (.aload_n 0, 1) := by decide +kernel
theorem dX11_termOf_79 : decode cX11_termOf 79 = .ok (.getfield 131, 3) := by decide +kernel
theorem dX11_termOf_82 : decode cX11_termOf 82 = .ok (.iload_n 3, 1) := by decide +kernel
theorem dX11_termOf_83 : decode cX11_termOf 83 = .ok (.iaload, 1) := by decide +kernel
theorem dX11_termOf_84 : decode cX11_termOf 84 = .ok (.istore 7, 2) := by decide +kernel
theorem dX11_termOf_86 : decode cX11_termOf 86 = .ok (.iload 5, 2) := by decide +kernel
theorem dX11_termOf_88 : decode cX11_termOf 88 = .ok (.iconst 5, 1) := by decide +kernel
theorem dX11_termOf_89 : decode cX11_termOf 89 = .ok (.if_icmp .ne 15, 3) := by decide +kernel
theorem dX11_termOf_92 : decode cX11_termOf 92 = .ok (.iload 7, 2) := by decide +kernel
theorem dX11_termOf_94 : decode cX11_termOf 94 = .ok (.ifCond .ne 10, 3) := by decide +kernel
theorem dX11_termOf_97 : decode cX11_termOf 97 = .ok (.aload_n 0, 1) := by decide +kernel
theorem dX11_termOf_98 : decode cX11_termOf 98 = .ok (.iconst 1, 1) := by decide +kernel
theorem dX11_termOf_99 : decode cX11_termOf 99 = .ok (.putfield 366, 3) := by decide +kernel
theorem dX11_termOf_102 : decode cX11_termOf 102 = .ok (.iconst 0, 1) := by decide +kernel
theorem dX11_termOf_103 : decode cX11_termOf 103 = .ok (.ireturn, 1) := by decide +kernel
theorem dX11_termOf_104 : decode cX11_termOf 104 = .ok (.aload_n 0, 1) := by decide +kernel
theorem dX11_termOf_105 : decode cX11_termOf 105 = .ok (.getfield 131, 3) := by decide +kernel
theorem dX11_termOf_108 : decode cX11_termOf 108 = .ok (.iload_n 3, 1) := by decide +kernel
theorem dX11_termOf_109 : decode cX11_termOf 109 = .ok (.iconst 1, 1) := by decide +kernel
theorem dX11_termOf_110 : decode cX11_termOf 110 = .ok (.isub, 1) := by decide +kernel
theorem dX11_termOf_111 : decode cX11_termOf 111 = .ok (.iload 5, 2) := by decide +kernel
theorem dX11_termOf_113 : decode cX11_termOf 113 = .ok (.iconst 2, 1) := by decide +kernel
theorem dX11_termOf_114 : decode cX11_termOf 114 = .ok (.if_icmp .ne 11, 3) := by decide +kernel
theorem dX11_termOf_117 : decode cX11_termOf 117 = .ok (.iload 6, 2) := by decide +kernel
theorem dX11_termOf_119 : decode cX11_termOf 119 = .ok (.iload 7, 2) := by decide +kernel
theorem dX11_termOf_121 : decode cX11_termOf 121 = .ok (.iadd, 1) := by decide +kernel
theorem dX11_termOf_122 : decode cX11_termOf 122 = .ok (.goto 36, 3) := by decide +kernel
theorem dX11_termOf_125 : decode cX11_termOf 125 = .ok (.iload 5, 2) := by decide +kernel
theorem dX11_termOf_127 : decode cX11_termOf 127 = .ok (.iconst 3, 1) := by decide +kernel
theorem dX11_termOf_128 : decode cX11_termOf 128 = .ok (.if_icmp .ne 11, 3) := by decide +kernel
theorem dX11_termOf_131 : decode cX11_termOf 131 = .ok (.iload 6, 2) := by decide +kernel
theorem dX11_termOf_133 : decode cX11_termOf 133 = .ok (.iload 7, 2) := by decide +kernel
theorem dX11_termOf_135 : decode cX11_termOf 135 = .ok (.isub, 1) := by decide +kernel
theorem dX11_termOf_136 : decode cX11_termOf 136 = .ok (.goto 22, 3) := by decide +kernel
theorem dX11_termOf_139 : decode cX11_termOf 139 = .ok (.iload 5, 2) := by decide +kernel
theorem dX11_termOf_141 : decode cX11_termOf 141 = .ok (.iconst 4, 1) := by decide +kernel
theorem dX11_termOf_142 : decode cX11_termOf 142 = .ok (.if_icmp .ne 11, 3) := by decide +kernel
theorem dX11_termOf_145 : decode cX11_termOf 145 = .ok (.iload 6, 2) := by decide +kernel
theorem dX11_termOf_147 : decode cX11_termOf 147 = .ok (.iload 7, 2) := by decide +kernel
theorem dX11_termOf_149 : decode cX11_termOf 149 = .ok (.imul, 1) := by decide +kernel
theorem dX11_termOf_150 : decode cX11_termOf 150 = .ok (.goto 8, 3) := by decide +kernel
theorem dX11_termOf_153 : decode cX11_termOf 153 = .ok (.iload 6, 2) := by decide +kernel
theorem dX11_termOf_155 : decode cX11_termOf 155 = .ok (.iload 7, 2) := by decide +kernel
theorem dX11_termOf_157 : decode cX11_termOf 157 = .ok (.idiv, 1) := by decide +kernel
theorem dX11_termOf_158 : decode cX11_termOf 158 = .ok (.iastore, 1) := by decide +kernel
theorem dX11_termOf_159 : decode cX11_termOf 159 = .ok (.iinc 4 1, 3) := by decide +kernel
theorem dX11_termOf_162 : decode cX11_termOf 162 = .ok (.goto (-157), 3) := by decide +kernel
theorem dX11_termOf_165 : decode cX11_termOf 165 = .ok (.aload_n 0, 1) := by decide +kernel
theorem dX11_termOf_166 : decode cX11_termOf 166 = .ok (.getfield 131, 3) := by decide +kernel
theorem dX11_termOf_169 : decode cX11_termOf 169 = .ok (.iconst 0, 1) := by decide +kernel
theorem dX11_termOf_170 : decode cX11_termOf 170 = .ok (.iaload, 1) := by decide +kernel
theorem dX11_termOf_171 : decode cX11_termOf 171 = .ok (.ireturn, 1) := by decide +kernel
theorem dX11_in_0 : decode cX11_in 0 = .ok (.iload_n 0, 1) := by decide +kernel
theorem dX11_in_1 : decode cX11_in 1 = .ok (.iload_n 1, 1) := by decide +kernel
theorem dX11_in_2 : decode cX11_in 2 = .ok (.if_icmp .lt 12, 3) := by decide +kernel
theorem dX11_in_5 : decode cX11_in 5 = .ok (.iload_n 0, 1) := by decide +kernel
theorem dX11_in_6 : decode cX11_in 6 = .ok (.iload_n 2, 1) := by decide +kernel
theorem dX11_in_7 : decode cX11_in 7 = .ok (.if_icmp .gt 7, 3) := by decide +kernel
theorem dX11_in_10 : decode cX11_in 10 = .ok (.iconst 1, 1) := by decide +kernel
theorem dX11_in_11 : decode cX11_in 11 = .ok (.goto 4, 3) := by decide +kernel
theorem dX11_in_14 : decode cX11_in 14 = .ok (.iconst 0, 1) := by decide +kernel
theorem dX11_in_15 : decode cX11_in 15 = .ok (.ireturn, 1) := by decide +kernel
theorem dX11_held_0 : decode cX11_held 0 = .ok (.iload_n 0, 1) := by decide +kernel
theorem dX11_held_1 : decode cX11_held 1 = .ok (.iload_n 1, 1) := by decide +kernel
theorem dX11_held_2 : decode cX11_held 2 = .ok (.if_icmp .ge 7, 3) := by decide +kernel
theorem dX11_held_5 : decode cX11_held 5 = .ok (.iload_n 1, 1) := by decide +kernel
theorem dX11_held_6 : decode cX11_held 6 = .ok (.goto 13, 3) := by decide +kernel
theorem dX11_held_9 : decode cX11_held 9 = .ok (.iload_n 0, 1) := by decide +kernel
theorem dX11_held_10 : decode cX11_held 10 = .ok (.iload_n 2, 1) := by decide +kernel
theorem dX11_held_11 : decode cX11_held 11 = .ok (.if_icmp .le 7, 3) := by decide +kernel
theorem dX11_held_14 : decode cX11_held 14 = .ok (.iload_n 2, 1) := by decide +kernel
theorem dX11_held_15 : decode cX11_held 15 = .ok (.goto 4, 3) := by decide +kernel
theorem dX11_held_18 : decode cX11_held 18 = .ok (.iload_n 0, 1) := by decide +kernel
theorem dX11_held_19 : decode cX11_held 19 = .ok (.ireturn, 1) := by decide +kernel
theorem dX11_bits_0 : decode cX11_bits 0 = .ok (.iconst 0, 1) := by decide +kernel
theorem dX11_bits_1 : decode cX11_bits 1 = .ok (.istore_n 1, 1) := by decide +kernel
theorem dX11_bits_2 : decode cX11_bits 2 = .ok (.iconst 0, 1) := by decide +kernel
theorem dX11_bits_3 : decode cX11_bits 3 = .ok (.istore_n 2, 1) := by decide +kernel
theorem dX11_bits_4 : decode cX11_bits 4 = .ok (.iload_n 2, 1) := by decide +kernel
theorem dX11_bits_5 : decode cX11_bits 5 = .ok (.bipush 8, 2) := by decide +kernel
theorem dX11_bits_7 : decode cX11_bits 7 = .ok (.if_icmp .ge 17, 3) := by decide +kernel
theorem dX11_bits_10 : decode cX11_bits 10 = .ok (.iload_n 1, 1) := by decide +kernel
theorem dX11_bits_11 : decode cX11_bits 11 = .ok (.iload_n 0, 1) := by decide +kernel
theorem dX11_bits_12 : decode cX11_bits 12 = .ok (.iload_n 2, 1) := by decide +kernel
theorem dX11_bits_13 : decode cX11_bits 13 = .ok (.ishr, 1) := by decide +kernel
theorem dX11_bits_14 : decode cX11_bits 14 = .ok (.iconst 1, 1) := by decide +kernel
theorem dX11_bits_15 : decode cX11_bits 15 = .ok (.iand, 1) := by decide +kernel
theorem dX11_bits_16 : decode cX11_bits 16 = .ok (.iadd, 1) := by decide +kernel
theorem dX11_bits_17 : decode cX11_bits 17 = .ok (.istore_n 1, 1) := by decide +kernel
theorem dX11_bits_18 : decode cX11_bits 18 = .ok (.iinc 2 1, 3) := by decide +kernel
theorem dX11_bits_21 : decode cX11_bits 21 = .ok (.goto (-17), 3) := by decide +kernel
theorem dX11_bits_24 : decode cX11_bits 24 = .ok (.iload_n 1, 1) := by decide +kernel
theorem dX11_bits_25 : decode cX11_bits 25 = .ok (.ireturn, 1) := by decide +kernel
theorem dX11_isBeing_0 : decode cX11_isBeing 0 = .ok (.iload_n 1, 1) := by decide +kernel
theorem dX11_isBeing_1 : decode cX11_isBeing 1 = .ok (.iconst 0, 1) := by decide +kernel
theorem dX11_isBeing_2 : decode cX11_isBeing 2 = .ok (.aload_n 0, 1) := by decide +kernel
theorem dX11_isBeing_3 : decode cX11_isBeing 3 = .ok (.getfield 49, 3) := by decide +kernel
theorem dX11_isBeing_6 : decode cX11_isBeing 6 = .ok (.aload_n 0, 1) := by decide +kernel
theorem dX11_isBeing_7 : decode cX11_isBeing 7 = .ok (.getfield 257, 3) := by decide +kernel
theorem dX11_isBeing_10 : decode cX11_isBeing 10 = .ok (.iaload, 1) := by decide +kernel
theorem dX11_isBeing_11 : decode cX11_isBeing 11 = .ok (.iconst 1, 1) := by decide +kernel
theorem dX11_isBeing_12 : decode cX11_isBeing 12 = .ok (.isub, 1) := by decide +kernel
theorem dX11_isBeing_13 : decode cX11_isBeing 13 = .ok (.invokestatic 370, 3) := by decide +kernel
theorem dX11_isBeing_16 : decode cX11_isBeing 16 = .ok (.ireturn, 1) := by decide +kernel
theorem dX11_isWay_0 : decode cX11_isWay 0 = .ok (.iload_n 1, 1) := by decide +kernel
theorem dX11_isWay_1 : decode cX11_isWay 1 = .ok (.iconst 0, 1) := by decide +kernel
theorem dX11_isWay_2 : decode cX11_isWay 2 = .ok (.aload_n 0, 1) := by decide +kernel
theorem dX11_isWay_3 : decode cX11_isWay 3 = .ok (.getfield 58, 3) := by decide +kernel
theorem dX11_isWay_6 : decode cX11_isWay 6 = .ok (.aload_n 0, 1) := by decide +kernel
theorem dX11_isWay_7 : decode cX11_isWay 7 = .ok (.getfield 257, 3) := by decide +kernel
theorem dX11_isWay_10 : decode cX11_isWay 10 = .ok (.iaload, 1) := by decide +kernel
theorem dX11_isWay_11 : decode cX11_isWay 11 = .ok (.iconst 1, 1) := by decide +kernel
theorem dX11_isWay_12 : decode cX11_isWay 12 = .ok (.isub, 1) := by decide +kernel
theorem dX11_isWay_13 : decode cX11_isWay 13 = .ok (.invokestatic 370, 3) := by decide +kernel
theorem dX11_isWay_16 : decode cX11_isWay 16 = .ok (.ireturn, 1) := by decide +kernel
theorem dX11_isBridge_0 : decode cX11_isBridge 0 = .ok (.iload_n 1, 1) := by decide +kernel
theorem dX11_isBridge_1 : decode cX11_isBridge 1 = .ok (.iconst 0, 1) := by decide +kernel
theorem dX11_isBridge_2 : decode cX11_isBridge 2 = .ok (.aload_n 0, 1) := by decide +kernel
theorem dX11_isBridge_3 : decode cX11_isBridge 3 = .ok (.getfield 70, 3) := by decide +kernel
theorem dX11_isBridge_6 : decode cX11_isBridge 6 = .ok (.aload_n 0, 1) := by decide +kernel
theorem dX11_isBridge_7 : decode cX11_isBridge 7 = .ok (.getfield 257, 3) := by decide +kernel
theorem dX11_isBridge_10 : decode cX11_isBridge 10 = .ok (.iaload, 1) := by decide +kernel
theorem dX11_isBridge_11 : decode cX11_isBridge 11 = .ok (.iconst 1, 1) := by decide +kernel
theorem dX11_isBridge_12 : decode cX11_isBridge 12 = .ok (.isub, 1) := by decide +kernel
theorem dX11_isBridge_13 : decode cX11_isBridge 13 = .ok (.invokestatic 370, 3) := by decide +kernel
theorem dX11_isBridge_16 : decode cX11_isBridge 16 = .ok (.ireturn, 1) := by decide +kernel
theorem dX11_begins_0 : decode cX11_begins 0 = .ok (.iconst 0, 1) := by decide +kernel
theorem dX11_begins_1 : decode cX11_begins 1 = .ok (.istore_n 1, 1) := by decide +kernel
theorem dX11_begins_2 : decode cX11_begins 2 = .ok (.iload_n 1, 1) := by decide +kernel
theorem dX11_begins_3 : decode cX11_begins 3 = .ok (.bipush 26, 2) := by decide +kernel
theorem dX11_begins_5 : decode cX11_begins 5 = .ok (.if_icmp .ge 16, 3) := by decide +kernel
theorem dX11_begins_8 : decode cX11_begins 8 = .ok (.aload_n 0, 1) := by decide +kernel
theorem dX11_begins_9 : decode cX11_begins 9 = .ok (.getfield 137, 3) := by decide +kernel
theorem dX11_begins_12 : decode cX11_begins 12 = .ok (.iload_n 1, 1) := by decide +kernel
theorem dX11_begins_13 : decode cX11_begins 13 = .ok (.iconst 0, 1) := by decide +kernel
theorem dX11_begins_14 : decode cX11_begins 14 = .ok (.iastore, 1) := by decide +kernel
theorem dX11_begins_15 : decode cX11_begins 15 = .ok (.iinc 1 1, 3) := by decide +kernel
theorem dX11_begins_18 : decode cX11_begins 18 = .ok (.goto (-16), 3) := by decide +kernel
theorem dX11_begins_21 : decode cX11_begins 21 = .ok (.iconst 0, 1) := by decide +kernel
theorem dX11_begins_22 : decode cX11_begins 22 = .ok (.istore_n 1, 1) := by decide +kernel
theorem dX11_begins_23 : decode cX11_begins 23 = .ok (.iload_n 1, 1) := by decide +kernel
theorem dX11_begins_24 : decode cX11_begins 24 = .ok (.aload_n 0, 1) := by decide +kernel
theorem dX11_begins_25 : decode cX11_begins 25 = .ok (.getfield 70, 3) := by decide +kernel
theorem dX11_begins_28 : decode cX11_begins 28 = .ok (.aload_n 0, 1) := by decide +kernel
theorem dX11_begins_29 : decode cX11_begins 29 = .ok (.getfield 257, 3) := by decide +kernel
theorem dX11_begins_32 : decode cX11_begins 32 = .ok (.iaload, 1) := by decide +kernel
theorem dX11_begins_33 : decode cX11_begins 33 = .ok (.if_icmp .ge 28, 3) := by decide +kernel
theorem dX11_begins_36 : decode cX11_begins 36 = .ok (.aload_n 0, 1) := by decide +kernel
theorem dX11_begins_37 : decode cX11_begins 37 = .ok (.getfield 137, 3) := by decide +kernel
theorem dX11_begins_40 : decode cX11_begins 40 = .ok (.iload_n 1, 1) := by decide +kernel
theorem dX11_begins_41 : decode cX11_begins 41 = .ok (.aload_n 0, 1) := by decide +kernel
theorem dX11_begins_42 : decode cX11_begins 42 = .ok (.getfield 73, 3) := by decide +kernel
theorem dX11_begins_45 : decode cX11_begins 45 = .ok (.iconst 4, 1) := by decide +kernel
theorem dX11_begins_46 : decode cX11_begins 46 = .ok (.aload_n 0, 1) := by decide +kernel
theorem dX11_begins_47 : decode cX11_begins 47 = .ok (.getfield 257, 3) := by decide +kernel
theorem dX11_begins_50 : decode cX11_begins 50 = .ok (.imul, 1) := by decide +kernel
theorem dX11_begins_51 : decode cX11_begins 51 = .ok (.iload_n 1, 1) := by decide +kernel
theorem dX11_begins_52 : decode cX11_begins 52 = .ok (.iadd, 1) := by decide +kernel
theorem dX11_begins_53 : decode cX11_begins 53 = .ok (.iaload, 1) := by decide +kernel
theorem dX11_begins_54 : decode cX11_begins 54 = .ok (.iastore, 1) := by decide +kernel
theorem dX11_begins_55 : decode cX11_begins 55 = .ok (.iinc 1 1, 3) := by decide +kernel
theorem dX11_begins_58 : decode cX11_begins 58 = .ok (.goto (-35), 3) := by decide +kernel
theorem dX11_begins_61 : decode cX11_begins 61 = .ok (.aload_n 0, 1) := by decide +kernel
theorem dX11_begins_62 : decode cX11_begins 62 = .ok (.getfield 137, 3) := by decide +kernel
theorem dX11_begins_65 : decode cX11_begins 65 = .ok (.bipush 25, 2) := by decide +kernel
theorem dX11_begins_67 : decode cX11_begins 67 = .ok (.iconst 1, 1) := by decide +kernel
theorem dX11_begins_68 : decode cX11_begins 68 = .ok (.aload_n 0, 1) := by decide +kernel
theorem dX11_begins_69 : decode cX11_begins 69 = .ok (.getfield 49, 3) := by decide +kernel
theorem dX11_begins_72 : decode cX11_begins 72 = .ok (.aload_n 0, 1) := by decide +kernel
theorem dX11_begins_73 : decode cX11_begins 73 = .ok (.getfield 257, 3) := by decide +kernel
theorem dX11_begins_76 : decode cX11_begins 76 = .ok (.iaload, 1) := by decide +kernel
theorem dX11_begins_77 : decode cX11_begins 77 = .ok (.ishl, 1) := by decide +kernel
theorem dX11_begins_78 : decode cX11_begins 78 = .ok (.iconst 1, 1) := by decide +kernel
theorem dX11_begins_79 : decode cX11_begins 79 = .ok (.isub, 1) := by decide +kernel
theorem dX11_begins_80 : decode cX11_begins 80 = .ok (.iastore, 1) := by decide +kernel
theorem dX11_begins_81 : decode cX11_begins 81 = .ok (.aload_n 0, 1) := by decide +kernel
theorem dX11_begins_82 : decode cX11_begins 82 = .ok (.aload_n 0, 1) := by decide +kernel
theorem dX11_begins_83 : decode cX11_begins 83 = .ok (.getfield 91, 3) := by decide +kernel
theorem dX11_begins_86 : decode cX11_begins 86 = .ok (.aload_n 0, 1) := by decide +kernel
theorem dX11_begins_87 : decode cX11_begins 87 = .ok (.getfield 257, 3) := by decide +kernel
theorem dX11_begins_90 : decode cX11_begins 90 = .ok (.iaload, 1) := by decide +kernel
theorem dX11_begins_91 : decode cX11_begins 91 = .ok (.putfield 374, 3) := by decide +kernel
theorem dX11_begins_94 : decode cX11_begins 94 = .ok (.aload_n 0, 1) := by decide +kernel
theorem dX11_begins_95 : decode cX11_begins 95 = .ok (.iconst 0, 1) := by decide +kernel
theorem dX11_begins_96 : decode cX11_begins 96 = .ok (.putfield 377, 3) := by decide +kernel
theorem dX11_begins_99 : decode cX11_begins 99 = .ok (.return_, 1) := by decide +kernel
theorem dX11_keepsRow_0 : decode cX11_keepsRow 0 = .ok (.iconst 0, 1) := by decide +kernel
theorem dX11_keepsRow_1 : decode cX11_keepsRow 1 = .ok (.istore_n 1, 1) := by decide +kernel
theorem dX11_keepsRow_2 : decode cX11_keepsRow 2 = .ok (.iload_n 1, 1) := by decide +kernel
theorem dX11_keepsRow_3 : decode cX11_keepsRow 3 = .ok (.bipush 26, 2) := by decide +kernel
theorem dX11_keepsRow_5 : decode cX11_keepsRow 5 = .ok (.if_icmp .ge 21, 3) := by decide +kernel
theorem dX11_keepsRow_8 : decode cX11_keepsRow 8 = .ok (.aload_n 0, 1) := by decide +kernel
theorem dX11_keepsRow_9 : decode cX11_keepsRow 9 = .ok (.getfield 134, 3) := by decide +kernel
theorem dX11_keepsRow_12 : decode cX11_keepsRow 12 = .ok (.iload_n 1, 1) := by decide +kernel
theorem dX11_keepsRow_13 : decode cX11_keepsRow 13 = .ok (.aload_n 0, 1) := by decide +kernel
theorem dX11_keepsRow_14 : decode cX11_keepsRow 14 = .ok (.getfield 137, 3) := by decide +kernel
theorem dX11_keepsRow_17 : decode cX11_keepsRow 17 = .ok (.iload_n 1, 1) := by decide +kernel
theorem dX11_keepsRow_18 : decode cX11_keepsRow 18 = .ok (.iaload, 1) := by decide +kernel
theorem dX11_keepsRow_19 : decode cX11_keepsRow 19 = .ok (.iastore, 1) := by decide +kernel
theorem dX11_keepsRow_20 : decode cX11_keepsRow 20 = .ok (.iinc 1 1, 3) := by decide +kernel
theorem dX11_keepsRow_23 : decode cX11_keepsRow 23 = .ok (.goto (-21), 3) := by decide +kernel
theorem dX11_keepsRow_26 : decode cX11_keepsRow 26 = .ok (.return_, 1) := by decide +kernel
theorem dX11_copies_0 : decode cX11_copies 0 = .ok (.iconst 0, 1) := by decide +kernel
theorem dX11_copies_1 : decode cX11_copies 1 = .ok (.istore_n 1, 1) := by decide +kernel
theorem dX11_copies_2 : decode cX11_copies 2 = .ok (.iload_n 1, 1) := by decide +kernel
theorem dX11_copies_3 : decode cX11_copies 3 = .ok (.bipush 26, 2) := by decide +kernel
theorem dX11_copies_5 : decode cX11_copies 5 = .ok (.if_icmp .ge 21, 3) := by decide +kernel
theorem dX11_copies_8 : decode cX11_copies 8 = .ok (.aload_n 0, 1) := by decide +kernel
theorem dX11_copies_9 : decode cX11_copies 9 = .ok (.getfield 137, 3) := by decide +kernel
theorem dX11_copies_12 : decode cX11_copies 12 = .ok (.iload_n 1, 1) := by decide +kernel
theorem dX11_copies_13 : decode cX11_copies 13 = .ok (.aload_n 0, 1) := by decide +kernel
theorem dX11_copies_14 : decode cX11_copies 14 = .ok (.getfield 134, 3) := by decide +kernel
theorem dX11_copies_17 : decode cX11_copies 17 = .ok (.iload_n 1, 1) := by decide +kernel
theorem dX11_copies_18 : decode cX11_copies 18 = .ok (.iaload, 1) := by decide +kernel
theorem dX11_copies_19 : decode cX11_copies 19 = .ok (.iastore, 1) := by decide +kernel
theorem dX11_copies_20 : decode cX11_copies 20 = .ok (.iinc 1 1, 3) := by decide +kernel
theorem dX11_copies_23 : decode cX11_copies 23 = .ok (.goto (-21), 3) := by decide +kernel
theorem dX11_copies_26 : decode cX11_copies 26 = .ok (.aload_n 0, 1) := by decide +kernel
theorem dX11_copies_27 : decode cX11_copies 27 = .ok (.aload_n 0, 1) := by decide +kernel
theorem dX11_copies_28 : decode cX11_copies 28 = .ok (.getfield 91, 3) := by decide +kernel
theorem dX11_copies_31 : decode cX11_copies 31 = .ok (.aload_n 0, 1) := by decide +kernel
theorem dX11_copies_32 : decode cX11_copies 32 = .ok (.getfield 257, 3) := by decide +kernel
theorem dX11_copies_35 : decode cX11_copies 35 = .ok (.iaload, 1) := by decide +kernel
theorem dX11_copies_36 : decode cX11_copies 36 = .ok (.putfield 374, 3) := by decide +kernel
theorem dX11_copies_39 : decode cX11_copies 39 = .ok (.aload_n 0, 1) := by decide +kernel
theorem dX11_copies_40 : decode cX11_copies 40 = .ok (.iconst 0, 1) := by decide +kernel
theorem dX11_copies_41 : decode cX11_copies 41 = .ok (.putfield 377, 3) := by decide +kernel
theorem dX11_copies_44 : decode cX11_copies 44 = .ok (.return_, 1) := by decide +kernel
theorem dX11_mixed_0 : decode cX11_mixed 0 = .ok (.iload_n 0, 1) := by decide +kernel
theorem dX11_mixed_1 : decode cX11_mixed 1 = .ok (.iload_n 1, 1) := by decide +kernel
theorem dX11_mixed_2 : decode cX11_mixed 2 = .ok (.ixor, 1) := by decide +kernel
theorem dX11_mixed_3 : decode cX11_mixed 3 = .ok (.ldc_w 380, 3) := by decide +kernel
theorem dX11_mixed_6 : decode cX11_mixed 6 = .ok (.imul, 1) := by decide +kernel
theorem dX11_mixed_7 : decode cX11_mixed 7 = .ok (.sipush 12345, 3) := by decide +kernel
theorem dX11_mixed_10 : decode cX11_mixed 10 = .ok (.iadd, 1) := by decide +kernel
theorem dX11_mixed_11 : decode cX11_mixed 11 = .ok (.istore_n 2, 1) := by decide +kernel
theorem dX11_mixed_12 : decode cX11_mixed 12 = .ok (.iload_n 2, 1) := by decide +kernel
theorem dX11_mixed_13 : decode cX11_mixed 13 = .ok (.iload_n 2, 1) := by decide +kernel
theorem dX11_mixed_14 : decode cX11_mixed 14 = .ok (.bipush 15, 2) := by decide +kernel
theorem dX11_mixed_16 : decode cX11_mixed 16 = .ok (.iushr, 1) := by decide +kernel
theorem dX11_mixed_17 : decode cX11_mixed 17 = .ok (.ixor, 1) := by decide +kernel
theorem dX11_mixed_18 : decode cX11_mixed 18 = .ok (.ireturn, 1) := by decide +kernel
theorem dX11_isStorm_0 : decode cX11_isStorm 0 = .ok (.aload_n 0, 1) := by decide +kernel
theorem dX11_isStorm_1 : decode cX11_isStorm 1 = .ok (.getfield 374, 3) := by decide +kernel
theorem dX11_isStorm_4 : decode cX11_isStorm 4 = .ok (.bipush 109, 2) := by decide +kernel
theorem dX11_isStorm_6 : decode cX11_isStorm 6 = .ok (.invokestatic 381, 3) := by decide +kernel
theorem dX11_isStorm_9 : decode cX11_isStorm 9 = .ok (.iconst 4, 1) := by decide +kernel
theorem dX11_isStorm_10 : decode cX11_isStorm 10 = .ok (.aload_n 0, 1) := by decide +kernel
theorem dX11_isStorm_11 : decode cX11_isStorm 11 = .ok (.getfield 137, 3) := by decide +kernel
theorem dX11_isStorm_14 : decode cX11_isStorm 14 = .ok (.bipush 23, 2) := by decide +kernel
theorem dX11_isStorm_16 : decode cX11_isStorm 16 = .ok (.iaload, 1) := by decide +kernel
theorem dX11_isStorm_17 : decode cX11_isStorm 17 = .ok (.imul, 1) := by decide +kernel
theorem dX11_isStorm_18 : decode cX11_isStorm 18 = .ok (.invokestatic 381, 3) := by decide +kernel
theorem dX11_isStorm_21 : decode cX11_isStorm 21 = .ok (.iconst 1, 1) := by decide +kernel
theorem dX11_isStorm_22 : decode cX11_isStorm 22 = .ok (.iushr, 1) := by decide +kernel
theorem dX11_isStorm_23 : decode cX11_isStorm 23 = .ok (.bipush 100, 2) := by decide +kernel
theorem dX11_isStorm_25 : decode cX11_isStorm 25 = .ok (.irem, 1) := by decide +kernel
theorem dX11_isStorm_26 : decode cX11_isStorm 26 = .ok (.aload_n 0, 1) := by decide +kernel
theorem dX11_isStorm_27 : decode cX11_isStorm 27 = .ok (.getfield 88, 3) := by decide +kernel
theorem dX11_isStorm_30 : decode cX11_isStorm 30 = .ok (.aload_n 0, 1) := by decide +kernel
theorem dX11_isStorm_31 : decode cX11_isStorm 31 = .ok (.getfield 257, 3) := by decide +kernel
theorem dX11_isStorm_34 : decode cX11_isStorm 34 = .ok (.iaload, 1) := by decide +kernel
theorem dX11_isStorm_35 : decode cX11_isStorm 35 = .ok (.if_icmp .ge 7, 3) := by decide +kernel
theorem dX11_isStorm_38 : decode cX11_isStorm 38 = .ok (.iconst 1, 1) := by decide +kernel
theorem dX11_isStorm_39 : decode cX11_isStorm 39 = .ok (.goto 4, 3) := by decide +kernel
theorem dX11_isStorm_42 : decode cX11_isStorm 42 = .ok (.iconst 0, 1) := by decide +kernel
theorem dX11_isStorm_43 : decode cX11_isStorm 43 = .ok (.ireturn, 1) := by decide +kernel
theorem dX11_bridgesSo_0 : decode cX11_bridgesSo 0 = .ok (.iconst 0, 1) := by decide +kernel
theorem dX11_bridgesSo_1 : decode cX11_bridgesSo 1 = .ok (.istore_n 2, 1) := by decide +kernel
theorem dX11_bridgesSo_2 : decode cX11_bridgesSo 2 = .ok (.iconst 0, 1) := by decide +kernel
theorem dX11_bridgesSo_3 : decode cX11_bridgesSo 3 = .ok (.istore_n 3, 1) := by decide +kernel
theorem dX11_bridgesSo_4 : decode cX11_bridgesSo 4 = .ok (.iload_n 3, 1) := by decide +kernel
theorem dX11_bridgesSo_5 : decode cX11_bridgesSo 5 = .ok (.aload_n 0, 1) := by decide +kernel
theorem dX11_bridgesSo_6 : decode cX11_bridgesSo 6 = .ok (.getfield 70, 3) := by decide +kernel
theorem dX11_bridgesSo_9 : decode cX11_bridgesSo 9 = .ok (.aload_n 0, 1) := by decide +kernel
theorem dX11_bridgesSo_10 : decode cX11_bridgesSo 10 = .ok (.getfield 257, 3) := by decide +kernel
theorem dX11_bridgesSo_13 : decode cX11_bridgesSo 13 = .ok (.iaload, 1) := by decide +kernel
theorem dX11_bridgesSo_14 : decode cX11_bridgesSo 14 = .ok (.if_icmp .ge 27, 3) := by decide +kernel
theorem dX11_bridgesSo_17 : decode cX11_bridgesSo 17 = .ok (.aload_n 0, 1) := by decide +kernel
theorem dX11_bridgesSo_18 : decode cX11_bridgesSo 18 = .ok (.getfield 137, 3) := by decide +kernel
theorem dX11_bridgesSo_21 : decode cX11_bridgesSo 21 = .ok (.iconst 4, 1) := by decide +kernel
theorem dX11_bridgesSo_22 : decode cX11_bridgesSo 22 = .ok (.iload_n 3, 1) := by decide +kernel
theorem dX11_bridgesSo_23 : decode cX11_bridgesSo 23 = .ok (.iadd, 1) := by decide +kernel
theorem dX11_bridgesSo_24 : decode cX11_bridgesSo 24 = .ok (.iaload, 1) := by decide +kernel
theorem dX11_bridgesSo_25 : decode cX11_bridgesSo 25 = .ok (.iload_n 1, 1) := by decide +kernel
theorem dX11_bridgesSo_26 : decode cX11_bridgesSo 26 = .ok (.if_icmp .ne 9, 3) := by decide +kernel
theorem dX11_bridgesSo_29 : decode cX11_bridgesSo 29 = .ok (.iload_n 2, 1) := by decide +kernel
theorem dX11_bridgesSo_30 : decode cX11_bridgesSo 30 = .ok (.iconst 1, 1) := by decide +kernel
theorem dX11_bridgesSo_31 : decode cX11_bridgesSo 31 = .ok (.iload_n 3, 1) := by decide +kernel
theorem dX11_bridgesSo_32 : decode cX11_bridgesSo 32 = .ok (.ishl, 1) := by decide +kernel
theorem dX11_bridgesSo_33 : decode cX11_bridgesSo 33 = .ok (.ior, 1) := by decide +kernel
theorem dX11_bridgesSo_34 : decode cX11_bridgesSo 34 = .ok (.istore_n 2, 1) := by decide +kernel
theorem dX11_bridgesSo_35 : decode cX11_bridgesSo 35 = .ok (.iinc 3 1, 3) := by decide +kernel
theorem dX11_bridgesSo_38 : decode cX11_bridgesSo 38 = .ok (.goto (-34), 3) := by decide +kernel
theorem dX11_bridgesSo_41 : decode cX11_bridgesSo 41 = .ok (.iload_n 2, 1) := by decide +kernel
theorem dX11_bridgesSo_42 : decode cX11_bridgesSo 42 = .ok (.ireturn, 1) := by decide +kernel
theorem dX11_looks_0 : decode cX11_looks 0 = .ok (.aload_n 0, 1) := by decide +kernel
theorem dX11_looks_1 : decode cX11_looks 1 = .ok (.getfield 128, 3) := by decide +kernel
theorem dX11_looks_4 : decode cX11_looks 4 = .ok (.iconst 0, 1) := by decide +kernel
theorem dX11_looks_5 : decode cX11_looks 5 = .ok (.aload_n 0, 1) := by decide +kernel
theorem dX11_looks_6 : decode cX11_looks 6 = .ok (.getfield 137, 3) := by decide +kernel
theorem dX11_looks_9 : decode cX11_looks 9 = .ok (.iload_n 1, 1) := by decide +kernel
theorem dX11_looks_10 : decode cX11_looks 10 = .ok (.iaload, 1) := by decide +kernel
theorem dX11_looks_11 : decode cX11_looks 11 = .ok (.iastore, 1) := by decide +kernel
theorem dX11_looks_12 : decode cX11_looks 12 = .ok (.aload_n 0, 1) := by decide +kernel
theorem dX11_looks_13 : decode cX11_looks 13 = .ok (.getfield 128, 3) := by decide +kernel
theorem dX11_looks_16 : decode cX11_looks 16 = .ok (.iconst 1, 1) := by decide +kernel
theorem dX11_looks_17 : decode cX11_looks 17 = .ok (.aload_n 0, 1) := by decide +kernel
theorem dX11_looks_18 : decode cX11_looks 18 = .ok (.getfield 76, 3) := by decide +kernel
theorem dX11_looks_21 : decode cX11_looks 21 = .ok (.iconst 4, 1) := by decide +kernel
theorem dX11_looks_22 : decode cX11_looks 22 = .ok (.aload_n 0, 1) := by decide +kernel
theorem dX11_looks_23 : decode cX11_looks 23 = .ok (.getfield 257, 3) := by decide +kernel
theorem dX11_looks_26 : decode cX11_looks 26 = .ok (.imul, 1) := by decide +kernel
theorem dX11_looks_27 : decode cX11_looks 27 = .ok (.iload_n 1, 1) := by decide +kernel
theorem dX11_looks_28 : decode cX11_looks 28 = .ok (.iadd, 1) := by decide +kernel
theorem dX11_looks_29 : decode cX11_looks 29 = .ok (.iaload, 1) := by decide +kernel
theorem dX11_looks_30 : decode cX11_looks 30 = .ok (.iastore, 1) := by decide +kernel
theorem dX11_looks_31 : decode cX11_looks 31 = .ok (.aload_n 0, 1) := by decide +kernel
theorem dX11_looks_32 : decode cX11_looks 32 = .ok (.getfield 128, 3) := by decide +kernel
theorem dX11_looks_35 : decode cX11_looks 35 = .ok (.iconst 2, 1) := by decide +kernel
theorem dX11_looks_36 : decode cX11_looks 36 = .ok (.aload_n 0, 1) := by decide +kernel
theorem dX11_looks_37 : decode cX11_looks 37 = .ok (.getfield 137, 3) := by decide +kernel
theorem dX11_looks_40 : decode cX11_looks 40 = .ok (.bipush 23, 2) := by decide +kernel
theorem dX11_looks_42 : decode cX11_looks 42 = .ok (.iaload, 1) := by decide +kernel
theorem dX11_looks_43 : decode cX11_looks 43 = .ok (.iastore, 1) := by decide +kernel
theorem dX11_looks_44 : decode cX11_looks 44 = .ok (.aload_n 0, 1) := by decide +kernel
theorem dX11_looks_45 : decode cX11_looks 45 = .ok (.getfield 128, 3) := by decide +kernel
theorem dX11_looks_48 : decode cX11_looks 48 = .ok (.iconst 3, 1) := by decide +kernel
theorem dX11_looks_49 : decode cX11_looks 49 = .ok (.aload_n 0, 1) := by decide +kernel
theorem dX11_looks_50 : decode cX11_looks 50 = .ok (.getfield 137, 3) := by decide +kernel
theorem dX11_looks_53 : decode cX11_looks 53 = .ok (.bipush 8, 2) := by decide +kernel
theorem dX11_looks_55 : decode cX11_looks 55 = .ok (.iload_n 1, 1) := by decide +kernel
theorem dX11_looks_56 : decode cX11_looks 56 = .ok (.iadd, 1) := by decide +kernel
theorem dX11_looks_57 : decode cX11_looks 57 = .ok (.iaload, 1) := by decide +kernel
theorem dX11_looks_58 : decode cX11_looks 58 = .ok (.iastore, 1) := by decide +kernel
theorem dX11_looks_59 : decode cX11_looks 59 = .ok (.aload_n 0, 1) := by decide +kernel
theorem dX11_looks_60 : decode cX11_looks 60 = .ok (.getfield 128, 3) := by decide +kernel
theorem dX11_looks_63 : decode cX11_looks 63 = .ok (.iconst 4, 1) := by decide +kernel
theorem dX11_looks_64 : decode cX11_looks 64 = .ok (.iload_n 1, 1) := by decide +kernel
theorem dX11_looks_65 : decode cX11_looks 65 = .ok (.iastore, 1) := by decide +kernel
theorem dX11_looks_66 : decode cX11_looks 66 = .ok (.aload_n 0, 1) := by decide +kernel
theorem dX11_looks_67 : decode cX11_looks 67 = .ok (.getfield 128, 3) := by decide +kernel
theorem dX11_looks_70 : decode cX11_looks 70 = .ok (.iconst 5, 1) := by decide +kernel
theorem dX11_looks_71 : decode cX11_looks 71 = .ok (.iconst 0, 1) := by decide +kernel
theorem dX11_looks_72 : decode cX11_looks 72 = .ok (.iastore, 1) := by decide +kernel
theorem dX11_looks_73 : decode cX11_looks 73 = .ok (.aload_n 0, 1) := by decide +kernel
theorem dX11_looks_74 : decode cX11_looks 74 = .ok (.getfield 128, 3) := by decide +kernel
theorem dX11_looks_77 : decode cX11_looks 77 = .ok (.bipush 6, 2) := by decide +kernel
theorem dX11_looks_79 : decode cX11_looks 79 = .ok (.iconst 0, 1) := by decide +kernel
theorem dX11_looks_80 : decode cX11_looks 80 = .ok (.iastore, 1) := by decide +kernel
theorem dX11_looks_81 : decode cX11_looks 81 = .ok (.aload_n 0, 1) := by decide +kernel
theorem dX11_looks_82 : decode cX11_looks 82 = .ok (.getfield 128, 3) := by decide +kernel
theorem dX11_looks_85 : decode cX11_looks 85 = .ok (.bipush 7, 2) := by decide +kernel
theorem dX11_looks_87 : decode cX11_looks 87 = .ok (.aload_n 0, 1) := by decide +kernel
theorem dX11_looks_88 : decode cX11_looks 88 = .ok (.iconst 1, 1) := by decide +kernel
theorem dX11_looks_89 : decode cX11_looks 89 = .ok (.invokevirtual 384, 3) := by decide +kernel
theorem dX11_looks_92 : decode cX11_looks 92 = .ok (.invokestatic 387, 3) := by decide +kernel
theorem dX11_looks_95 : decode cX11_looks 95 = .ok (.iastore, 1) := by decide +kernel
theorem dX11_looks_96 : decode cX11_looks 96 = .ok (.aload_n 0, 1) := by decide +kernel
theorem dX11_looks_97 : decode cX11_looks 97 = .ok (.getfield 128, 3) := by decide +kernel
theorem dX11_looks_100 : decode cX11_looks 100 = .ok (.bipush 8, 2) := by decide +kernel
theorem dX11_looks_102 : decode cX11_looks 102 = .ok (.aload_n 0, 1) := by decide +kernel
theorem dX11_looks_103 : decode cX11_looks 103 = .ok (.getfield 137, 3) := by decide +kernel
theorem dX11_looks_106 : decode cX11_looks 106 = .ok (.bipush 21, 2) := by decide +kernel
theorem dX11_looks_108 : decode cX11_looks 108 = .ok (.iaload, 1) := by decide +kernel
theorem dX11_looks_109 : decode cX11_looks 109 = .ok (.iastore, 1) := by decide +kernel
theorem dX11_looks_110 : decode cX11_looks 110 = .ok (.return_, 1) := by decide +kernel
theorem dX11_lawTells_0 : decode cX11_lawTells 0 = .ok (.iconst 3, 1) := by decide +kernel
theorem dX11_lawTells_1 : decode cX11_lawTells 1 = .ok (.aload_n 0, 1) := by decide +kernel
theorem dX11_lawTells_2 : decode cX11_lawTells 2 = .ok (.getfield 257, 3) := by decide +kernel
theorem dX11_lawTells_5 : decode cX11_lawTells 5 = .ok (.imul, 1) := by decide +kernel
theorem dX11_lawTells_6 : decode cX11_lawTells 6 = .ok (.iload_n 1, 1) := by decide +kernel
theorem dX11_lawTells_7 : decode cX11_lawTells 7 = .ok (.iadd, 1) := by decide +kernel
theorem dX11_lawTells_8 : decode cX11_lawTells 8 = .ok (.istore_n 3, 1) := by decide +kernel
theorem dX11_lawTells_9 : decode cX11_lawTells 9 = .ok (.aload_n 0, 1) := by decide +kernel
theorem dX11_lawTells_10 : decode cX11_lawTells 10 = .ok (.getfield 94, 3) := by decide +kernel
theorem dX11_lawTells_13 : decode cX11_lawTells 13 = .ok (.iload_n 3, 1) := by decide +kernel
theorem dX11_lawTells_14 : decode cX11_lawTells 14 = .ok (.iaload, 1) := by decide +kernel
theorem dX11_lawTells_15 : decode cX11_lawTells 15 = .ok (.aload_n 0, 1) := by decide +kernel
theorem dX11_lawTells_16 : decode cX11_lawTells 16 = .ok (.getfield 97, 3) := by decide +kernel
theorem dX11_lawTells_19 : decode cX11_lawTells 19 = .ok (.iload_n 3, 1) := by decide +kernel
theorem dX11_lawTells_20 : decode cX11_lawTells 20 = .ok (.iaload, 1) := by decide +kernel
theorem dX11_lawTells_21 : decode cX11_lawTells 21 = .ok (.if_icmp .ne 5, 3) := by decide +kernel
theorem dX11_lawTells_24 : decode cX11_lawTells 24 = .ok (.iload_n 2, 1) := by decide +kernel
theorem dX11_lawTells_25 : decode cX11_lawTells 25 = .ok (.ireturn, 1) := by decide +kernel
theorem dX11_lawTells_26 : decode cX11_lawTells 26 = .ok (.aload_n 0, 1) := by decide +kernel
theorem dX11_lawTells_27 : decode cX11_lawTells 27 = .ok (.iconst 0, 1) := by decide +kernel
theorem dX11_lawTells_28 : decode cX11_lawTells 28 = .ok (.putfield 366, 3) := by decide +kernel
theorem dX11_lawTells_31 : decode cX11_lawTells 31 = .ok (.aload_n 0, 1) := by decide +kernel
theorem dX11_lawTells_32 : decode cX11_lawTells 32 = .ok (.getfield 94, 3) := by decide +kernel
theorem dX11_lawTells_35 : decode cX11_lawTells 35 = .ok (.iload_n 3, 1) := by decide +kernel
theorem dX11_lawTells_36 : decode cX11_lawTells 36 = .ok (.iaload, 1) := by decide +kernel
theorem dX11_lawTells_37 : decode cX11_lawTells 37 = .ok (.istore 4, 2) := by decide +kernel
theorem dX11_lawTells_39 : decode cX11_lawTells 39 = .ok (.iload 4, 2) := by decide +kernel
theorem dX11_lawTells_41 : decode cX11_lawTells 41 = .ok (.aload_n 0, 1) := by decide +kernel
theorem dX11_lawTells_42 : decode cX11_lawTells 42 = .ok (.getfield 97, 3) := by decide +kernel
theorem dX11_lawTells_45 : decode cX11_lawTells 45 = .ok (.iload_n 3, 1) := by decide +kernel
theorem dX11_lawTells_46 : decode cX11_lawTells 46 = .ok (.iaload, 1) := by decide +kernel
theorem dX11_lawTells_47 : decode cX11_lawTells 47 = .ok (.if_icmp .ge 112, 3) := by decide +kernel
theorem dX11_lawTells_50 : decode cX11_lawTells 50 = .ok (.aload_n 0, 1) := by decide +kernel
theorem dX11_lawTells_51 : decode cX11_lawTells 51 = .ok (.getfield 100, 3) := by decide +kernel
theorem dX11_lawTells_54 : decode cX11_lawTells 54 = .ok (.iload 4, 2) := by decide +kernel
theorem dX11_lawTells_56 : decode cX11_lawTells 56 = .ok (.baload, 1) := by decide +kernel
theorem dX11_lawTells_57 : decode cX11_lawTells 57 = .ok (.ifCond .eq 62, 3) := by decide +kernel
theorem dX11_lawTells_60 : decode cX11_lawTells 60 = .ok (.aload_n 0, 1) := by decide +kernel
theorem dX11_lawTells_61 : decode cX11_lawTells 61 = .ok (.aload_n 0, 1) := by decide +kernel
theorem dX11_lawTells_62 : decode cX11_lawTells 62 = .ok (.getfield 104, 3) := by decide +kernel
theorem dX11_lawTells_65 : decode cX11_lawTells 65 = .ok (.iload 4, 2) := by decide +kernel
theorem dX11_lawTells_67 : decode cX11_lawTells 67 = .ok (.iaload, 1) := by decide +kernel
theorem dX11_lawTells_68 : decode cX11_lawTells 68 = .ok (.aload_n 0, 1) := by decide +kernel
theorem dX11_lawTells_69 : decode cX11_lawTells 69 = .ok (.getfield 107, 3) := by decide +kernel
theorem dX11_lawTells_72 : decode cX11_lawTells 72 = .ok (.iload 4, 2) := by decide +kernel
theorem dX11_lawTells_74 : decode cX11_lawTells 74 = .ok (.iaload, 1) := by decide +kernel
theorem dX11_lawTells_75 : decode cX11_lawTells 75 = .ok (.invokevirtual 390, 3) := by decide +kernel
theorem dX11_lawTells_78 : decode cX11_lawTells 78 = .ok (.istore 5, 2) := by decide +kernel
theorem dX11_lawTells_80 : decode cX11_lawTells 80 = .ok (.aload_n 0, 1) := by decide +kernel
theorem dX11_lawTells_81 : decode cX11_lawTells 81 = .ok (.aload_n 0, 1) := by decide +kernel
theorem dX11_lawTells_82 : decode cX11_lawTells 82 = .ok (.getfield 107, 3) := by decide +kernel
theorem dX11_lawTells_85 : decode cX11_lawTells 85 = .ok (.iload 4, 2) := by decide +kernel
theorem dX11_lawTells_87 : decode cX11_lawTells 87 = .ok (.iaload, 1) := by decide +kernel
theorem dX11_lawTells_88 : decode cX11_lawTells 88 = .ok (.aload_n 0, 1) := by decide +kernel
theorem dX11_lawTells_89 : decode cX11_lawTells 89 = .ok (.getfield 110, 3) := by decide +kernel
theorem dX11_lawTells_92 : decode cX11_lawTells 92 = .ok (.iload 4, 2) := by decide +kernel
theorem dX11_lawTells_94 : decode cX11_lawTells 94 = .ok (.iaload, 1) := by decide +kernel
theorem dX11_lawTells_95 : decode cX11_lawTells 95 = .ok (.invokevirtual 390, 3) := by decide +kernel
theorem dX11_lawTells_98 : decode cX11_lawTells 98 = .ok (.istore 6, 2) := by decide +kernel
theorem dX11_lawTells_100 : decode cX11_lawTells 100 = .ok (.aload_n 0, 1) := by decide +kernel
theorem dX11_lawTells_101 : decode cX11_lawTells 101 = .ok (.getfield 366, 3) := by decide +kernel
theorem dX11_lawTells_104 : decode cX11_lawTells 104 = .ok (.ifCond .eq 5, 3) := by decide +kernel
theorem dX11_lawTells_107 : decode cX11_lawTells 107 = .ok (.iconst 0, 1) := by decide +kernel
theorem dX11_lawTells_108 : decode cX11_lawTells 108 = .ok (.ireturn, 1) := by decide +kernel
theorem dX11_lawTells_109 : decode cX11_lawTells 109 = .ok (.iload 5, 2) := by decide +kernel
theorem dX11_lawTells_111 : decode cX11_lawTells 111 = .ok (.iload 6, 2) := by decide +kernel
theorem dX11_lawTells_113 : decode cX11_lawTells 113 = .ok (.if_icmp .lt 6, 3) := by decide +kernel
theorem dX11_lawTells_116 : decode cX11_lawTells 116 = .ok (.goto 37, 3) := by decide +kernel
theorem dX11_lawTells_119 : decode cX11_lawTells 119 = .ok (.aload_n 0, 1) := by decide +kernel
theorem dX11_lawTells_120 : decode cX11_lawTells 120 = .ok (.aload_n 0, 1) := by decide +kernel
theorem dX11_lawTells_121 : decode cX11_lawTells 121 = .ok (.getfield 110, 3) := by decide +kernel
theorem dX11_lawTells_124 : decode cX11_lawTells 124 = .ok (.iload 4, 2) := by decide +kernel
theorem dX11_lawTells_126 : decode cX11_lawTells 126 = .ok (.iaload, 1) := by decide +kernel
theorem dX11_lawTells_127 : decode cX11_lawTells 127 = .ok (.aload_n 0, 1) := by decide +kernel
theorem dX11_lawTells_128 : decode cX11_lawTells 128 = .ok (.getfield 113, 3) := by decide +kernel
theorem dX11_lawTells_131 : decode cX11_lawTells 131 = .ok (.iload 4, 2) := by decide +kernel
theorem dX11_lawTells_133 : decode cX11_lawTells 133 = .ok (.iaload, 1) := by decide +kernel
theorem dX11_lawTells_134 : decode cX11_lawTells 134 = .ok (.invokevirtual 390, 3) := by decide +kernel
theorem dX11_lawTells_137 : decode cX11_lawTells 137 = .ok (.istore 5, 2) := by decide +kernel
theorem dX11_lawTells_139 : decode cX11_lawTells 139 = .ok (.aload_n 0, 1) := by decide +kernel
theorem dX11_lawTells_140 : decode cX11_lawTells 140 = .ok (.getfield 366, 3) := by decide +kernel
theorem dX11_lawTells_143 : decode cX11_lawTells 143 = .ok (.ifCond .eq 7, 3) := by decide +kernel
theorem dX11_lawTells_146 : decode cX11_lawTells 146 = .ok (.iconst 0, 1) := by decide +kernel
theorem dX11_lawTells_147 : decode cX11_lawTells 147 = .ok (.goto 5, 3) := by decide +kernel
theorem dX11_lawTells_150 : decode cX11_lawTells 150 = .ok (.iload 5, 2) := by decide +kernel
theorem dX11_lawTells_152 : decode cX11_lawTells 152 = .ok (.ireturn, 1) := by decide +kernel
theorem dX11_lawTells_153 : decode cX11_lawTells 153 = .ok (.iinc 4 1, 3) := by decide +kernel
theorem dX11_lawTells_156 : decode cX11_lawTells 156 = .ok (.goto (-117), 3) := by decide +kernel
theorem dX11_lawTells_159 : decode cX11_lawTells 159 = .ok (.iconst 0, 1) := by decide +kernel
theorem dX11_lawTells_160 : decode cX11_lawTells 160 = .ok (.ireturn, 1) := by decide +kernel
theorem dX11_wearsNow_0 : decode cX11_wearsNow 0 = .ok (.aload_n 0, 1) := by decide +kernel
theorem dX11_wearsNow_1 : decode cX11_wearsNow 1 = .ok (.iload_n 1, 1) := by decide +kernel
theorem dX11_wearsNow_2 : decode cX11_wearsNow 2 = .ok (.invokevirtual 393, 3) := by decide +kernel
theorem dX11_wearsNow_5 : decode cX11_wearsNow 5 = .ok (.aload_n 0, 1) := by decide +kernel
theorem dX11_wearsNow_6 : decode cX11_wearsNow 6 = .ok (.iconst 0, 1) := by decide +kernel
theorem dX11_wearsNow_7 : decode cX11_wearsNow 7 = .ok (.iconst 1, 1) := by decide +kernel
theorem dX11_wearsNow_8 : decode cX11_wearsNow 8 = .ok (.invokevirtual 396, 3) := by decide +kernel
theorem dX11_wearsNow_11 : decode cX11_wearsNow 11 = .ok (.iconst 0, 1) := by decide +kernel
theorem dX11_wearsNow_12 : decode cX11_wearsNow 12 = .ok (.bipush 9, 2) := by decide +kernel
theorem dX11_wearsNow_14 : decode cX11_wearsNow 14 = .ok (.invokestatic 399, 3) := by decide +kernel
theorem dX11_wearsNow_17 : decode cX11_wearsNow 17 = .ok (.ireturn, 1) := by decide +kernel
theorem dX11_mendsNow_0 : decode cX11_mendsNow 0 = .ok (.aload_n 0, 1) := by decide +kernel
theorem dX11_mendsNow_1 : decode cX11_mendsNow 1 = .ok (.iload_n 1, 1) := by decide +kernel
theorem dX11_mendsNow_2 : decode cX11_mendsNow 2 = .ok (.invokevirtual 393, 3) := by decide +kernel
theorem dX11_mendsNow_5 : decode cX11_mendsNow 5 = .ok (.aload_n 0, 1) := by decide +kernel
theorem dX11_mendsNow_6 : decode cX11_mendsNow 6 = .ok (.iconst 1, 1) := by decide +kernel
theorem dX11_mendsNow_7 : decode cX11_mendsNow 7 = .ok (.iconst 1, 1) := by decide +kernel
theorem dX11_mendsNow_8 : decode cX11_mendsNow 8 = .ok (.invokevirtual 396, 3) := by decide +kernel
theorem dX11_mendsNow_11 : decode cX11_mendsNow 11 = .ok (.iconst 0, 1) := by decide +kernel
theorem dX11_mendsNow_12 : decode cX11_mendsNow 12 = .ok (.bipush 99, 2) := by decide +kernel
theorem dX11_mendsNow_14 : decode cX11_mendsNow 14 = .ok (.invokestatic 399, 3) := by decide +kernel
theorem dX11_mendsNow_17 : decode cX11_mendsNow 17 = .ok (.ireturn, 1) := by decide +kernel
theorem dX11_doesHold_0 : decode cX11_doesHold 0 = .ok (.iconst 0, 1) := by decide +kernel
theorem dX11_doesHold_1 : decode cX11_doesHold 1 = .ok (.istore_n 3, 1) := by decide +kernel
theorem dX11_doesHold_2 : decode cX11_doesHold 2 = .ok (.aload_n 0, 1) := by decide +kernel
theorem dX11_doesHold_3 : decode cX11_doesHold 3 = .ok (.getfield 79, 3) := by decide +kernel
theorem dX11_doesHold_6 : decode cX11_doesHold 6 = .ok (.iconst 4, 1) := by decide +kernel
theorem dX11_doesHold_7 : decode cX11_doesHold 7 = .ok (.aload_n 0, 1) := by decide +kernel
theorem dX11_doesHold_8 : decode cX11_doesHold 8 = .ok (.getfield 257, 3) := by decide +kernel
theorem dX11_doesHold_11 : decode cX11_doesHold 11 = .ok (.imul, 1) := by decide +kernel
theorem dX11_doesHold_12 : decode cX11_doesHold 12 = .ok (.iload_n 1, 1) := by decide +kernel
theorem dX11_doesHold_13 : decode cX11_doesHold 13 = .ok (.iadd, 1) := by decide +kernel
theorem dX11_doesHold_14 : decode cX11_doesHold 14 = .ok (.iaload, 1) := by decide +kernel
theorem dX11_doesHold_15 : decode cX11_doesHold 15 = .ok (.istore 4, 2) := by decide +kernel
theorem dX11_doesHold_17 : decode cX11_doesHold 17 = .ok (.iload 4, 2) := by decide +kernel
theorem dX11_doesHold_19 : decode cX11_doesHold 19 = .ok (.aload_n 0, 1) := by decide +kernel
theorem dX11_doesHold_20 : decode cX11_doesHold 20 = .ok (.getfield 82, 3) := by decide +kernel
theorem dX11_doesHold_23 : decode cX11_doesHold 23 = .ok (.iconst 4, 1) := by decide +kernel
theorem dX11_doesHold_24 : decode cX11_doesHold 24 = .ok (.aload_n 0, 1) := by decide +kernel
theorem dX11_doesHold_25 : decode cX11_doesHold 25 = .ok (.getfield 257, 3) := by decide +kernel
theorem dX11_doesHold_28 : decode cX11_doesHold 28 = .ok (.imul, 1) := by decide +kernel
theorem dX11_doesHold_29 : decode cX11_doesHold 29 = .ok (.iload_n 1, 1) := by decide +kernel
theorem dX11_doesHold_30 : decode cX11_doesHold 30 = .ok (.iadd, 1) := by decide +kernel
theorem dX11_doesHold_31 : decode cX11_doesHold 31 = .ok (.iaload, 1) := by decide +kernel
theorem dX11_doesHold_32 : decode cX11_doesHold 32 = .ok (.if_icmp .ge 157, 3) := by decide +kernel
theorem dX11_doesHold_35 : decode cX11_doesHold 35 = .ok (.aload_n 0, 1) := by decide +kernel
theorem dX11_doesHold_36 : decode cX11_doesHold 36 = .ok (.getfield 85, 3) := by decide +kernel
theorem dX11_doesHold_39 : decode cX11_doesHold 39 = .ok (.iload 4, 2) := by decide +kernel
theorem dX11_doesHold_41 : decode cX11_doesHold 41 = .ok (.iaload, 1) := by decide +kernel
theorem dX11_doesHold_42 : decode cX11_doesHold 42 = .ok (.istore 5, 2) := by decide +kernel
theorem dX11_doesHold_44 : decode cX11_doesHold 44 = .ok (.iload 5, 2) := by decide +kernel
theorem dX11_doesHold_46 : decode cX11_doesHold 46 = .ok (.bipush 8, 2) := by decide +kernel
theorem dX11_doesHold_48 : decode cX11_doesHold 48 = .ok (.if_icmp .ge 30, 3) := by decide +kernel
theorem dX11_doesHold_51 : decode cX11_doesHold 51 = .ok (.aload_n 0, 1) := by decide +kernel
theorem dX11_doesHold_52 : decode cX11_doesHold 52 = .ok (.getfield 140, 3) := by decide +kernel
theorem dX11_doesHold_55 : decode cX11_doesHold 55 = .ok (.iload_n 3, 1) := by decide +kernel
theorem dX11_doesHold_56 : decode cX11_doesHold 56 = .ok (.iload_n 2, 1) := by decide +kernel
theorem dX11_doesHold_57 : decode cX11_doesHold 57 = .ok (.iload 5, 2) := by decide +kernel
theorem dX11_doesHold_59 : decode cX11_doesHold 59 = .ok (.ishr, 1) := by decide +kernel
theorem dX11_doesHold_60 : decode cX11_doesHold 60 = .ok (.iconst 1, 1) := by decide +kernel
theorem dX11_doesHold_61 : decode cX11_doesHold 61 = .ok (.iand, 1) := by decide +kernel
theorem dX11_doesHold_62 : decode cX11_doesHold 62 = .ok (.iconst 1, 1) := by decide +kernel
theorem dX11_doesHold_63 : decode cX11_doesHold 63 = .ok (.if_icmp .ne 7, 3) := by decide +kernel
theorem dX11_doesHold_66 : decode cX11_doesHold 66 = .ok (.iconst 1, 1) := by decide +kernel
theorem dX11_doesHold_67 : decode cX11_doesHold 67 = .ok (.goto 4, 3) := by decide +kernel
theorem dX11_doesHold_70 : decode cX11_doesHold 70 = .ok (.iconst 0, 1) := by decide +kernel
theorem dX11_doesHold_71 : decode cX11_doesHold 71 = .ok (.bastore, 1) := by decide +kernel
theorem dX11_doesHold_72 : decode cX11_doesHold 72 = .ok (.iinc 3 1, 3) := by decide +kernel
theorem dX11_doesHold_75 : decode cX11_doesHold 75 = .ok (.goto 108, 3) := by decide +kernel
theorem dX11_doesHold_78 : decode cX11_doesHold 78 = .ok (.iload 5, 2) := by decide +kernel
theorem dX11_doesHold_80 : decode cX11_doesHold 80 = .ok (.bipush 8, 2) := by decide +kernel
theorem dX11_doesHold_82 : decode cX11_doesHold 82 = .ok (.if_icmp .ne 30, 3) := by decide +kernel
theorem dX11_doesHold_85 : decode cX11_doesHold 85 = .ok (.aload_n 0, 1) := by decide +kernel
theorem dX11_doesHold_86 : decode cX11_doesHold 86 = .ok (.getfield 140, 3) := by decide +kernel
theorem dX11_doesHold_89 : decode cX11_doesHold 89 = .ok (.iload_n 3, 1) := by decide +kernel
theorem dX11_doesHold_90 : decode cX11_doesHold 90 = .ok (.iconst 1, 1) := by decide +kernel
theorem dX11_doesHold_91 : decode cX11_doesHold 91 = .ok (.isub, 1) := by decide +kernel
theorem dX11_doesHold_92 : decode cX11_doesHold 92 = .ok (.aload_n 0, 1) := by decide +kernel
theorem dX11_doesHold_93 : decode cX11_doesHold 93 = .ok (.getfield 140, 3) := by decide +kernel
theorem dX11_doesHold_96 : decode cX11_doesHold 96 = .ok (.iload_n 3, 1) := by decide +kernel
theorem dX11_doesHold_97 : decode cX11_doesHold 97 = .ok (.iconst 1, 1) := by decide +kernel
theorem dX11_doesHold_98 : decode cX11_doesHold 98 = .ok (.isub, 1) := by decide +kernel
theorem dX11_doesHold_99 : decode cX11_doesHold 99 = .ok (.baload, 1) := by decide +kernel
theorem dX11_doesHold_100 : decode cX11_doesHold 100 = .ok (.ifCond .ne 7, 3) := by decide +kernel
theorem dX11_doesHold_103 : decode cX11_doesHold 103 = .ok (.iconst 1, 1) := by decide +kernel
theorem dX11_doesHold_104 : decode cX11_doesHold 104 = .ok (.goto 4, 3) := by decide +kernel
theorem dX11_doesHold_107 : decode cX11_doesHold 107 = .ok (.iconst 0, 1) := by decide +kernel
theorem dX11_doesHold_108 : decode cX11_doesHold 108 = .ok (.bastore, 1) := by decide +kernel
theorem dX11_doesHold_109 : decode cX11_doesHold 109 = .ok (.goto 74, 3) := by decide +kernel
theorem dX11_doesHold_112 : decode cX11_doesHold 112 = .ok (.iinc 3 (-1), 3) := by decide +kernel
theorem dX11_doesHold_115 : decode cX11_doesHold 115 = .ok (.aload_n 0, 1) := by decide +kernel
theorem dX11_doesHold_116 : decode cX11_doesHold 116 = .ok (.getfield 140, 3) := by decide +kernel
theorem dX11_doesHold_119 : decode cX11_doesHold 119 = .ok (.iload_n 3, 1) := by decide +kernel
theorem dX11_doesHold_120 : decode cX11_doesHold 120 = .ok (.iconst 1, 1) := by decide +kernel
theorem dX11_doesHold_121 : decode cX11_doesHold 121 = .ok (.isub, 1) := by decide +kernel
theorem dX11_doesHold_122 : decode cX11_doesHold 122 = .ok (.iload 5, 2) := by decide +kernel
theorem dX11_doesHold_124 : decode cX11_doesHold 124 = .ok (.bipush 9, 2) := by decide +kernel
theorem dX11_doesHold_126 : decode cX11_doesHold 126 = .ok (.if_icmp .ne 31, 3) := by decide +kernel
theorem dX11_doesHold_129 : decode cX11_doesHold 129 = .ok (.aload_n 0, 1) := by decide +kernel
theorem dX11_doesHold_130 : decode cX11_doesHold 130 = .ok (.getfield 140, 3) := by decide +kernel
theorem dX11_doesHold_133 : decode cX11_doesHold 133 = .ok (.iload_n 3, 1) := by decide +kernel
theorem dX11_doesHold_134 : decode cX11_doesHold 134 = .ok (.iconst 1, 1) := by decide +kernel
theorem dX11_doesHold_135 : decode cX11_doesHold 135 = .ok (.isub, 1) := by decide +kernel
theorem dX11_doesHold_136 : decode cX11_doesHold 136 = .ok (.baload, 1) := by decide +kernel
theorem dX11_doesHold_137 : decode cX11_doesHold 137 = .ok (.ifCond .eq 16, 3) := by decide +kernel
theorem dX11_doesHold_140 : decode cX11_doesHold 140 = .ok (.aload_n 0, 1) := by decide +kernel
theorem dX11_doesHold_141 : decode cX11_doesHold 141 = .ok (.getfield 140, 3) := by decide +kernel
theorem dX11_doesHold_144 : decode cX11_doesHold 144 = .ok (.iload_n 3, 1) := by decide +kernel
theorem dX11_doesHold_145 : decode cX11_doesHold 145 = .ok (.baload, 1) := by decide +kernel
theorem dX11_doesHold_146 : decode cX11_doesHold 146 = .ok (.ifCond .eq 7, 3) := by decide +kernel
theorem dX11_doesHold_149 : decode cX11_doesHold 149 = .ok (.iconst 1, 1) := by decide +kernel
theorem dX11_doesHold_150 : decode cX11_doesHold 150 = .ok (.goto 32, 3) := by decide +kernel
theorem dX11_doesHold_153 : decode cX11_doesHold 153 = .ok (.iconst 0, 1) := by decide +kernel
theorem dX11_doesHold_154 : decode cX11_doesHold 154 = .ok (.goto 28, 3) := by decide +kernel
theorem dX11_doesHold_157 : decode cX11_doesHold 157 = .ok (.aload_n 0, 1) := by decide +kernel
theorem dX11_doesHold_158 : decode cX11_doesHold 158 = .ok (.getfield 140, 3) := by decide +kernel
theorem dX11_doesHold_161 : decode cX11_doesHold 161 = .ok (.iload_n 3, 1) := by decide +kernel
theorem dX11_doesHold_162 : decode cX11_doesHold 162 = .ok (.iconst 1, 1) := by decide +kernel
theorem dX11_doesHold_163 : decode cX11_doesHold 163 = .ok (.isub, 1) := by decide +kernel
theorem dX11_doesHold_164 : decode cX11_doesHold 164 = .ok (.baload, 1) := by decide +kernel
theorem dX11_doesHold_165 : decode cX11_doesHold 165 = .ok (.ifCond .ne 12, 3) := by decide +kernel
theorem dX11_doesHold_168 : decode cX11_doesHold 168 = .ok (.aload_n 0, 1) := by decide +kernel
theorem dX11_doesHold_169 : decode cX11_doesHold 169 = .ok (.getfield 140, 3) := by decide +kernel
theorem dX11_doesHold_172 : decode cX11_doesHold 172 = .ok (.iload_n 3, 1) := by decide +kernel
theorem dX11_doesHold_173 : decode cX11_doesHold 173 = .ok (.baload, 1) := by decide +kernel
theorem dX11_doesHold_174 : decode cX11_doesHold 174 = .ok (.ifCond .eq 7, 3) := by decide +kernel
theorem dX11_doesHold_177 : decode cX11_doesHold 177 = .ok (.iconst 1, 1) := by decide +kernel
theorem dX11_doesHold_178 : decode cX11_doesHold 178 = .ok (.goto 4, 3) := by decide +kernel
theorem dX11_doesHold_181 : decode cX11_doesHold 181 = .ok (.iconst 0, 1) := by decide +kernel
theorem dX11_doesHold_182 : decode cX11_doesHold 182 = .ok (.bastore, 1) := by decide +kernel
theorem dX11_doesHold_183 : decode cX11_doesHold 183 = .ok (.iinc 4 1, 3) := by decide +kernel
theorem dX11_doesHold_186 : decode cX11_doesHold 186 = .ok (.goto (-169), 3) := by decide +kernel
theorem dX11_doesHold_189 : decode cX11_doesHold 189 = .ok (.aload_n 0, 1) := by decide +kernel
theorem dX11_doesHold_190 : decode cX11_doesHold 190 = .ok (.getfield 140, 3) := by decide +kernel
theorem dX11_doesHold_193 : decode cX11_doesHold 193 = .ok (.iconst 0, 1) := by decide +kernel
theorem dX11_doesHold_194 : decode cX11_doesHold 194 = .ok (.baload, 1) := by decide +kernel
theorem dX11_doesHold_195 : decode cX11_doesHold 195 = .ok (.ireturn, 1) := by decide +kernel
theorem dX11_setOf_0 : decode cX11_setOf 0 = .ok (.aload_n 0, 1) := by decide +kernel
theorem dX11_setOf_1 : decode cX11_setOf 1 = .ok (.getfield 55, 3) := by decide +kernel
theorem dX11_setOf_4 : decode cX11_setOf 4 = .ok (.bipush 7, 2) := by decide +kernel
theorem dX11_setOf_6 : decode cX11_setOf 6 = .ok (.aload_n 0, 1) := by decide +kernel
theorem dX11_setOf_7 : decode cX11_setOf 7 = .ok (.getfield 257, 3) := by decide +kernel
theorem dX11_setOf_10 : decode cX11_setOf 10 = .ok (.imul, 1) := by decide +kernel
theorem dX11_setOf_11 : decode cX11_setOf 11 = .ok (.iload_n 1, 1) := by decide +kernel
theorem dX11_setOf_12 : decode cX11_setOf 12 = .ok (.iadd, 1) := by decide +kernel
theorem dX11_setOf_13 : decode cX11_setOf 13 = .ok (.iaload, 1) := by decide +kernel
theorem dX11_setOf_14 : decode cX11_setOf 14 = .ok (.istore_n 3, 1) := by decide +kernel
theorem dX11_setOf_15 : decode cX11_setOf 15 = .ok (.iload_n 2, 1) := by decide +kernel
theorem dX11_setOf_16 : decode cX11_setOf 16 = .ok (.iconst (-1), 1) := by decide +kernel
theorem dX11_setOf_17 : decode cX11_setOf 17 = .ok (.if_icmp .ne 7, 3) := by decide +kernel
theorem dX11_setOf_20 : decode cX11_setOf 20 = .ok (.iload_n 3, 1) := by decide +kernel
theorem dX11_setOf_21 : decode cX11_setOf 21 = .ok (.goto 34, 3) := by decide +kernel
theorem dX11_setOf_24 : decode cX11_setOf 24 = .ok (.iload_n 3, 1) := by decide +kernel
theorem dX11_setOf_25 : decode cX11_setOf 25 = .ok (.aload_n 0, 1) := by decide +kernel
theorem dX11_setOf_26 : decode cX11_setOf 26 = .ok (.getfield 64, 3) := by decide +kernel
theorem dX11_setOf_29 : decode cX11_setOf 29 = .ok (.iconst 4, 1) := by decide +kernel
theorem dX11_setOf_30 : decode cX11_setOf 30 = .ok (.aload_n 0, 1) := by decide +kernel
theorem dX11_setOf_31 : decode cX11_setOf 31 = .ok (.getfield 257, 3) := by decide +kernel
theorem dX11_setOf_34 : decode cX11_setOf 34 = .ok (.imul, 1) := by decide +kernel
theorem dX11_setOf_35 : decode cX11_setOf 35 = .ok (.iload_n 2, 1) := by decide +kernel
theorem dX11_setOf_36 : decode cX11_setOf 36 = .ok (.iadd, 1) := by decide +kernel
theorem dX11_setOf_37 : decode cX11_setOf 37 = .ok (.iaload, 1) := by decide +kernel
theorem dX11_setOf_38 : decode cX11_setOf 38 = .ok (.ior, 1) := by decide +kernel
theorem dX11_setOf_39 : decode cX11_setOf 39 = .ok (.aload_n 0, 1) := by decide +kernel
theorem dX11_setOf_40 : decode cX11_setOf 40 = .ok (.getfield 67, 3) := by decide +kernel
theorem dX11_setOf_43 : decode cX11_setOf 43 = .ok (.iconst 4, 1) := by decide +kernel
theorem dX11_setOf_44 : decode cX11_setOf 44 = .ok (.aload_n 0, 1) := by decide +kernel
theorem dX11_setOf_45 : decode cX11_setOf 45 = .ok (.getfield 257, 3) := by decide +kernel
theorem dX11_setOf_48 : decode cX11_setOf 48 = .ok (.imul, 1) := by decide +kernel
theorem dX11_setOf_49 : decode cX11_setOf 49 = .ok (.iload_n 2, 1) := by decide +kernel
theorem dX11_setOf_50 : decode cX11_setOf 50 = .ok (.iadd, 1) := by decide +kernel
theorem dX11_setOf_51 : decode cX11_setOf 51 = .ok (.iaload, 1) := by decide +kernel
theorem dX11_setOf_52 : decode cX11_setOf 52 = .ok (.iconst (-1), 1) := by decide +kernel
theorem dX11_setOf_53 : decode cX11_setOf 53 = .ok (.ixor, 1) := by decide +kernel
theorem dX11_setOf_54 : decode cX11_setOf 54 = .ok (.iand, 1) := by decide +kernel
theorem dX11_setOf_55 : decode cX11_setOf 55 = .ok (.ireturn, 1) := by decide +kernel
theorem dX11_costBy_0 : decode cX11_costBy 0 = .ok (.iload_n 1, 1) := by decide +kernel
theorem dX11_costBy_1 : decode cX11_costBy 1 = .ok (.iconst (-1), 1) := by decide +kernel
theorem dX11_costBy_2 : decode cX11_costBy 2 = .ok (.if_icmp .ne 7, 3) := by decide +kernel
theorem dX11_costBy_5 : decode cX11_costBy 5 = .ok (.iconst 0, 1) := by decide +kernel
theorem dX11_costBy_6 : decode cX11_costBy 6 = .ok (.goto 16, 3) := by decide +kernel
theorem dX11_costBy_9 : decode cX11_costBy 9 = .ok (.aload_n 0, 1) := by decide +kernel
theorem dX11_costBy_10 : decode cX11_costBy 10 = .ok (.getfield 61, 3) := by decide +kernel
theorem dX11_costBy_13 : decode cX11_costBy 13 = .ok (.iconst 4, 1) := by decide +kernel
theorem dX11_costBy_14 : decode cX11_costBy 14 = .ok (.aload_n 0, 1) := by decide +kernel
theorem dX11_costBy_15 : decode cX11_costBy 15 = .ok (.getfield 257, 3) := by decide +kernel
theorem dX11_costBy_18 : decode cX11_costBy 18 = .ok (.imul, 1) := by decide +kernel
theorem dX11_costBy_19 : decode cX11_costBy 19 = .ok (.iload_n 1, 1) := by decide +kernel
theorem dX11_costBy_20 : decode cX11_costBy 20 = .ok (.iadd, 1) := by decide +kernel
theorem dX11_costBy_21 : decode cX11_costBy 21 = .ok (.iaload, 1) := by decide +kernel
theorem dX11_costBy_22 : decode cX11_costBy 22 = .ok (.ireturn, 1) := by decide +kernel
theorem dX11_isLearnt_0 : decode cX11_isLearnt 0 = .ok (.iconst 0, 1) := by decide +kernel
theorem dX11_isLearnt_1 : decode cX11_isLearnt 1 = .ok (.istore_n 2, 1) := by decide +kernel
theorem dX11_isLearnt_2 : decode cX11_isLearnt 2 = .ok (.iload_n 2, 1) := by decide +kernel
theorem dX11_isLearnt_3 : decode cX11_isLearnt 3 = .ok (.aload_n 0, 1) := by decide +kernel
theorem dX11_isLearnt_4 : decode cX11_isLearnt 4 = .ok (.getfield 137, 3) := by decide +kernel
theorem dX11_isLearnt_7 : decode cX11_isLearnt 7 = .ok (.bipush 21, 2) := by decide +kernel
theorem dX11_isLearnt_9 : decode cX11_isLearnt 9 = .ok (.iaload, 1) := by decide +kernel
theorem dX11_isLearnt_10 : decode cX11_isLearnt 10 = .ok (.if_icmp .ge 24, 3) := by decide +kernel
theorem dX11_isLearnt_13 : decode cX11_isLearnt 13 = .ok (.aload_n 0, 1) := by decide +kernel
theorem dX11_isLearnt_14 : decode cX11_isLearnt 14 = .ok (.getfield 137, 3) := by decide +kernel
theorem dX11_isLearnt_17 : decode cX11_isLearnt 17 = .ok (.bipush 12, 2) := by decide +kernel
theorem dX11_isLearnt_19 : decode cX11_isLearnt 19 = .ok (.iload_n 2, 1) := by decide +kernel
theorem dX11_isLearnt_20 : decode cX11_isLearnt 20 = .ok (.iadd, 1) := by decide +kernel
theorem dX11_isLearnt_21 : decode cX11_isLearnt 21 = .ok (.iaload, 1) := by decide +kernel
theorem dX11_isLearnt_22 : decode cX11_isLearnt 22 = .ok (.iload_n 1, 1) := by decide +kernel
theorem dX11_isLearnt_23 : decode cX11_isLearnt 23 = .ok (.if_icmp .ne 5, 3) := by decide +kernel
theorem dX11_isLearnt_26 : decode cX11_isLearnt 26 = .ok (.iconst 1, 1) := by decide +kernel
theorem dX11_isLearnt_27 : decode cX11_isLearnt 27 = .ok (.ireturn, 1) := by decide +kernel
theorem dX11_isLearnt_28 : decode cX11_isLearnt 28 = .ok (.iinc 2 1, 3) := by decide +kernel
theorem dX11_isLearnt_31 : decode cX11_isLearnt 31 = .ok (.goto (-29), 3) := by decide +kernel
theorem dX11_isLearnt_34 : decode cX11_isLearnt 34 = .ok (.iconst 0, 1) := by decide +kernel
theorem dX11_isLearnt_35 : decode cX11_isLearnt 35 = .ok (.ireturn, 1) := by decide +kernel
theorem dX11_isTaken_0 : decode cX11_isTaken 0 = .ok (.aload_n 0, 1) := by decide +kernel
theorem dX11_isTaken_1 : decode cX11_isTaken 1 = .ok (.iload_n 1, 1) := by decide +kernel
theorem dX11_isTaken_2 : decode cX11_isTaken 2 = .ok (.iload_n 2, 1) := by decide +kernel
theorem dX11_isTaken_3 : decode cX11_isTaken 3 = .ok (.invokevirtual 402, 3) := by decide +kernel
theorem dX11_isTaken_6 : decode cX11_isTaken 6 = .ok (.ifCond .eq 15, 3) := by decide +kernel
theorem dX11_isTaken_9 : decode cX11_isTaken 9 = .ok (.aload_n 0, 1) := by decide +kernel
theorem dX11_isTaken_10 : decode cX11_isTaken 10 = .ok (.iload_n 2, 1) := by decide +kernel
theorem dX11_isTaken_11 : decode cX11_isTaken 11 = .ok (.invokevirtual 406, 3) := by decide +kernel
theorem dX11_isTaken_14 : decode cX11_isTaken 14 = .ok (.ifCond .ne 7, 3) := by decide +kernel
theorem dX11_isTaken_17 : decode cX11_isTaken 17 = .ok (.iconst 1, 1) := by decide +kernel
theorem dX11_isTaken_18 : decode cX11_isTaken 18 = .ok (.goto 4, 3) := by decide +kernel
theorem dX11_isTaken_21 : decode cX11_isTaken 21 = .ok (.iconst 0, 1) := by decide +kernel
theorem dX11_isTaken_22 : decode cX11_isTaken 22 = .ok (.ireturn, 1) := by decide +kernel
theorem dX11_hasSoul_0 : decode cX11_hasSoul 0 = .ok (.iload_n 0, 1) := by decide +kernel
theorem dX11_hasSoul_1 : decode cX11_hasSoul 1 = .ok (.iconst 1, 1) := by decide +kernel
theorem dX11_hasSoul_2 : decode cX11_hasSoul 2 = .ok (.iand, 1) := by decide +kernel
theorem dX11_hasSoul_3 : decode cX11_hasSoul 3 = .ok (.iconst 1, 1) := by decide +kernel
theorem dX11_hasSoul_4 : decode cX11_hasSoul 4 = .ok (.if_icmp .ne 7, 3) := by decide +kernel
theorem dX11_hasSoul_7 : decode cX11_hasSoul 7 = .ok (.iconst 1, 1) := by decide +kernel
theorem dX11_hasSoul_8 : decode cX11_hasSoul 8 = .ok (.goto 4, 3) := by decide +kernel
theorem dX11_hasSoul_11 : decode cX11_hasSoul 11 = .ok (.iconst 0, 1) := by decide +kernel
theorem dX11_hasSoul_12 : decode cX11_hasSoul 12 = .ok (.ireturn, 1) := by decide +kernel
theorem dX11_learns_0 : decode cX11_learns 0 = .ok (.aload_n 0, 1) := by decide +kernel
theorem dX11_learns_1 : decode cX11_learns 1 = .ok (.getfield 137, 3) := by decide +kernel
theorem dX11_learns_4 : decode cX11_learns 4 = .ok (.bipush 21, 2) := by decide +kernel
theorem dX11_learns_6 : decode cX11_learns 6 = .ok (.iaload, 1) := by decide +kernel
theorem dX11_learns_7 : decode cX11_learns 7 = .ok (.bipush 9, 2) := by decide +kernel
theorem dX11_learns_9 : decode cX11_learns 9 = .ok (.if_icmp .ne 4, 3) := by decide +kernel
theorem dX11_learns_12 : decode cX11_learns 12 = .ok (.return_, 1) := by decide +kernel
theorem dX11_learns_13 : decode cX11_learns 13 = .ok (.aload_n 0, 1) := by decide +kernel
theorem dX11_learns_14 : decode cX11_learns 14 = .ok (.getfield 137, 3) := by decide +kernel
theorem dX11_learns_17 : decode cX11_learns 17 = .ok (.bipush 12, 2) := by decide +kernel
theorem dX11_learns_19 : decode cX11_learns 19 = .ok (.aload_n 0, 1) := by decide +kernel
theorem dX11_learns_20 : decode cX11_learns 20 = .ok (.getfield 137, 3) := by decide +kernel
theorem dX11_learns_23 : decode cX11_learns 23 = .ok (.bipush 21, 2) := by decide +kernel
theorem dX11_learns_25 : decode cX11_learns 25 = .ok (.iaload, 1) := by decide +kernel
theorem dX11_learns_26 : decode cX11_learns 26 = .ok (.iadd, 1) := by decide +kernel
theorem dX11_learns_27 : decode cX11_learns 27 = .ok (.iload_n 1, 1) := by decide +kernel
theorem dX11_learns_28 : decode cX11_learns 28 = .ok (.iastore, 1) := by decide +kernel
theorem dX11_learns_29 : decode cX11_learns 29 = .ok (.aload_n 0, 1) := by decide +kernel
theorem dX11_learns_30 : decode cX11_learns 30 = .ok (.getfield 137, 3) := by decide +kernel
theorem dX11_learns_33 : decode cX11_learns 33 = .ok (.bipush 21, 2) := by decide +kernel
theorem dX11_learns_35 : decode cX11_learns 35 = .ok (.dup2, 1) := by decide +kernel
theorem dX11_learns_36 : decode cX11_learns 36 = .ok (.iaload, 1) := by decide +kernel
theorem dX11_learns_37 : decode cX11_learns 37 = .ok (.iconst 1, 1) := by decide +kernel
theorem dX11_learns_38 : decode cX11_learns 38 = .ok (.iadd, 1) := by decide +kernel
theorem dX11_learns_39 : decode cX11_learns 39 = .ok (.iastore, 1) := by decide +kernel
theorem dX11_learns_40 : decode cX11_learns 40 = .ok (.return_, 1) := by decide +kernel
theorem dX11_yearGoes_0 : decode cX11_yearGoes 0 = .ok (.aload_n 0, 1) := by decide +kernel
theorem dX11_yearGoes_1 : decode cX11_yearGoes 1 = .ok (.getfield 377, 3) := by decide +kernel
theorem dX11_yearGoes_4 : decode cX11_yearGoes 4 = .ok (.ifCond .ne 14, 3) := by decide +kernel
theorem dX11_yearGoes_7 : decode cX11_yearGoes 7 = .ok (.aload_n 0, 1) := by decide +kernel
theorem dX11_yearGoes_8 : decode cX11_yearGoes 8 = .ok (.invokevirtual 409, 3) := by decide +kernel
theorem dX11_yearGoes_11 : decode cX11_yearGoes 11 = .ok (.ifCond .eq 7, 3) := by decide +kernel
theorem dX11_yearGoes_14 : decode cX11_yearGoes 14 = .ok (.iconst 1, 1) := by decide +kernel
theorem dX11_yearGoes_15 : decode cX11_yearGoes 15 = .ok (.goto 4, 3) := by decide +kernel
theorem dX11_yearGoes_18 : decode cX11_yearGoes 18 = .ok (.iconst 0, 1) := by decide +kernel
theorem dX11_yearGoes_19 : decode cX11_yearGoes 19 = .ok (.istore_n 1, 1) := by decide +kernel
theorem dX11_yearGoes_20 : decode cX11_yearGoes 20 = .ok (.iconst 0, 1) := by decide +kernel
theorem dX11_yearGoes_21 : decode cX11_yearGoes 21 = .ok (.istore_n 2, 1) := by decide +kernel
theorem dX11_yearGoes_22 : decode cX11_yearGoes 22 = .ok (.iload_n 2, 1) := by decide +kernel
theorem dX11_yearGoes_23 : decode cX11_yearGoes 23 = .ok (.aload_n 0, 1) := by decide +kernel
theorem dX11_yearGoes_24 : decode cX11_yearGoes 24 = .ok (.getfield 70, 3) := by decide +kernel
theorem dX11_yearGoes_27 : decode cX11_yearGoes 27 = .ok (.aload_n 0, 1) := by decide +kernel
theorem dX11_yearGoes_28 : decode cX11_yearGoes 28 = .ok (.getfield 257, 3) := by decide +kernel
theorem dX11_yearGoes_31 : decode cX11_yearGoes 31 = .ok (.iaload, 1) := by decide +kernel
theorem dX11_yearGoes_32 : decode cX11_yearGoes 32 = .ok (.if_icmp .ge 56, 3) := by decide +kernel
theorem dX11_yearGoes_35 : decode cX11_yearGoes 35 = .ok (.aload_n 0, 1) := by decide +kernel
theorem dX11_yearGoes_36 : decode cX11_yearGoes 36 = .ok (.getfield 143, 3) := by decide +kernel
theorem dX11_yearGoes_39 : decode cX11_yearGoes 39 = .ok (.iload_n 2, 1) := by decide +kernel
theorem dX11_yearGoes_40 : decode cX11_yearGoes 40 = .ok (.aload_n 0, 1) := by decide +kernel
theorem dX11_yearGoes_41 : decode cX11_yearGoes 41 = .ok (.getfield 137, 3) := by decide +kernel
theorem dX11_yearGoes_44 : decode cX11_yearGoes 44 = .ok (.iconst 4, 1) := by decide +kernel
theorem dX11_yearGoes_45 : decode cX11_yearGoes 45 = .ok (.iload_n 2, 1) := by decide +kernel
theorem dX11_yearGoes_46 : decode cX11_yearGoes 46 = .ok (.iadd, 1) := by decide +kernel
theorem dX11_yearGoes_47 : decode cX11_yearGoes 47 = .ok (.iaload, 1) := by decide +kernel
theorem dX11_yearGoes_48 : decode cX11_yearGoes 48 = .ok (.iconst 1, 1) := by decide +kernel
theorem dX11_yearGoes_49 : decode cX11_yearGoes 49 = .ok (.if_icmp .ne 26, 3) := by decide +kernel
theorem dX11_yearGoes_52 : decode cX11_yearGoes 52 = .ok (.aload_n 0, 1) := by decide +kernel
theorem dX11_yearGoes_53 : decode cX11_yearGoes 53 = .ok (.getfield 137, 3) := by decide +kernel
theorem dX11_yearGoes_56 : decode cX11_yearGoes 56 = .ok (.iload_n 2, 1) := by decide +kernel
theorem dX11_yearGoes_57 : decode cX11_yearGoes 57 = .ok (.iaload, 1) := by decide +kernel
theorem dX11_yearGoes_58 : decode cX11_yearGoes 58 = .ok (.aload_n 0, 1) := by decide +kernel
theorem dX11_yearGoes_59 : decode cX11_yearGoes 59 = .ok (.iload_n 2, 1) := by decide +kernel
theorem dX11_yearGoes_60 : decode cX11_yearGoes 60 = .ok (.invokevirtual 413, 3) := by decide +kernel
theorem dX11_yearGoes_63 : decode cX11_yearGoes 63 = .ok (.isub, 1) := by decide +kernel
theorem dX11_yearGoes_64 : decode cX11_yearGoes 64 = .ok (.iload_n 1, 1) := by decide +kernel
theorem dX11_yearGoes_65 : decode cX11_yearGoes 65 = .ok (.isub, 1) := by decide +kernel
theorem dX11_yearGoes_66 : decode cX11_yearGoes 66 = .ok (.iconst 0, 1) := by decide +kernel
theorem dX11_yearGoes_67 : decode cX11_yearGoes 67 = .ok (.bipush 99, 2) := by decide +kernel
theorem dX11_yearGoes_69 : decode cX11_yearGoes 69 = .ok (.invokestatic 399, 3) := by decide +kernel
theorem dX11_yearGoes_72 : decode cX11_yearGoes 72 = .ok (.goto 9, 3) := by decide +kernel
theorem dX11_yearGoes_75 : decode cX11_yearGoes 75 = .ok (.aload_n 0, 1) := by decide +kernel
theorem dX11_yearGoes_76 : decode cX11_yearGoes 76 = .ok (.getfield 137, 3) := by decide +kernel
theorem dX11_yearGoes_79 : decode cX11_yearGoes 79 = .ok (.iload_n 2, 1) := by decide +kernel
theorem dX11_yearGoes_80 : decode cX11_yearGoes 80 = .ok (.iaload, 1) := by decide +kernel
theorem dX11_yearGoes_81 : decode cX11_yearGoes 81 = .ok (.iastore, 1) := by decide +kernel
theorem dX11_yearGoes_82 : decode cX11_yearGoes 82 = .ok (.iinc 2 1, 3) := by decide +kernel
theorem dX11_yearGoes_85 : decode cX11_yearGoes 85 = .ok (.goto (-63), 3) := by decide +kernel
theorem dX11_yearGoes_88 : decode cX11_yearGoes 88 = .ok (.iconst 0, 1) := by decide +kernel
theorem dX11_yearGoes_89 : decode cX11_yearGoes 89 = .ok (.istore_n 2, 1) := by decide +kernel
theorem dX11_yearGoes_90 : decode cX11_yearGoes 90 = .ok (.iload_n 2, 1) := by decide +kernel
theorem dX11_yearGoes_91 : decode cX11_yearGoes 91 = .ok (.aload_n 0, 1) := by decide +kernel
theorem dX11_yearGoes_92 : decode cX11_yearGoes 92 = .ok (.getfield 70, 3) := by decide +kernel
theorem dX11_yearGoes_95 : decode cX11_yearGoes 95 = .ok (.aload_n 0, 1) := by decide +kernel
theorem dX11_yearGoes_96 : decode cX11_yearGoes 96 = .ok (.getfield 257, 3) := by decide +kernel
theorem dX11_yearGoes_99 : decode cX11_yearGoes 99 = .ok (.iaload, 1) := by decide +kernel
theorem dX11_yearGoes_100 : decode cX11_yearGoes 100 = .ok (.if_icmp .ge 67, 3) := by decide +kernel
theorem dX11_yearGoes_103 : decode cX11_yearGoes 103 = .ok (.aload_n 0, 1) := by decide +kernel
theorem dX11_yearGoes_104 : decode cX11_yearGoes 104 = .ok (.getfield 137, 3) := by decide +kernel
theorem dX11_yearGoes_107 : decode cX11_yearGoes 107 = .ok (.iconst 4, 1) := by decide +kernel
theorem dX11_yearGoes_108 : decode cX11_yearGoes 108 = .ok (.iload_n 2, 1) := by decide +kernel
theorem dX11_yearGoes_109 : decode cX11_yearGoes 109 = .ok (.iadd, 1) := by decide +kernel
theorem dX11_yearGoes_110 : decode cX11_yearGoes 110 = .ok (.iaload, 1) := by decide +kernel
theorem dX11_yearGoes_111 : decode cX11_yearGoes 111 = .ok (.iconst 1, 1) := by decide +kernel
theorem dX11_yearGoes_112 : decode cX11_yearGoes 112 = .ok (.if_icmp .eq 6, 3) := by decide +kernel
theorem dX11_yearGoes_115 : decode cX11_yearGoes 115 = .ok (.goto 46, 3) := by decide +kernel
theorem dX11_yearGoes_118 : decode cX11_yearGoes 118 = .ok (.aload_n 0, 1) := by decide +kernel
theorem dX11_yearGoes_119 : decode cX11_yearGoes 119 = .ok (.getfield 137, 3) := by decide +kernel
theorem dX11_yearGoes_122 : decode cX11_yearGoes 122 = .ok (.iload_n 2, 1) := by decide +kernel
theorem dX11_yearGoes_123 : decode cX11_yearGoes 123 = .ok (.aload_n 0, 1) := by decide +kernel
theorem dX11_yearGoes_124 : decode cX11_yearGoes 124 = .ok (.getfield 143, 3) := by decide +kernel
theorem dX11_yearGoes_127 : decode cX11_yearGoes 127 = .ok (.iload_n 2, 1) := by decide +kernel
theorem dX11_yearGoes_128 : decode cX11_yearGoes 128 = .ok (.iaload, 1) := by decide +kernel
theorem dX11_yearGoes_129 : decode cX11_yearGoes 129 = .ok (.iastore, 1) := by decide +kernel
theorem dX11_yearGoes_130 : decode cX11_yearGoes 130 = .ok (.aload_n 0, 1) := by decide +kernel
theorem dX11_yearGoes_131 : decode cX11_yearGoes 131 = .ok (.getfield 137, 3) := by decide +kernel
theorem dX11_yearGoes_134 : decode cX11_yearGoes 134 = .ok (.bipush 8, 2) := by decide +kernel
theorem dX11_yearGoes_136 : decode cX11_yearGoes 136 = .ok (.iload_n 2, 1) := by decide +kernel
theorem dX11_yearGoes_137 : decode cX11_yearGoes 137 = .ok (.iadd, 1) := by decide +kernel
theorem dX11_yearGoes_138 : decode cX11_yearGoes 138 = .ok (.dup2, 1) := by decide +kernel
theorem dX11_yearGoes_139 : decode cX11_yearGoes 139 = .ok (.iaload, 1) := by decide +kernel
theorem dX11_yearGoes_140 : decode cX11_yearGoes 140 = .ok (.iconst 1, 1) := by decide +kernel
theorem dX11_yearGoes_141 : decode cX11_yearGoes 141 = .ok (.iadd, 1) := by decide +kernel
theorem dX11_yearGoes_142 : decode cX11_yearGoes 142 = .ok (.iastore, 1) := by decide +kernel
theorem dX11_yearGoes_143 : decode cX11_yearGoes 143 = .ok (.aload_n 0, 1) := by decide +kernel
theorem dX11_yearGoes_144 : decode cX11_yearGoes 144 = .ok (.getfield 137, 3) := by decide +kernel
theorem dX11_yearGoes_147 : decode cX11_yearGoes 147 = .ok (.iload_n 2, 1) := by decide +kernel
theorem dX11_yearGoes_148 : decode cX11_yearGoes 148 = .ok (.iaload, 1) := by decide +kernel
theorem dX11_yearGoes_149 : decode cX11_yearGoes 149 = .ok (.ifCond .ne 12, 3) := by decide +kernel
theorem dX11_yearGoes_152 : decode cX11_yearGoes 152 = .ok (.aload_n 0, 1) := by decide +kernel
theorem dX11_yearGoes_153 : decode cX11_yearGoes 153 = .ok (.getfield 137, 3) := by decide +kernel
theorem dX11_yearGoes_156 : decode cX11_yearGoes 156 = .ok (.iconst 4, 1) := by decide +kernel
theorem dX11_yearGoes_157 : decode cX11_yearGoes 157 = .ok (.iload_n 2, 1) := by decide +kernel
theorem dX11_yearGoes_158 : decode cX11_yearGoes 158 = .ok (.iadd, 1) := by decide +kernel
theorem dX11_yearGoes_159 : decode cX11_yearGoes 159 = .ok (.iconst 2, 1) := by decide +kernel
theorem dX11_yearGoes_160 : decode cX11_yearGoes 160 = .ok (.iastore, 1) := by decide +kernel
theorem dX11_yearGoes_161 : decode cX11_yearGoes 161 = .ok (.iinc 2 1, 3) := by decide +kernel
theorem dX11_yearGoes_164 : decode cX11_yearGoes 164 = .ok (.goto (-74), 3) := by decide +kernel
theorem dX11_yearGoes_167 : decode cX11_yearGoes 167 = .ok (.aload_n 0, 1) := by decide +kernel
theorem dX11_yearGoes_168 : decode cX11_yearGoes 168 = .ok (.getfield 137, 3) := by decide +kernel
theorem dX11_yearGoes_171 : decode cX11_yearGoes 171 = .ok (.bipush 23, 2) := by decide +kernel
theorem dX11_yearGoes_173 : decode cX11_yearGoes 173 = .ok (.dup2, 1) := by decide +kernel
theorem dX11_yearGoes_174 : decode cX11_yearGoes 174 = .ok (.iaload, 1) := by decide +kernel
theorem dX11_yearGoes_175 : decode cX11_yearGoes 175 = .ok (.iconst 1, 1) := by decide +kernel
theorem dX11_yearGoes_176 : decode cX11_yearGoes 176 = .ok (.iadd, 1) := by decide +kernel
theorem dX11_yearGoes_177 : decode cX11_yearGoes 177 = .ok (.iastore, 1) := by decide +kernel
theorem dX11_yearGoes_178 : decode cX11_yearGoes 178 = .ok (.return_, 1) := by decide +kernel
theorem dX11_goes_0 : decode cX11_goes 0 = .ok (.iconst 0, 1) := by decide +kernel
theorem dX11_goes_1 : decode cX11_goes 1 = .ok (.istore_n 2, 1) := by decide +kernel
theorem dX11_goes_2 : decode cX11_goes 2 = .ok (.iload_n 2, 1) := by decide +kernel
theorem dX11_goes_3 : decode cX11_goes 3 = .ok (.iload_n 1, 1) := by decide +kernel
theorem dX11_goes_4 : decode cX11_goes 4 = .ok (.if_icmp .ge 13, 3) := by decide +kernel
theorem dX11_goes_7 : decode cX11_goes 7 = .ok (.aload_n 0, 1) := by decide +kernel
theorem dX11_goes_8 : decode cX11_goes 8 = .ok (.invokevirtual 416, 3) := by decide +kernel
theorem dX11_goes_11 : decode cX11_goes 11 = .ok (.iinc 2 1, 3) := by decide +kernel
theorem dX11_goes_14 : decode cX11_goes 14 = .ok (.goto (-12), 3) := by decide +kernel
theorem dX11_goes_17 : decode cX11_goes 17 = .ok (.return_, 1) := by decide +kernel
theorem dX11_being_0 : decode cX11_being 0 = .ok (.aload_n 0, 1) := by decide +kernel
theorem dX11_being_1 : decode cX11_being 1 = .ok (.iload_n 1, 1) := by decide +kernel
theorem dX11_being_2 : decode cX11_being 2 = .ok (.invokevirtual 419, 3) := by decide +kernel
theorem dX11_being_5 : decode cX11_being 5 = .ok (.ifCond .ne 5, 3) := by decide +kernel
theorem dX11_being_8 : decode cX11_being 8 = .ok (.iconst (-1), 1) := by decide +kernel
theorem dX11_being_9 : decode cX11_being 9 = .ok (.ireturn, 1) := by decide +kernel
theorem dX11_being_10 : decode cX11_being 10 = .ok (.iload_n 2, 1) := by decide +kernel
theorem dX11_being_11 : decode cX11_being 11 = .ok (.tableswitch 67 0 2 #[25, 40, 55], 25) := by decide +kernel
theorem dX11_being_36 : decode cX11_being 36 = .ok (.aload_n 0, 1) := by decide +kernel
theorem dX11_being_37 : decode cX11_being 37 = .ok (.getfield 52, 3) := by decide +kernel
theorem dX11_being_40 : decode cX11_being 40 = .ok (.bipush 7, 2) := by decide +kernel
theorem dX11_being_42 : decode cX11_being 42 = .ok (.aload_n 0, 1) := by decide +kernel
theorem dX11_being_43 : decode cX11_being 43 = .ok (.getfield 257, 3) := by decide +kernel
theorem dX11_being_46 : decode cX11_being 46 = .ok (.imul, 1) := by decide +kernel
theorem dX11_being_47 : decode cX11_being 47 = .ok (.iload_n 1, 1) := by decide +kernel
theorem dX11_being_48 : decode cX11_being 48 = .ok (.iadd, 1) := by decide +kernel
theorem dX11_being_49 : decode cX11_being 49 = .ok (.iaload, 1) := by decide +kernel
theorem dX11_being_50 : decode cX11_being 50 = .ok (.ireturn, 1) := by decide +kernel
theorem dX11_being_51 : decode cX11_being 51 = .ok (.aload_n 0, 1) := by decide +kernel
theorem dX11_being_52 : decode cX11_being 52 = .ok (.getfield 55, 3) := by decide +kernel
theorem dX11_being_55 : decode cX11_being 55 = .ok (.bipush 7, 2) := by decide +kernel
theorem dX11_being_57 : decode cX11_being 57 = .ok (.aload_n 0, 1) := by decide +kernel
theorem dX11_being_58 : decode cX11_being 58 = .ok (.getfield 257, 3) := by decide +kernel
theorem dX11_being_61 : decode cX11_being 61 = .ok (.imul, 1) := by decide +kernel
theorem dX11_being_62 : decode cX11_being 62 = .ok (.iload_n 1, 1) := by decide +kernel
theorem dX11_being_63 : decode cX11_being 63 = .ok (.iadd, 1) := by decide +kernel
theorem dX11_being_64 : decode cX11_being 64 = .ok (.iaload, 1) := by decide +kernel
theorem dX11_being_65 : decode cX11_being 65 = .ok (.ireturn, 1) := by decide +kernel
theorem dX11_being_66 : decode cX11_being 66 = .ok (.aload_n 0, 1) := by decide +kernel
theorem dX11_being_67 : decode cX11_being 67 = .ok (.getfield 134, 3) := by decide +kernel
theorem dX11_being_70 : decode cX11_being 70 = .ok (.bipush 25, 2) := by decide +kernel
theorem dX11_being_72 : decode cX11_being 72 = .ok (.iaload, 1) := by decide +kernel
theorem dX11_being_73 : decode cX11_being 73 = .ok (.iload_n 1, 1) := by decide +kernel
theorem dX11_being_74 : decode cX11_being 74 = .ok (.ishr, 1) := by decide +kernel
theorem dX11_being_75 : decode cX11_being 75 = .ok (.iconst 1, 1) := by decide +kernel
theorem dX11_being_76 : decode cX11_being 76 = .ok (.iand, 1) := by decide +kernel
theorem dX11_being_77 : decode cX11_being 77 = .ok (.ireturn, 1) := by decide +kernel
theorem dX11_being_78 : decode cX11_being 78 = .ok (.iconst (-1), 1) := by decide +kernel
theorem dX11_being_79 : decode cX11_being 79 = .ok (.ireturn, 1) := by decide +kernel
theorem dX11_isSome_0 : decode cX11_isSome 0 = .ok (.iload_n 1, 1) := by decide +kernel
theorem dX11_isSome_1 : decode cX11_isSome 1 = .ok (.iconst (-1), 1) := by decide +kernel
theorem dX11_isSome_2 : decode cX11_isSome 2 = .ok (.if_icmp .eq 11, 3) := by decide +kernel
theorem dX11_isSome_5 : decode cX11_isSome 5 = .ok (.aload_n 0, 1) := by decide +kernel
theorem dX11_isSome_6 : decode cX11_isSome 6 = .ok (.iload_n 1, 1) := by decide +kernel
theorem dX11_isSome_7 : decode cX11_isSome 7 = .ok (.invokevirtual 422, 3) := by decide +kernel
theorem dX11_isSome_10 : decode cX11_isSome 10 = .ok (.ifCond .eq 7, 3) := by decide +kernel
theorem dX11_isSome_13 : decode cX11_isSome 13 = .ok (.iconst 1, 1) := by decide +kernel
theorem dX11_isSome_14 : decode cX11_isSome 14 = .ok (.goto 4, 3) := by decide +kernel
theorem dX11_isSome_17 : decode cX11_isSome 17 = .ok (.iconst 0, 1) := by decide +kernel
theorem dX11_isSome_18 : decode cX11_isSome 18 = .ok (.ireturn, 1) := by decide +kernel
theorem dX11_set_0 : decode cX11_set 0 = .ok (.aload_n 0, 1) := by decide +kernel
theorem dX11_set_1 : decode cX11_set 1 = .ok (.iload_n 1, 1) := by decide +kernel
theorem dX11_set_2 : decode cX11_set 2 = .ok (.invokevirtual 419, 3) := by decide +kernel
theorem dX11_set_5 : decode cX11_set 5 = .ok (.ifCond .eq 20, 3) := by decide +kernel
theorem dX11_set_8 : decode cX11_set 8 = .ok (.aload_n 0, 1) := by decide +kernel
theorem dX11_set_9 : decode cX11_set 9 = .ok (.iload_n 2, 1) := by decide +kernel
theorem dX11_set_10 : decode cX11_set 10 = .ok (.invokevirtual 425, 3) := by decide +kernel
theorem dX11_set_13 : decode cX11_set 13 = .ok (.ifCond .eq 12, 3) := by decide +kernel
theorem dX11_set_16 : decode cX11_set 16 = .ok (.aload_n 0, 1) := by decide +kernel
theorem dX11_set_17 : decode cX11_set 17 = .ok (.iload_n 1, 1) := by decide +kernel
theorem dX11_set_18 : decode cX11_set 18 = .ok (.iload_n 2, 1) := by decide +kernel
theorem dX11_set_19 : decode cX11_set 19 = .ok (.invokevirtual 428, 3) := by decide +kernel
theorem dX11_set_22 : decode cX11_set 22 = .ok (.goto 4, 3) := by decide +kernel
theorem dX11_set_25 : decode cX11_set 25 = .ok (.iconst (-1), 1) := by decide +kernel
theorem dX11_set_26 : decode cX11_set 26 = .ok (.ireturn, 1) := by decide +kernel
theorem dX11_way_0 : decode cX11_way 0 = .ok (.aload_n 0, 1) := by decide +kernel
theorem dX11_way_1 : decode cX11_way 1 = .ok (.iload_n 1, 1) := by decide +kernel
theorem dX11_way_2 : decode cX11_way 2 = .ok (.invokevirtual 422, 3) := by decide +kernel
theorem dX11_way_5 : decode cX11_way 5 = .ok (.ifCond .ne 5, 3) := by decide +kernel
theorem dX11_way_8 : decode cX11_way 8 = .ok (.iconst (-1), 1) := by decide +kernel
theorem dX11_way_9 : decode cX11_way 9 = .ok (.ireturn, 1) := by decide +kernel
theorem dX11_way_10 : decode cX11_way 10 = .ok (.iload_n 2, 1) := by decide +kernel
theorem dX11_way_11 : decode cX11_way 11 = .ok (.tableswitch 67 0 2 #[25, 39, 53], 25) := by decide +kernel
theorem dX11_way_36 : decode cX11_way 36 = .ok (.aload_n 0, 1) := by decide +kernel
theorem dX11_way_37 : decode cX11_way 37 = .ok (.getfield 61, 3) := by decide +kernel
theorem dX11_way_40 : decode cX11_way 40 = .ok (.iconst 4, 1) := by decide +kernel
theorem dX11_way_41 : decode cX11_way 41 = .ok (.aload_n 0, 1) := by decide +kernel
theorem dX11_way_42 : decode cX11_way 42 = .ok (.getfield 257, 3) := by decide +kernel
theorem dX11_way_45 : decode cX11_way 45 = .ok (.imul, 1) := by decide +kernel
theorem dX11_way_46 : decode cX11_way 46 = .ok (.iload_n 1, 1) := by decide +kernel
theorem dX11_way_47 : decode cX11_way 47 = .ok (.iadd, 1) := by decide +kernel
theorem dX11_way_48 : decode cX11_way 48 = .ok (.iaload, 1) := by decide +kernel
theorem dX11_way_49 : decode cX11_way 49 = .ok (.ireturn, 1) := by decide +kernel
theorem dX11_way_50 : decode cX11_way 50 = .ok (.aload_n 0, 1) := by decide +kernel
theorem dX11_way_51 : decode cX11_way 51 = .ok (.getfield 64, 3) := by decide +kernel
theorem dX11_way_54 : decode cX11_way 54 = .ok (.iconst 4, 1) := by decide +kernel
theorem dX11_way_55 : decode cX11_way 55 = .ok (.aload_n 0, 1) := by decide +kernel
theorem dX11_way_56 : decode cX11_way 56 = .ok (.getfield 257, 3) := by decide +kernel
theorem dX11_way_59 : decode cX11_way 59 = .ok (.imul, 1) := by decide +kernel
theorem dX11_way_60 : decode cX11_way 60 = .ok (.iload_n 1, 1) := by decide +kernel
theorem dX11_way_61 : decode cX11_way 61 = .ok (.iadd, 1) := by decide +kernel
theorem dX11_way_62 : decode cX11_way 62 = .ok (.iaload, 1) := by decide +kernel
theorem dX11_way_63 : decode cX11_way 63 = .ok (.ireturn, 1) := by decide +kernel
theorem dX11_way_64 : decode cX11_way 64 = .ok (.aload_n 0, 1) := by decide +kernel
theorem dX11_way_65 : decode cX11_way 65 = .ok (.getfield 67, 3) := by decide +kernel
theorem dX11_way_68 : decode cX11_way 68 = .ok (.iconst 4, 1) := by decide +kernel
theorem dX11_way_69 : decode cX11_way 69 = .ok (.aload_n 0, 1) := by decide +kernel
theorem dX11_way_70 : decode cX11_way 70 = .ok (.getfield 257, 3) := by decide +kernel
theorem dX11_way_73 : decode cX11_way 73 = .ok (.imul, 1) := by decide +kernel
theorem dX11_way_74 : decode cX11_way 74 = .ok (.iload_n 1, 1) := by decide +kernel
theorem dX11_way_75 : decode cX11_way 75 = .ok (.iadd, 1) := by decide +kernel
theorem dX11_way_76 : decode cX11_way 76 = .ok (.iaload, 1) := by decide +kernel
theorem dX11_way_77 : decode cX11_way 77 = .ok (.ireturn, 1) := by decide +kernel
theorem dX11_way_78 : decode cX11_way 78 = .ok (.iconst (-1), 1) := by decide +kernel
theorem dX11_way_79 : decode cX11_way 79 = .ok (.ireturn, 1) := by decide +kernel
theorem dX11_bridge_0 : decode cX11_bridge 0 = .ok (.aload_n 0, 1) := by decide +kernel
theorem dX11_bridge_1 : decode cX11_bridge 1 = .ok (.iload_n 1, 1) := by decide +kernel
theorem dX11_bridge_2 : decode cX11_bridge 2 = .ok (.invokevirtual 431, 3) := by decide +kernel
theorem dX11_bridge_5 : decode cX11_bridge 5 = .ok (.ifCond .ne 5, 3) := by decide +kernel
theorem dX11_bridge_8 : decode cX11_bridge 8 = .ok (.iconst (-1), 1) := by decide +kernel
theorem dX11_bridge_9 : decode cX11_bridge 9 = .ok (.ireturn, 1) := by decide +kernel
theorem dX11_bridge_10 : decode cX11_bridge 10 = .ok (.aload_n 0, 1) := by decide +kernel
theorem dX11_bridge_11 : decode cX11_bridge 11 = .ok (.invokevirtual 434, 3) := by decide +kernel
theorem dX11_bridge_14 : decode cX11_bridge 14 = .ok (.iload_n 2, 1) := by decide +kernel
theorem dX11_bridge_15 : decode cX11_bridge 15 = .ok (.tableswitch 100 0 6 #[41, 48, 62, 71, 81, 87, 93], 41) := by decide +kernel
theorem dX11_bridge_56 : decode cX11_bridge 56 = .ok (.aload_n 0, 1) := by decide +kernel
theorem dX11_bridge_57 : decode cX11_bridge 57 = .ok (.getfield 137, 3) := by decide +kernel
theorem dX11_bridge_60 : decode cX11_bridge 60 = .ok (.iload_n 1, 1) := by decide +kernel
theorem dX11_bridge_61 : decode cX11_bridge 61 = .ok (.iaload, 1) := by decide +kernel
theorem dX11_bridge_62 : decode cX11_bridge 62 = .ok (.ireturn, 1) := by decide +kernel
theorem dX11_bridge_63 : decode cX11_bridge 63 = .ok (.aload_n 0, 1) := by decide +kernel
theorem dX11_bridge_64 : decode cX11_bridge 64 = .ok (.getfield 76, 3) := by decide +kernel
theorem dX11_bridge_67 : decode cX11_bridge 67 = .ok (.iconst 4, 1) := by decide +kernel
theorem dX11_bridge_68 : decode cX11_bridge 68 = .ok (.aload_n 0, 1) := by decide +kernel
theorem dX11_bridge_69 : decode cX11_bridge 69 = .ok (.getfield 257, 3) := by decide +kernel
theorem dX11_bridge_72 : decode cX11_bridge 72 = .ok (.imul, 1) := by decide +kernel
theorem dX11_bridge_73 : decode cX11_bridge 73 = .ok (.iload_n 1, 1) := by decide +kernel
theorem dX11_bridge_74 : decode cX11_bridge 74 = .ok (.iadd, 1) := by decide +kernel
theorem dX11_bridge_75 : decode cX11_bridge 75 = .ok (.iaload, 1) := by decide +kernel
theorem dX11_bridge_76 : decode cX11_bridge 76 = .ok (.ireturn, 1) := by decide +kernel
theorem dX11_bridge_77 : decode cX11_bridge 77 = .ok (.aload_n 0, 1) := by decide +kernel
theorem dX11_bridge_78 : decode cX11_bridge 78 = .ok (.getfield 137, 3) := by decide +kernel
theorem dX11_bridge_81 : decode cX11_bridge 81 = .ok (.iconst 4, 1) := by decide +kernel
theorem dX11_bridge_82 : decode cX11_bridge 82 = .ok (.iload_n 1, 1) := by decide +kernel
theorem dX11_bridge_83 : decode cX11_bridge 83 = .ok (.iadd, 1) := by decide +kernel
theorem dX11_bridge_84 : decode cX11_bridge 84 = .ok (.iaload, 1) := by decide +kernel
theorem dX11_bridge_85 : decode cX11_bridge 85 = .ok (.ireturn, 1) := by decide +kernel
theorem dX11_bridge_86 : decode cX11_bridge 86 = .ok (.aload_n 0, 1) := by decide +kernel
theorem dX11_bridge_87 : decode cX11_bridge 87 = .ok (.getfield 137, 3) := by decide +kernel
theorem dX11_bridge_90 : decode cX11_bridge 90 = .ok (.bipush 8, 2) := by decide +kernel
theorem dX11_bridge_92 : decode cX11_bridge 92 = .ok (.iload_n 1, 1) := by decide +kernel
theorem dX11_bridge_93 : decode cX11_bridge 93 = .ok (.iadd, 1) := by decide +kernel
theorem dX11_bridge_94 : decode cX11_bridge 94 = .ok (.iaload, 1) := by decide +kernel
theorem dX11_bridge_95 : decode cX11_bridge 95 = .ok (.ireturn, 1) := by decide +kernel
theorem dX11_bridge_96 : decode cX11_bridge 96 = .ok (.aload_n 0, 1) := by decide +kernel
theorem dX11_bridge_97 : decode cX11_bridge 97 = .ok (.iload_n 1, 1) := by decide +kernel
theorem dX11_bridge_98 : decode cX11_bridge 98 = .ok (.invokevirtual 413, 3) := by decide +kernel
theorem dX11_bridge_101 : decode cX11_bridge 101 = .ok (.ireturn, 1) := by decide +kernel
theorem dX11_bridge_102 : decode cX11_bridge 102 = .ok (.aload_n 0, 1) := by decide +kernel
theorem dX11_bridge_103 : decode cX11_bridge 103 = .ok (.iload_n 1, 1) := by decide +kernel
theorem dX11_bridge_104 : decode cX11_bridge 104 = .ok (.invokevirtual 437, 3) := by decide +kernel
theorem dX11_bridge_107 : decode cX11_bridge 107 = .ok (.ireturn, 1) := by decide +kernel
theorem dX11_bridge_108 : decode cX11_bridge 108 = .ok (.aload_n 0, 1) := by decide +kernel
theorem dX11_bridge_109 : decode cX11_bridge 109 = .ok (.iload_n 1, 1) := by decide +kernel
theorem dX11_bridge_110 : decode cX11_bridge 110 = .ok (.iload_n 1, 1) := by decide +kernel
theorem dX11_bridge_111 : decode cX11_bridge 111 = .ok (.invokevirtual 440, 3) := by decide +kernel
theorem dX11_bridge_114 : decode cX11_bridge 114 = .ok (.ireturn, 1) := by decide +kernel
theorem dX11_bridge_115 : decode cX11_bridge 115 = .ok (.iconst (-1), 1) := by decide +kernel
theorem dX11_bridge_116 : decode cX11_bridge 116 = .ok (.ireturn, 1) := by decide +kernel
theorem dX11_bothHold_0 : decode cX11_bothHold 0 = .ok (.iconst 0, 1) := by decide +kernel
theorem dX11_bothHold_1 : decode cX11_bothHold 1 = .ok (.istore_n 3, 1) := by decide +kernel
theorem dX11_bothHold_2 : decode cX11_bothHold 2 = .ok (.iconst 0, 1) := by decide +kernel
theorem dX11_bothHold_3 : decode cX11_bothHold 3 = .ok (.istore 4, 2) := by decide +kernel
theorem dX11_bothHold_5 : decode cX11_bothHold 5 = .ok (.iload 4, 2) := by decide +kernel
theorem dX11_bothHold_7 : decode cX11_bothHold 7 = .ok (.iconst 1, 1) := by decide +kernel
theorem dX11_bothHold_8 : decode cX11_bothHold 8 = .ok (.aload_n 0, 1) := by decide +kernel
theorem dX11_bothHold_9 : decode cX11_bothHold 9 = .ok (.getfield 46, 3) := by decide +kernel
theorem dX11_bothHold_12 : decode cX11_bothHold 12 = .ok (.aload_n 0, 1) := by decide +kernel
theorem dX11_bothHold_13 : decode cX11_bothHold 13 = .ok (.getfield 257, 3) := by decide +kernel
theorem dX11_bothHold_16 : decode cX11_bothHold 16 = .ok (.iaload, 1) := by decide +kernel
theorem dX11_bothHold_17 : decode cX11_bothHold 17 = .ok (.ishl, 1) := by decide +kernel
theorem dX11_bothHold_18 : decode cX11_bothHold 18 = .ok (.if_icmp .ge 32, 3) := by decide +kernel
theorem dX11_bothHold_21 : decode cX11_bothHold 21 = .ok (.aload_n 0, 1) := by decide +kernel
theorem dX11_bothHold_22 : decode cX11_bothHold 22 = .ok (.iload_n 1, 1) := by decide +kernel
theorem dX11_bothHold_23 : decode cX11_bothHold 23 = .ok (.iload 4, 2) := by decide +kernel
theorem dX11_bothHold_25 : decode cX11_bothHold 25 = .ok (.invokevirtual 402, 3) := by decide +kernel
theorem dX11_bothHold_28 : decode cX11_bothHold 28 = .ok (.ifCond .eq 16, 3) := by decide +kernel
theorem dX11_bothHold_31 : decode cX11_bothHold 31 = .ok (.aload_n 0, 1) := by decide +kernel
theorem dX11_bothHold_32 : decode cX11_bothHold 32 = .ok (.iload_n 2, 1) := by decide +kernel
theorem dX11_bothHold_33 : decode cX11_bothHold 33 = .ok (.iload 4, 2) := by decide +kernel
theorem dX11_bothHold_35 : decode cX11_bothHold 35 = .ok (.invokevirtual 402, 3) := by decide +kernel
theorem dX11_bothHold_38 : decode cX11_bothHold 38 = .ok (.ifCond .eq 6, 3) := by decide +kernel
theorem dX11_bothHold_41 : decode cX11_bothHold 41 = .ok (.iinc 3 1, 3) := by decide +kernel
theorem dX11_bothHold_44 : decode cX11_bothHold 44 = .ok (.iinc 4 1, 3) := by decide +kernel
theorem dX11_bothHold_47 : decode cX11_bothHold 47 = .ok (.goto (-42), 3) := by decide +kernel
theorem dX11_bothHold_50 : decode cX11_bothHold 50 = .ok (.iload_n 3, 1) := by decide +kernel
theorem dX11_bothHold_51 : decode cX11_bothHold 51 = .ok (.ireturn, 1) := by decide +kernel
theorem dX11_asks_0 : decode cX11_asks 0 = .ok (.aload_n 0, 1) := by decide +kernel
theorem dX11_asks_1 : decode cX11_asks 1 = .ok (.iload_n 1, 1) := by decide +kernel
theorem dX11_asks_2 : decode cX11_asks 2 = .ok (.invokevirtual 431, 3) := by decide +kernel
theorem dX11_asks_5 : decode cX11_asks 5 = .ok (.ifCond .eq 11, 3) := by decide +kernel
theorem dX11_asks_8 : decode cX11_asks 8 = .ok (.aload_n 0, 1) := by decide +kernel
theorem dX11_asks_9 : decode cX11_asks 9 = .ok (.iload_n 2, 1) := by decide +kernel
theorem dX11_asks_10 : decode cX11_asks 10 = .ok (.invokevirtual 419, 3) := by decide +kernel
theorem dX11_asks_13 : decode cX11_asks 13 = .ok (.ifCond .ne 5, 3) := by decide +kernel
theorem dX11_asks_16 : decode cX11_asks 16 = .ok (.iconst (-1), 1) := by decide +kernel
theorem dX11_asks_17 : decode cX11_asks 17 = .ok (.ireturn, 1) := by decide +kernel
theorem dX11_asks_18 : decode cX11_asks 18 = .ok (.aload_n 0, 1) := by decide +kernel
theorem dX11_asks_19 : decode cX11_asks 19 = .ok (.invokevirtual 434, 3) := by decide +kernel
theorem dX11_asks_22 : decode cX11_asks 22 = .ok (.aload_n 0, 1) := by decide +kernel
theorem dX11_asks_23 : decode cX11_asks 23 = .ok (.iload_n 1, 1) := by decide +kernel
theorem dX11_asks_24 : decode cX11_asks 24 = .ok (.invokevirtual 393, 3) := by decide +kernel
theorem dX11_asks_27 : decode cX11_asks 27 = .ok (.aload_n 0, 1) := by decide +kernel
theorem dX11_asks_28 : decode cX11_asks 28 = .ok (.getfield 128, 3) := by decide +kernel
theorem dX11_asks_31 : decode cX11_asks 31 = .ok (.iconst 5, 1) := by decide +kernel
theorem dX11_asks_32 : decode cX11_asks 32 = .ok (.aload_n 0, 1) := by decide +kernel
theorem dX11_asks_33 : decode cX11_asks 33 = .ok (.getfield 52, 3) := by decide +kernel
theorem dX11_asks_36 : decode cX11_asks 36 = .ok (.bipush 7, 2) := by decide +kernel
theorem dX11_asks_38 : decode cX11_asks 38 = .ok (.aload_n 0, 1) := by decide +kernel
theorem dX11_asks_39 : decode cX11_asks 39 = .ok (.getfield 257, 3) := by decide +kernel
theorem dX11_asks_42 : decode cX11_asks 42 = .ok (.imul, 1) := by decide +kernel
theorem dX11_asks_43 : decode cX11_asks 43 = .ok (.iload_n 2, 1) := by decide +kernel
theorem dX11_asks_44 : decode cX11_asks 44 = .ok (.iadd, 1) := by decide +kernel
theorem dX11_asks_45 : decode cX11_asks 45 = .ok (.iaload, 1) := by decide +kernel
theorem dX11_asks_46 : decode cX11_asks 46 = .ok (.iastore, 1) := by decide +kernel
theorem dX11_asks_47 : decode cX11_asks 47 = .ok (.aload_n 0, 1) := by decide +kernel
theorem dX11_asks_48 : decode cX11_asks 48 = .ok (.getfield 128, 3) := by decide +kernel
theorem dX11_asks_51 : decode cX11_asks 51 = .ok (.bipush 6, 2) := by decide +kernel
theorem dX11_asks_53 : decode cX11_asks 53 = .ok (.aload_n 0, 1) := by decide +kernel
theorem dX11_asks_54 : decode cX11_asks 54 = .ok (.getfield 55, 3) := by decide +kernel
theorem dX11_asks_57 : decode cX11_asks 57 = .ok (.bipush 7, 2) := by decide +kernel
theorem dX11_asks_59 : decode cX11_asks 59 = .ok (.aload_n 0, 1) := by decide +kernel
theorem dX11_asks_60 : decode cX11_asks 60 = .ok (.getfield 257, 3) := by decide +kernel
theorem dX11_asks_63 : decode cX11_asks 63 = .ok (.imul, 1) := by decide +kernel
theorem dX11_asks_64 : decode cX11_asks 64 = .ok (.iload_n 2, 1) := by decide +kernel
theorem dX11_asks_65 : decode cX11_asks 65 = .ok (.iadd, 1) := by decide +kernel
theorem dX11_asks_66 : decode cX11_asks 66 = .ok (.iaload, 1) := by decide +kernel
theorem dX11_asks_67 : decode cX11_asks 67 = .ok (.invokestatic 387, 3) := by decide +kernel
theorem dX11_asks_70 : decode cX11_asks 70 = .ok (.iastore, 1) := by decide +kernel
theorem dX11_asks_71 : decode cX11_asks 71 = .ok (.aload_n 0, 1) := by decide +kernel
theorem dX11_asks_72 : decode cX11_asks 72 = .ok (.iconst 2, 1) := by decide +kernel
theorem dX11_asks_73 : decode cX11_asks 73 = .ok (.aload_n 0, 1) := by decide +kernel
theorem dX11_asks_74 : decode cX11_asks 74 = .ok (.getfield 128, 3) := by decide +kernel
theorem dX11_asks_77 : decode cX11_asks 77 = .ok (.iconst 5, 1) := by decide +kernel
theorem dX11_asks_78 : decode cX11_asks 78 = .ok (.iaload, 1) := by decide +kernel
theorem dX11_asks_79 : decode cX11_asks 79 = .ok (.invokevirtual 396, 3) := by decide +kernel
theorem dX11_asks_82 : decode cX11_asks 82 = .ok (.iconst 0, 1) := by decide +kernel
theorem dX11_asks_83 : decode cX11_asks 83 = .ok (.bipush 99, 2) := by decide +kernel
theorem dX11_asks_85 : decode cX11_asks 85 = .ok (.invokestatic 399, 3) := by decide +kernel
theorem dX11_asks_88 : decode cX11_asks 88 = .ok (.ireturn, 1) := by decide +kernel
theorem dX11_holds_0 : decode cX11_holds 0 = .ok (.aload_n 0, 1) := by decide +kernel
theorem dX11_holds_1 : decode cX11_holds 1 = .ok (.iload_n 1, 1) := by decide +kernel
theorem dX11_holds_2 : decode cX11_holds 2 = .ok (.invokevirtual 431, 3) := by decide +kernel
theorem dX11_holds_5 : decode cX11_holds 5 = .ok (.ifCond .eq 24, 3) := by decide +kernel
theorem dX11_holds_8 : decode cX11_holds 8 = .ok (.iload_n 2, 1) := by decide +kernel
theorem dX11_holds_9 : decode cX11_holds 9 = .ok (.iconst 0, 1) := by decide +kernel
theorem dX11_holds_10 : decode cX11_holds 10 = .ok (.iconst 1, 1) := by decide +kernel
theorem dX11_holds_11 : decode cX11_holds 11 = .ok (.aload_n 0, 1) := by decide +kernel
theorem dX11_holds_12 : decode cX11_holds 12 = .ok (.getfield 46, 3) := by decide +kernel
theorem dX11_holds_15 : decode cX11_holds 15 = .ok (.aload_n 0, 1) := by decide +kernel
theorem dX11_holds_16 : decode cX11_holds 16 = .ok (.getfield 257, 3) := by decide +kernel
theorem dX11_holds_19 : decode cX11_holds 19 = .ok (.iaload, 1) := by decide +kernel
theorem dX11_holds_20 : decode cX11_holds 20 = .ok (.ishl, 1) := by decide +kernel
theorem dX11_holds_21 : decode cX11_holds 21 = .ok (.iconst 1, 1) := by decide +kernel
theorem dX11_holds_22 : decode cX11_holds 22 = .ok (.isub, 1) := by decide +kernel
theorem dX11_holds_23 : decode cX11_holds 23 = .ok (.invokestatic 370, 3) := by decide +kernel
theorem dX11_holds_26 : decode cX11_holds 26 = .ok (.ifCond .ne 5, 3) := by decide +kernel
theorem dX11_holds_29 : decode cX11_holds 29 = .ok (.iconst (-1), 1) := by decide +kernel
theorem dX11_holds_30 : decode cX11_holds 30 = .ok (.ireturn, 1) := by decide +kernel
theorem dX11_holds_31 : decode cX11_holds 31 = .ok (.aload_n 0, 1) := by decide +kernel
theorem dX11_holds_32 : decode cX11_holds 32 = .ok (.iload_n 1, 1) := by decide +kernel
theorem dX11_holds_33 : decode cX11_holds 33 = .ok (.iload_n 2, 1) := by decide +kernel
theorem dX11_holds_34 : decode cX11_holds 34 = .ok (.invokevirtual 402, 3) := by decide +kernel
theorem dX11_holds_37 : decode cX11_holds 37 = .ok (.ifCond .eq 7, 3) := by decide +kernel
theorem dX11_holds_40 : decode cX11_holds 40 = .ok (.iconst 1, 1) := by decide +kernel
theorem dX11_holds_41 : decode cX11_holds 41 = .ok (.goto 4, 3) := by decide +kernel
theorem dX11_holds_44 : decode cX11_holds 44 = .ok (.iconst 0, 1) := by decide +kernel
theorem dX11_holds_45 : decode cX11_holds 45 = .ok (.ireturn, 1) := by decide +kernel
theorem dX11_taken_0 : decode cX11_taken 0 = .ok (.aload_n 0, 1) := by decide +kernel
theorem dX11_taken_1 : decode cX11_taken 1 = .ok (.iload_n 1, 1) := by decide +kernel
theorem dX11_taken_2 : decode cX11_taken 2 = .ok (.invokevirtual 431, 3) := by decide +kernel
theorem dX11_taken_5 : decode cX11_taken 5 = .ok (.ifCond .eq 19, 3) := by decide +kernel
theorem dX11_taken_8 : decode cX11_taken 8 = .ok (.aload_n 0, 1) := by decide +kernel
theorem dX11_taken_9 : decode cX11_taken 9 = .ok (.iload_n 2, 1) := by decide +kernel
theorem dX11_taken_10 : decode cX11_taken 10 = .ok (.invokevirtual 419, 3) := by decide +kernel
theorem dX11_taken_13 : decode cX11_taken 13 = .ok (.ifCond .eq 11, 3) := by decide +kernel
theorem dX11_taken_16 : decode cX11_taken 16 = .ok (.aload_n 0, 1) := by decide +kernel
theorem dX11_taken_17 : decode cX11_taken 17 = .ok (.iload_n 3, 1) := by decide +kernel
theorem dX11_taken_18 : decode cX11_taken 18 = .ok (.invokevirtual 425, 3) := by decide +kernel
theorem dX11_taken_21 : decode cX11_taken 21 = .ok (.ifCond .ne 5, 3) := by decide +kernel
theorem dX11_taken_24 : decode cX11_taken 24 = .ok (.iconst (-1), 1) := by decide +kernel
theorem dX11_taken_25 : decode cX11_taken 25 = .ok (.ireturn, 1) := by decide +kernel
theorem dX11_taken_26 : decode cX11_taken 26 = .ok (.aload_n 0, 1) := by decide +kernel
theorem dX11_taken_27 : decode cX11_taken 27 = .ok (.invokevirtual 434, 3) := by decide +kernel
theorem dX11_taken_30 : decode cX11_taken 30 = .ok (.aload_n 0, 1) := by decide +kernel
theorem dX11_taken_31 : decode cX11_taken 31 = .ok (.iload_n 2, 1) := by decide +kernel
theorem dX11_taken_32 : decode cX11_taken 32 = .ok (.iload_n 3, 1) := by decide +kernel
theorem dX11_taken_33 : decode cX11_taken 33 = .ok (.invokevirtual 428, 3) := by decide +kernel
theorem dX11_taken_36 : decode cX11_taken 36 = .ok (.istore 4, 2) := by decide +kernel
theorem dX11_taken_38 : decode cX11_taken 38 = .ok (.aload_n 0, 1) := by decide +kernel
theorem dX11_taken_39 : decode cX11_taken 39 = .ok (.iload_n 1, 1) := by decide +kernel
theorem dX11_taken_40 : decode cX11_taken 40 = .ok (.iload 4, 2) := by decide +kernel
theorem dX11_taken_42 : decode cX11_taken 42 = .ok (.invokevirtual 402, 3) := by decide +kernel
theorem dX11_taken_45 : decode cX11_taken 45 = .ok (.ifCond .ne 7, 3) := by decide +kernel
theorem dX11_taken_48 : decode cX11_taken 48 = .ok (.iconst 1, 1) := by decide +kernel
theorem dX11_taken_49 : decode cX11_taken 49 = .ok (.goto 17, 3) := by decide +kernel
theorem dX11_taken_52 : decode cX11_taken 52 = .ok (.aload_n 0, 1) := by decide +kernel
theorem dX11_taken_53 : decode cX11_taken 53 = .ok (.iload 4, 2) := by decide +kernel
theorem dX11_taken_55 : decode cX11_taken 55 = .ok (.invokevirtual 406, 3) := by decide +kernel
theorem dX11_taken_58 : decode cX11_taken 58 = .ok (.ifCond .eq 7, 3) := by decide +kernel
theorem dX11_taken_61 : decode cX11_taken 61 = .ok (.iconst 2, 1) := by decide +kernel
theorem dX11_taken_62 : decode cX11_taken 62 = .ok (.goto 4, 3) := by decide +kernel
theorem dX11_taken_65 : decode cX11_taken 65 = .ok (.iconst 0, 1) := by decide +kernel
theorem dX11_taken_66 : decode cX11_taken 66 = .ok (.ireturn, 1) := by decide +kernel
theorem dX11_records_0 : decode cX11_records 0 = .ok (.aload_n 0, 1) := by decide +kernel
theorem dX11_records_1 : decode cX11_records 1 = .ok (.getfield 278, 3) := by decide +kernel
theorem dX11_records_4 : decode cX11_records 4 = .ok (.bipush 40, 2) := by decide +kernel
theorem dX11_records_6 : decode cX11_records 6 = .ok (.if_icmp .ne 43, 3) := by decide +kernel
theorem dX11_records_9 : decode cX11_records 9 = .ok (.iconst 0, 1) := by decide +kernel
theorem dX11_records_10 : decode cX11_records 10 = .ok (.istore_n 1, 1) := by decide +kernel
theorem dX11_records_11 : decode cX11_records 11 = .ok (.iload_n 1, 1) := by decide +kernel
theorem dX11_records_12 : decode cX11_records 12 = .ok (.sipush 1014, 3) := by decide +kernel
theorem dX11_records_15 : decode cX11_records 15 = .ok (.if_icmp .ge 24, 3) := by decide +kernel
theorem dX11_records_18 : decode cX11_records 18 = .ok (.aload_n 0, 1) := by decide +kernel
theorem dX11_records_19 : decode cX11_records 19 = .ok (.getfield 146, 3) := by decide +kernel
theorem dX11_records_22 : decode cX11_records 22 = .ok (.iload_n 1, 1) := by decide +kernel
theorem dX11_records_23 : decode cX11_records 23 = .ok (.aload_n 0, 1) := by decide +kernel
theorem dX11_records_24 : decode cX11_records 24 = .ok (.getfield 146, 3) := by decide +kernel
theorem dX11_records_27 : decode cX11_records 27 = .ok (.iload_n 1, 1) := by decide +kernel
theorem dX11_records_28 : decode cX11_records 28 = .ok (.bipush 26, 2) := by decide +kernel
theorem dX11_records_30 : decode cX11_records 30 = .ok (.iadd, 1) := by decide +kernel
theorem dX11_records_31 : decode cX11_records 31 = .ok (.iaload, 1) := by decide +kernel
theorem dX11_records_32 : decode cX11_records 32 = .ok (.iastore, 1) := by decide +kernel
