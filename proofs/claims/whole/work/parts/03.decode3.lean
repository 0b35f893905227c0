theorem dX8_readStatement_9 : decode cX8_readStatement 9 = .ok (.istore_n 2, 1) := by decide +kernel
theorem dX8_readStatement_10 : decode cX8_readStatement 10 = .ok (.iconst 3, 1) := by decide +kernel
theorem dX8_readStatement_11 : decode cX8_readStatement 11 = .ok (.iload_n 1, 1) := by decide +kernel
theorem dX8_readStatement_12 : decode cX8_readStatement 12 = .ok (.imul, 1) := by decide +kernel
theorem dX8_readStatement_13 : decode cX8_readStatement 13 = .ok (.istore_n 3, 1) := by decide +kernel
theorem dX8_readStatement_14 : decode cX8_readStatement 14 = .ok (.aload_n 0, 1) := by decide +kernel
theorem dX8_readStatement_15 : decode cX8_readStatement 15 = .ok (.getfield 41, 3) := by decide +kernel
theorem dX8_readStatement_18 : decode cX8_readStatement 18 = .ok (.iload_n 1, 1) := by decide +kernel
theorem dX8_readStatement_19 : decode cX8_readStatement 19 = .ok (.aload_n 0, 1) := by decide +kernel
theorem dX8_readStatement_20 : decode cX8_readStatement 20 = .ok (.getfield 170, 3) := by decide +kernel
theorem dX8_readStatement_23 : decode cX8_readStatement 23 = .ok (.iastore, 1) := by decide +kernel
theorem dX8_readStatement_24 : decode cX8_readStatement 24 = .ok (.aload_n 0, 1) := by decide +kernel
theorem dX8_readStatement_25 : decode cX8_readStatement 25 = .ok (.getfield 44, 3) := by decide +kernel
theorem dX8_readStatement_28 : decode cX8_readStatement 28 = .ok (.iload_n 1, 1) := by decide +kernel
theorem dX8_readStatement_29 : decode cX8_readStatement 29 = .ok (.iload_n 2, 1) := by decide +kernel
theorem dX8_readStatement_30 : decode cX8_readStatement 30 = .ok (.iastore, 1) := by decide +kernel
theorem dX8_readStatement_31 : decode cX8_readStatement 31 = .ok (.aload_n 0, 1) := by decide +kernel
theorem dX8_readStatement_32 : decode cX8_readStatement 32 = .ok (.aload_n 0, 1) := by decide +kernel
theorem dX8_readStatement_33 : decode cX8_readStatement 33 = .ok (.getfield 173, 3) := by decide +kernel
theorem dX8_readStatement_36 : decode cX8_readStatement 36 = .ok (.ifCond .ne 10, 3) := by decide +kernel
theorem dX8_readStatement_39 : decode cX8_readStatement 39 = .ok (.iload_n 2, 1) := by decide +kernel
theorem dX8_readStatement_40 : decode cX8_readStatement 40 = .ok (.invokestatic 187, 3) := by decide +kernel
theorem dX8_readStatement_43 : decode cX8_readStatement 43 = .ok (.ifCond .ne 7, 3) := by decide +kernel
theorem dX8_readStatement_46 : decode cX8_readStatement 46 = .ok (.iconst 1, 1) := by decide +kernel
theorem dX8_readStatement_47 : decode cX8_readStatement 47 = .ok (.goto 4, 3) := by decide +kernel
theorem dX8_readStatement_50 : decode cX8_readStatement 50 = .ok (.iconst 0, 1) := by decide +kernel
theorem dX8_readStatement_51 : decode cX8_readStatement 51 = .ok (.putfield 173, 3) := by decide +kernel
theorem dX8_readStatement_54 : decode cX8_readStatement 54 = .ok (.aload_n 0, 1) := by decide +kernel
theorem dX8_readStatement_55 : decode cX8_readStatement 55 = .ok (.dup, 1) := by decide +kernel
theorem dX8_readStatement_56 : decode cX8_readStatement 56 = .ok (.getfield 170, 3) := by decide +kernel
theorem dX8_readStatement_59 : decode cX8_readStatement 59 = .ok (.aload_n 0, 1) := by decide +kernel
theorem dX8_readStatement_60 : decode cX8_readStatement 60 = .ok (.getfield 173, 3) := by decide +kernel
theorem dX8_readStatement_63 : decode cX8_readStatement 63 = .ok (.ifCond .eq 7, 3) := by decide +kernel
theorem dX8_readStatement_66 : decode cX8_readStatement 66 = .ok (.iconst 0, 1) := by decide +kernel
theorem dX8_readStatement_67 : decode cX8_readStatement 67 = .ok (.goto 4, 3) := by decide +kernel
theorem dX8_readStatement_70 : decode cX8_readStatement 70 = .ok (.iconst 1, 1) := by decide +kernel
theorem dX8_readStatement_71 : decode cX8_readStatement 71 = .ok (.iadd, 1) := by decide +kernel
theorem dX8_readStatement_72 : decode cX8_readStatement 72 = .ok (.putfield 170, 3) := by decide +kernel
theorem dX8_readStatement_75 : decode cX8_readStatement 75 = .ok (.iload_n 2, 1) := by decide +kernel
theorem dX8_readStatement_76 : decode cX8_readStatement 76 = .ok (.bipush 99, 2) := by decide +kernel
theorem dX8_readStatement_78 : decode cX8_readStatement 78 = .ok (.if_icmp .ne 43, 3) := by decide +kernel
theorem dX8_readStatement_81 : decode cX8_readStatement 81 = .ok (.aload_n 0, 1) := by decide +kernel
theorem dX8_readStatement_82 : decode cX8_readStatement 82 = .ok (.getfield 47, 3) := by decide +kernel
theorem dX8_readStatement_85 : decode cX8_readStatement 85 = .ok (.iload_n 3, 1) := by decide +kernel
theorem dX8_readStatement_86 : decode cX8_readStatement 86 = .ok (.aload_n 0, 1) := by decide +kernel
theorem dX8_readStatement_87 : decode cX8_readStatement 87 = .ok (.iconst 1, 1) := by decide +kernel
theorem dX8_readStatement_88 : decode cX8_readStatement 88 = .ok (.invokevirtual 190, 3) := by decide +kernel
theorem dX8_readStatement_91 : decode cX8_readStatement 91 = .ok (.iastore, 1) := by decide +kernel
theorem dX8_readStatement_92 : decode cX8_readStatement 92 = .ok (.aload_n 0, 1) := by decide +kernel
theorem dX8_readStatement_93 : decode cX8_readStatement 93 = .ok (.getfield 47, 3) := by decide +kernel
theorem dX8_readStatement_96 : decode cX8_readStatement 96 = .ok (.iload_n 3, 1) := by decide +kernel
theorem dX8_readStatement_97 : decode cX8_readStatement 97 = .ok (.iconst 1, 1) := by decide +kernel
theorem dX8_readStatement_98 : decode cX8_readStatement 98 = .ok (.iadd, 1) := by decide +kernel
theorem dX8_readStatement_99 : decode cX8_readStatement 99 = .ok (.aload_n 0, 1) := by decide +kernel
theorem dX8_readStatement_100 : decode cX8_readStatement 100 = .ok (.iconst 1, 1) := by decide +kernel
theorem dX8_readStatement_101 : decode cX8_readStatement 101 = .ok (.invokevirtual 190, 3) := by decide +kernel
theorem dX8_readStatement_104 : decode cX8_readStatement 104 = .ok (.iastore, 1) := by decide +kernel
theorem dX8_readStatement_105 : decode cX8_readStatement 105 = .ok (.aload_n 0, 1) := by decide +kernel
theorem dX8_readStatement_106 : decode cX8_readStatement 106 = .ok (.getfield 47, 3) := by decide +kernel
theorem dX8_readStatement_109 : decode cX8_readStatement 109 = .ok (.iload_n 3, 1) := by decide +kernel
theorem dX8_readStatement_110 : decode cX8_readStatement 110 = .ok (.iconst 2, 1) := by decide +kernel
theorem dX8_readStatement_111 : decode cX8_readStatement 111 = .ok (.iadd, 1) := by decide +kernel
theorem dX8_readStatement_112 : decode cX8_readStatement 112 = .ok (.aload_n 0, 1) := by decide +kernel
theorem dX8_readStatement_113 : decode cX8_readStatement 113 = .ok (.iconst 2, 1) := by decide +kernel
theorem dX8_readStatement_114 : decode cX8_readStatement 114 = .ok (.invokevirtual 190, 3) := by decide +kernel
theorem dX8_readStatement_117 : decode cX8_readStatement 117 = .ok (.iastore, 1) := by decide +kernel
theorem dX8_readStatement_118 : decode cX8_readStatement 118 = .ok (.goto 133, 3) := by decide +kernel
theorem dX8_readStatement_121 : decode cX8_readStatement 121 = .ok (.iload_n 2, 1) := by decide +kernel
theorem dX8_readStatement_122 : decode cX8_readStatement 122 = .ok (.bipush 112, 2) := by decide +kernel
theorem dX8_readStatement_124 : decode cX8_readStatement 124 = .ok (.if_icmp .ne 100, 3) := by decide +kernel
theorem dX8_readStatement_127 : decode cX8_readStatement 127 = .ok (.aload_n 0, 1) := by decide +kernel
theorem dX8_readStatement_128 : decode cX8_readStatement 128 = .ok (.getfield 47, 3) := by decide +kernel
theorem dX8_readStatement_131 : decode cX8_readStatement 131 = .ok (.iload_n 3, 1) := by decide +kernel
theorem dX8_readStatement_132 : decode cX8_readStatement 132 = .ok (.aload_n 0, 1) := by decide +kernel
theorem dX8_readStatement_133 : decode cX8_readStatement 133 = .ok (.iconst 1, 1) := by decide +kernel
theorem dX8_readStatement_134 : decode cX8_readStatement 134 = .ok (.invokevirtual 190, 3) := by decide +kernel
theorem dX8_readStatement_137 : decode cX8_readStatement 137 = .ok (.iastore, 1) := by decide +kernel
theorem dX8_readStatement_138 : decode cX8_readStatement 138 = .ok (.aload_n 0, 1) := by decide +kernel
theorem dX8_readStatement_139 : decode cX8_readStatement 139 = .ok (.invokevirtual 177, 3) := by decide +kernel
theorem dX8_readStatement_142 : decode cX8_readStatement 142 = .ok (.istore 4, 2) := by decide +kernel
theorem dX8_readStatement_144 : decode cX8_readStatement 144 = .ok (.aload_n 0, 1) := by decide +kernel
theorem dX8_readStatement_145 : decode cX8_readStatement 145 = .ok (.aload_n 0, 1) := by decide +kernel
theorem dX8_readStatement_146 : decode cX8_readStatement 146 = .ok (.getfield 173, 3) := by decide +kernel
theorem dX8_readStatement_149 : decode cX8_readStatement 149 = .ok (.ifCond .ne 17, 3) := by decide +kernel
theorem dX8_readStatement_152 : decode cX8_readStatement 152 = .ok (.iload 4, 2) := by decide +kernel
theorem dX8_readStatement_154 : decode cX8_readStatement 154 = .ok (.bipush 43, 2) := by decide +kernel
theorem dX8_readStatement_156 : decode cX8_readStatement 156 = .ok (.if_icmp .eq 14, 3) := by decide +kernel
theorem dX8_readStatement_159 : decode cX8_readStatement 159 = .ok (.iload 4, 2) := by decide +kernel
theorem dX8_readStatement_161 : decode cX8_readStatement 161 = .ok (.bipush 45, 2) := by decide +kernel
theorem dX8_readStatement_163 : decode cX8_readStatement 163 = .ok (.if_icmp .eq 7, 3) := by decide +kernel
theorem dX8_readStatement_166 : decode cX8_readStatement 166 = .ok (.iconst 1, 1) := by decide +kernel
theorem dX8_readStatement_167 : decode cX8_readStatement 167 = .ok (.goto 4, 3) := by decide +kernel
theorem dX8_readStatement_170 : decode cX8_readStatement 170 = .ok (.iconst 0, 1) := by decide +kernel
theorem dX8_readStatement_171 : decode cX8_readStatement 171 = .ok (.putfield 173, 3) := by decide +kernel
theorem dX8_readStatement_174 : decode cX8_readStatement 174 = .ok (.aload_n 0, 1) := by decide +kernel
theorem dX8_readStatement_175 : decode cX8_readStatement 175 = .ok (.dup, 1) := by decide +kernel
theorem dX8_readStatement_176 : decode cX8_readStatement 176 = .ok (.getfield 170, 3) := by decide +kernel
theorem dX8_readStatement_179 : decode cX8_readStatement 179 = .ok (.aload_n 0, 1) := by decide +kernel
theorem dX8_readStatement_180 : decode cX8_readStatement 180 = .ok (.getfield 173, 3) := by decide +kernel
theorem dX8_readStatement_183 : decode cX8_readStatement 183 = .ok (.ifCond .eq 7, 3) := by decide +kernel
theorem dX8_readStatement_186 : decode cX8_readStatement 186 = .ok (.iconst 0, 1) := by decide +kernel
theorem dX8_readStatement_187 : decode cX8_readStatement 187 = .ok (.goto 4, 3) := by decide +kernel
theorem dX8_readStatement_190 : decode cX8_readStatement 190 = .ok (.iconst 1, 1) := by decide +kernel
theorem dX8_readStatement_191 : decode cX8_readStatement 191 = .ok (.iadd, 1) := by decide +kernel
theorem dX8_readStatement_192 : decode cX8_readStatement 192 = .ok (.putfield 170, 3) := by decide +kernel
theorem dX8_readStatement_195 : decode cX8_readStatement 195 = .ok (.aload_n 0, 1) := by decide +kernel
theorem dX8_readStatement_196 : decode cX8_readStatement 196 = .ok (.getfield 47, 3) := by decide +kernel
theorem dX8_readStatement_199 : decode cX8_readStatement 199 = .ok (.iload_n 3, 1) := by decide +kernel
theorem dX8_readStatement_200 : decode cX8_readStatement 200 = .ok (.iconst 1, 1) := by decide +kernel
theorem dX8_readStatement_201 : decode cX8_readStatement 201 = .ok (.iadd, 1) := by decide +kernel
theorem dX8_readStatement_202 : decode cX8_readStatement 202 = .ok (.aload_n 0, 1) := by decide +kernel
theorem dX8_readStatement_203 : decode cX8_readStatement 203 = .ok (.iconst 1, 1) := by decide +kernel
theorem dX8_readStatement_204 : decode cX8_readStatement 204 = .ok (.invokevirtual 190, 3) := by decide +kernel
theorem dX8_readStatement_207 : decode cX8_readStatement 207 = .ok (.iload 4, 2) := by decide +kernel
theorem dX8_readStatement_209 : decode cX8_readStatement 209 = .ok (.bipush 45, 2) := by decide +kernel
theorem dX8_readStatement_211 : decode cX8_readStatement 211 = .ok (.if_icmp .ne 7, 3) := by decide +kernel
theorem dX8_readStatement_214 : decode cX8_readStatement 214 = .ok (.iconst (-1), 1) := by decide +kernel
theorem dX8_readStatement_215 : decode cX8_readStatement 215 = .ok (.goto 4, 3) := by decide +kernel
theorem dX8_readStatement_218 : decode cX8_readStatement 218 = .ok (.iconst 1, 1) := by decide +kernel
theorem dX8_readStatement_219 : decode cX8_readStatement 219 = .ok (.imul, 1) := by decide +kernel
theorem dX8_readStatement_220 : decode cX8_readStatement 220 = .ok (.iastore, 1) := by decide +kernel
theorem dX8_readStatement_221 : decode cX8_readStatement 221 = .ok (.goto 30, 3) := by decide +kernel
theorem dX8_readStatement_224 : decode cX8_readStatement 224 = .ok (.iload_n 2, 1) := by decide +kernel
theorem dX8_readStatement_225 : decode cX8_readStatement 225 = .ok (.bipush 117, 2) := by decide +kernel
theorem dX8_readStatement_227 : decode cX8_readStatement 227 = .ok (.if_icmp .eq 24, 3) := by decide +kernel
theorem dX8_readStatement_230 : decode cX8_readStatement 230 = .ok (.aload_n 0, 1) := by decide +kernel
theorem dX8_readStatement_231 : decode cX8_readStatement 231 = .ok (.getfield 47, 3) := by decide +kernel
theorem dX8_readStatement_234 : decode cX8_readStatement 234 = .ok (.iload_n 3, 1) := by decide +kernel
theorem dX8_readStatement_235 : decode cX8_readStatement 235 = .ok (.aload_n 0, 1) := by decide +kernel
theorem dX8_readStatement_236 : decode cX8_readStatement 236 = .ok (.iload_n 2, 1) := by decide +kernel
theorem dX8_readStatement_237 : decode cX8_readStatement 237 = .ok (.bipush 115, 2) := by decide +kernel
theorem dX8_readStatement_239 : decode cX8_readStatement 239 = .ok (.if_icmp .ne 7, 3) := by decide +kernel
theorem dX8_readStatement_242 : decode cX8_readStatement 242 = .ok (.iconst 3, 1) := by decide +kernel
theorem dX8_readStatement_243 : decode cX8_readStatement 243 = .ok (.goto 4, 3) := by decide +kernel
theorem dX8_readStatement_246 : decode cX8_readStatement 246 = .ok (.iconst 1, 1) := by decide +kernel
theorem dX8_readStatement_247 : decode cX8_readStatement 247 = .ok (.invokevirtual 190, 3) := by decide +kernel
theorem dX8_readStatement_250 : decode cX8_readStatement 250 = .ok (.iastore, 1) := by decide +kernel
theorem dX8_readStatement_251 : decode cX8_readStatement 251 = .ok (.aload_n 0, 1) := by decide +kernel
theorem dX8_readStatement_252 : decode cX8_readStatement 252 = .ok (.aload_n 0, 1) := by decide +kernel
theorem dX8_readStatement_253 : decode cX8_readStatement 253 = .ok (.getfield 173, 3) := by decide +kernel
theorem dX8_readStatement_256 : decode cX8_readStatement 256 = .ok (.ifCond .ne 12, 3) := by decide +kernel
theorem dX8_readStatement_259 : decode cX8_readStatement 259 = .ok (.aload_n 0, 1) := by decide +kernel
theorem dX8_readStatement_260 : decode cX8_readStatement 260 = .ok (.invokevirtual 177, 3) := by decide +kernel
theorem dX8_readStatement_263 : decode cX8_readStatement 263 = .ok (.bipush 59, 2) := by decide +kernel
theorem dX8_readStatement_265 : decode cX8_readStatement 265 = .ok (.if_icmp .eq 7, 3) := by decide +kernel
theorem dX8_readStatement_268 : decode cX8_readStatement 268 = .ok (.iconst 1, 1) := by decide +kernel
theorem dX8_readStatement_269 : decode cX8_readStatement 269 = .ok (.goto 4, 3) := by decide +kernel
theorem dX8_readStatement_272 : decode cX8_readStatement 272 = .ok (.iconst 0, 1) := by decide +kernel
theorem dX8_readStatement_273 : decode cX8_readStatement 273 = .ok (.putfield 173, 3) := by decide +kernel
theorem dX8_readStatement_276 : decode cX8_readStatement 276 = .ok (.aload_n 0, 1) := by decide +kernel
theorem dX8_readStatement_277 : decode cX8_readStatement 277 = .ok (.dup, 1) := by decide +kernel
theorem dX8_readStatement_278 : decode cX8_readStatement 278 = .ok (.getfield 170, 3) := by decide +kernel
theorem dX8_readStatement_281 : decode cX8_readStatement 281 = .ok (.aload_n 0, 1) := by decide +kernel
theorem dX8_readStatement_282 : decode cX8_readStatement 282 = .ok (.getfield 173, 3) := by decide +kernel
theorem dX8_readStatement_285 : decode cX8_readStatement 285 = .ok (.ifCond .eq 7, 3) := by decide +kernel
theorem dX8_readStatement_288 : decode cX8_readStatement 288 = .ok (.iconst 0, 1) := by decide +kernel
theorem dX8_readStatement_289 : decode cX8_readStatement 289 = .ok (.goto 4, 3) := by decide +kernel
theorem dX8_readStatement_292 : decode cX8_readStatement 292 = .ok (.iconst 1, 1) := by decide +kernel
theorem dX8_readStatement_293 : decode cX8_readStatement 293 = .ok (.iadd, 1) := by decide +kernel
theorem dX8_readStatement_294 : decode cX8_readStatement 294 = .ok (.putfield 170, 3) := by decide +kernel
theorem dX8_readStatement_297 : decode cX8_readStatement 297 = .ok (.aload_n 0, 1) := by decide +kernel
theorem dX8_readStatement_298 : decode cX8_readStatement 298 = .ok (.dup, 1) := by decide +kernel
theorem dX8_readStatement_299 : decode cX8_readStatement 299 = .ok (.getfield 184, 3) := by decide +kernel
theorem dX8_readStatement_302 : decode cX8_readStatement 302 = .ok (.iconst 1, 1) := by decide +kernel
theorem dX8_readStatement_303 : decode cX8_readStatement 303 = .ok (.iadd, 1) := by decide +kernel
theorem dX8_readStatement_304 : decode cX8_readStatement 304 = .ok (.putfield 184, 3) := by decide +kernel
theorem dX8_readStatement_307 : decode cX8_readStatement 307 = .ok (.return_, 1) := by decide +kernel
theorem dX8_courtComes_0 : decode cX8_courtComes 0 = .ok (.aload_n 0, 1) := by decide +kernel
theorem dX8_courtComes_1 : decode cX8_courtComes 1 = .ok (.getfield 7, 3) := by decide +kernel
theorem dX8_courtComes_4 : decode cX8_courtComes 4 = .ok (.aload_n 0, 1) := by decide +kernel
theorem dX8_courtComes_5 : decode cX8_courtComes 5 = .ok (.getfield 108, 3) := by decide +kernel
theorem dX8_courtComes_8 : decode cX8_courtComes 8 = .ok (.iload_n 1, 1) := by decide +kernel
theorem dX8_courtComes_9 : decode cX8_courtComes 9 = .ok (.iastore, 1) := by decide +kernel
theorem dX8_courtComes_10 : decode cX8_courtComes 10 = .ok (.aload_n 0, 1) := by decide +kernel
theorem dX8_courtComes_11 : decode cX8_courtComes 11 = .ok (.getfield 13, 3) := by decide +kernel
theorem dX8_courtComes_14 : decode cX8_courtComes 14 = .ok (.aload_n 0, 1) := by decide +kernel
theorem dX8_courtComes_15 : decode cX8_courtComes 15 = .ok (.getfield 108, 3) := by decide +kernel
theorem dX8_courtComes_18 : decode cX8_courtComes 18 = .ok (.iload_n 2, 1) := by decide +kernel
theorem dX8_courtComes_19 : decode cX8_courtComes 19 = .ok (.iastore, 1) := by decide +kernel
theorem dX8_courtComes_20 : decode cX8_courtComes 20 = .ok (.aload_n 0, 1) := by decide +kernel
theorem dX8_courtComes_21 : decode cX8_courtComes 21 = .ok (.getfield 16, 3) := by decide +kernel
theorem dX8_courtComes_24 : decode cX8_courtComes 24 = .ok (.aload_n 0, 1) := by decide +kernel
theorem dX8_courtComes_25 : decode cX8_courtComes 25 = .ok (.getfield 108, 3) := by decide +kernel
theorem dX8_courtComes_28 : decode cX8_courtComes 28 = .ok (.iload_n 3, 1) := by decide +kernel
theorem dX8_courtComes_29 : decode cX8_courtComes 29 = .ok (.iastore, 1) := by decide +kernel
theorem dX8_courtComes_30 : decode cX8_courtComes 30 = .ok (.aload_n 0, 1) := by decide +kernel
theorem dX8_courtComes_31 : decode cX8_courtComes 31 = .ok (.dup, 1) := by decide +kernel
theorem dX8_courtComes_32 : decode cX8_courtComes 32 = .ok (.getfield 108, 3) := by decide +kernel
theorem dX8_courtComes_35 : decode cX8_courtComes 35 = .ok (.iconst 1, 1) := by decide +kernel
theorem dX8_courtComes_36 : decode cX8_courtComes 36 = .ok (.iadd, 1) := by decide +kernel
theorem dX8_courtComes_37 : decode cX8_courtComes 37 = .ok (.putfield 108, 3) := by decide +kernel
theorem dX8_courtComes_40 : decode cX8_courtComes 40 = .ok (.return_, 1) := by decide +kernel
theorem dX8_setMany_0 : decode cX8_setMany 0 = .ok (.aload_n 0, 1) := by decide +kernel
theorem dX8_setMany_1 : decode cX8_setMany 1 = .ok (.iload_n 1, 1) := by decide +kernel
theorem dX8_setMany_2 : decode cX8_setMany 2 = .ok (.putfield 19, 3) := by decide +kernel
theorem dX8_setMany_5 : decode cX8_setMany 5 = .ok (.iload_n 1, 1) := by decide +kernel
theorem dX8_setMany_6 : decode cX8_setMany 6 = .ok (.istore_n 2, 1) := by decide +kernel
theorem dX8_setMany_7 : decode cX8_setMany 7 = .ok (.iload_n 2, 1) := by decide +kernel
theorem dX8_setMany_8 : decode cX8_setMany 8 = .ok (.bipush 8, 2) := by decide +kernel
theorem dX8_setMany_10 : decode cX8_setMany 10 = .ok (.if_icmp .ge 16, 3) := by decide +kernel
theorem dX8_setMany_13 : decode cX8_setMany 13 = .ok (.aload_n 0, 1) := by decide +kernel
theorem dX8_setMany_14 : decode cX8_setMany 14 = .ok (.getfield 23, 3) := by decide +kernel
theorem dX8_setMany_17 : decode cX8_setMany 17 = .ok (.iload_n 2, 1) := by decide +kernel
theorem dX8_setMany_18 : decode cX8_setMany 18 = .ok (.iconst 0, 1) := by decide +kernel
theorem dX8_setMany_19 : decode cX8_setMany 19 = .ok (.iastore, 1) := by decide +kernel
theorem dX8_setMany_20 : decode cX8_setMany 20 = .ok (.iinc 2 1, 3) := by decide +kernel
theorem dX8_setMany_23 : decode cX8_setMany 23 = .ok (.goto (-16), 3) := by decide +kernel
theorem dX8_setMany_26 : decode cX8_setMany 26 = .ok (.return_, 1) := by decide +kernel
theorem dX8_comes_0 : decode cX8_comes 0 = .ok (.iconst 3, 1) := by decide +kernel
theorem dX8_comes_1 : decode cX8_comes 1 = .ok (.iload_n 1, 1) := by decide +kernel
theorem dX8_comes_2 : decode cX8_comes 2 = .ok (.imul, 1) := by decide +kernel
theorem dX8_comes_3 : decode cX8_comes 3 = .ok (.istore_n 2, 1) := by decide +kernel
theorem dX8_comes_4 : decode cX8_comes 4 = .ok (.aload_n 0, 1) := by decide +kernel
theorem dX8_comes_5 : decode cX8_comes 5 = .ok (.getfield 47, 3) := by decide +kernel
theorem dX8_comes_8 : decode cX8_comes 8 = .ok (.iload_n 2, 1) := by decide +kernel
theorem dX8_comes_9 : decode cX8_comes 9 = .ok (.iaload, 1) := by decide +kernel
theorem dX8_comes_10 : decode cX8_comes 10 = .ok (.istore_n 3, 1) := by decide +kernel
theorem dX8_comes_11 : decode cX8_comes 11 = .ok (.iconst 1, 1) := by decide +kernel
theorem dX8_comes_12 : decode cX8_comes 12 = .ok (.istore 4, 2) := by decide +kernel
theorem dX8_comes_14 : decode cX8_comes 14 = .ok (.aload_n 0, 1) := by decide +kernel
theorem dX8_comes_15 : decode cX8_comes 15 = .ok (.getfield 44, 3) := by decide +kernel
theorem dX8_comes_18 : decode cX8_comes 18 = .ok (.iload_n 1, 1) := by decide +kernel
theorem dX8_comes_19 : decode cX8_comes 19 = .ok (.iaload, 1) := by decide +kernel
theorem dX8_comes_20 : decode cX8_comes 20 = .ok (.lookupswitch 188 #[(99, 52), (108, 171), (110, 103), (112, 127), (115, 164)], 52) := by decide +kernel
theorem dX8_comes_72 : decode cX8_comes 72 = .ok (.iload_n 3, 1) := by decide +kernel
theorem dX8_comes_73 : decode cX8_comes 73 = .ok (.bipush 6, 2) := by decide +kernel
theorem dX8_comes_75 : decode cX8_comes 75 = .ok (.if_icmp .ge 16, 3) := by decide +kernel
theorem dX8_comes_78 : decode cX8_comes 78 = .ok (.aload_n 0, 1) := by decide +kernel
theorem dX8_comes_79 : decode cX8_comes 79 = .ok (.getfield 108, 3) := by decide +kernel
theorem dX8_comes_82 : decode cX8_comes 82 = .ok (.bipush 7, 2) := by decide +kernel
theorem dX8_comes_84 : decode cX8_comes 84 = .ok (.if_icmp .ge 7, 3) := by decide +kernel
theorem dX8_comes_87 : decode cX8_comes 87 = .ok (.iconst 1, 1) := by decide +kernel
theorem dX8_comes_88 : decode cX8_comes 88 = .ok (.goto 4, 3) := by decide +kernel
theorem dX8_comes_91 : decode cX8_comes 91 = .ok (.iconst 0, 1) := by decide +kernel
theorem dX8_comes_92 : decode cX8_comes 92 = .ok (.istore 4, 2) := by decide +kernel
theorem dX8_comes_94 : decode cX8_comes 94 = .ok (.iload 4, 2) := by decide +kernel
theorem dX8_comes_96 : decode cX8_comes 96 = .ok (.ifCond .eq 24, 3) := by decide +kernel
theorem dX8_comes_99 : decode cX8_comes 99 = .ok (.aload_n 0, 1) := by decide +kernel
theorem dX8_comes_100 : decode cX8_comes 100 = .ok (.iload_n 3, 1) := by decide +kernel
theorem dX8_comes_101 : decode cX8_comes 101 = .ok (.aload_n 0, 1) := by decide +kernel
theorem dX8_comes_102 : decode cX8_comes 102 = .ok (.getfield 47, 3) := by decide +kernel
theorem dX8_comes_105 : decode cX8_comes 105 = .ok (.iload_n 2, 1) := by decide +kernel
theorem dX8_comes_106 : decode cX8_comes 106 = .ok (.iconst 1, 1) := by decide +kernel
theorem dX8_comes_107 : decode cX8_comes 107 = .ok (.iadd, 1) := by decide +kernel
theorem dX8_comes_108 : decode cX8_comes 108 = .ok (.iaload, 1) := by decide +kernel
theorem dX8_comes_109 : decode cX8_comes 109 = .ok (.aload_n 0, 1) := by decide +kernel
theorem dX8_comes_110 : decode cX8_comes 110 = .ok (.getfield 47, 3) := by decide +kernel
theorem dX8_comes_113 : decode cX8_comes 113 = .ok (.iload_n 2, 1) := by decide +kernel
theorem dX8_comes_114 : decode cX8_comes 114 = .ok (.iconst 2, 1) := by decide +kernel
theorem dX8_comes_115 : decode cX8_comes 115 = .ok (.iadd, 1) := by decide +kernel
theorem dX8_comes_116 : decode cX8_comes 116 = .ok (.iaload, 1) := by decide +kernel
theorem dX8_comes_117 : decode cX8_comes 117 = .ok (.invokevirtual 193, 3) := by decide +kernel
theorem dX8_comes_120 : decode cX8_comes 120 = .ok (.iload 4, 2) := by decide +kernel
theorem dX8_comes_122 : decode cX8_comes 122 = .ok (.ireturn, 1) := by decide +kernel
theorem dX8_comes_123 : decode cX8_comes 123 = .ok (.iload_n 3, 1) := by decide +kernel
theorem dX8_comes_124 : decode cX8_comes 124 = .ok (.i2l, 1) := by decide +kernel
theorem dX8_comes_125 : decode cX8_comes 125 = .ok (.lconst 1, 1) := by decide +kernel
theorem dX8_comes_126 : decode cX8_comes 126 = .ok (.ldc2_w 197, 3) := by decide +kernel
theorem dX8_comes_129 : decode cX8_comes 129 = .ok (.invokestatic 111, 3) := by decide +kernel
theorem dX8_comes_132 : decode cX8_comes 132 = .ok (.istore 4, 2) := by decide +kernel
theorem dX8_comes_134 : decode cX8_comes 134 = .ok (.iload 4, 2) := by decide +kernel
theorem dX8_comes_136 : decode cX8_comes 136 = .ok (.ifCond .eq 8, 3) := by decide +kernel
theorem dX8_comes_139 : decode cX8_comes 139 = .ok (.aload_n 0, 1) := by decide +kernel
theorem dX8_comes_140 : decode cX8_comes 140 = .ok (.iload_n 3, 1) := by decide +kernel
theorem dX8_comes_141 : decode cX8_comes 141 = .ok (.invokevirtual 199, 3) := by decide +kernel
theorem dX8_comes_144 : decode cX8_comes 144 = .ok (.iload 4, 2) := by decide +kernel
theorem dX8_comes_146 : decode cX8_comes 146 = .ok (.ireturn, 1) := by decide +kernel
theorem dX8_comes_147 : decode cX8_comes 147 = .ok (.iload_n 3, 1) := by decide +kernel
theorem dX8_comes_148 : decode cX8_comes 148 = .ok (.aload_n 0, 1) := by decide +kernel
theorem dX8_comes_149 : decode cX8_comes 149 = .ok (.getfield 19, 3) := by decide +kernel
theorem dX8_comes_152 : decode cX8_comes 152 = .ok (.if_icmp .ge 7, 3) := by decide +kernel
theorem dX8_comes_155 : decode cX8_comes 155 = .ok (.iconst 1, 1) := by decide +kernel
theorem dX8_comes_156 : decode cX8_comes 156 = .ok (.goto 4, 3) := by decide +kernel
theorem dX8_comes_159 : decode cX8_comes 159 = .ok (.iconst 0, 1) := by decide +kernel
theorem dX8_comes_160 : decode cX8_comes 160 = .ok (.istore 4, 2) := by decide +kernel
theorem dX8_comes_162 : decode cX8_comes 162 = .ok (.iload 4, 2) := by decide +kernel
theorem dX8_comes_164 : decode cX8_comes 164 = .ok (.ifCond .eq 17, 3) := by decide +kernel
theorem dX8_comes_167 : decode cX8_comes 167 = .ok (.aload_n 0, 1) := by decide +kernel
theorem dX8_comes_168 : decode cX8_comes 168 = .ok (.getfield 23, 3) := by decide +kernel
theorem dX8_comes_171 : decode cX8_comes 171 = .ok (.iload_n 3, 1) := by decide +kernel
theorem dX8_comes_172 : decode cX8_comes 172 = .ok (.aload_n 0, 1) := by decide +kernel
theorem dX8_comes_173 : decode cX8_comes 173 = .ok (.getfield 47, 3) := by decide +kernel
theorem dX8_comes_176 : decode cX8_comes 176 = .ok (.iload_n 2, 1) := by decide +kernel
theorem dX8_comes_177 : decode cX8_comes 177 = .ok (.iconst 1, 1) := by decide +kernel
theorem dX8_comes_178 : decode cX8_comes 178 = .ok (.iadd, 1) := by decide +kernel
theorem dX8_comes_179 : decode cX8_comes 179 = .ok (.iaload, 1) := by decide +kernel
theorem dX8_comes_180 : decode cX8_comes 180 = .ok (.iastore, 1) := by decide +kernel
theorem dX8_comes_181 : decode cX8_comes 181 = .ok (.iload 4, 2) := by decide +kernel
theorem dX8_comes_183 : decode cX8_comes 183 = .ok (.ireturn, 1) := by decide +kernel
theorem dX8_comes_184 : decode cX8_comes 184 = .ok (.aload_n 0, 1) := by decide +kernel
theorem dX8_comes_185 : decode cX8_comes 185 = .ok (.iload_n 3, 1) := by decide +kernel
theorem dX8_comes_186 : decode cX8_comes 186 = .ok (.putfield 26, 3) := by decide +kernel
theorem dX8_comes_189 : decode cX8_comes 189 = .ok (.iconst 1, 1) := by decide +kernel
theorem dX8_comes_190 : decode cX8_comes 190 = .ok (.ireturn, 1) := by decide +kernel
theorem dX8_comes_191 : decode cX8_comes 191 = .ok (.aload_n 0, 1) := by decide +kernel
theorem dX8_comes_192 : decode cX8_comes 192 = .ok (.iload_n 3, 1) := by decide +kernel
theorem dX8_comes_193 : decode cX8_comes 193 = .ok (.putfield 29, 3) := by decide +kernel
theorem dX8_comes_196 : decode cX8_comes 196 = .ok (.iload_n 3, 1) := by decide +kernel
theorem dX8_comes_197 : decode cX8_comes 197 = .ok (.bipush 9, 2) := by decide +kernel
theorem dX8_comes_199 : decode cX8_comes 199 = .ok (.if_icmp .ge 7, 3) := by decide +kernel
theorem dX8_comes_202 : decode cX8_comes 202 = .ok (.iconst 1, 1) := by decide +kernel
theorem dX8_comes_203 : decode cX8_comes 203 = .ok (.goto 4, 3) := by decide +kernel
theorem dX8_comes_206 : decode cX8_comes 206 = .ok (.iconst 0, 1) := by decide +kernel
theorem dX8_comes_207 : decode cX8_comes 207 = .ok (.ireturn, 1) := by decide +kernel
theorem dX8_comes_208 : decode cX8_comes 208 = .ok (.aload_n 0, 1) := by decide +kernel
theorem dX8_comes_209 : decode cX8_comes 209 = .ok (.getfield 108, 3) := by decide +kernel
theorem dX8_comes_212 : decode cX8_comes 212 = .ok (.ifCond .le 7, 3) := by decide +kernel
theorem dX8_comes_215 : decode cX8_comes 215 = .ok (.iconst 1, 1) := by decide +kernel
theorem dX8_comes_216 : decode cX8_comes 216 = .ok (.goto 4, 3) := by decide +kernel
theorem dX8_comes_219 : decode cX8_comes 219 = .ok (.iconst 0, 1) := by decide +kernel
theorem dX8_comes_220 : decode cX8_comes 220 = .ok (.istore 4, 2) := by decide +kernel
theorem dX8_comes_222 : decode cX8_comes 222 = .ok (.aload_n 0, 1) := by decide +kernel
theorem dX8_comes_223 : decode cX8_comes 223 = .ok (.dup, 1) := by decide +kernel
theorem dX8_comes_224 : decode cX8_comes 224 = .ok (.getfield 108, 3) := by decide +kernel
theorem dX8_comes_227 : decode cX8_comes 227 = .ok (.iload 4, 2) := by decide +kernel
theorem dX8_comes_229 : decode cX8_comes 229 = .ok (.ifCond .eq 7, 3) := by decide +kernel
theorem dX8_comes_232 : decode cX8_comes 232 = .ok (.iconst 1, 1) := by decide +kernel
theorem dX8_comes_233 : decode cX8_comes 233 = .ok (.goto 4, 3) := by decide +kernel
theorem dX8_comes_236 : decode cX8_comes 236 = .ok (.iconst 0, 1) := by decide +kernel
theorem dX8_comes_237 : decode cX8_comes 237 = .ok (.isub, 1) := by decide +kernel
theorem dX8_comes_238 : decode cX8_comes 238 = .ok (.putfield 108, 3) := by decide +kernel
theorem dX8_comes_241 : decode cX8_comes 241 = .ok (.iload 4, 2) := by decide +kernel
theorem dX8_comes_243 : decode cX8_comes 243 = .ok (.ireturn, 1) := by decide +kernel
theorem dX8_caseOf_0 : decode cX8_caseOf 0 = .ok (.aload_n 0, 1) := by decide +kernel
theorem dX8_caseOf_1 : decode cX8_caseOf 1 = .ok (.iconst 0, 1) := by decide +kernel
theorem dX8_caseOf_2 : decode cX8_caseOf 2 = .ok (.putfield 105, 3) := by decide +kernel
theorem dX8_caseOf_5 : decode cX8_caseOf 5 = .ok (.aload_n 0, 1) := by decide +kernel
theorem dX8_caseOf_6 : decode cX8_caseOf 6 = .ok (.iconst 0, 1) := by decide +kernel
theorem dX8_caseOf_7 : decode cX8_caseOf 7 = .ok (.putfield 170, 3) := by decide +kernel
theorem dX8_caseOf_10 : decode cX8_caseOf 10 = .ok (.aload_n 0, 1) := by decide +kernel
theorem dX8_caseOf_11 : decode cX8_caseOf 11 = .ok (.iconst 0, 1) := by decide +kernel
theorem dX8_caseOf_12 : decode cX8_caseOf 12 = .ok (.putfield 173, 3) := by decide +kernel
theorem dX8_caseOf_15 : decode cX8_caseOf 15 = .ok (.aload_n 0, 1) := by decide +kernel
theorem dX8_caseOf_16 : decode cX8_caseOf 16 = .ok (.iconst 0, 1) := by decide +kernel
theorem dX8_caseOf_17 : decode cX8_caseOf 17 = .ok (.putfield 184, 3) := by decide +kernel
theorem dX8_caseOf_20 : decode cX8_caseOf 20 = .ok (.aload_n 0, 1) := by decide +kernel
theorem dX8_caseOf_21 : decode cX8_caseOf 21 = .ok (.getfield 173, 3) := by decide +kernel
theorem dX8_caseOf_24 : decode cX8_caseOf 24 = .ok (.ifCond .ne 28, 3) := by decide +kernel
theorem dX8_caseOf_27 : decode cX8_caseOf 27 = .ok (.aload_n 0, 1) := by decide +kernel
theorem dX8_caseOf_28 : decode cX8_caseOf 28 = .ok (.getfield 184, 3) := by decide +kernel
theorem dX8_caseOf_31 : decode cX8_caseOf 31 = .ok (.ifCond .eq 14, 3) := by decide +kernel
theorem dX8_caseOf_34 : decode cX8_caseOf 34 = .ok (.aload_n 0, 1) := by decide +kernel
theorem dX8_caseOf_35 : decode cX8_caseOf 35 = .ok (.getfield 170, 3) := by decide +kernel
theorem dX8_caseOf_38 : decode cX8_caseOf 38 = .ok (.aload_n 0, 1) := by decide +kernel
theorem dX8_caseOf_39 : decode cX8_caseOf 39 = .ok (.getfield 167, 3) := by decide +kernel
theorem dX8_caseOf_42 : decode cX8_caseOf 42 = .ok (.if_icmp .ge 10, 3) := by decide +kernel
theorem dX8_caseOf_45 : decode cX8_caseOf 45 = .ok (.aload_n 0, 1) := by decide +kernel
theorem dX8_caseOf_46 : decode cX8_caseOf 46 = .ok (.invokevirtual 202, 3) := by decide +kernel
theorem dX8_caseOf_49 : decode cX8_caseOf 49 = .ok (.goto (-29), 3) := by decide +kernel
theorem dX8_caseOf_52 : decode cX8_caseOf 52 = .ok (.aload_n 0, 1) := by decide +kernel
theorem dX8_caseOf_53 : decode cX8_caseOf 53 = .ok (.iconst 0, 1) := by decide +kernel
theorem dX8_caseOf_54 : decode cX8_caseOf 54 = .ok (.putfield 167, 3) := by decide +kernel
theorem dX8_caseOf_57 : decode cX8_caseOf 57 = .ok (.aload_n 0, 1) := by decide +kernel
theorem dX8_caseOf_58 : decode cX8_caseOf 58 = .ok (.getfield 173, 3) := by decide +kernel
theorem dX8_caseOf_61 : decode cX8_caseOf 61 = .ok (.ifCond .eq 12, 3) := by decide +kernel
theorem dX8_caseOf_64 : decode cX8_caseOf 64 = .ok (.sipush (-1000), 3) := by decide +kernel
theorem dX8_caseOf_67 : decode cX8_caseOf 67 = .ok (.aload_n 0, 1) := by decide +kernel
theorem dX8_caseOf_68 : decode cX8_caseOf 68 = .ok (.getfield 170, 3) := by decide +kernel
theorem dX8_caseOf_71 : decode cX8_caseOf 71 = .ok (.isub, 1) := by decide +kernel
theorem dX8_caseOf_72 : decode cX8_caseOf 72 = .ok (.ireturn, 1) := by decide +kernel
theorem dX8_caseOf_73 : decode cX8_caseOf 73 = .ok (.aload_n 0, 1) := by decide +kernel
theorem dX8_caseOf_74 : decode cX8_caseOf 74 = .ok (.aload_n 0, 1) := by decide +kernel
theorem dX8_caseOf_75 : decode cX8_caseOf 75 = .ok (.getfield 50, 3) := by decide +kernel
theorem dX8_caseOf_78 : decode cX8_caseOf 78 = .ok (.iconst 1, 1) := by decide +kernel
theorem dX8_caseOf_79 : decode cX8_caseOf 79 = .ok (.invokevirtual 205, 3) := by decide +kernel
theorem dX8_caseOf_82 : decode cX8_caseOf 82 = .ok (.iconst 0, 1) := by decide +kernel
theorem dX8_caseOf_83 : decode cX8_caseOf 83 = .ok (.istore_n 1, 1) := by decide +kernel
theorem dX8_caseOf_84 : decode cX8_caseOf 84 = .ok (.iload_n 1, 1) := by decide +kernel
theorem dX8_caseOf_85 : decode cX8_caseOf 85 = .ok (.aload_n 0, 1) := by decide +kernel
theorem dX8_caseOf_86 : decode cX8_caseOf 86 = .ok (.getfield 184, 3) := by decide +kernel
theorem dX8_caseOf_89 : decode cX8_caseOf 89 = .ok (.if_icmp .ge 37, 3) := by decide +kernel
theorem dX8_caseOf_92 : decode cX8_caseOf 92 = .ok (.aload_n 0, 1) := by decide +kernel
theorem dX8_caseOf_93 : decode cX8_caseOf 93 = .ok (.iload_n 1, 1) := by decide +kernel
theorem dX8_caseOf_94 : decode cX8_caseOf 94 = .ok (.invokevirtual 209, 3) := by decide +kernel
theorem dX8_caseOf_97 : decode cX8_caseOf 97 = .ok (.ifCond .ne 23, 3) := by decide +kernel
theorem dX8_caseOf_100 : decode cX8_caseOf 100 = .ok (.aload_n 0, 1) := by decide +kernel
theorem dX8_caseOf_101 : decode cX8_caseOf 101 = .ok (.aload_n 0, 1) := by decide +kernel
theorem dX8_caseOf_102 : decode cX8_caseOf 102 = .ok (.getfield 50, 3) := by decide +kernel
theorem dX8_caseOf_105 : decode cX8_caseOf 105 = .ok (.iconst 0, 1) := by decide +kernel
theorem dX8_caseOf_106 : decode cX8_caseOf 106 = .ok (.invokevirtual 205, 3) := by decide +kernel
theorem dX8_caseOf_109 : decode cX8_caseOf 109 = .ok (.sipush (-2000), 3) := by decide +kernel
theorem dX8_caseOf_112 : decode cX8_caseOf 112 = .ok (.aload_n 0, 1) := by decide +kernel
theorem dX8_caseOf_113 : decode cX8_caseOf 113 = .ok (.getfield 41, 3) := by decide +kernel
theorem dX8_caseOf_116 : decode cX8_caseOf 116 = .ok (.iload_n 1, 1) := by decide +kernel
theorem dX8_caseOf_117 : decode cX8_caseOf 117 = .ok (.iaload, 1) := by decide +kernel
theorem dX8_caseOf_118 : decode cX8_caseOf 118 = .ok (.isub, 1) := by decide +kernel
theorem dX8_caseOf_119 : decode cX8_caseOf 119 = .ok (.ireturn, 1) := by decide +kernel
theorem dX8_caseOf_120 : decode cX8_caseOf 120 = .ok (.iinc 1 1, 3) := by decide +kernel
theorem dX8_caseOf_123 : decode cX8_caseOf 123 = .ok (.goto (-39), 3) := by decide +kernel
theorem dX8_caseOf_126 : decode cX8_caseOf 126 = .ok (.aload_n 0, 1) := by decide +kernel
theorem dX8_caseOf_127 : decode cX8_caseOf 127 = .ok (.iconst 0, 1) := by decide +kernel
theorem dX8_caseOf_128 : decode cX8_caseOf 128 = .ok (.putfield 212, 3) := by decide +kernel
theorem dX8_caseOf_131 : decode cX8_caseOf 131 = .ok (.aload_n 0, 1) := by decide +kernel
theorem dX8_caseOf_132 : decode cX8_caseOf 132 = .ok (.getfield 184, 3) := by decide +kernel
theorem dX8_caseOf_135 : decode cX8_caseOf 135 = .ok (.ireturn, 1) := by decide +kernel
theorem dX8_carry_0 : decode cX8_carry 0 = .ok (.aload_n 0, 1) := by decide +kernel
theorem dX8_carry_1 : decode cX8_carry 1 = .ok (.getfield 215, 3) := by decide +kernel
theorem dX8_carry_4 : decode cX8_carry 4 = .ok (.ifCond .eq 13, 3) := by decide +kernel
theorem dX8_carry_7 : decode cX8_carry 7 = .ok (.aload_n 0, 1) := by decide +kernel
theorem dX8_carry_8 : decode cX8_carry 8 = .ok (.getfield 218, 3) := by decide +kernel
theorem dX8_carry_11 : decode cX8_carry 11 = .ok (.aload_n 0, 1) := by decide +kernel
theorem dX8_carry_12 : decode cX8_carry 12 = .ok (.getfield 221, 3) := by decide +kernel
theorem dX8_carry_15 : decode cX8_carry 15 = .ok (.iload_n 1, 1) := by decide +kernel
theorem dX8_carry_16 : decode cX8_carry 16 = .ok (.iastore, 1) := by decide +kernel
theorem dX8_carry_17 : decode cX8_carry 17 = .ok (.aload_n 0, 1) := by decide +kernel
theorem dX8_carry_18 : decode cX8_carry 18 = .ok (.dup, 1) := by decide +kernel
theorem dX8_carry_19 : decode cX8_carry 19 = .ok (.getfield 221, 3) := by decide +kernel
theorem dX8_carry_22 : decode cX8_carry 22 = .ok (.iconst 1, 1) := by decide +kernel
theorem dX8_carry_23 : decode cX8_carry 23 = .ok (.iadd, 1) := by decide +kernel
theorem dX8_carry_24 : decode cX8_carry 24 = .ok (.putfield 221, 3) := by decide +kernel
theorem dX8_carry_27 : decode cX8_carry 27 = .ok (.aload_n 0, 1) := by decide +kernel
theorem dX8_carry_28 : decode cX8_carry 28 = .ok (.getfield 218, 3) := by decide +kernel
theorem dX8_carry_31 : decode cX8_carry 31 = .ok (.aload_n 0, 1) := by decide +kernel
theorem dX8_carry_32 : decode cX8_carry 32 = .ok (.getfield 221, 3) := by decide +kernel
theorem dX8_carry_35 : decode cX8_carry 35 = .ok (.iconst 1, 1) := by decide +kernel
theorem dX8_carry_36 : decode cX8_carry 36 = .ok (.isub, 1) := by decide +kernel
theorem dX8_carry_37 : decode cX8_carry 37 = .ok (.iaload, 1) := by decide +kernel
theorem dX8_carry_38 : decode cX8_carry 38 = .ok (.ireturn, 1) := by decide +kernel
theorem dX8_carryAll_0 : decode cX8_carryAll 0 = .ok (.aload_n 0, 1) := by decide +kernel
theorem dX8_carryAll_1 : decode cX8_carryAll 1 = .ok (.aload_n 1, 1) := by decide +kernel
theorem dX8_carryAll_2 : decode cX8_carryAll 2 = .ok (.putfield 218, 3) := by decide +kernel
theorem dX8_carryAll_5 : decode cX8_carryAll 5 = .ok (.aload_n 0, 1) := by decide +kernel
theorem dX8_carryAll_6 : decode cX8_carryAll 6 = .ok (.iload_n 2, 1) := by decide +kernel
theorem dX8_carryAll_7 : decode cX8_carryAll 7 = .ok (.putfield 215, 3) := by decide +kernel
theorem dX8_carryAll_10 : decode cX8_carryAll 10 = .ok (.aload_n 0, 1) := by decide +kernel
theorem dX8_carryAll_11 : decode cX8_carryAll 11 = .ok (.iconst 0, 1) := by decide +kernel
theorem dX8_carryAll_12 : decode cX8_carryAll 12 = .ok (.putfield 221, 3) := by decide +kernel
theorem dX8_carryAll_15 : decode cX8_carryAll 15 = .ok (.aload_n 0, 1) := by decide +kernel
theorem dX8_carryAll_16 : decode cX8_carryAll 16 = .ok (.aload_n 0, 1) := by decide +kernel
theorem dX8_carryAll_17 : decode cX8_carryAll 17 = .ok (.aload_n 0, 1) := by decide +kernel
theorem dX8_carryAll_18 : decode cX8_carryAll 18 = .ok (.getfield 108, 3) := by decide +kernel
theorem dX8_carryAll_21 : decode cX8_carryAll 21 = .ok (.invokevirtual 224, 3) := by decide +kernel
theorem dX8_carryAll_24 : decode cX8_carryAll 24 = .ok (.putfield 108, 3) := by decide +kernel
theorem dX8_carryAll_27 : decode cX8_carryAll 27 = .ok (.aload_n 0, 1) := by decide +kernel
theorem dX8_carryAll_28 : decode cX8_carryAll 28 = .ok (.aload_n 0, 1) := by decide +kernel
theorem dX8_carryAll_29 : decode cX8_carryAll 29 = .ok (.aload_n 0, 1) := by decide +kernel
theorem dX8_carryAll_30 : decode cX8_carryAll 30 = .ok (.getfield 19, 3) := by decide +kernel
theorem dX8_carryAll_33 : decode cX8_carryAll 33 = .ok (.invokevirtual 224, 3) := by decide +kernel
theorem dX8_carryAll_36 : decode cX8_carryAll 36 = .ok (.putfield 19, 3) := by decide +kernel
theorem dX8_carryAll_39 : decode cX8_carryAll 39 = .ok (.aload_n 0, 1) := by decide +kernel
theorem dX8_carryAll_40 : decode cX8_carryAll 40 = .ok (.aload_n 0, 1) := by decide +kernel
theorem dX8_carryAll_41 : decode cX8_carryAll 41 = .ok (.aload_n 0, 1) := by decide +kernel
theorem dX8_carryAll_42 : decode cX8_carryAll 42 = .ok (.getfield 26, 3) := by decide +kernel
theorem dX8_carryAll_45 : decode cX8_carryAll 45 = .ok (.invokevirtual 224, 3) := by decide +kernel
theorem dX8_carryAll_48 : decode cX8_carryAll 48 = .ok (.putfield 26, 3) := by decide +kernel
theorem dX8_carryAll_51 : decode cX8_carryAll 51 = .ok (.aload_n 0, 1) := by decide +kernel
theorem dX8_carryAll_52 : decode cX8_carryAll 52 = .ok (.aload_n 0, 1) := by decide +kernel
theorem dX8_carryAll_53 : decode cX8_carryAll 53 = .ok (.aload_n 0, 1) := by decide +kernel
theorem dX8_carryAll_54 : decode cX8_carryAll 54 = .ok (.getfield 29, 3) := by decide +kernel
theorem dX8_carryAll_57 : decode cX8_carryAll 57 = .ok (.invokevirtual 224, 3) := by decide +kernel
theorem dX8_carryAll_60 : decode cX8_carryAll 60 = .ok (.putfield 29, 3) := by decide +kernel
theorem dX8_carryAll_63 : decode cX8_carryAll 63 = .ok (.iconst 0, 1) := by decide +kernel
theorem dX8_carryAll_64 : decode cX8_carryAll 64 = .ok (.istore_n 3, 1) := by decide +kernel
theorem dX8_carryAll_65 : decode cX8_carryAll 65 = .ok (.iload_n 3, 1) := by decide +kernel
theorem dX8_carryAll_66 : decode cX8_carryAll 66 = .ok (.bipush 7, 2) := by decide +kernel
theorem dX8_carryAll_68 : decode cX8_carryAll 68 = .ok (.if_icmp .ge 57, 3) := by decide +kernel
theorem dX8_carryAll_71 : decode cX8_carryAll 71 = .ok (.aload_n 0, 1) := by decide +kernel
theorem dX8_carryAll_72 : decode cX8_carryAll 72 = .ok (.getfield 7, 3) := by decide +kernel
theorem dX8_carryAll_75 : decode cX8_carryAll 75 = .ok (.iload_n 3, 1) := by decide +kernel
theorem dX8_carryAll_76 : decode cX8_carryAll 76 = .ok (.aload_n 0, 1) := by decide +kernel
theorem dX8_carryAll_77 : decode cX8_carryAll 77 = .ok (.aload_n 0, 1) := by decide +kernel
theorem dX8_carryAll_78 : decode cX8_carryAll 78 = .ok (.getfield 7, 3) := by decide +kernel
theorem dX8_carryAll_81 : decode cX8_carryAll 81 = .ok (.iload_n 3, 1) := by decide +kernel
theorem dX8_carryAll_82 : decode cX8_carryAll 82 = .ok (.iaload, 1) := by decide +kernel
theorem dX8_carryAll_83 : decode cX8_carryAll 83 = .ok (.invokevirtual 224, 3) := by decide +kernel
theorem dX8_carryAll_86 : decode cX8_carryAll 86 = .ok (.iastore, 1) := by decide +kernel
theorem dX8_carryAll_87 : decode cX8_carryAll 87 = .ok (.aload_n 0, 1) := by decide +kernel
theorem dX8_carryAll_88 : decode cX8_carryAll 88 = .ok (.getfield 13, 3) := by decide +kernel
theorem dX8_carryAll_91 : decode cX8_carryAll 91 = .ok (.iload_n 3, 1) := by decide +kernel
theorem dX8_carryAll_92 : decode cX8_carryAll 92 = .ok (.aload_n 0, 1) := by decide +kernel
theorem dX8_carryAll_93 : decode cX8_carryAll 93 = .ok (.aload_n 0, 1) := by decide +kernel
theorem dX8_carryAll_94 : decode cX8_carryAll 94 = .ok (.getfield 13, 3) := by decide +kernel
theorem dX8_carryAll_97 : decode cX8_carryAll 97 = .ok (.iload_n 3, 1) := by decide +kernel
theorem dX8_carryAll_98 : decode cX8_carryAll 98 = .ok (.iaload, 1) := by decide +kernel
theorem dX8_carryAll_99 : decode cX8_carryAll 99 = .ok (.invokevirtual 224, 3) := by decide +kernel
theorem dX8_carryAll_102 : decode cX8_carryAll 102 = .ok (.iastore, 1) := by decide +kernel
theorem dX8_carryAll_103 : decode cX8_carryAll 103 = .ok (.aload_n 0, 1) := by decide +kernel
theorem dX8_carryAll_104 : decode cX8_carryAll 104 = .ok (.getfield 16, 3) := by decide +kernel
theorem dX8_carryAll_107 : decode cX8_carryAll 107 = .ok (.iload_n 3, 1) := by decide +kernel
theorem dX8_carryAll_108 : decode cX8_carryAll 108 = .ok (.aload_n 0, 1) := by decide +kernel
theorem dX8_carryAll_109 : decode cX8_carryAll 109 = .ok (.aload_n 0, 1) := by decide +kernel
theorem dX8_carryAll_110 : decode cX8_carryAll 110 = .ok (.getfield 16, 3) := by decide +kernel
theorem dX8_carryAll_113 : decode cX8_carryAll 113 = .ok (.iload_n 3, 1) := by decide +kernel
theorem dX8_carryAll_114 : decode cX8_carryAll 114 = .ok (.iaload, 1) := by decide +kernel
theorem dX8_carryAll_115 : decode cX8_carryAll 115 = .ok (.invokevirtual 224, 3) := by decide +kernel
theorem dX8_carryAll_118 : decode cX8_carryAll 118 = .ok (.iastore, 1) := by decide +kernel
theorem dX8_carryAll_119 : decode cX8_carryAll 119 = .ok (.iinc 3 1, 3) := by decide +kernel
theorem dX8_carryAll_122 : decode cX8_carryAll 122 = .ok (.goto (-57), 3) := by decide +kernel
theorem dX8_carryAll_125 : decode cX8_carryAll 125 = .ok (.iconst 0, 1) := by decide +kernel
theorem dX8_carryAll_126 : decode cX8_carryAll 126 = .ok (.istore_n 3, 1) := by decide +kernel
theorem dX8_carryAll_127 : decode cX8_carryAll 127 = .ok (.iload_n 3, 1) := by decide +kernel
theorem dX8_carryAll_128 : decode cX8_carryAll 128 = .ok (.bipush 8, 2) := by decide +kernel
theorem dX8_carryAll_130 : decode cX8_carryAll 130 = .ok (.if_icmp .ge 25, 3) := by decide +kernel
theorem dX8_carryAll_133 : decode cX8_carryAll 133 = .ok (.aload_n 0, 1) := by decide +kernel
theorem dX8_carryAll_134 : decode cX8_carryAll 134 = .ok (.getfield 23, 3) := by decide +kernel
theorem dX8_carryAll_137 : decode cX8_carryAll 137 = .ok (.iload_n 3, 1) := by decide +kernel
theorem dX8_carryAll_138 : decode cX8_carryAll 138 = .ok (.aload_n 0, 1) := by decide +kernel
theorem dX8_carryAll_139 : decode cX8_carryAll 139 = .ok (.aload_n 0, 1) := by decide +kernel
theorem dX8_carryAll_140 : decode cX8_carryAll 140 = .ok (.getfield 23, 3) := by decide +kernel
theorem dX8_carryAll_143 : decode cX8_carryAll 143 = .ok (.iload_n 3, 1) := by decide +kernel
theorem dX8_carryAll_144 : decode cX8_carryAll 144 = .ok (.iaload, 1) := by decide +kernel
theorem dX8_carryAll_145 : decode cX8_carryAll 145 = .ok (.invokevirtual 224, 3) := by decide +kernel
theorem dX8_carryAll_148 : decode cX8_carryAll 148 = .ok (.iastore, 1) := by decide +kernel
theorem dX8_carryAll_149 : decode cX8_carryAll 149 = .ok (.iinc 3 1, 3) := by decide +kernel
theorem dX8_carryAll_152 : decode cX8_carryAll 152 = .ok (.goto (-25), 3) := by decide +kernel
theorem dX8_carryAll_155 : decode cX8_carryAll 155 = .ok (.return_, 1) := by decide +kernel
theorem dX8_image_0 : decode cX8_image 0 = .ok (.aload_n 0, 1) := by decide +kernel
theorem dX8_image_1 : decode cX8_image 1 = .ok (.iconst 0, 1) := by decide +kernel
theorem dX8_image_2 : decode cX8_image 2 = .ok (.putfield 105, 3) := by decide +kernel
theorem dX8_image_5 : decode cX8_image 5 = .ok (.aload_n 0, 1) := by decide +kernel
theorem dX8_image_6 : decode cX8_image 6 = .ok (.iconst 1, 1) := by decide +kernel
theorem dX8_image_7 : decode cX8_image 7 = .ok (.putfield 227, 3) := by decide +kernel
theorem dX8_image_10 : decode cX8_image 10 = .ok (.aload_n 0, 1) := by decide +kernel
theorem dX8_image_11 : decode cX8_image 11 = .ok (.aload_n 0, 1) := by decide +kernel
theorem dX8_image_12 : decode cX8_image 12 = .ok (.getfield 53, 3) := by decide +kernel
theorem dX8_image_15 : decode cX8_image 15 = .ok (.iconst 1, 1) := by decide +kernel
theorem dX8_image_16 : decode cX8_image 16 = .ok (.invokevirtual 205, 3) := by decide +kernel
theorem dX8_image_19 : decode cX8_image 19 = .ok (.aload_n 0, 1) := by decide +kernel
theorem dX8_image_20 : decode cX8_image 20 = .ok (.getfield 108, 3) := by decide +kernel
theorem dX8_image_23 : decode cX8_image 23 = .ok (.ireturn, 1) := by decide +kernel
theorem dX8_restore_0 : decode cX8_restore 0 = .ok (.aload_n 0, 1) := by decide +kernel
theorem dX8_restore_1 : decode cX8_restore 1 = .ok (.iconst 0, 1) := by decide +kernel
theorem dX8_restore_2 : decode cX8_restore 2 = .ok (.putfield 105, 3) := by decide +kernel
theorem dX8_restore_5 : decode cX8_restore 5 = .ok (.aload_n 0, 1) := by decide +kernel
theorem dX8_restore_6 : decode cX8_restore 6 = .ok (.getfield 227, 3) := by decide +kernel
theorem dX8_restore_9 : decode cX8_restore 9 = .ok (.ifCond .ne 10, 3) := by decide +kernel
theorem dX8_restore_12 : decode cX8_restore 12 = .ok (.aload_n 0, 1) := by decide +kernel
theorem dX8_restore_13 : decode cX8_restore 13 = .ok (.bipush (-3), 2) := by decide +kernel
theorem dX8_restore_15 : decode cX8_restore 15 = .ok (.invokevirtual 164, 3) := by decide +kernel
theorem dX8_restore_18 : decode cX8_restore 18 = .ok (.ireturn, 1) := by decide +kernel
theorem dX8_restore_19 : decode cX8_restore 19 = .ok (.aload_n 0, 1) := by decide +kernel
theorem dX8_restore_20 : decode cX8_restore 20 = .ok (.aload_n 0, 1) := by decide +kernel
theorem dX8_restore_21 : decode cX8_restore 21 = .ok (.getfield 53, 3) := by decide +kernel
theorem dX8_restore_24 : decode cX8_restore 24 = .ok (.iconst 0, 1) := by decide +kernel
theorem dX8_restore_25 : decode cX8_restore 25 = .ok (.invokevirtual 205, 3) := by decide +kernel
theorem dX8_restore_28 : decode cX8_restore 28 = .ok (.aload_n 0, 1) := by decide +kernel
theorem dX8_restore_29 : decode cX8_restore 29 = .ok (.iconst 0, 1) := by decide +kernel
theorem dX8_restore_30 : decode cX8_restore 30 = .ok (.putfield 212, 3) := by decide +kernel
theorem dX8_restore_33 : decode cX8_restore 33 = .ok (.aload_n 0, 1) := by decide +kernel
theorem dX8_restore_34 : decode cX8_restore 34 = .ok (.getfield 108, 3) := by decide +kernel
theorem dX8_restore_37 : decode cX8_restore 37 = .ok (.ireturn, 1) := by decide +kernel
theorem dX8_keepTurn_0 : decode cX8_keepTurn 0 = .ok (.aload_n 0, 1) := by decide +kernel
theorem dX8_keepTurn_1 : decode cX8_keepTurn 1 = .ok (.getfield 212, 3) := by decide +kernel
theorem dX8_keepTurn_4 : decode cX8_keepTurn 4 = .ok (.bipush 8, 2) := by decide +kernel
theorem dX8_keepTurn_6 : decode cX8_keepTurn 6 = .ok (.if_icmp .ne 44, 3) := by decide +kernel
theorem dX8_keepTurn_9 : decode cX8_keepTurn 9 = .ok (.bipush 33, 2) := by decide +kernel
theorem dX8_keepTurn_11 : decode cX8_keepTurn 11 = .ok (.istore_n 1, 1) := by decide +kernel
theorem dX8_keepTurn_12 : decode cX8_keepTurn 12 = .ok (.iload_n 1, 1) := by decide +kernel
theorem dX8_keepTurn_13 : decode cX8_keepTurn 13 = .ok (.sipush 264, 3) := by decide +kernel
theorem dX8_keepTurn_16 : decode cX8_keepTurn 16 = .ok (.if_icmp .ge 24, 3) := by decide +kernel
theorem dX8_keepTurn_19 : decode cX8_keepTurn 19 = .ok (.aload_n 0, 1) := by decide +kernel
theorem dX8_keepTurn_20 : decode cX8_keepTurn 20 = .ok (.getfield 56, 3) := by decide +kernel
theorem dX8_keepTurn_23 : decode cX8_keepTurn 23 = .ok (.iload_n 1, 1) := by decide +kernel
theorem dX8_keepTurn_24 : decode cX8_keepTurn 24 = .ok (.bipush 33, 2) := by decide +kernel
theorem dX8_keepTurn_26 : decode cX8_keepTurn 26 = .ok (.isub, 1) := by decide +kernel
theorem dX8_keepTurn_27 : decode cX8_keepTurn 27 = .ok (.aload_n 0, 1) := by decide +kernel
theorem dX8_keepTurn_28 : decode cX8_keepTurn 28 = .ok (.getfield 56, 3) := by decide +kernel
theorem dX8_keepTurn_31 : decode cX8_keepTurn 31 = .ok (.iload_n 1, 1) := by decide +kernel
theorem dX8_keepTurn_32 : decode cX8_keepTurn 32 = .ok (.iaload, 1) := by decide +kernel
theorem dX8_keepTurn_33 : decode cX8_keepTurn 33 = .ok (.iastore, 1) := by decide +kernel
theorem dX8_keepTurn_34 : decode cX8_keepTurn 34 = .ok (.iinc 1 1, 3) := by decide +kernel
theorem dX8_keepTurn_37 : decode cX8_keepTurn 37 = .ok (.goto (-25), 3) := by decide +kernel
theorem dX8_keepTurn_40 : decode cX8_keepTurn 40 = .ok (.aload_n 0, 1) := by decide +kernel
theorem dX8_keepTurn_41 : decode cX8_keepTurn 41 = .ok (.dup, 1) := by decide +kernel
theorem dX8_keepTurn_42 : decode cX8_keepTurn 42 = .ok (.getfield 212, 3) := by decide +kernel
theorem dX8_keepTurn_45 : decode cX8_keepTurn 45 = .ok (.iconst 1, 1) := by decide +kernel
theorem dX8_keepTurn_46 : decode cX8_keepTurn 46 = .ok (.isub, 1) := by decide +kernel
theorem dX8_keepTurn_47 : decode cX8_keepTurn 47 = .ok (.putfield 212, 3) := by decide +kernel
theorem dX8_keepTurn_50 : decode cX8_keepTurn 50 = .ok (.aload_n 0, 1) := by decide +kernel
theorem dX8_keepTurn_51 : decode cX8_keepTurn 51 = .ok (.aload_n 0, 1) := by decide +kernel
theorem dX8_keepTurn_52 : decode cX8_keepTurn 52 = .ok (.getfield 59, 3) := by decide +kernel
theorem dX8_keepTurn_55 : decode cX8_keepTurn 55 = .ok (.iconst 1, 1) := by decide +kernel
theorem dX8_keepTurn_56 : decode cX8_keepTurn 56 = .ok (.invokevirtual 205, 3) := by decide +kernel
theorem dX8_keepTurn_59 : decode cX8_keepTurn 59 = .ok (.iconst 0, 1) := by decide +kernel
theorem dX8_keepTurn_60 : decode cX8_keepTurn 60 = .ok (.istore_n 1, 1) := by decide +kernel
theorem dX8_keepTurn_61 : decode cX8_keepTurn 61 = .ok (.iload_n 1, 1) := by decide +kernel
theorem dX8_keepTurn_62 : decode cX8_keepTurn 62 = .ok (.bipush 33, 2) := by decide +kernel
theorem dX8_keepTurn_64 : decode cX8_keepTurn 64 = .ok (.if_icmp .ge 29, 3) := by decide +kernel
theorem dX8_keepTurn_67 : decode cX8_keepTurn 67 = .ok (.aload_n 0, 1) := by decide +kernel
theorem dX8_keepTurn_68 : decode cX8_keepTurn 68 = .ok (.getfield 56, 3) := by decide +kernel
theorem dX8_keepTurn_71 : decode cX8_keepTurn 71 = .ok (.bipush 33, 2) := by decide +kernel
theorem dX8_keepTurn_73 : decode cX8_keepTurn 73 = .ok (.aload_n 0, 1) := by decide +kernel
theorem dX8_keepTurn_74 : decode cX8_keepTurn 74 = .ok (.getfield 212, 3) := by decide +kernel
theorem dX8_keepTurn_77 : decode cX8_keepTurn 77 = .ok (.imul, 1) := by decide +kernel
theorem dX8_keepTurn_78 : decode cX8_keepTurn 78 = .ok (.iload_n 1, 1) := by decide +kernel
theorem dX8_keepTurn_79 : decode cX8_keepTurn 79 = .ok (.iadd, 1) := by decide +kernel
theorem dX8_keepTurn_80 : decode cX8_keepTurn 80 = .ok (.aload_n 0, 1) := by decide +kernel
theorem dX8_keepTurn_81 : decode cX8_keepTurn 81 = .ok (.getfield 59, 3) := by decide +kernel
theorem dX8_keepTurn_84 : decode cX8_keepTurn 84 = .ok (.iload_n 1, 1) := by decide +kernel
theorem dX8_keepTurn_85 : decode cX8_keepTurn 85 = .ok (.iaload, 1) := by decide +kernel
theorem dX8_keepTurn_86 : decode cX8_keepTurn 86 = .ok (.iastore, 1) := by decide +kernel
theorem dX8_keepTurn_87 : decode cX8_keepTurn 87 = .ok (.iinc 1 1, 3) := by decide +kernel
theorem dX8_keepTurn_90 : decode cX8_keepTurn 90 = .ok (.goto (-29), 3) := by decide +kernel
theorem dX8_keepTurn_93 : decode cX8_keepTurn 93 = .ok (.aload_n 0, 1) := by decide +kernel
theorem dX8_keepTurn_94 : decode cX8_keepTurn 94 = .ok (.dup, 1) := by decide +kernel
theorem dX8_keepTurn_95 : decode cX8_keepTurn 95 = .ok (.getfield 212, 3) := by decide +kernel
theorem dX8_keepTurn_98 : decode cX8_keepTurn 98 = .ok (.iconst 1, 1) := by decide +kernel
theorem dX8_keepTurn_99 : decode cX8_keepTurn 99 = .ok (.iadd, 1) := by decide +kernel
theorem dX8_keepTurn_100 : decode cX8_keepTurn 100 = .ok (.putfield 212, 3) := by decide +kernel
theorem dX8_keepTurn_103 : decode cX8_keepTurn 103 = .ok (.return_, 1) := by decide +kernel
theorem dX8_back_0 : decode cX8_back 0 = .ok (.aload_n 0, 1) := by decide +kernel
theorem dX8_back_1 : decode cX8_back 1 = .ok (.iconst 0, 1) := by decide +kernel
theorem dX8_back_2 : decode cX8_back 2 = .ok (.putfield 105, 3) := by decide +kernel
theorem dX8_back_5 : decode cX8_back 5 = .ok (.aload_n 0, 1) := by decide +kernel
theorem dX8_back_6 : decode cX8_back 6 = .ok (.getfield 212, 3) := by decide +kernel
theorem dX8_back_9 : decode cX8_back 9 = .ok (.ifCond .ne 10, 3) := by decide +kernel
theorem dX8_back_12 : decode cX8_back 12 = .ok (.aload_n 0, 1) := by decide +kernel
theorem dX8_back_13 : decode cX8_back 13 = .ok (.bipush (-3), 2) := by decide +kernel
theorem dX8_back_15 : decode cX8_back 15 = .ok (.invokevirtual 164, 3) := by decide +kernel
theorem dX8_back_18 : decode cX8_back 18 = .ok (.ireturn, 1) := by decide +kernel
theorem dX8_back_19 : decode cX8_back 19 = .ok (.aload_n 0, 1) := by decide +kernel
theorem dX8_back_20 : decode cX8_back 20 = .ok (.dup, 1) := by decide +kernel
theorem dX8_back_21 : decode cX8_back 21 = .ok (.getfield 212, 3) := by decide +kernel
theorem dX8_back_24 : decode cX8_back 24 = .ok (.iconst 1, 1) := by decide +kernel
theorem dX8_back_25 : decode cX8_back 25 = .ok (.isub, 1) := by decide +kernel
theorem dX8_back_26 : decode cX8_back 26 = .ok (.putfield 212, 3) := by decide +kernel
theorem dX8_back_29 : decode cX8_back 29 = .ok (.iconst 0, 1) := by decide +kernel
theorem dX8_back_30 : decode cX8_back 30 = .ok (.istore_n 1, 1) := by decide +kernel
theorem dX8_back_31 : decode cX8_back 31 = .ok (.iload_n 1, 1) := by decide +kernel
theorem dX8_back_32 : decode cX8_back 32 = .ok (.bipush 33, 2) := by decide +kernel
theorem dX8_back_34 : decode cX8_back 34 = .ok (.if_icmp .ge 29, 3) := by decide +kernel
theorem dX8_back_37 : decode cX8_back 37 = .ok (.aload_n 0, 1) := by decide +kernel
theorem dX8_back_38 : decode cX8_back 38 = .ok (.getfield 59, 3) := by decide +kernel
theorem dX8_back_41 : decode cX8_back 41 = .ok (.iload_n 1, 1) := by decide +kernel
theorem dX8_back_42 : decode cX8_back 42 = .ok (.aload_n 0, 1) := by decide +kernel
theorem dX8_back_43 : decode cX8_back 43 = .ok (.getfield 56, 3) := by decide +kernel
theorem dX8_back_46 : decode cX8_back 46 = .ok (.bipush 33, 2) := by decide +kernel
theorem dX8_back_48 : decode cX8_back 48 = .ok (.aload_n 0, 1) := by decide +kernel
theorem dX8_back_49 : decode cX8_back 49 = .ok (.getfield 212, 3) := by decide +kernel
theorem dX8_back_52 : decode cX8_back 52 = .ok (.imul, 1) := by decide +kernel
theorem dX8_back_53 : decode cX8_back 53 = .ok (.iload_n 1, 1) := by decide +kernel
theorem dX8_back_54 : decode cX8_back 54 = .ok (.iadd, 1) := by decide +kernel
theorem dX8_back_55 : decode cX8_back 55 = .ok (.iaload, 1) := by decide +kernel
theorem dX8_back_56 : decode cX8_back 56 = .ok (.iastore, 1) := by decide +kernel
theorem dX8_back_57 : decode cX8_back 57 = .ok (.iinc 1 1, 3) := by decide +kernel
theorem dX8_back_60 : decode cX8_back 60 = .ok (.goto (-29), 3) := by decide +kernel
theorem dX8_back_63 : decode cX8_back 63 = .ok (.aload_n 0, 1) := by decide +kernel
theorem dX8_back_64 : decode cX8_back 64 = .ok (.aload_n 0, 1) := by decide +kernel
theorem dX8_back_65 : decode cX8_back 65 = .ok (.getfield 59, 3) := by decide +kernel
theorem dX8_back_68 : decode cX8_back 68 = .ok (.iconst 0, 1) := by decide +kernel
theorem dX8_back_69 : decode cX8_back 69 = .ok (.invokevirtual 205, 3) := by decide +kernel
theorem dX8_back_72 : decode cX8_back 72 = .ok (.aload_n 0, 1) := by decide +kernel
theorem dX8_back_73 : decode cX8_back 73 = .ok (.getfield 212, 3) := by decide +kernel
theorem dX8_back_76 : decode cX8_back 76 = .ok (.ireturn, 1) := by decide +kernel
theorem dX8_court_0 : decode cX8_court 0 = .ok (.aload_n 0, 1) := by decide +kernel
theorem dX8_court_1 : decode cX8_court 1 = .ok (.iconst 0, 1) := by decide +kernel
theorem dX8_court_2 : decode cX8_court 2 = .ok (.putfield 105, 3) := by decide +kernel
theorem dX8_court_5 : decode cX8_court 5 = .ok (.aload_n 0, 1) := by decide +kernel
theorem dX8_court_6 : decode cX8_court 6 = .ok (.iload_n 1, 1) := by decide +kernel
theorem dX8_court_7 : decode cX8_court 7 = .ok (.invokevirtual 230, 3) := by decide +kernel
theorem dX8_court_10 : decode cX8_court 10 = .ok (.ifCond .eq 15, 3) := by decide +kernel
theorem dX8_court_13 : decode cX8_court 13 = .ok (.iload_n 2, 1) := by decide +kernel
theorem dX8_court_14 : decode cX8_court 14 = .ok (.i2l, 1) := by decide +kernel
theorem dX8_court_15 : decode cX8_court 15 = .ok (.lconst 0, 1) := by decide +kernel
theorem dX8_court_16 : decode cX8_court 16 = .ok (.ldc2_w 233, 3) := by decide +kernel
theorem dX8_court_19 : decode cX8_court 19 = .ok (.invokestatic 111, 3) := by decide +kernel
theorem dX8_court_22 : decode cX8_court 22 = .ok (.ifCond .ne 22, 3) := by decide +kernel
theorem dX8_court_25 : decode cX8_court 25 = .ok (.aload_n 0, 1) := by decide +kernel
theorem dX8_court_26 : decode cX8_court 26 = .ok (.aload_n 0, 1) := by decide +kernel
theorem dX8_court_27 : decode cX8_court 27 = .ok (.iload_n 1, 1) := by decide +kernel
theorem dX8_court_28 : decode cX8_court 28 = .ok (.invokevirtual 230, 3) := by decide +kernel
theorem dX8_court_31 : decode cX8_court 31 = .ok (.ifCond .eq 8, 3) := by decide +kernel
theorem dX8_court_34 : decode cX8_court 34 = .ok (.bipush (-2), 2) := by decide +kernel
theorem dX8_court_36 : decode cX8_court 36 = .ok (.goto 4, 3) := by decide +kernel
theorem dX8_court_39 : decode cX8_court 39 = .ok (.iconst (-1), 1) := by decide +kernel
theorem dX8_court_40 : decode cX8_court 40 = .ok (.invokevirtual 164, 3) := by decide +kernel
theorem dX8_court_43 : decode cX8_court 43 = .ok (.ireturn, 1) := by decide +kernel
theorem dX8_court_44 : decode cX8_court 44 = .ok (.iload_n 2, 1) := by decide +kernel
theorem dX8_court_45 : decode cX8_court 45 = .ok (.ifCond .ne 12, 3) := by decide +kernel
theorem dX8_court_48 : decode cX8_court 48 = .ok (.aload_n 0, 1) := by decide +kernel
theorem dX8_court_49 : decode cX8_court 49 = .ok (.getfield 7, 3) := by decide +kernel
theorem dX8_court_52 : decode cX8_court 52 = .ok (.iload_n 1, 1) := by decide +kernel
theorem dX8_court_53 : decode cX8_court 53 = .ok (.iaload, 1) := by decide +kernel
theorem dX8_court_54 : decode cX8_court 54 = .ok (.goto 23, 3) := by decide +kernel
theorem dX8_court_57 : decode cX8_court 57 = .ok (.iload_n 2, 1) := by decide +kernel
theorem dX8_court_58 : decode cX8_court 58 = .ok (.iconst 1, 1) := by decide +kernel
theorem dX8_court_59 : decode cX8_court 59 = .ok (.if_icmp .ne 12, 3) := by decide +kernel
theorem dX8_court_62 : decode cX8_court 62 = .ok (.aload_n 0, 1) := by decide +kernel
theorem dX8_court_63 : decode cX8_court 63 = .ok (.getfield 13, 3) := by decide +kernel
theorem dX8_court_66 : decode cX8_court 66 = .ok (.iload_n 1, 1) := by decide +kernel
theorem dX8_court_67 : decode cX8_court 67 = .ok (.iaload, 1) := by decide +kernel
theorem dX8_court_68 : decode cX8_court 68 = .ok (.goto 9, 3) := by decide +kernel
theorem dX8_court_71 : decode cX8_court 71 = .ok (.aload_n 0, 1) := by decide +kernel
theorem dX8_court_72 : decode cX8_court 72 = .ok (.getfield 16, 3) := by decide +kernel
theorem dX8_court_75 : decode cX8_court 75 = .ok (.iload_n 1, 1) := by decide +kernel
theorem dX8_court_76 : decode cX8_court 76 = .ok (.iaload, 1) := by decide +kernel
theorem dX8_court_77 : decode cX8_court 77 = .ok (.ireturn, 1) := by decide +kernel
theorem dX8_point_0 : decode cX8_point 0 = .ok (.aload_n 0, 1) := by decide +kernel
theorem dX8_point_1 : decode cX8_point 1 = .ok (.iconst 0, 1) := by decide +kernel
theorem dX8_point_2 : decode cX8_point 2 = .ok (.putfield 105, 3) := by decide +kernel
theorem dX8_point_5 : decode cX8_point 5 = .ok (.iload_n 1, 1) := by decide +kernel
theorem dX8_point_6 : decode cX8_point 6 = .ok (.i2l, 1) := by decide +kernel
theorem dX8_point_7 : decode cX8_point 7 = .ok (.lconst 0, 1) := by decide +kernel
theorem dX8_point_8 : decode cX8_point 8 = .ok (.aload_n 0, 1) := by decide +kernel
theorem dX8_point_9 : decode cX8_point 9 = .ok (.getfield 19, 3) := by decide +kernel
theorem dX8_point_12 : decode cX8_point 12 = .ok (.iconst 1, 1) := by decide +kernel
theorem dX8_point_13 : decode cX8_point 13 = .ok (.isub, 1) := by decide +kernel
theorem dX8_point_14 : decode cX8_point 14 = .ok (.i2l, 1) := by decide +kernel
theorem dX8_point_15 : decode cX8_point 15 = .ok (.invokestatic 111, 3) := by decide +kernel
theorem dX8_point_18 : decode cX8_point 18 = .ok (.ifCond .eq 14, 3) := by decide +kernel
theorem dX8_point_21 : decode cX8_point 21 = .ok (.iload_n 2, 1) := by decide +kernel
theorem dX8_point_22 : decode cX8_point 22 = .ok (.bipush (-9), 2) := by decide +kernel
theorem dX8_point_24 : decode cX8_point 24 = .ok (.bipush 9, 2) := by decide +kernel
theorem dX8_point_26 : decode cX8_point 26 = .ok (.invokestatic 235, 3) := by decide +kernel
theorem dX8_point_29 : decode cX8_point 29 = .ok (.goto 4, 3) := by decide +kernel
theorem dX8_point_32 : decode cX8_point 32 = .ok (.iconst (-1), 1) := by decide +kernel
theorem dX8_point_33 : decode cX8_point 33 = .ok (.istore_n 3, 1) := by decide +kernel
theorem dX8_point_34 : decode cX8_point 34 = .ok (.iload_n 3, 1) := by decide +kernel
theorem dX8_point_35 : decode cX8_point 35 = .ok (.ifCond .ge 12, 3) := by decide +kernel
theorem dX8_point_38 : decode cX8_point 38 = .ok (.ldc 239, 2) := by decide +kernel
theorem dX8_point_40 : decode cX8_point 40 = .ok (.aload_n 0, 1) := by decide +kernel
theorem dX8_point_41 : decode cX8_point 41 = .ok (.iload_n 3, 1) := by decide +kernel
theorem dX8_point_42 : decode cX8_point 42 = .ok (.invokevirtual 164, 3) := by decide +kernel
theorem dX8_point_45 : decode cX8_point 45 = .ok (.isub, 1) := by decide +kernel
theorem dX8_point_46 : decode cX8_point 46 = .ok (.ireturn, 1) := by decide +kernel
theorem dX8_point_47 : decode cX8_point 47 = .ok (.aload_n 0, 1) := by decide +kernel
theorem dX8_point_48 : decode cX8_point 48 = .ok (.invokevirtual 240, 3) := by decide +kernel
theorem dX8_point_51 : decode cX8_point 51 = .ok (.aload_n 0, 1) := by decide +kernel
theorem dX8_point_52 : decode cX8_point 52 = .ok (.getfield 23, 3) := by decide +kernel
theorem dX8_point_55 : decode cX8_point 55 = .ok (.iload_n 1, 1) := by decide +kernel
theorem dX8_point_56 : decode cX8_point 56 = .ok (.iaload, 1) := by decide +kernel
theorem dX8_point_57 : decode cX8_point 57 = .ok (.istore 4, 2) := by decide +kernel
theorem dX8_point_59 : decode cX8_point 59 = .ok (.aload_n 0, 1) := by decide +kernel
theorem dX8_point_60 : decode cX8_point 60 = .ok (.getfield 23, 3) := by decide +kernel
theorem dX8_point_63 : decode cX8_point 63 = .ok (.iload_n 1, 1) := by decide +kernel
theorem dX8_point_64 : decode cX8_point 64 = .ok (.iload_n 2, 1) := by decide +kernel
theorem dX8_point_65 : decode cX8_point 65 = .ok (.iastore, 1) := by decide +kernel
theorem dX8_point_66 : decode cX8_point 66 = .ok (.iload 4, 2) := by decide +kernel
theorem dX8_point_68 : decode cX8_point 68 = .ok (.ireturn, 1) := by decide +kernel
theorem dX8_kind_0 : decode cX8_kind 0 = .ok (.aload_n 0, 1) := by decide +kernel
theorem dX8_kind_1 : decode cX8_kind 1 = .ok (.iconst 0, 1) := by decide +kernel
theorem dX8_kind_2 : decode cX8_kind 2 = .ok (.putfield 105, 3) := by decide +kernel
theorem dX8_kind_5 : decode cX8_kind 5 = .ok (.aload_n 0, 1) := by decide +kernel
theorem dX8_kind_6 : decode cX8_kind 6 = .ok (.iload_n 1, 1) := by decide +kernel
theorem dX8_kind_7 : decode cX8_kind 7 = .ok (.invokevirtual 230, 3) := by decide +kernel
theorem dX8_kind_10 : decode cX8_kind 10 = .ok (.ifCond .ne 7, 3) := by decide +kernel
theorem dX8_kind_13 : decode cX8_kind 13 = .ok (.iconst (-1), 1) := by decide +kernel
theorem dX8_kind_14 : decode cX8_kind 14 = .ok (.goto 27, 3) := by decide +kernel
theorem dX8_kind_17 : decode cX8_kind 17 = .ok (.iload_n 2, 1) := by decide +kernel
theorem dX8_kind_18 : decode cX8_kind 18 = .ok (.i2l, 1) := by decide +kernel
theorem dX8_kind_19 : decode cX8_kind 19 = .ok (.lconst 0, 1) := by decide +kernel
theorem dX8_kind_20 : decode cX8_kind 20 = .ok (.ldc2_w 243, 3) := by decide +kernel
theorem dX8_kind_23 : decode cX8_kind 23 = .ok (.invokestatic 111, 3) := by decide +kernel
theorem dX8_kind_26 : decode cX8_kind 26 = .ok (.ifCond .ne 8, 3) := by decide +kernel
theorem dX8_kind_29 : decode cX8_kind 29 = .ok (.bipush (-2), 2) := by decide +kernel
theorem dX8_kind_31 : decode cX8_kind 31 = .ok (.goto 10, 3) := by decide +kernel
theorem dX8_kind_34 : decode cX8_kind 34 = .ok (.iload_n 3, 1) := by decide +kernel
theorem dX8_kind_35 : decode cX8_kind 35 = .ok (.iconst 0, 1) := by decide +kernel
theorem dX8_kind_36 : decode cX8_kind 36 = .ok (.bipush 9, 2) := by decide +kernel
theorem dX8_kind_38 : decode cX8_kind 38 = .ok (.invokestatic 235, 3) := by decide +kernel
theorem dX8_kind_41 : decode cX8_kind 41 = .ok (.istore 4, 2) := by decide +kernel
theorem dX8_kind_43 : decode cX8_kind 43 = .ok (.iload 4, 2) := by decide +kernel
theorem dX8_kind_45 : decode cX8_kind 45 = .ok (.ifCond .ge 10, 3) := by decide +kernel
theorem dX8_kind_48 : decode cX8_kind 48 = .ok (.aload_n 0, 1) := by decide +kernel
theorem dX8_kind_49 : decode cX8_kind 49 = .ok (.iload 4, 2) := by decide +kernel
theorem dX8_kind_51 : decode cX8_kind 51 = .ok (.invokevirtual 164, 3) := by decide +kernel
theorem dX8_kind_54 : decode cX8_kind 54 = .ok (.ireturn, 1) := by decide +kernel
theorem dX8_kind_55 : decode cX8_kind 55 = .ok (.aload_n 0, 1) := by decide +kernel
theorem dX8_kind_56 : decode cX8_kind 56 = .ok (.invokevirtual 240, 3) := by decide +kernel
theorem dX8_kind_59 : decode cX8_kind 59 = .ok (.bipush 10, 2) := by decide +kernel
theorem dX8_kind_61 : decode cX8_kind 61 = .ok (.aload_n 0, 1) := by decide +kernel
theorem dX8_kind_62 : decode cX8_kind 62 = .ok (.getfield 7, 3) := by decide +kernel
theorem dX8_kind_65 : decode cX8_kind 65 = .ok (.iload_n 1, 1) := by decide +kernel
theorem dX8_kind_66 : decode cX8_kind 66 = .ok (.iaload, 1) := by decide +kernel
theorem dX8_kind_67 : decode cX8_kind 67 = .ok (.imul, 1) := by decide +kernel
theorem dX8_kind_68 : decode cX8_kind 68 = .ok (.aload_n 0, 1) := by decide +kernel
theorem dX8_kind_69 : decode cX8_kind 69 = .ok (.getfield 13, 3) := by decide +kernel
theorem dX8_kind_72 : decode cX8_kind 72 = .ok (.iload_n 1, 1) := by decide +kernel
theorem dX8_kind_73 : decode cX8_kind 73 = .ok (.iaload, 1) := by decide +kernel
theorem dX8_kind_74 : decode cX8_kind 74 = .ok (.iadd, 1) := by decide +kernel
theorem dX8_kind_75 : decode cX8_kind 75 = .ok (.istore 5, 2) := by decide +kernel
theorem dX8_kind_77 : decode cX8_kind 77 = .ok (.aload_n 0, 1) := by decide +kernel
theorem dX8_kind_78 : decode cX8_kind 78 = .ok (.getfield 7, 3) := by decide +kernel
theorem dX8_kind_81 : decode cX8_kind 81 = .ok (.iload_n 1, 1) := by decide +kernel
theorem dX8_kind_82 : decode cX8_kind 82 = .ok (.iload_n 2, 1) := by decide +kernel
theorem dX8_kind_83 : decode cX8_kind 83 = .ok (.iastore, 1) := by decide +kernel
theorem dX8_kind_84 : decode cX8_kind 84 = .ok (.aload_n 0, 1) := by decide +kernel
theorem dX8_kind_85 : decode cX8_kind 85 = .ok (.getfield 13, 3) := by decide +kernel
theorem dX8_kind_88 : decode cX8_kind 88 = .ok (.iload_n 1, 1) := by decide +kernel
theorem dX8_kind_89 : decode cX8_kind 89 = .ok (.iload_n 3, 1) := by decide +kernel
theorem dX8_kind_90 : decode cX8_kind 90 = .ok (.iastore, 1) := by decide +kernel
theorem dX8_kind_91 : decode cX8_kind 91 = .ok (.iload 5, 2) := by decide +kernel
theorem dX8_kind_93 : decode cX8_kind 93 = .ok (.ireturn, 1) := by decide +kernel
theorem dX8_lowest_0 : decode cX8_lowest 0 = .ok (.aload_n 0, 1) := by decide +kernel
theorem dX8_lowest_1 : decode cX8_lowest 1 = .ok (.iconst 0, 1) := by decide +kernel
theorem dX8_lowest_2 : decode cX8_lowest 2 = .ok (.putfield 105, 3) := by decide +kernel
theorem dX8_lowest_5 : decode cX8_lowest 5 = .ok (.iconst 0, 1) := by decide +kernel
theorem dX8_lowest_6 : decode cX8_lowest 6 = .ok (.istore 4, 2) := by decide +kernel
theorem dX8_lowest_8 : decode cX8_lowest 8 = .ok (.iload_n 1, 1) := by decide +kernel
theorem dX8_lowest_9 : decode cX8_lowest 9 = .ok (.i2l, 1) := by decide +kernel
theorem dX8_lowest_10 : decode cX8_lowest 10 = .ok (.lconst 0, 1) := by decide +kernel
theorem dX8_lowest_11 : decode cX8_lowest 11 = .ok (.ldc2_w 243, 3) := by decide +kernel
theorem dX8_lowest_14 : decode cX8_lowest 14 = .ok (.invokestatic 111, 3) := by decide +kernel
theorem dX8_lowest_17 : decode cX8_lowest 17 = .ok (.ifCond .ne 10, 3) := by decide +kernel
theorem dX8_lowest_20 : decode cX8_lowest 20 = .ok (.bipush (-2), 2) := by decide +kernel
theorem dX8_lowest_22 : decode cX8_lowest 22 = .ok (.istore 4, 2) := by decide +kernel
theorem dX8_lowest_24 : decode cX8_lowest 24 = .ok (.goto 43, 3) := by decide +kernel
theorem dX8_lowest_27 : decode cX8_lowest 27 = .ok (.iload_n 2, 1) := by decide +kernel
theorem dX8_lowest_28 : decode cX8_lowest 28 = .ok (.ifCond .lt 7, 3) := by decide +kernel
theorem dX8_lowest_31 : decode cX8_lowest 31 = .ok (.iload_n 3, 1) := by decide +kernel
theorem dX8_lowest_32 : decode cX8_lowest 32 = .ok (.ifCond .ge 10, 3) := by decide +kernel
theorem dX8_lowest_35 : decode cX8_lowest 35 = .ok (.bipush (-4), 2) := by decide +kernel
theorem dX8_lowest_37 : decode cX8_lowest 37 = .ok (.istore 4, 2) := by decide +kernel
theorem dX8_lowest_39 : decode cX8_lowest 39 = .ok (.goto 28, 3) := by decide +kernel
theorem dX8_lowest_42 : decode cX8_lowest 42 = .ok (.iload_n 2, 1) := by decide +kernel
theorem dX8_lowest_43 : decode cX8_lowest 43 = .ok (.bipush 9, 2) := by decide +kernel
theorem dX8_lowest_45 : decode cX8_lowest 45 = .ok (.if_icmp .gt 18, 3) := by decide +kernel
theorem dX8_lowest_48 : decode cX8_lowest 48 = .ok (.iload_n 3, 1) := by decide +kernel
theorem dX8_lowest_49 : decode cX8_lowest 49 = .ok (.bipush 99, 2) := by decide +kernel
theorem dX8_lowest_51 : decode cX8_lowest 51 = .ok (.if_icmp .gt 12, 3) := by decide +kernel
theorem dX8_lowest_54 : decode cX8_lowest 54 = .ok (.aload_n 0, 1) := by decide +kernel
theorem dX8_lowest_55 : decode cX8_lowest 55 = .ok (.getfield 108, 3) := by decide +kernel
theorem dX8_lowest_58 : decode cX8_lowest 58 = .ok (.bipush 7, 2) := by decide +kernel
theorem dX8_lowest_60 : decode cX8_lowest 60 = .ok (.if_icmp .ne 7, 3) := by decide +kernel
theorem dX8_lowest_63 : decode cX8_lowest 63 = .ok (.bipush (-6), 2) := by decide +kernel
theorem dX8_lowest_65 : decode cX8_lowest 65 = .ok (.istore 4, 2) := by decide +kernel
theorem dX8_lowest_67 : decode cX8_lowest 67 = .ok (.iload 4, 2) := by decide +kernel
theorem dX8_lowest_69 : decode cX8_lowest 69 = .ok (.ifCond .ge 10, 3) := by decide +kernel
theorem dX8_lowest_72 : decode cX8_lowest 72 = .ok (.aload_n 0, 1) := by decide +kernel
theorem dX8_lowest_73 : decode cX8_lowest 73 = .ok (.iload 4, 2) := by decide +kernel
theorem dX8_lowest_75 : decode cX8_lowest 75 = .ok (.invokevirtual 164, 3) := by decide +kernel
theorem dX8_lowest_78 : decode cX8_lowest 78 = .ok (.ireturn, 1) := by decide +kernel
theorem dX8_lowest_79 : decode cX8_lowest 79 = .ok (.aload_n 0, 1) := by decide +kernel
theorem dX8_lowest_80 : decode cX8_lowest 80 = .ok (.invokevirtual 240, 3) := by decide +kernel
theorem dX8_lowest_83 : decode cX8_lowest 83 = .ok (.aload_n 0, 1) := by decide +kernel
theorem dX8_lowest_84 : decode cX8_lowest 84 = .ok (.iload_n 1, 1) := by decide +kernel
theorem dX8_lowest_85 : decode cX8_lowest 85 = .ok (.iload_n 2, 1) := by decide +kernel
theorem dX8_lowest_86 : decode cX8_lowest 86 = .ok (.iload_n 3, 1) := by decide +kernel
theorem dX8_lowest_87 : decode cX8_lowest 87 = .ok (.invokevirtual 193, 3) := by decide +kernel
theorem dX8_lowest_90 : decode cX8_lowest 90 = .ok (.aload_n 0, 1) := by decide +kernel
theorem dX8_lowest_91 : decode cX8_lowest 91 = .ok (.getfield 108, 3) := by decide +kernel
theorem dX8_lowest_94 : decode cX8_lowest 94 = .ok (.ireturn, 1) := by decide +kernel
theorem dX8_set_0 : decode cX8_set 0 = .ok (.aload_n 0, 1) := by decide +kernel
theorem dX8_set_1 : decode cX8_set 1 = .ok (.iconst 0, 1) := by decide +kernel
theorem dX8_set_2 : decode cX8_set 2 = .ok (.putfield 105, 3) := by decide +kernel
theorem dX8_set_5 : decode cX8_set 5 = .ok (.iload_n 1, 1) := by decide +kernel
theorem dX8_set_6 : decode cX8_set 6 = .ok (.i2l, 1) := by decide +kernel
theorem dX8_set_7 : decode cX8_set 7 = .ok (.lconst 0, 1) := by decide +kernel
theorem dX8_set_8 : decode cX8_set 8 = .ok (.ldc2_w 233, 3) := by decide +kernel
theorem dX8_set_11 : decode cX8_set 11 = .ok (.invokestatic 111, 3) := by decide +kernel
theorem dX8_set_14 : decode cX8_set 14 = .ok (.ifCond .eq 32, 3) := by decide +kernel
theorem dX8_set_17 : decode cX8_set 17 = .ok (.iload_n 2, 1) := by decide +kernel
theorem dX8_set_18 : decode cX8_set 18 = .ok (.iload_n 1, 1) := by decide +kernel
theorem dX8_set_19 : decode cX8_set 19 = .ok (.ifCond .ne 7, 3) := by decide +kernel
theorem dX8_set_22 : decode cX8_set 22 = .ok (.iconst 1, 1) := by decide +kernel
theorem dX8_set_23 : decode cX8_set 23 = .ok (.goto 4, 3) := by decide +kernel
theorem dX8_set_26 : decode cX8_set 26 = .ok (.iconst 0, 1) := by decide +kernel
theorem dX8_set_27 : decode cX8_set 27 = .ok (.iload_n 1, 1) := by decide +kernel
theorem dX8_set_28 : decode cX8_set 28 = .ok (.iconst 1, 1) := by decide +kernel
theorem dX8_set_29 : decode cX8_set 29 = .ok (.if_icmp .ne 9, 3) := by decide +kernel
theorem dX8_set_32 : decode cX8_set 32 = .ok (.sipush 999, 3) := by decide +kernel
theorem dX8_set_35 : decode cX8_set 35 = .ok (.goto 5, 3) := by decide +kernel
theorem dX8_set_38 : decode cX8_set 38 = .ok (.bipush 8, 2) := by decide +kernel
theorem dX8_set_40 : decode cX8_set 40 = .ok (.invokestatic 235, 3) := by decide +kernel
theorem dX8_set_43 : decode cX8_set 43 = .ok (.goto 5, 3) := by decide +kernel
theorem dX8_set_46 : decode cX8_set 46 = .ok (.bipush (-2), 2) := by decide +kernel
theorem dX8_set_48 : decode cX8_set 48 = .ok (.istore_n 3, 1) := by decide +kernel
theorem dX8_set_49 : decode cX8_set 49 = .ok (.iload_n 3, 1) := by decide +kernel
theorem dX8_set_50 : decode cX8_set 50 = .ok (.ifCond .ge 9, 3) := by decide +kernel
theorem dX8_set_53 : decode cX8_set 53 = .ok (.aload_n 0, 1) := by decide +kernel
theorem dX8_set_54 : decode cX8_set 54 = .ok (.iload_n 3, 1) := by decide +kernel
theorem dX8_set_55 : decode cX8_set 55 = .ok (.invokevirtual 164, 3) := by decide +kernel
theorem dX8_set_58 : decode cX8_set 58 = .ok (.ireturn, 1) := by decide +kernel
theorem dX8_set_59 : decode cX8_set 59 = .ok (.iload_n 1, 1) := by decide +kernel
theorem dX8_set_60 : decode cX8_set 60 = .ok (.ifCond .ne 10, 3) := by decide +kernel
theorem dX8_set_63 : decode cX8_set 63 = .ok (.aload_n 0, 1) := by decide +kernel
theorem dX8_set_64 : decode cX8_set 64 = .ok (.getfield 19, 3) := by decide +kernel
theorem dX8_set_67 : decode cX8_set 67 = .ok (.goto 19, 3) := by decide +kernel
theorem dX8_set_70 : decode cX8_set 70 = .ok (.iload_n 1, 1) := by decide +kernel
theorem dX8_set_71 : decode cX8_set 71 = .ok (.iconst 1, 1) := by decide +kernel
theorem dX8_set_72 : decode cX8_set 72 = .ok (.if_icmp .ne 10, 3) := by decide +kernel
theorem dX8_set_75 : decode cX8_set 75 = .ok (.aload_n 0, 1) := by decide +kernel
theorem dX8_set_76 : decode cX8_set 76 = .ok (.getfield 26, 3) := by decide +kernel
theorem dX8_set_79 : decode cX8_set 79 = .ok (.goto 7, 3) := by decide +kernel
theorem dX8_set_82 : decode cX8_set 82 = .ok (.aload_n 0, 1) := by decide +kernel
theorem dX8_set_83 : decode cX8_set 83 = .ok (.getfield 29, 3) := by decide +kernel
theorem dX8_set_86 : decode cX8_set 86 = .ok (.istore 4, 2) := by decide +kernel
theorem dX8_set_88 : decode cX8_set 88 = .ok (.iload_n 1, 1) := by decide +kernel
theorem dX8_set_89 : decode cX8_set 89 = .ok (.ifCond .ne 8, 3) := by decide +kernel
theorem dX8_set_92 : decode cX8_set 92 = .ok (.aload_n 0, 1) := by decide +kernel
theorem dX8_set_93 : decode cX8_set 93 = .ok (.iload_n 2, 1) := by decide +kernel
theorem dX8_set_94 : decode cX8_set 94 = .ok (.invokevirtual 199, 3) := by decide +kernel
theorem dX8_set_97 : decode cX8_set 97 = .ok (.aload_n 0, 1) := by decide +kernel
theorem dX8_set_98 : decode cX8_set 98 = .ok (.iload_n 1, 1) := by decide +kernel
theorem dX8_set_99 : decode cX8_set 99 = .ok (.iconst 1, 1) := by decide +kernel
theorem dX8_set_100 : decode cX8_set 100 = .ok (.if_icmp .ne 7, 3) := by decide +kernel
theorem dX8_set_103 : decode cX8_set 103 = .ok (.iload_n 2, 1) := by decide +kernel
theorem dX8_set_104 : decode cX8_set 104 = .ok (.goto 7, 3) := by decide +kernel
theorem dX8_set_107 : decode cX8_set 107 = .ok (.aload_n 0, 1) := by decide +kernel
theorem dX8_set_108 : decode cX8_set 108 = .ok (.getfield 26, 3) := by decide +kernel
theorem dX8_set_111 : decode cX8_set 111 = .ok (.putfield 26, 3) := by decide +kernel
theorem dX8_set_114 : decode cX8_set 114 = .ok (.aload_n 0, 1) := by decide +kernel
theorem dX8_set_115 : decode cX8_set 115 = .ok (.iload_n 1, 1) := by decide +kernel
theorem dX8_set_116 : decode cX8_set 116 = .ok (.iconst 2, 1) := by decide +kernel
theorem dX8_set_117 : decode cX8_set 117 = .ok (.if_icmp .ne 7, 3) := by decide +kernel
theorem dX8_set_120 : decode cX8_set 120 = .ok (.iload_n 2, 1) := by decide +kernel
theorem dX8_set_121 : decode cX8_set 121 = .ok (.goto 7, 3) := by decide +kernel
theorem dX8_set_124 : decode cX8_set 124 = .ok (.aload_n 0, 1) := by decide +kernel
theorem dX8_set_125 : decode cX8_set 125 = .ok (.getfield 29, 3) := by decide +kernel
theorem dX8_set_128 : decode cX8_set 128 = .ok (.putfield 29, 3) := by decide +kernel
theorem dX8_set_131 : decode cX8_set 131 = .ok (.aload_n 0, 1) := by decide +kernel
theorem dX8_set_132 : decode cX8_set 132 = .ok (.iconst 0, 1) := by decide +kernel
theorem dX8_set_133 : decode cX8_set 133 = .ok (.putfield 212, 3) := by decide +kernel
theorem dX8_set_136 : decode cX8_set 136 = .ok (.iload 4, 2) := by decide +kernel
theorem dX8_set_138 : decode cX8_set 138 = .ok (.ireturn, 1) := by decide +kernel
theorem dX8_downTo_0 : decode cX8_downTo 0 = .ok (.aload_n 0, 1) := by decide +kernel
theorem dX8_downTo_1 : decode cX8_downTo 1 = .ok (.invokevirtual 158, 3) := by decide +kernel
theorem dX8_downTo_4 : decode cX8_downTo 4 = .ok (.iconst 0, 1) := by decide +kernel
theorem dX8_downTo_5 : decode cX8_downTo 5 = .ok (.istore_n 2, 1) := by decide +kernel
theorem dX8_downTo_6 : decode cX8_downTo 6 = .ok (.iload_n 2, 1) := by decide +kernel
theorem dX8_downTo_7 : decode cX8_downTo 7 = .ok (.iload_n 1, 1) := by decide +kernel
theorem dX8_downTo_8 : decode cX8_downTo 8 = .ok (.if_icmp .ge 14, 3) := by decide +kernel
theorem dX8_downTo_11 : decode cX8_downTo 11 = .ok (.aload_n 0, 1) := by decide +kernel
theorem dX8_downTo_12 : decode cX8_downTo 12 = .ok (.iload_n 2, 1) := by decide +kernel
theorem dX8_downTo_13 : decode cX8_downTo 13 = .ok (.invokevirtual 154, 3) := by decide +kernel
theorem dX8_downTo_16 : decode cX8_downTo 16 = .ok (.iinc 2 1, 3) := by decide +kernel
theorem dX8_downTo_19 : decode cX8_downTo 19 = .ok (.goto (-13), 3) := by decide +kernel
theorem dX8_downTo_22 : decode cX8_downTo 22 = .ok (.return_, 1) := by decide +kernel
theorem dX8_down_0 : decode cX8_down 0 = .ok (.aload_n 0, 1) := by decide +kernel
theorem dX8_down_1 : decode cX8_down 1 = .ok (.iconst 0, 1) := by decide +kernel
theorem dX8_down_2 : decode cX8_down 2 = .ok (.putfield 105, 3) := by decide +kernel
theorem dX8_down_5 : decode cX8_down 5 = .ok (.iload_n 1, 1) := by decide +kernel
theorem dX8_down_6 : decode cX8_down 6 = .ok (.iconst 0, 1) := by decide +kernel
theorem dX8_down_7 : decode cX8_down 7 = .ok (.aload_n 0, 1) := by decide +kernel
theorem dX8_down_8 : decode cX8_down 8 = .ok (.getfield 108, 3) := by decide +kernel
theorem dX8_down_11 : decode cX8_down 11 = .ok (.invokestatic 235, 3) := by decide +kernel
theorem dX8_down_14 : decode cX8_down 14 = .ok (.istore_n 3, 1) := by decide +kernel
theorem dX8_down_15 : decode cX8_down 15 = .ok (.iload_n 3, 1) := by decide +kernel
theorem dX8_down_16 : decode cX8_down 16 = .ok (.ifCond .ne 36, 3) := by decide +kernel
theorem dX8_down_19 : decode cX8_down 19 = .ok (.iload_n 2, 1) := by decide +kernel
theorem dX8_down_20 : decode cX8_down 20 = .ok (.i2l, 1) := by decide +kernel
theorem dX8_down_21 : decode cX8_down 21 = .ok (.lconst 0, 1) := by decide +kernel
theorem dX8_down_22 : decode cX8_down 22 = .ok (.ldc2_w 245, 3) := by decide +kernel
theorem dX8_down_25 : decode cX8_down 25 = .ok (.invokestatic 111, 3) := by decide +kernel
theorem dX8_down_28 : decode cX8_down 28 = .ok (.ifCond .eq 19, 3) := by decide +kernel
theorem dX8_down_31 : decode cX8_down 31 = .ok (.iload_n 2, 1) := by decide +kernel
theorem dX8_down_32 : decode cX8_down 32 = .ok (.i2l, 1) := by decide +kernel
theorem dX8_down_33 : decode cX8_down 33 = .ok (.aload_n 0, 1) := by decide +kernel
theorem dX8_down_34 : decode cX8_down 34 = .ok (.getfield 19, 3) := by decide +kernel
theorem dX8_down_37 : decode cX8_down 37 = .ok (.i2l, 1) := by decide +kernel
theorem dX8_down_38 : decode cX8_down 38 = .ok (.ldc2_w 247, 3) := by decide +kernel
theorem dX8_down_41 : decode cX8_down 41 = .ok (.invokestatic 111, 3) := by decide +kernel
theorem dX8_down_44 : decode cX8_down 44 = .ok (.ifCond .eq 8, 3) := by decide +kernel
theorem dX8_down_47 : decode cX8_down 47 = .ok (.bipush (-2), 2) := by decide +kernel
theorem dX8_down_49 : decode cX8_down 49 = .ok (.goto 4, 3) := by decide +kernel
theorem dX8_down_52 : decode cX8_down 52 = .ok (.iload_n 3, 1) := by decide +kernel
theorem dX8_down_53 : decode cX8_down 53 = .ok (.istore_n 3, 1) := by decide +kernel
theorem dX8_down_54 : decode cX8_down 54 = .ok (.iload_n 3, 1) := by decide +kernel
theorem dX8_down_55 : decode cX8_down 55 = .ok (.ifCond .ge 12, 3) := by decide +kernel
theorem dX8_down_58 : decode cX8_down 58 = .ok (.ldc 239, 2) := by decide +kernel
theorem dX8_down_60 : decode cX8_down 60 = .ok (.aload_n 0, 1) := by decide +kernel
theorem dX8_down_61 : decode cX8_down 61 = .ok (.iload_n 3, 1) := by decide +kernel
theorem dX8_down_62 : decode cX8_down 62 = .ok (.invokevirtual 164, 3) := by decide +kernel
theorem dX8_down_65 : decode cX8_down 65 = .ok (.isub, 1) := by decide +kernel
theorem dX8_down_66 : decode cX8_down 66 = .ok (.ireturn, 1) := by decide +kernel
theorem dX8_down_67 : decode cX8_down 67 = .ok (.aload_n 0, 1) := by decide +kernel
theorem dX8_down_68 : decode cX8_down 68 = .ok (.iload_n 1, 1) := by decide +kernel
theorem dX8_down_69 : decode cX8_down 69 = .ok (.invokevirtual 249, 3) := by decide +kernel
theorem dX8_down_72 : decode cX8_down 72 = .ok (.iload_n 2, 1) := by decide +kernel
theorem dX8_down_73 : decode cX8_down 73 = .ok (.bipush 8, 2) := by decide +kernel
theorem dX8_down_75 : decode cX8_down 75 = .ok (.if_icmp .ge 12, 3) := by decide +kernel
theorem dX8_down_78 : decode cX8_down 78 = .ok (.aload_n 0, 1) := by decide +kernel
theorem dX8_down_79 : decode cX8_down 79 = .ok (.getfield 35, 3) := by decide +kernel
theorem dX8_down_82 : decode cX8_down 82 = .ok (.iload_n 2, 1) := by decide +kernel
theorem dX8_down_83 : decode cX8_down 83 = .ok (.iaload, 1) := by decide +kernel
theorem dX8_down_84 : decode cX8_down 84 = .ok (.goto 28, 3) := by decide +kernel
theorem dX8_down_87 : decode cX8_down 87 = .ok (.iload_n 2, 1) := by decide +kernel
theorem dX8_down_88 : decode cX8_down 88 = .ok (.bipush 8, 2) := by decide +kernel
theorem dX8_down_90 : decode cX8_down 90 = .ok (.if_icmp .ne 10, 3) := by decide +kernel
theorem dX8_down_93 : decode cX8_down 93 = .ok (.aload_n 0, 1) := by decide +kernel
theorem dX8_down_94 : decode cX8_down 94 = .ok (.invokevirtual 118, 3) := by decide +kernel
theorem dX8_down_97 : decode cX8_down 97 = .ok (.goto 15, 3) := by decide +kernel
theorem dX8_down_100 : decode cX8_down 100 = .ok (.aload_n 0, 1) := by decide +kernel
theorem dX8_down_101 : decode cX8_down 101 = .ok (.invokevirtual 252, 3) := by decide +kernel
theorem dX8_down_104 : decode cX8_down 104 = .ok (.ifCond .eq 7, 3) := by decide +kernel
theorem dX8_down_107 : decode cX8_down 107 = .ok (.iconst 1, 1) := by decide +kernel
theorem dX8_down_108 : decode cX8_down 108 = .ok (.goto 4, 3) := by decide +kernel
theorem dX8_down_111 : decode cX8_down 111 = .ok (.iconst 0, 1) := by decide +kernel
theorem dX8_down_112 : decode cX8_down 112 = .ok (.ireturn, 1) := by decide +kernel
theorem dX8_turns_0 : decode cX8_turns 0 = .ok (.aload_n 0, 1) := by decide +kernel
theorem dX8_turns_1 : decode cX8_turns 1 = .ok (.iconst 0, 1) := by decide +kernel
theorem dX8_turns_2 : decode cX8_turns 2 = .ok (.putfield 105, 3) := by decide +kernel
theorem dX8_turns_5 : decode cX8_turns 5 = .ok (.iload_n 1, 1) := by decide +kernel
theorem dX8_turns_6 : decode cX8_turns 6 = .ok (.i2l, 1) := by decide +kernel
theorem dX8_turns_7 : decode cX8_turns 7 = .ok (.lconst 0, 1) := by decide +kernel
theorem dX8_turns_8 : decode cX8_turns 8 = .ok (.lconst 1, 1) := by decide +kernel
theorem dX8_turns_9 : decode cX8_turns 9 = .ok (.invokestatic 111, 3) := by decide +kernel
theorem dX8_turns_12 : decode cX8_turns 12 = .ok (.ifCond .ne 10, 3) := by decide +kernel
theorem dX8_turns_15 : decode cX8_turns 15 = .ok (.aload_n 0, 1) := by decide +kernel
theorem dX8_turns_16 : decode cX8_turns 16 = .ok (.bipush (-2), 2) := by decide +kernel
theorem dX8_turns_18 : decode cX8_turns 18 = .ok (.invokevirtual 164, 3) := by decide +kernel
theorem dX8_turns_21 : decode cX8_turns 21 = .ok (.ireturn, 1) := by decide +kernel
theorem dX8_turns_22 : decode cX8_turns 22 = .ok (.bipush (-9), 2) := by decide +kernel
theorem dX8_turns_24 : decode cX8_turns 24 = .ok (.istore_n 2, 1) := by decide +kernel
theorem dX8_turns_25 : decode cX8_turns 25 = .ok (.iconst 0, 1) := by decide +kernel
theorem dX8_turns_26 : decode cX8_turns 26 = .ok (.istore_n 3, 1) := by decide +kernel
theorem dX8_turns_27 : decode cX8_turns 27 = .ok (.aload_n 0, 1) := by decide +kernel
theorem dX8_turns_28 : decode cX8_turns 28 = .ok (.invokevirtual 158, 3) := by decide +kernel
theorem dX8_turns_31 : decode cX8_turns 31 = .ok (.iconst 0, 1) := by decide +kernel
theorem dX8_turns_32 : decode cX8_turns 32 = .ok (.istore 4, 2) := by decide +kernel
theorem dX8_turns_34 : decode cX8_turns 34 = .ok (.iload 4, 2) := by decide +kernel
theorem dX8_turns_36 : decode cX8_turns 36 = .ok (.aload_n 0, 1) := by decide +kernel
theorem dX8_turns_37 : decode cX8_turns 37 = .ok (.getfield 108, 3) := by decide +kernel
theorem dX8_turns_40 : decode cX8_turns 40 = .ok (.if_icmp .ge 66, 3) := by decide +kernel
theorem dX8_turns_43 : decode cX8_turns 43 = .ok (.aload_n 0, 1) := by decide +kernel
theorem dX8_turns_44 : decode cX8_turns 44 = .ok (.invokevirtual 252, 3) := by decide +kernel
theorem dX8_turns_47 : decode cX8_turns 47 = .ok (.istore 5, 2) := by decide +kernel
theorem dX8_turns_49 : decode cX8_turns 49 = .ok (.aload_n 0, 1) := by decide +kernel
theorem dX8_turns_50 : decode cX8_turns 50 = .ok (.iload 4, 2) := by decide +kernel
theorem dX8_turns_52 : decode cX8_turns 52 = .ok (.invokevirtual 154, 3) := by decide +kernel
theorem dX8_turns_55 : decode cX8_turns 55 = .ok (.aload_n 0, 1) := by decide +kernel
theorem dX8_turns_56 : decode cX8_turns 56 = .ok (.invokevirtual 252, 3) := by decide +kernel
theorem dX8_turns_59 : decode cX8_turns 59 = .ok (.iload 5, 2) := by decide +kernel
theorem dX8_turns_61 : decode cX8_turns 61 = .ok (.if_icmp .eq 7, 3) := by decide +kernel
theorem dX8_turns_64 : decode cX8_turns 64 = .ok (.iconst 1, 1) := by decide +kernel
theorem dX8_turns_65 : decode cX8_turns 65 = .ok (.goto 4, 3) := by decide +kernel
theorem dX8_turns_68 : decode cX8_turns 68 = .ok (.iconst 0, 1) := by decide +kernel
theorem dX8_turns_69 : decode cX8_turns 69 = .ok (.istore 6, 2) := by decide +kernel
theorem dX8_turns_71 : decode cX8_turns 71 = .ok (.iload 6, 2) := by decide +kernel
theorem dX8_turns_73 : decode cX8_turns 73 = .ok (.ifCond .eq 12, 3) := by decide +kernel
theorem dX8_turns_76 : decode cX8_turns 76 = .ok (.iload_n 2, 1) := by decide +kernel
theorem dX8_turns_77 : decode cX8_turns 77 = .ok (.ifCond .ge 8, 3) := by decide +kernel
theorem dX8_turns_80 : decode cX8_turns 80 = .ok (.iload 4, 2) := by decide +kernel
theorem dX8_turns_82 : decode cX8_turns 82 = .ok (.goto 4, 3) := by decide +kernel
theorem dX8_turns_85 : decode cX8_turns 85 = .ok (.iload_n 2, 1) := by decide +kernel
theorem dX8_turns_86 : decode cX8_turns 86 = .ok (.istore_n 2, 1) := by decide +kernel
theorem dX8_turns_87 : decode cX8_turns 87 = .ok (.iload_n 3, 1) := by decide +kernel
theorem dX8_turns_88 : decode cX8_turns 88 = .ok (.iload 6, 2) := by decide +kernel
theorem dX8_turns_90 : decode cX8_turns 90 = .ok (.ifCond .eq 7, 3) := by decide +kernel
theorem dX8_turns_93 : decode cX8_turns 93 = .ok (.iconst 1, 1) := by decide +kernel
theorem dX8_turns_94 : decode cX8_turns 94 = .ok (.goto 4, 3) := by decide +kernel
theorem dX8_turns_97 : decode cX8_turns 97 = .ok (.iconst 0, 1) := by decide +kernel
theorem dX8_turns_98 : decode cX8_turns 98 = .ok (.iadd, 1) := by decide +kernel
theorem dX8_turns_99 : decode cX8_turns 99 = .ok (.istore_n 3, 1) := by decide +kernel
theorem dX8_turns_100 : decode cX8_turns 100 = .ok (.iinc 4 1, 3) := by decide +kernel
theorem dX8_turns_103 : decode cX8_turns 103 = .ok (.goto (-69), 3) := by decide +kernel
theorem dX8_turns_106 : decode cX8_turns 106 = .ok (.iload_n 1, 1) := by decide +kernel
theorem dX8_turns_107 : decode cX8_turns 107 = .ok (.ifCond .ne 7, 3) := by decide +kernel
theorem dX8_turns_110 : decode cX8_turns 110 = .ok (.iload_n 2, 1) := by decide +kernel
theorem dX8_turns_111 : decode cX8_turns 111 = .ok (.goto 4, 3) := by decide +kernel
theorem dX8_turns_114 : decode cX8_turns 114 = .ok (.iload_n 3, 1) := by decide +kernel
theorem dX8_turns_115 : decode cX8_turns 115 = .ok (.ireturn, 1) := by decide +kernel
theorem dX8_costs_0 : decode cX8_costs 0 = .ok (.aload_n 0, 1) := by decide +kernel
theorem dX8_costs_1 : decode cX8_costs 1 = .ok (.iconst 0, 1) := by decide +kernel
theorem dX8_costs_2 : decode cX8_costs 2 = .ok (.putfield 105, 3) := by decide +kernel
theorem dX8_costs_5 : decode cX8_costs 5 = .ok (.iload_n 1, 1) := by decide +kernel
theorem dX8_costs_6 : decode cX8_costs 6 = .ok (.iconst 0, 1) := by decide +kernel
theorem dX8_costs_7 : decode cX8_costs 7 = .ok (.aload_n 0, 1) := by decide +kernel
theorem dX8_costs_8 : decode cX8_costs 8 = .ok (.getfield 108, 3) := by decide +kernel
theorem dX8_costs_11 : decode cX8_costs 11 = .ok (.invokestatic 235, 3) := by decide +kernel
theorem dX8_costs_14 : decode cX8_costs 14 = .ok (.ifCond .ge 17, 3) := by decide +kernel
theorem dX8_costs_17 : decode cX8_costs 17 = .ok (.aload_n 0, 1) := by decide +kernel
theorem dX8_costs_18 : decode cX8_costs 18 = .ok (.iload_n 1, 1) := by decide +kernel
theorem dX8_costs_19 : decode cX8_costs 19 = .ok (.iconst 0, 1) := by decide +kernel
theorem dX8_costs_20 : decode cX8_costs 20 = .ok (.aload_n 0, 1) := by decide +kernel
theorem dX8_costs_21 : decode cX8_costs 21 = .ok (.getfield 108, 3) := by decide +kernel
theorem dX8_costs_24 : decode cX8_costs 24 = .ok (.invokestatic 235, 3) := by decide +kernel
theorem dX8_costs_27 : decode cX8_costs 27 = .ok (.invokevirtual 164, 3) := by decide +kernel
theorem dX8_costs_30 : decode cX8_costs 30 = .ok (.ireturn, 1) := by decide +kernel
theorem dX8_costs_31 : decode cX8_costs 31 = .ok (.iconst 0, 1) := by decide +kernel
theorem dX8_costs_32 : decode cX8_costs 32 = .ok (.istore_n 2, 1) := by decide +kernel
theorem dX8_costs_33 : decode cX8_costs 33 = .ok (.iconst 0, 1) := by decide +kernel
theorem dX8_costs_34 : decode cX8_costs 34 = .ok (.istore_n 3, 1) := by decide +kernel
theorem dX8_costs_35 : decode cX8_costs 35 = .ok (.iload_n 3, 1) := by decide +kernel
theorem dX8_costs_36 : decode cX8_costs 36 = .ok (.iload_n 1, 1) := by decide +kernel
theorem dX8_costs_37 : decode cX8_costs 37 = .ok (.if_icmp .ge 18, 3) := by decide +kernel
theorem dX8_costs_40 : decode cX8_costs 40 = .ok (.iload_n 2, 1) := by decide +kernel
theorem dX8_costs_41 : decode cX8_costs 41 = .ok (.aload_n 0, 1) := by decide +kernel
theorem dX8_costs_42 : decode cX8_costs 42 = .ok (.getfield 16, 3) := by decide +kernel
theorem dX8_costs_45 : decode cX8_costs 45 = .ok (.iload_n 3, 1) := by decide +kernel
theorem dX8_costs_46 : decode cX8_costs 46 = .ok (.iaload, 1) := by decide +kernel
theorem dX8_costs_47 : decode cX8_costs 47 = .ok (.iadd, 1) := by decide +kernel
theorem dX8_costs_48 : decode cX8_costs 48 = .ok (.istore_n 2, 1) := by decide +kernel
theorem dX8_costs_49 : decode cX8_costs 49 = .ok (.iinc 3 1, 3) := by decide +kernel
theorem dX8_costs_52 : decode cX8_costs 52 = .ok (.goto (-17), 3) := by decide +kernel
theorem dX8_costs_55 : decode cX8_costs 55 = .ok (.iload_n 2, 1) := by decide +kernel
theorem dX8_costs_56 : decode cX8_costs 56 = .ok (.ireturn, 1) := by decide +kernel
theorem dX8_up_0 : decode cX8_up 0 = .ok (.aload_n 0, 1) := by decide +kernel
theorem dX8_up_1 : decode cX8_up 1 = .ok (.iconst 0, 1) := by decide +kernel
theorem dX8_up_2 : decode cX8_up 2 = .ok (.putfield 105, 3) := by decide +kernel
theorem dX8_up_5 : decode cX8_up 5 = .ok (.bipush (-9), 2) := by decide +kernel
theorem dX8_up_7 : decode cX8_up 7 = .ok (.istore_n 1, 1) := by decide +kernel
theorem dX8_up_8 : decode cX8_up 8 = .ok (.aload_n 0, 1) := by decide +kernel
theorem dX8_up_9 : decode cX8_up 9 = .ok (.invokevirtual 158, 3) := by decide +kernel
theorem dX8_up_12 : decode cX8_up 12 = .ok (.iconst 0, 1) := by decide +kernel
theorem dX8_up_13 : decode cX8_up 13 = .ok (.istore_n 2, 1) := by decide +kernel
theorem dX8_up_14 : decode cX8_up 14 = .ok (.iload_n 2, 1) := by decide +kernel
theorem dX8_up_15 : decode cX8_up 15 = .ok (.aload_n 0, 1) := by decide +kernel
theorem dX8_up_16 : decode cX8_up 16 = .ok (.getfield 108, 3) := by decide +kernel
theorem dX8_up_19 : decode cX8_up 19 = .ok (.if_icmp .ge 32, 3) := by decide +kernel
theorem dX8_up_22 : decode cX8_up 22 = .ok (.iload_n 1, 1) := by decide +kernel
theorem dX8_up_23 : decode cX8_up 23 = .ok (.ifCond .ge 15, 3) := by decide +kernel
theorem dX8_up_26 : decode cX8_up 26 = .ok (.aload_n 0, 1) := by decide +kernel
theorem dX8_up_27 : decode cX8_up 27 = .ok (.iload_n 2, 1) := by decide +kernel
theorem dX8_up_28 : decode cX8_up 28 = .ok (.invokevirtual 142, 3) := by decide +kernel
theorem dX8_up_31 : decode cX8_up 31 = .ok (.ifCond .eq 7, 3) := by decide +kernel
theorem dX8_up_34 : decode cX8_up 34 = .ok (.iload_n 2, 1) := by decide +kernel
theorem dX8_up_35 : decode cX8_up 35 = .ok (.goto 4, 3) := by decide +kernel
theorem dX8_up_38 : decode cX8_up 38 = .ok (.iload_n 1, 1) := by decide +kernel
theorem dX8_up_39 : decode cX8_up 39 = .ok (.istore_n 1, 1) := by decide +kernel
theorem dX8_up_40 : decode cX8_up 40 = .ok (.aload_n 0, 1) := by decide +kernel
theorem dX8_up_41 : decode cX8_up 41 = .ok (.iload_n 2, 1) := by decide +kernel
theorem dX8_up_42 : decode cX8_up 42 = .ok (.invokevirtual 154, 3) := by decide +kernel
theorem dX8_up_45 : decode cX8_up 45 = .ok (.iinc 2 1, 3) := by decide +kernel
theorem dX8_up_48 : decode cX8_up 48 = .ok (.goto (-34), 3) := by decide +kernel
theorem dX8_up_51 : decode cX8_up 51 = .ok (.iload_n 1, 1) := by decide +kernel
theorem dX8_up_52 : decode cX8_up 52 = .ok (.ireturn, 1) := by decide +kernel
theorem dX8_comesAgain_0 : decode cX8_comesAgain 0 = .ok (.bipush (-9), 2) := by decide +kernel
theorem dX8_comesAgain_2 : decode cX8_comesAgain 2 = .ok (.istore_n 2, 1) := by decide +kernel
theorem dX8_comesAgain_3 : decode cX8_comesAgain 3 = .ok (.iconst 0, 1) := by decide +kernel
theorem dX8_comesAgain_4 : decode cX8_comesAgain 4 = .ok (.istore_n 3, 1) := by decide +kernel
theorem dX8_comesAgain_5 : decode cX8_comesAgain 5 = .ok (.iload_n 3, 1) := by decide +kernel
theorem dX8_comesAgain_6 : decode cX8_comesAgain 6 = .ok (.aload_n 0, 1) := by decide +kernel
theorem dX8_comesAgain_7 : decode cX8_comesAgain 7 = .ok (.getfield 256, 3) := by decide +kernel
theorem dX8_comesAgain_10 : decode cX8_comesAgain 10 = .ok (.if_icmp .ge 87, 3) := by decide +kernel
theorem dX8_comesAgain_13 : decode cX8_comesAgain 13 = .ok (.iload_n 2, 1) := by decide +kernel
theorem dX8_comesAgain_14 : decode cX8_comesAgain 14 = .ok (.ifCond .ge 83, 3) := by decide +kernel
theorem dX8_comesAgain_17 : decode cX8_comesAgain 17 = .ok (.iconst 1, 1) := by decide +kernel
theorem dX8_comesAgain_18 : decode cX8_comesAgain 18 = .ok (.istore 4, 2) := by decide +kernel
theorem dX8_comesAgain_20 : decode cX8_comesAgain 20 = .ok (.iconst 0, 1) := by decide +kernel
theorem dX8_comesAgain_21 : decode cX8_comesAgain 21 = .ok (.istore 5, 2) := by decide +kernel
theorem dX8_comesAgain_23 : decode cX8_comesAgain 23 = .ok (.iload 5, 2) := by decide +kernel
theorem dX8_comesAgain_25 : decode cX8_comesAgain 25 = .ok (.aload_n 0, 1) := by decide +kernel
theorem dX8_comesAgain_26 : decode cX8_comesAgain 26 = .ok (.getfield 115, 3) := by decide +kernel
theorem dX8_comesAgain_29 : decode cX8_comesAgain 29 = .ok (.if_icmp .ge 43, 3) := by decide +kernel
theorem dX8_comesAgain_32 : decode cX8_comesAgain 32 = .ok (.iload 4, 2) := by decide +kernel
theorem dX8_comesAgain_34 : decode cX8_comesAgain 34 = .ok (.ifCond .eq 29, 3) := by decide +kernel
theorem dX8_comesAgain_37 : decode cX8_comesAgain 37 = .ok (.aload_n 0, 1) := by decide +kernel
theorem dX8_comesAgain_38 : decode cX8_comesAgain 38 = .ok (.getfield 62, 3) := by decide +kernel
theorem dX8_comesAgain_41 : decode cX8_comesAgain 41 = .ok (.bipush 8, 2) := by decide +kernel
theorem dX8_comesAgain_43 : decode cX8_comesAgain 43 = .ok (.iload_n 3, 1) := by decide +kernel
theorem dX8_comesAgain_44 : decode cX8_comesAgain 44 = .ok (.imul, 1) := by decide +kernel
theorem dX8_comesAgain_45 : decode cX8_comesAgain 45 = .ok (.iload 5, 2) := by decide +kernel
theorem dX8_comesAgain_47 : decode cX8_comesAgain 47 = .ok (.iadd, 1) := by decide +kernel
theorem dX8_comesAgain_48 : decode cX8_comesAgain 48 = .ok (.iaload, 1) := by decide +kernel
theorem dX8_comesAgain_49 : decode cX8_comesAgain 49 = .ok (.aload_n 0, 1) := by decide +kernel
theorem dX8_comesAgain_50 : decode cX8_comesAgain 50 = .ok (.getfield 35, 3) := by decide +kernel
theorem dX8_comesAgain_53 : decode cX8_comesAgain 53 = .ok (.iload 5, 2) := by decide +kernel
theorem dX8_comesAgain_55 : decode cX8_comesAgain 55 = .ok (.iaload, 1) := by decide +kernel
theorem dX8_comesAgain_56 : decode cX8_comesAgain 56 = .ok (.if_icmp .ne 7, 3) := by decide +kernel
theorem dX8_comesAgain_59 : decode cX8_comesAgain 59 = .ok (.iconst 1, 1) := by decide +kernel
theorem dX8_comesAgain_60 : decode cX8_comesAgain 60 = .ok (.goto 4, 3) := by decide +kernel
theorem dX8_comesAgain_63 : decode cX8_comesAgain 63 = .ok (.iconst 0, 1) := by decide +kernel
theorem dX8_comesAgain_64 : decode cX8_comesAgain 64 = .ok (.istore 4, 2) := by decide +kernel
theorem dX8_comesAgain_66 : decode cX8_comesAgain 66 = .ok (.iinc 5 1, 3) := by decide +kernel
theorem dX8_comesAgain_69 : decode cX8_comesAgain 69 = .ok (.goto (-46), 3) := by decide +kernel
theorem dX8_comesAgain_72 : decode cX8_comesAgain 72 = .ok (.iload 4, 2) := by decide +kernel
theorem dX8_comesAgain_74 : decode cX8_comesAgain 74 = .ok (.ifCond .eq 14, 3) := by decide +kernel
theorem dX8_comesAgain_77 : decode cX8_comesAgain 77 = .ok (.iload_n 1, 1) := by decide +kernel
theorem dX8_comesAgain_78 : decode cX8_comesAgain 78 = .ok (.aload_n 0, 1) := by decide +kernel
theorem dX8_comesAgain_79 : decode cX8_comesAgain 79 = .ok (.getfield 65, 3) := by decide +kernel
theorem dX8_comesAgain_82 : decode cX8_comesAgain 82 = .ok (.iload_n 3, 1) := by decide +kernel
theorem dX8_comesAgain_83 : decode cX8_comesAgain 83 = .ok (.iaload, 1) := by decide +kernel
theorem dX8_comesAgain_84 : decode cX8_comesAgain 84 = .ok (.isub, 1) := by decide +kernel
theorem dX8_comesAgain_85 : decode cX8_comesAgain 85 = .ok (.goto 5, 3) := by decide +kernel
theorem dX8_comesAgain_88 : decode cX8_comesAgain 88 = .ok (.bipush (-9), 2) := by decide +kernel
theorem dX8_comesAgain_90 : decode cX8_comesAgain 90 = .ok (.istore_n 2, 1) := by decide +kernel
theorem dX8_comesAgain_91 : decode cX8_comesAgain 91 = .ok (.iinc 3 1, 3) := by decide +kernel
theorem dX8_comesAgain_94 : decode cX8_comesAgain 94 = .ok (.goto (-89), 3) := by decide +kernel
theorem dX8_comesAgain_97 : decode cX8_comesAgain 97 = .ok (.iconst 0, 1) := by decide +kernel
theorem dX8_comesAgain_98 : decode cX8_comesAgain 98 = .ok (.istore_n 3, 1) := by decide +kernel
theorem dX8_comesAgain_99 : decode cX8_comesAgain 99 = .ok (.iload_n 3, 1) := by decide +kernel
theorem dX8_comesAgain_100 : decode cX8_comesAgain 100 = .ok (.bipush 8, 2) := by decide +kernel
theorem dX8_comesAgain_102 : decode cX8_comesAgain 102 = .ok (.if_icmp .ge 29, 3) := by decide +kernel
theorem dX8_comesAgain_105 : decode cX8_comesAgain 105 = .ok (.aload_n 0, 1) := by decide +kernel
theorem dX8_comesAgain_106 : decode cX8_comesAgain 106 = .ok (.getfield 62, 3) := by decide +kernel
theorem dX8_comesAgain_109 : decode cX8_comesAgain 109 = .ok (.bipush 8, 2) := by decide +kernel
theorem dX8_comesAgain_111 : decode cX8_comesAgain 111 = .ok (.aload_n 0, 1) := by decide +kernel
theorem dX8_comesAgain_112 : decode cX8_comesAgain 112 = .ok (.getfield 256, 3) := by decide +kernel
theorem dX8_comesAgain_115 : decode cX8_comesAgain 115 = .ok (.imul, 1) := by decide +kernel
theorem dX8_comesAgain_116 : decode cX8_comesAgain 116 = .ok (.iload_n 3, 1) := by decide +kernel
theorem dX8_comesAgain_117 : decode cX8_comesAgain 117 = .ok (.iadd, 1) := by decide +kernel
theorem dX8_comesAgain_118 : decode cX8_comesAgain 118 = .ok (.aload_n 0, 1) := by decide +kernel
theorem dX8_comesAgain_119 : decode cX8_comesAgain 119 = .ok (.getfield 35, 3) := by decide +kernel
theorem dX8_comesAgain_122 : decode cX8_comesAgain 122 = .ok (.iload_n 3, 1) := by decide +kernel
theorem dX8_comesAgain_123 : decode cX8_comesAgain 123 = .ok (.iaload, 1) := by decide +kernel
theorem dX8_comesAgain_124 : decode cX8_comesAgain 124 = .ok (.iastore, 1) := by decide +kernel
theorem dX8_comesAgain_125 : decode cX8_comesAgain 125 = .ok (.iinc 3 1, 3) := by decide +kernel
theorem dX8_comesAgain_128 : decode cX8_comesAgain 128 = .ok (.goto (-29), 3) := by decide +kernel
theorem dX8_comesAgain_131 : decode cX8_comesAgain 131 = .ok (.aload_n 0, 1) := by decide +kernel
theorem dX8_comesAgain_132 : decode cX8_comesAgain 132 = .ok (.getfield 65, 3) := by decide +kernel
theorem dX8_comesAgain_135 : decode cX8_comesAgain 135 = .ok (.aload_n 0, 1) := by decide +kernel
theorem dX8_comesAgain_136 : decode cX8_comesAgain 136 = .ok (.getfield 256, 3) := by decide +kernel
theorem dX8_comesAgain_139 : decode cX8_comesAgain 139 = .ok (.iload_n 1, 1) := by decide +kernel
theorem dX8_comesAgain_140 : decode cX8_comesAgain 140 = .ok (.iastore, 1) := by decide +kernel
theorem dX8_comesAgain_141 : decode cX8_comesAgain 141 = .ok (.aload_n 0, 1) := by decide +kernel
theorem dX8_comesAgain_142 : decode cX8_comesAgain 142 = .ok (.dup, 1) := by decide +kernel
theorem dX8_comesAgain_143 : decode cX8_comesAgain 143 = .ok (.getfield 256, 3) := by decide +kernel
theorem dX8_comesAgain_146 : decode cX8_comesAgain 146 = .ok (.iconst 1, 1) := by decide +kernel
theorem dX8_comesAgain_147 : decode cX8_comesAgain 147 = .ok (.iadd, 1) := by decide +kernel
theorem dX8_comesAgain_148 : decode cX8_comesAgain 148 = .ok (.putfield 256, 3) := by decide +kernel
theorem dX8_comesAgain_151 : decode cX8_comesAgain 151 = .ok (.iload_n 2, 1) := by decide +kernel
theorem dX8_comesAgain_152 : decode cX8_comesAgain 152 = .ok (.ireturn, 1) := by decide +kernel
theorem dX8_goRound_0 : decode cX8_goRound 0 = .ok (.aload_n 0, 1) := by decide +kernel
theorem dX8_goRound_1 : decode cX8_goRound 1 = .ok (.invokevirtual 158, 3) := by decide +kernel
theorem dX8_goRound_4 : decode cX8_goRound 4 = .ok (.aload_n 0, 1) := by decide +kernel
theorem dX8_goRound_5 : decode cX8_goRound 5 = .ok (.bipush (-9), 2) := by decide +kernel
theorem dX8_goRound_7 : decode cX8_goRound 7 = .ok (.putfield 259, 3) := by decide +kernel
theorem dX8_goRound_10 : decode cX8_goRound 10 = .ok (.aload_n 0, 1) := by decide +kernel
theorem dX8_goRound_11 : decode cX8_goRound 11 = .ok (.iconst 0, 1) := by decide +kernel
theorem dX8_goRound_12 : decode cX8_goRound 12 = .ok (.putfield 256, 3) := by decide +kernel
theorem dX8_goRound_15 : decode cX8_goRound 15 = .ok (.iconst 0, 1) := by decide +kernel
theorem dX8_goRound_16 : decode cX8_goRound 16 = .ok (.istore_n 1, 1) := by decide +kernel
theorem dX8_goRound_17 : decode cX8_goRound 17 = .ok (.iconst 0, 1) := by decide +kernel
theorem dX8_goRound_18 : decode cX8_goRound 18 = .ok (.istore_n 2, 1) := by decide +kernel
theorem dX8_goRound_19 : decode cX8_goRound 19 = .ok (.aload_n 0, 1) := by decide +kernel
theorem dX8_goRound_20 : decode cX8_goRound 20 = .ok (.iconst 0, 1) := by decide +kernel
theorem dX8_goRound_21 : decode cX8_goRound 21 = .ok (.invokevirtual 262, 3) := by decide +kernel
theorem dX8_goRound_24 : decode cX8_goRound 24 = .ok (.pop, 1) := by decide +kernel
theorem dX8_goRound_25 : decode cX8_goRound 25 = .ok (.iload_n 2, 1) := by decide +kernel
theorem dX8_goRound_26 : decode cX8_goRound 26 = .ok (.aload_n 0, 1) := by decide +kernel
theorem dX8_goRound_27 : decode cX8_goRound 27 = .ok (.getfield 108, 3) := by decide +kernel
theorem dX8_goRound_30 : decode cX8_goRound 30 = .ok (.if_icmp .ge 62, 3) := by decide +kernel
theorem dX8_goRound_33 : decode cX8_goRound 33 = .ok (.iload_n 1, 1) := by decide +kernel
theorem dX8_goRound_34 : decode cX8_goRound 34 = .ok (.sipush 200, 3) := by decide +kernel
theorem dX8_goRound_37 : decode cX8_goRound 37 = .ok (.if_icmp .ge 55, 3) := by decide +kernel
theorem dX8_goRound_40 : decode cX8_goRound 40 = .ok (.iinc 1 1, 3) := by decide +kernel
theorem dX8_goRound_43 : decode cX8_goRound 43 = .ok (.aload_n 0, 1) := by decide +kernel
theorem dX8_goRound_44 : decode cX8_goRound 44 = .ok (.iload_n 2, 1) := by decide +kernel
theorem dX8_goRound_45 : decode cX8_goRound 45 = .ok (.invokevirtual 142, 3) := by decide +kernel
theorem dX8_goRound_48 : decode cX8_goRound 48 = .ok (.ifCond .eq 33, 3) := by decide +kernel
theorem dX8_goRound_51 : decode cX8_goRound 51 = .ok (.iconst 0, 1) := by decide +kernel
theorem dX8_goRound_52 : decode cX8_goRound 52 = .ok (.istore_n 2, 1) := by decide +kernel
theorem dX8_goRound_53 : decode cX8_goRound 53 = .ok (.aload_n 0, 1) := by decide +kernel
theorem dX8_goRound_54 : decode cX8_goRound 54 = .ok (.iload_n 1, 1) := by decide +kernel
theorem dX8_goRound_55 : decode cX8_goRound 55 = .ok (.invokevirtual 262, 3) := by decide +kernel
theorem dX8_goRound_58 : decode cX8_goRound 58 = .ok (.istore_n 3, 1) := by decide +kernel
theorem dX8_goRound_59 : decode cX8_goRound 59 = .ok (.aload_n 0, 1) := by decide +kernel
theorem dX8_goRound_60 : decode cX8_goRound 60 = .ok (.aload_n 0, 1) := by decide +kernel
theorem dX8_goRound_61 : decode cX8_goRound 61 = .ok (.getfield 259, 3) := by decide +kernel
theorem dX8_goRound_64 : decode cX8_goRound 64 = .ok (.ifCond .ge 7, 3) := by decide +kernel
theorem dX8_goRound_67 : decode cX8_goRound 67 = .ok (.iload_n 3, 1) := by decide +kernel
theorem dX8_goRound_68 : decode cX8_goRound 68 = .ok (.goto 7, 3) := by decide +kernel
theorem dX8_goRound_71 : decode cX8_goRound 71 = .ok (.aload_n 0, 1) := by decide +kernel
theorem dX8_goRound_72 : decode cX8_goRound 72 = .ok (.getfield 259, 3) := by decide +kernel
theorem dX8_goRound_75 : decode cX8_goRound 75 = .ok (.putfield 259, 3) := by decide +kernel
theorem dX8_goRound_78 : decode cX8_goRound 78 = .ok (.goto (-53), 3) := by decide +kernel
theorem dX8_goRound_81 : decode cX8_goRound 81 = .ok (.aload_n 0, 1) := by decide +kernel
theorem dX8_goRound_82 : decode cX8_goRound 82 = .ok (.iload_n 2, 1) := by decide +kernel
theorem dX8_goRound_83 : decode cX8_goRound 83 = .ok (.invokevirtual 154, 3) := by decide +kernel
theorem dX8_goRound_86 : decode cX8_goRound 86 = .ok (.iinc 2 1, 3) := by decide +kernel
theorem dX8_goRound_89 : decode cX8_goRound 89 = .ok (.goto (-64), 3) := by decide +kernel
theorem dX8_goRound_92 : decode cX8_goRound 92 = .ok (.aload_n 0, 1) := by decide +kernel
theorem dX8_goRound_93 : decode cX8_goRound 93 = .ok (.iload_n 2, 1) := by decide +kernel
theorem dX8_goRound_94 : decode cX8_goRound 94 = .ok (.aload_n 0, 1) := by decide +kernel
theorem dX8_goRound_95 : decode cX8_goRound 95 = .ok (.getfield 108, 3) := by decide +kernel
theorem dX8_goRound_98 : decode cX8_goRound 98 = .ok (.if_icmp .ne 7, 3) := by decide +kernel
theorem dX8_goRound_101 : decode cX8_goRound 101 = .ok (.iload_n 1, 1) := by decide +kernel
theorem dX8_goRound_102 : decode cX8_goRound 102 = .ok (.goto 5, 3) := by decide +kernel
theorem dX8_goRound_105 : decode cX8_goRound 105 = .ok (.bipush (-9), 2) := by decide +kernel
theorem dX8_goRound_107 : decode cX8_goRound 107 = .ok (.putfield 265, 3) := by decide +kernel
theorem dX8_goRound_110 : decode cX8_goRound 110 = .ok (.return_, 1) := by decide +kernel
theorem dX8_round_0 : decode cX8_round 0 = .ok (.aload_n 0, 1) := by decide +kernel
theorem dX8_round_1 : decode cX8_round 1 = .ok (.iconst 0, 1) := by decide +kernel
theorem dX8_round_2 : decode cX8_round 2 = .ok (.putfield 105, 3) := by decide +kernel
theorem dX8_round_5 : decode cX8_round 5 = .ok (.iload_n 1, 1) := by decide +kernel
theorem dX8_round_6 : decode cX8_round 6 = .ok (.i2l, 1) := by decide +kernel
theorem dX8_round_7 : decode cX8_round 7 = .ok (.lconst 0, 1) := by decide +kernel
theorem dX8_round_8 : decode cX8_round 8 = .ok (.ldc2_w 233, 3) := by decide +kernel
theorem dX8_round_11 : decode cX8_round 11 = .ok (.invokestatic 111, 3) := by decide +kernel
theorem dX8_round_14 : decode cX8_round 14 = .ok (.ifCond .ne 13, 3) := by decide +kernel
theorem dX8_round_17 : decode cX8_round 17 = .ok (.ldc 239, 2) := by decide +kernel
theorem dX8_round_19 : decode cX8_round 19 = .ok (.aload_n 0, 1) := by decide +kernel
theorem dX8_round_20 : decode cX8_round 20 = .ok (.bipush (-2), 2) := by decide +kernel
theorem dX8_round_22 : decode cX8_round 22 = .ok (.invokevirtual 164, 3) := by decide +kernel
theorem dX8_round_25 : decode cX8_round 25 = .ok (.isub, 1) := by decide +kernel
theorem dX8_round_26 : decode cX8_round 26 = .ok (.ireturn, 1) := by decide +kernel
theorem dX8_round_27 : decode cX8_round 27 = .ok (.aload_n 0, 1) := by decide +kernel
theorem dX8_round_28 : decode cX8_round 28 = .ok (.invokevirtual 268, 3) := by decide +kernel
theorem dX8_round_31 : decode cX8_round 31 = .ok (.iload_n 1, 1) := by decide +kernel
theorem dX8_round_32 : decode cX8_round 32 = .ok (.ifCond .ne 10, 3) := by decide +kernel
theorem dX8_round_35 : decode cX8_round 35 = .ok (.aload_n 0, 1) := by decide +kernel
theorem dX8_round_36 : decode cX8_round 36 = .ok (.getfield 265, 3) := by decide +kernel
theorem dX8_round_39 : decode cX8_round 39 = .ok (.goto 31, 3) := by decide +kernel
theorem dX8_round_42 : decode cX8_round 42 = .ok (.iload_n 1, 1) := by decide +kernel
theorem dX8_round_43 : decode cX8_round 43 = .ok (.iconst 2, 1) := by decide +kernel
theorem dX8_round_44 : decode cX8_round 44 = .ok (.if_icmp .ne 10, 3) := by decide +kernel
theorem dX8_round_47 : decode cX8_round 47 = .ok (.aload_n 0, 1) := by decide +kernel
theorem dX8_round_48 : decode cX8_round 48 = .ok (.getfield 259, 3) := by decide +kernel
theorem dX8_round_51 : decode cX8_round 51 = .ok (.goto 19, 3) := by decide +kernel
theorem dX8_round_54 : decode cX8_round 54 = .ok (.aload_n 0, 1) := by decide +kernel
theorem dX8_round_55 : decode cX8_round 55 = .ok (.getfield 265, 3) := by decide +kernel
theorem dX8_round_58 : decode cX8_round 58 = .ok (.ifCond .ge 8, 3) := by decide +kernel
theorem dX8_round_61 : decode cX8_round 61 = .ok (.bipush (-99), 2) := by decide +kernel
theorem dX8_round_63 : decode cX8_round 63 = .ok (.goto 7, 3) := by decide +kernel
theorem dX8_round_66 : decode cX8_round 66 = .ok (.aload_n 0, 1) := by decide +kernel
theorem dX8_round_67 : decode cX8_round 67 = .ok (.invokevirtual 118, 3) := by decide +kernel
theorem dX8_round_70 : decode cX8_round 70 = .ok (.ireturn, 1) := by decide +kernel
theorem dX8_rounds_0 : decode cX8_rounds 0 = .ok (.aload_n 0, 1) := by decide +kernel
theorem dX8_rounds_1 : decode cX8_rounds 1 = .ok (.iconst 0, 1) := by decide +kernel
theorem dX8_rounds_2 : decode cX8_rounds 2 = .ok (.putfield 105, 3) := by decide +kernel
theorem dX8_rounds_5 : decode cX8_rounds 5 = .ok (.aload_n 0, 1) := by decide +kernel
theorem dX8_rounds_6 : decode cX8_rounds 6 = .ok (.getfield 29, 3) := by decide +kernel
theorem dX8_rounds_9 : decode cX8_rounds 9 = .ok (.istore_n 1, 1) := by decide +kernel
theorem dX8_rounds_10 : decode cX8_rounds 10 = .ok (.iconst 0, 1) := by decide +kernel
theorem dX8_rounds_11 : decode cX8_rounds 11 = .ok (.istore_n 2, 1) := by decide +kernel
theorem dX8_rounds_12 : decode cX8_rounds 12 = .ok (.iconst 0, 1) := by decide +kernel
theorem dX8_rounds_13 : decode cX8_rounds 13 = .ok (.istore_n 3, 1) := by decide +kernel
theorem dX8_rounds_14 : decode cX8_rounds 14 = .ok (.iload_n 3, 1) := by decide +kernel
theorem dX8_rounds_15 : decode cX8_rounds 15 = .ok (.bipush 8, 2) := by decide +kernel
theorem dX8_rounds_17 : decode cX8_rounds 17 = .ok (.if_icmp .gt 35, 3) := by decide +kernel
theorem dX8_rounds_20 : decode cX8_rounds 20 = .ok (.aload_n 0, 1) := by decide +kernel
theorem dX8_rounds_21 : decode cX8_rounds 21 = .ok (.iload_n 3, 1) := by decide +kernel
theorem dX8_rounds_22 : decode cX8_rounds 22 = .ok (.putfield 29, 3) := by decide +kernel
theorem dX8_rounds_25 : decode cX8_rounds 25 = .ok (.aload_n 0, 1) := by decide +kernel
theorem dX8_rounds_26 : decode cX8_rounds 26 = .ok (.invokevirtual 268, 3) := by decide +kernel
theorem dX8_rounds_29 : decode cX8_rounds 29 = .ok (.iload_n 2, 1) := by decide +kernel
theorem dX8_rounds_30 : decode cX8_rounds 30 = .ok (.aload_n 0, 1) := by decide +kernel
theorem dX8_rounds_31 : decode cX8_rounds 31 = .ok (.getfield 265, 3) := by decide +kernel
theorem dX8_rounds_34 : decode cX8_rounds 34 = .ok (.ifCond .ge 7, 3) := by decide +kernel
theorem dX8_rounds_37 : decode cX8_rounds 37 = .ok (.iconst 0, 1) := by decide +kernel
theorem dX8_rounds_38 : decode cX8_rounds 38 = .ok (.goto 6, 3) := by decide +kernel
theorem dX8_rounds_41 : decode cX8_rounds 41 = .ok (.iconst 1, 1) := by decide +kernel
theorem dX8_rounds_42 : decode cX8_rounds 42 = .ok (.iload_n 3, 1) := by decide +kernel
theorem dX8_rounds_43 : decode cX8_rounds 43 = .ok (.ishl, 1) := by decide +kernel
theorem dX8_rounds_44 : decode cX8_rounds 44 = .ok (.ior, 1) := by decide +kernel
theorem dX8_rounds_45 : decode cX8_rounds 45 = .ok (.istore_n 2, 1) := by decide +kernel
theorem dX8_rounds_46 : decode cX8_rounds 46 = .ok (.iinc 3 1, 3) := by decide +kernel
theorem dX8_rounds_49 : decode cX8_rounds 49 = .ok (.goto (-35), 3) := by decide +kernel
theorem dX8_rounds_52 : decode cX8_rounds 52 = .ok (.aload_n 0, 1) := by decide +kernel
theorem dX8_rounds_53 : decode cX8_rounds 53 = .ok (.iload_n 1, 1) := by decide +kernel
theorem dX8_rounds_54 : decode cX8_rounds 54 = .ok (.putfield 29, 3) := by decide +kernel
theorem dX8_rounds_57 : decode cX8_rounds 57 = .ok (.iload_n 2, 1) := by decide +kernel
theorem dX8_rounds_58 : decode cX8_rounds 58 = .ok (.ireturn, 1) := by decide +kernel
theorem dX8_layAppeals_0 : decode cX8_layAppeals 0 = .ok (.aload_n 0, 1) := by decide +kernel
theorem dX8_layAppeals_1 : decode cX8_layAppeals 1 = .ok (.invokevirtual 158, 3) := by decide +kernel
theorem dX8_layAppeals_4 : decode cX8_layAppeals 4 = .ok (.aload_n 0, 1) := by decide +kernel
theorem dX8_layAppeals_5 : decode cX8_layAppeals 5 = .ok (.getfield 68, 3) := by decide +kernel
theorem dX8_layAppeals_8 : decode cX8_layAppeals 8 = .ok (.iconst 0, 1) := by decide +kernel
theorem dX8_layAppeals_9 : decode cX8_layAppeals 9 = .ok (.aload_n 0, 1) := by decide +kernel
theorem dX8_layAppeals_10 : decode cX8_layAppeals 10 = .ok (.invokevirtual 252, 3) := by decide +kernel
theorem dX8_layAppeals_13 : decode cX8_layAppeals 13 = .ok (.bastore, 1) := by decide +kernel
theorem dX8_layAppeals_14 : decode cX8_layAppeals 14 = .ok (.iconst 0, 1) := by decide +kernel
theorem dX8_layAppeals_15 : decode cX8_layAppeals 15 = .ok (.istore_n 1, 1) := by decide +kernel
theorem dX8_layAppeals_16 : decode cX8_layAppeals 16 = .ok (.iload_n 1, 1) := by decide +kernel
theorem dX8_layAppeals_17 : decode cX8_layAppeals 17 = .ok (.aload_n 0, 1) := by decide +kernel
theorem dX8_layAppeals_18 : decode cX8_layAppeals 18 = .ok (.getfield 108, 3) := by decide +kernel
theorem dX8_layAppeals_21 : decode cX8_layAppeals 21 = .ok (.if_icmp .ge 26, 3) := by decide +kernel
theorem dX8_layAppeals_24 : decode cX8_layAppeals 24 = .ok (.aload_n 0, 1) := by decide +kernel
theorem dX8_layAppeals_25 : decode cX8_layAppeals 25 = .ok (.iload_n 1, 1) := by decide +kernel
theorem dX8_layAppeals_26 : decode cX8_layAppeals 26 = .ok (.invokevirtual 154, 3) := by decide +kernel
theorem dX8_layAppeals_29 : decode cX8_layAppeals 29 = .ok (.aload_n 0, 1) := by decide +kernel
theorem dX8_layAppeals_30 : decode cX8_layAppeals 30 = .ok (.getfield 68, 3) := by decide +kernel
theorem dX8_layAppeals_33 : decode cX8_layAppeals 33 = .ok (.iload_n 1, 1) := by decide +kernel
theorem dX8_layAppeals_34 : decode cX8_layAppeals 34 = .ok (.iconst 1, 1) := by decide +kernel
theorem dX8_layAppeals_35 : decode cX8_layAppeals 35 = .ok (.iadd, 1) := by decide +kernel
theorem dX8_layAppeals_36 : decode cX8_layAppeals 36 = .ok (.aload_n 0, 1) := by decide +kernel
theorem dX8_layAppeals_37 : decode cX8_layAppeals 37 = .ok (.invokevirtual 252, 3) := by decide +kernel
theorem dX8_layAppeals_40 : decode cX8_layAppeals 40 = .ok (.bastore, 1) := by decide +kernel
theorem dX8_layAppeals_41 : decode cX8_layAppeals 41 = .ok (.iinc 1 1, 3) := by decide +kernel
theorem dX8_layAppeals_44 : decode cX8_layAppeals 44 = .ok (.goto (-28), 3) := by decide +kernel
theorem dX8_layAppeals_47 : decode cX8_layAppeals 47 = .ok (.aload_n 0, 1) := by decide +kernel
theorem dX8_layAppeals_48 : decode cX8_layAppeals 48 = .ok (.getfield 108, 3) := by decide +kernel
theorem dX8_layAppeals_51 : decode cX8_layAppeals 51 = .ok (.istore_n 1, 1) := by decide +kernel
theorem dX8_layAppeals_52 : decode cX8_layAppeals 52 = .ok (.iload_n 1, 1) := by decide +kernel
theorem dX8_layAppeals_53 : decode cX8_layAppeals 53 = .ok (.ifCond .lt 181, 3) := by decide +kernel
theorem dX8_layAppeals_56 : decode cX8_layAppeals 56 = .ok (.aload_n 0, 1) := by decide +kernel
theorem dX8_layAppeals_57 : decode cX8_layAppeals 57 = .ok (.getfield 72, 3) := by decide +kernel
theorem dX8_layAppeals_60 : decode cX8_layAppeals 60 = .ok (.iload_n 1, 1) := by decide +kernel
theorem dX8_layAppeals_61 : decode cX8_layAppeals 61 = .ok (.iconst 0, 1) := by decide +kernel
theorem dX8_layAppeals_62 : decode cX8_layAppeals 62 = .ok (.bastore, 1) := by decide +kernel
theorem dX8_layAppeals_63 : decode cX8_layAppeals 63 = .ok (.aload_n 0, 1) := by decide +kernel
theorem dX8_layAppeals_64 : decode cX8_layAppeals 64 = .ok (.getfield 75, 3) := by decide +kernel
theorem dX8_layAppeals_67 : decode cX8_layAppeals 67 = .ok (.iload_n 1, 1) := by decide +kernel
theorem dX8_layAppeals_68 : decode cX8_layAppeals 68 = .ok (.aload_n 0, 1) := by decide +kernel
theorem dX8_layAppeals_69 : decode cX8_layAppeals 69 = .ok (.getfield 68, 3) := by decide +kernel
theorem dX8_layAppeals_72 : decode cX8_layAppeals 72 = .ok (.iload_n 1, 1) := by decide +kernel
theorem dX8_layAppeals_73 : decode cX8_layAppeals 73 = .ok (.baload, 1) := by decide +kernel
theorem dX8_layAppeals_74 : decode cX8_layAppeals 74 = .ok (.bastore, 1) := by decide +kernel
theorem dX8_layAppeals_75 : decode cX8_layAppeals 75 = .ok (.aload_n 0, 1) := by decide +kernel
theorem dX8_layAppeals_76 : decode cX8_layAppeals 76 = .ok (.getfield 78, 3) := by decide +kernel
theorem dX8_layAppeals_79 : decode cX8_layAppeals 79 = .ok (.iload_n 1, 1) := by decide +kernel
theorem dX8_layAppeals_80 : decode cX8_layAppeals 80 = .ok (.iconst 0, 1) := by decide +kernel
theorem dX8_layAppeals_81 : decode cX8_layAppeals 81 = .ok (.iastore, 1) := by decide +kernel
theorem dX8_layAppeals_82 : decode cX8_layAppeals 82 = .ok (.aload_n 0, 1) := by decide +kernel
theorem dX8_layAppeals_83 : decode cX8_layAppeals 83 = .ok (.getfield 81, 3) := by decide +kernel
theorem dX8_layAppeals_86 : decode cX8_layAppeals 86 = .ok (.iload_n 1, 1) := by decide +kernel
theorem dX8_layAppeals_87 : decode cX8_layAppeals 87 = .ok (.iconst 0, 1) := by decide +kernel
theorem dX8_layAppeals_88 : decode cX8_layAppeals 88 = .ok (.iastore, 1) := by decide +kernel
theorem dX8_layAppeals_89 : decode cX8_layAppeals 89 = .ok (.iload_n 1, 1) := by decide +kernel
theorem dX8_layAppeals_90 : decode cX8_layAppeals 90 = .ok (.aload_n 0, 1) := by decide +kernel
theorem dX8_layAppeals_91 : decode cX8_layAppeals 91 = .ok (.getfield 108, 3) := by decide +kernel
theorem dX8_layAppeals_94 : decode cX8_layAppeals 94 = .ok (.if_icmp .ge 134, 3) := by decide +kernel
theorem dX8_layAppeals_97 : decode cX8_layAppeals 97 = .ok (.aload_n 0, 1) := by decide +kernel
theorem dX8_layAppeals_98 : decode cX8_layAppeals 98 = .ok (.getfield 68, 3) := by decide +kernel
theorem dX8_layAppeals_101 : decode cX8_layAppeals 101 = .ok (.iload_n 1, 1) := by decide +kernel
theorem dX8_layAppeals_102 : decode cX8_layAppeals 102 = .ok (.baload, 1) := by decide +kernel
theorem dX8_layAppeals_103 : decode cX8_layAppeals 103 = .ok (.ifCond .ne 7, 3) := by decide +kernel
theorem dX8_layAppeals_106 : decode cX8_layAppeals 106 = .ok (.iconst 1, 1) := by decide +kernel
theorem dX8_layAppeals_107 : decode cX8_layAppeals 107 = .ok (.goto 4, 3) := by decide +kernel
theorem dX8_layAppeals_110 : decode cX8_layAppeals 110 = .ok (.iconst 0, 1) := by decide +kernel
theorem dX8_layAppeals_111 : decode cX8_layAppeals 111 = .ok (.istore_n 2, 1) := by decide +kernel
theorem dX8_layAppeals_112 : decode cX8_layAppeals 112 = .ok (.aload_n 0, 1) := by decide +kernel
theorem dX8_layAppeals_113 : decode cX8_layAppeals 113 = .ok (.getfield 16, 3) := by decide +kernel
theorem dX8_layAppeals_116 : decode cX8_layAppeals 116 = .ok (.iload_n 1, 1) := by decide +kernel
theorem dX8_layAppeals_117 : decode cX8_layAppeals 117 = .ok (.iaload, 1) := by decide +kernel
theorem dX8_layAppeals_118 : decode cX8_layAppeals 118 = .ok (.iload_n 2, 1) := by decide +kernel
theorem dX8_layAppeals_119 : decode cX8_layAppeals 119 = .ok (.ifCond .eq 14, 3) := by decide +kernel
theorem dX8_layAppeals_122 : decode cX8_layAppeals 122 = .ok (.aload_n 0, 1) := by decide +kernel
theorem dX8_layAppeals_123 : decode cX8_layAppeals 123 = .ok (.getfield 78, 3) := by decide +kernel
theorem dX8_layAppeals_126 : decode cX8_layAppeals 126 = .ok (.iload_n 1, 1) := by decide +kernel
theorem dX8_layAppeals_127 : decode cX8_layAppeals 127 = .ok (.iconst 1, 1) := by decide +kernel
theorem dX8_layAppeals_128 : decode cX8_layAppeals 128 = .ok (.iadd, 1) := by decide +kernel
theorem dX8_layAppeals_129 : decode cX8_layAppeals 129 = .ok (.iaload, 1) := by decide +kernel
theorem dX8_layAppeals_130 : decode cX8_layAppeals 130 = .ok (.goto 11, 3) := by decide +kernel
theorem dX8_layAppeals_133 : decode cX8_layAppeals 133 = .ok (.aload_n 0, 1) := by decide +kernel
theorem dX8_layAppeals_134 : decode cX8_layAppeals 134 = .ok (.getfield 81, 3) := by decide +kernel
theorem dX8_layAppeals_137 : decode cX8_layAppeals 137 = .ok (.iload_n 1, 1) := by decide +kernel
theorem dX8_layAppeals_138 : decode cX8_layAppeals 138 = .ok (.iconst 1, 1) := by decide +kernel
theorem dX8_layAppeals_139 : decode cX8_layAppeals 139 = .ok (.iadd, 1) := by decide +kernel
theorem dX8_layAppeals_140 : decode cX8_layAppeals 140 = .ok (.iaload, 1) := by decide +kernel
theorem dX8_layAppeals_141 : decode cX8_layAppeals 141 = .ok (.iadd, 1) := by decide +kernel
theorem dX8_layAppeals_142 : decode cX8_layAppeals 142 = .ok (.istore_n 3, 1) := by decide +kernel
theorem dX8_layAppeals_143 : decode cX8_layAppeals 143 = .ok (.aload_n 0, 1) := by decide +kernel
theorem dX8_layAppeals_144 : decode cX8_layAppeals 144 = .ok (.getfield 75, 3) := by decide +kernel
theorem dX8_layAppeals_147 : decode cX8_layAppeals 147 = .ok (.iload_n 1, 1) := by decide +kernel
theorem dX8_layAppeals_148 : decode cX8_layAppeals 148 = .ok (.iconst 1, 1) := by decide +kernel
theorem dX8_layAppeals_149 : decode cX8_layAppeals 149 = .ok (.iadd, 1) := by decide +kernel
theorem dX8_layAppeals_150 : decode cX8_layAppeals 150 = .ok (.baload, 1) := by decide +kernel
theorem dX8_layAppeals_151 : decode cX8_layAppeals 151 = .ok (.iload_n 2, 1) := by decide +kernel
theorem dX8_layAppeals_152 : decode cX8_layAppeals 152 = .ok (.if_icmp .ne 76, 3) := by decide +kernel
theorem dX8_layAppeals_155 : decode cX8_layAppeals 155 = .ok (.aload_n 0, 1) := by decide +kernel
theorem dX8_layAppeals_156 : decode cX8_layAppeals 156 = .ok (.getfield 26, 3) := by decide +kernel
theorem dX8_layAppeals_159 : decode cX8_layAppeals 159 = .ok (.iload_n 3, 1) := by decide +kernel
theorem dX8_layAppeals_160 : decode cX8_layAppeals 160 = .ok (.if_icmp .le 68, 3) := by decide +kernel
theorem dX8_layAppeals_163 : decode cX8_layAppeals 163 = .ok (.aload_n 0, 1) := by decide +kernel
theorem dX8_layAppeals_164 : decode cX8_layAppeals 164 = .ok (.getfield 72, 3) := by decide +kernel
theorem dX8_layAppeals_167 : decode cX8_layAppeals 167 = .ok (.iload_n 1, 1) := by decide +kernel
theorem dX8_layAppeals_168 : decode cX8_layAppeals 168 = .ok (.iconst 1, 1) := by decide +kernel
theorem dX8_layAppeals_169 : decode cX8_layAppeals 169 = .ok (.bastore, 1) := by decide +kernel
theorem dX8_layAppeals_170 : decode cX8_layAppeals 170 = .ok (.aload_n 0, 1) := by decide +kernel
theorem dX8_layAppeals_171 : decode cX8_layAppeals 171 = .ok (.getfield 75, 3) := by decide +kernel
theorem dX8_layAppeals_174 : decode cX8_layAppeals 174 = .ok (.iload_n 1, 1) := by decide +kernel
theorem dX8_layAppeals_175 : decode cX8_layAppeals 175 = .ok (.aload_n 0, 1) := by decide +kernel
theorem dX8_layAppeals_176 : decode cX8_layAppeals 176 = .ok (.getfield 75, 3) := by decide +kernel
theorem dX8_layAppeals_179 : decode cX8_layAppeals 179 = .ok (.iload_n 1, 1) := by decide +kernel
theorem dX8_layAppeals_180 : decode cX8_layAppeals 180 = .ok (.iconst 1, 1) := by decide +kernel
theorem dX8_layAppeals_181 : decode cX8_layAppeals 181 = .ok (.iadd, 1) := by decide +kernel
theorem dX8_layAppeals_182 : decode cX8_layAppeals 182 = .ok (.baload, 1) := by decide +kernel
theorem dX8_layAppeals_183 : decode cX8_layAppeals 183 = .ok (.bastore, 1) := by decide +kernel
theorem dX8_layAppeals_184 : decode cX8_layAppeals 184 = .ok (.aload_n 0, 1) := by decide +kernel
theorem dX8_layAppeals_185 : decode cX8_layAppeals 185 = .ok (.getfield 78, 3) := by decide +kernel
theorem dX8_layAppeals_188 : decode cX8_layAppeals 188 = .ok (.iload_n 1, 1) := by decide +kernel
theorem dX8_layAppeals_189 : decode cX8_layAppeals 189 = .ok (.iload_n 2, 1) := by decide +kernel
theorem dX8_layAppeals_190 : decode cX8_layAppeals 190 = .ok (.ifCond .eq 7, 3) := by decide +kernel
theorem dX8_layAppeals_193 : decode cX8_layAppeals 193 = .ok (.iload_n 3, 1) := by decide +kernel
theorem dX8_layAppeals_194 : decode cX8_layAppeals 194 = .ok (.goto 11, 3) := by decide +kernel
theorem dX8_layAppeals_197 : decode cX8_layAppeals 197 = .ok (.aload_n 0, 1) := by decide +kernel
theorem dX8_layAppeals_198 : decode cX8_layAppeals 198 = .ok (.getfield 78, 3) := by decide +kernel
theorem dX8_layAppeals_201 : decode cX8_layAppeals 201 = .ok (.iload_n 1, 1) := by decide +kernel
theorem dX8_layAppeals_202 : decode cX8_layAppeals 202 = .ok (.iconst 1, 1) := by decide +kernel
theorem dX8_layAppeals_203 : decode cX8_layAppeals 203 = .ok (.iadd, 1) := by decide +kernel
theorem dX8_layAppeals_204 : decode cX8_layAppeals 204 = .ok (.iaload, 1) := by decide +kernel
theorem dX8_layAppeals_205 : decode cX8_layAppeals 205 = .ok (.iastore, 1) := by decide +kernel
theorem dX8_layAppeals_206 : decode cX8_layAppeals 206 = .ok (.aload_n 0, 1) := by decide +kernel
theorem dX8_layAppeals_207 : decode cX8_layAppeals 207 = .ok (.getfield 81, 3) := by decide +kernel
theorem dX8_layAppeals_210 : decode cX8_layAppeals 210 = .ok (.iload_n 1, 1) := by decide +kernel
theorem dX8_layAppeals_211 : decode cX8_layAppeals 211 = .ok (.iload_n 2, 1) := by decide +kernel
theorem dX8_layAppeals_212 : decode cX8_layAppeals 212 = .ok (.ifCond .eq 14, 3) := by decide +kernel
theorem dX8_layAppeals_215 : decode cX8_layAppeals 215 = .ok (.aload_n 0, 1) := by decide +kernel
theorem dX8_layAppeals_216 : decode cX8_layAppeals 216 = .ok (.getfield 81, 3) := by decide +kernel
theorem dX8_layAppeals_219 : decode cX8_layAppeals 219 = .ok (.iload_n 1, 1) := by decide +kernel
theorem dX8_layAppeals_220 : decode cX8_layAppeals 220 = .ok (.iconst 1, 1) := by decide +kernel
theorem dX8_layAppeals_221 : decode cX8_layAppeals 221 = .ok (.iadd, 1) := by decide +kernel
theorem dX8_layAppeals_222 : decode cX8_layAppeals 222 = .ok (.iaload, 1) := by decide +kernel
theorem dX8_layAppeals_223 : decode cX8_layAppeals 223 = .ok (.goto 4, 3) := by decide +kernel
theorem dX8_layAppeals_226 : decode cX8_layAppeals 226 = .ok (.iload_n 3, 1) := by decide +kernel
theorem dX8_layAppeals_227 : decode cX8_layAppeals 227 = .ok (.iastore, 1) := by decide +kernel
theorem dX8_layAppeals_228 : decode cX8_layAppeals 228 = .ok (.iinc 1 (-1), 3) := by decide +kernel
theorem dX8_layAppeals_231 : decode cX8_layAppeals 231 = .ok (.goto (-179), 3) := by decide +kernel
theorem dX8_layAppeals_234 : decode cX8_layAppeals 234 = .ok (.return_, 1) := by decide +kernel
theorem dX8_goneThrough_0 : decode cX8_goneThrough 0 = .ok (.aload_n 0, 1) := by decide +kernel
theorem dX8_goneThrough_1 : decode cX8_goneThrough 1 = .ok (.getfield 108, 3) := by decide +kernel
theorem dX8_goneThrough_4 : decode cX8_goneThrough 4 = .ok (.ifCond .le 7, 3) := by decide +kernel
theorem dX8_goneThrough_7 : decode cX8_goneThrough 7 = .ok (.iconst 1, 1) := by decide +kernel
theorem dX8_goneThrough_8 : decode cX8_goneThrough 8 = .ok (.goto 4, 3) := by decide +kernel
theorem dX8_goneThrough_11 : decode cX8_goneThrough 11 = .ok (.iconst 0, 1) := by decide +kernel
theorem dX8_goneThrough_12 : decode cX8_goneThrough 12 = .ok (.istore_n 1, 1) := by decide +kernel
theorem dX8_goneThrough_13 : decode cX8_goneThrough 13 = .ok (.aload_n 0, 1) := by decide +kernel
theorem dX8_goneThrough_14 : decode cX8_goneThrough 14 = .ok (.getfield 72, 3) := by decide +kernel
theorem dX8_goneThrough_17 : decode cX8_goneThrough 17 = .ok (.iload_n 1, 1) := by decide +kernel
theorem dX8_goneThrough_18 : decode cX8_goneThrough 18 = .ok (.baload, 1) := by decide +kernel
theorem dX8_goneThrough_19 : decode cX8_goneThrough 19 = .ok (.ifCond .eq 13, 3) := by decide +kernel
theorem dX8_goneThrough_22 : decode cX8_goneThrough 22 = .ok (.iload_n 1, 1) := by decide +kernel
theorem dX8_goneThrough_23 : decode cX8_goneThrough 23 = .ok (.ifCond .le 9, 3) := by decide +kernel
theorem dX8_goneThrough_26 : decode cX8_goneThrough 26 = .ok (.iinc 1 1, 3) := by decide +kernel
theorem dX8_goneThrough_29 : decode cX8_goneThrough 29 = .ok (.goto (-16), 3) := by decide +kernel
theorem dX8_goneThrough_32 : decode cX8_goneThrough 32 = .ok (.iload_n 1, 1) := by decide +kernel
theorem dX8_goneThrough_33 : decode cX8_goneThrough 33 = .ok (.ireturn, 1) := by decide +kernel
theorem dX8_appeals_0 : decode cX8_appeals 0 = .ok (.aload_n 0, 1) := by decide +kernel
theorem dX8_appeals_1 : decode cX8_appeals 1 = .ok (.iconst 0, 1) := by decide +kernel
theorem dX8_appeals_2 : decode cX8_appeals 2 = .ok (.putfield 105, 3) := by decide +kernel
theorem dX8_appeals_5 : decode cX8_appeals 5 = .ok (.iload_n 1, 1) := by decide +kernel
theorem dX8_appeals_6 : decode cX8_appeals 6 = .ok (.i2l, 1) := by decide +kernel
theorem dX8_appeals_7 : decode cX8_appeals 7 = .ok (.lconst 0, 1) := by decide +kernel
theorem dX8_appeals_8 : decode cX8_appeals 8 = .ok (.ldc2_w 271, 3) := by decide +kernel
theorem dX8_appeals_11 : decode cX8_appeals 11 = .ok (.invokestatic 111, 3) := by decide +kernel
theorem dX8_appeals_14 : decode cX8_appeals 14 = .ok (.ifCond .ne 10, 3) := by decide +kernel
theorem dX8_appeals_17 : decode cX8_appeals 17 = .ok (.aload_n 0, 1) := by decide +kernel
theorem dX8_appeals_18 : decode cX8_appeals 18 = .ok (.bipush (-2), 2) := by decide +kernel
theorem dX8_appeals_20 : decode cX8_appeals 20 = .ok (.invokevirtual 164, 3) := by decide +kernel
theorem dX8_appeals_23 : decode cX8_appeals 23 = .ok (.ireturn, 1) := by decide +kernel
theorem dX8_appeals_24 : decode cX8_appeals 24 = .ok (.aload_n 0, 1) := by decide +kernel
theorem dX8_appeals_25 : decode cX8_appeals 25 = .ok (.invokevirtual 273, 3) := by decide +kernel
theorem dX8_appeals_28 : decode cX8_appeals 28 = .ok (.aload_n 0, 1) := by decide +kernel
theorem dX8_appeals_29 : decode cX8_appeals 29 = .ok (.getfield 108, 3) := by decide +kernel
theorem dX8_appeals_32 : decode cX8_appeals 32 = .ok (.ifCond .le 7, 3) := by decide +kernel
theorem dX8_appeals_35 : decode cX8_appeals 35 = .ok (.iconst 1, 1) := by decide +kernel
theorem dX8_appeals_36 : decode cX8_appeals 36 = .ok (.goto 4, 3) := by decide +kernel
theorem dX8_appeals_39 : decode cX8_appeals 39 = .ok (.iconst 0, 1) := by decide +kernel
theorem dX8_appeals_40 : decode cX8_appeals 40 = .ok (.istore_n 2, 1) := by decide +kernel
theorem dX8_appeals_41 : decode cX8_appeals 41 = .ok (.iload_n 1, 1) := by decide +kernel
theorem dX8_appeals_42 : decode cX8_appeals 42 = .ok (.tableswitch 77 0 2 #[26, 31, 62], 26) := by decide +kernel
theorem dX8_appeals_68 : decode cX8_appeals 68 = .ok (.aload_n 0, 1) := by decide +kernel
theorem dX8_appeals_69 : decode cX8_appeals 69 = .ok (.invokevirtual 276, 3) := by decide +kernel
theorem dX8_appeals_72 : decode cX8_appeals 72 = .ok (.ireturn, 1) := by decide +kernel
theorem dX8_appeals_73 : decode cX8_appeals 73 = .ok (.iload_n 2, 1) := by decide +kernel
theorem dX8_appeals_74 : decode cX8_appeals 74 = .ok (.ifCond .ne 15, 3) := by decide +kernel
theorem dX8_appeals_77 : decode cX8_appeals 77 = .ok (.aload_n 0, 1) := by decide +kernel
theorem dX8_appeals_78 : decode cX8_appeals 78 = .ok (.getfield 68, 3) := by decide +kernel
theorem dX8_appeals_81 : decode cX8_appeals 81 = .ok (.iconst 0, 1) := by decide +kernel
theorem dX8_appeals_82 : decode cX8_appeals 82 = .ok (.baload, 1) := by decide +kernel
theorem dX8_appeals_83 : decode cX8_appeals 83 = .ok (.ifCond .eq 19, 3) := by decide +kernel
theorem dX8_appeals_86 : decode cX8_appeals 86 = .ok (.goto 12, 3) := by decide +kernel
theorem dX8_appeals_89 : decode cX8_appeals 89 = .ok (.aload_n 0, 1) := by decide +kernel
theorem dX8_appeals_90 : decode cX8_appeals 90 = .ok (.getfield 75, 3) := by decide +kernel
theorem dX8_appeals_93 : decode cX8_appeals 93 = .ok (.iconst 1, 1) := by decide +kernel
theorem dX8_appeals_94 : decode cX8_appeals 94 = .ok (.baload, 1) := by decide +kernel
theorem dX8_appeals_95 : decode cX8_appeals 95 = .ok (.ifCond .eq 7, 3) := by decide +kernel
theorem dX8_appeals_98 : decode cX8_appeals 98 = .ok (.iconst 1, 1) := by decide +kernel
theorem dX8_appeals_99 : decode cX8_appeals 99 = .ok (.goto 4, 3) := by decide +kernel
theorem dX8_appeals_102 : decode cX8_appeals 102 = .ok (.iconst 0, 1) := by decide +kernel
theorem dX8_appeals_103 : decode cX8_appeals 103 = .ok (.ireturn, 1) := by decide +kernel
theorem dX8_appeals_104 : decode cX8_appeals 104 = .ok (.iload_n 2, 1) := by decide +kernel
theorem dX8_appeals_105 : decode cX8_appeals 105 = .ok (.ifCond .ne 7, 3) := by decide +kernel
theorem dX8_appeals_108 : decode cX8_appeals 108 = .ok (.iconst 0, 1) := by decide +kernel
theorem dX8_appeals_109 : decode cX8_appeals 109 = .ok (.goto 9, 3) := by decide +kernel
theorem dX8_appeals_112 : decode cX8_appeals 112 = .ok (.aload_n 0, 1) := by decide +kernel
theorem dX8_appeals_113 : decode cX8_appeals 113 = .ok (.getfield 78, 3) := by decide +kernel
theorem dX8_appeals_116 : decode cX8_appeals 116 = .ok (.iconst 1, 1) := by decide +kernel
theorem dX8_appeals_117 : decode cX8_appeals 117 = .ok (.iaload, 1) := by decide +kernel
theorem dX8_appeals_118 : decode cX8_appeals 118 = .ok (.ireturn, 1) := by decide +kernel
theorem dX8_appeals_119 : decode cX8_appeals 119 = .ok (.iload_n 2, 1) := by decide +kernel
theorem dX8_appeals_120 : decode cX8_appeals 120 = .ok (.ifCond .ne 7, 3) := by decide +kernel
theorem dX8_appeals_123 : decode cX8_appeals 123 = .ok (.iconst 0, 1) := by decide +kernel
theorem dX8_appeals_124 : decode cX8_appeals 124 = .ok (.goto 9, 3) := by decide +kernel
theorem dX8_appeals_127 : decode cX8_appeals 127 = .ok (.aload_n 0, 1) := by decide +kernel
theorem dX8_appeals_128 : decode cX8_appeals 128 = .ok (.getfield 81, 3) := by decide +kernel
theorem dX8_appeals_131 : decode cX8_appeals 131 = .ok (.iconst 1, 1) := by decide +kernel
theorem dX8_appeals_132 : decode cX8_appeals 132 = .ok (.iaload, 1) := by decide +kernel
theorem dX8_appeals_133 : decode cX8_appeals 133 = .ok (.ireturn, 1) := by decide +kernel
theorem dX8_treaty_0 : decode cX8_treaty 0 = .ok (.aload_n 0, 1) := by decide +kernel
theorem dX8_treaty_1 : decode cX8_treaty 1 = .ok (.iconst 0, 1) := by decide +kernel
theorem dX8_treaty_2 : decode cX8_treaty 2 = .ok (.putfield 105, 3) := by decide +kernel
theorem dX8_treaty_5 : decode cX8_treaty 5 = .ok (.aload_n 0, 1) := by decide +kernel
theorem dX8_treaty_6 : decode cX8_treaty 6 = .ok (.getfield 108, 3) := by decide +kernel
theorem dX8_treaty_9 : decode cX8_treaty 9 = .ok (.ifCond .ne 8, 3) := by decide +kernel
theorem dX8_treaty_12 : decode cX8_treaty 12 = .ok (.bipush (-3), 2) := by decide +kernel
theorem dX8_treaty_14 : decode cX8_treaty 14 = .ok (.goto 19, 3) := by decide +kernel
theorem dX8_treaty_17 : decode cX8_treaty 17 = .ok (.iload_n 1, 1) := by decide +kernel
theorem dX8_treaty_18 : decode cX8_treaty 18 = .ok (.iconst 0, 1) := by decide +kernel
theorem dX8_treaty_19 : decode cX8_treaty 19 = .ok (.aload_n 0, 1) := by decide +kernel
theorem dX8_treaty_20 : decode cX8_treaty 20 = .ok (.getfield 108, 3) := by decide +kernel
theorem dX8_treaty_23 : decode cX8_treaty 23 = .ok (.iconst 1, 1) := by decide +kernel
theorem dX8_treaty_24 : decode cX8_treaty 24 = .ok (.isub, 1) := by decide +kernel
theorem dX8_treaty_25 : decode cX8_treaty 25 = .ok (.invokestatic 235, 3) := by decide +kernel
theorem dX8_treaty_28 : decode cX8_treaty 28 = .ok (.iload_n 2, 1) := by decide +kernel
theorem dX8_treaty_29 : decode cX8_treaty 29 = .ok (.iconst 1, 1) := by decide +kernel
theorem dX8_treaty_30 : decode cX8_treaty 30 = .ok (.invokestatic 279, 3) := by decide +kernel
theorem dX8_treaty_33 : decode cX8_treaty 33 = .ok (.istore_n 3, 1) := by decide +kernel
theorem dX8_treaty_34 : decode cX8_treaty 34 = .ok (.iload_n 3, 1) := by decide +kernel
theorem dX8_treaty_35 : decode cX8_treaty 35 = .ok (.ifCond .ge 9, 3) := by decide +kernel
theorem dX8_treaty_38 : decode cX8_treaty 38 = .ok (.aload_n 0, 1) := by decide +kernel
theorem dX8_treaty_39 : decode cX8_treaty 39 = .ok (.iload_n 3, 1) := by decide +kernel
theorem dX8_treaty_40 : decode cX8_treaty 40 = .ok (.invokevirtual 164, 3) := by decide +kernel
theorem dX8_treaty_43 : decode cX8_treaty 43 = .ok (.ireturn, 1) := by decide +kernel
theorem dX8_treaty_44 : decode cX8_treaty 44 = .ok (.aload_n 0, 1) := by decide +kernel
theorem dX8_treaty_45 : decode cX8_treaty 45 = .ok (.invokevirtual 273, 3) := by decide +kernel
theorem dX8_treaty_48 : decode cX8_treaty 48 = .ok (.iload_n 2, 1) := by decide +kernel
theorem dX8_treaty_49 : decode cX8_treaty 49 = .ok (.iconst 1, 1) := by decide +kernel
theorem dX8_treaty_50 : decode cX8_treaty 50 = .ok (.if_icmp .ne 22, 3) := by decide +kernel
theorem dX8_treaty_53 : decode cX8_treaty 53 = .ok (.aload_n 0, 1) := by decide +kernel
theorem dX8_treaty_54 : decode cX8_treaty 54 = .ok (.getfield 72, 3) := by decide +kernel
theorem dX8_treaty_57 : decode cX8_treaty 57 = .ok (.iload_n 1, 1) := by decide +kernel
theorem dX8_treaty_58 : decode cX8_treaty 58 = .ok (.iconst 1, 1) := by decide +kernel
theorem dX8_treaty_59 : decode cX8_treaty 59 = .ok (.iadd, 1) := by decide +kernel
theorem dX8_treaty_60 : decode cX8_treaty 60 = .ok (.baload, 1) := by decide +kernel
theorem dX8_treaty_61 : decode cX8_treaty 61 = .ok (.ifCond .eq 7, 3) := by decide +kernel
theorem dX8_treaty_64 : decode cX8_treaty 64 = .ok (.iconst 1, 1) := by decide +kernel
theorem dX8_treaty_65 : decode cX8_treaty 65 = .ok (.goto 24, 3) := by decide +kernel
theorem dX8_treaty_68 : decode cX8_treaty 68 = .ok (.iconst 0, 1) := by decide +kernel
theorem dX8_treaty_69 : decode cX8_treaty 69 = .ok (.goto 20, 3) := by decide +kernel
theorem dX8_treaty_72 : decode cX8_treaty 72 = .ok (.aload_n 0, 1) := by decide +kernel
theorem dX8_treaty_73 : decode cX8_treaty 73 = .ok (.getfield 78, 3) := by decide +kernel
theorem dX8_treaty_76 : decode cX8_treaty 76 = .ok (.iload_n 1, 1) := by decide +kernel
theorem dX8_treaty_77 : decode cX8_treaty 77 = .ok (.iconst 1, 1) := by decide +kernel
theorem dX8_treaty_78 : decode cX8_treaty 78 = .ok (.iadd, 1) := by decide +kernel
theorem dX8_treaty_79 : decode cX8_treaty 79 = .ok (.iaload, 1) := by decide +kernel
theorem dX8_treaty_80 : decode cX8_treaty 80 = .ok (.aload_n 0, 1) := by decide +kernel
theorem dX8_treaty_81 : decode cX8_treaty 81 = .ok (.getfield 81, 3) := by decide +kernel
theorem dX8_treaty_84 : decode cX8_treaty 84 = .ok (.iload_n 1, 1) := by decide +kernel
theorem dX8_treaty_85 : decode cX8_treaty 85 = .ok (.iconst 1, 1) := by decide +kernel
theorem dX8_treaty_86 : decode cX8_treaty 86 = .ok (.iadd, 1) := by decide +kernel
theorem dX8_treaty_87 : decode cX8_treaty 87 = .ok (.iaload, 1) := by decide +kernel
theorem dX8_treaty_88 : decode cX8_treaty 88 = .ok (.iadd, 1) := by decide +kernel
theorem dX8_treaty_89 : decode cX8_treaty 89 = .ok (.ireturn, 1) := by decide +kernel
theorem dX8_share_0 : decode cX8_share 0 = .ok (.aload_n 0, 1) := by decide +kernel
theorem dX8_share_1 : decode cX8_share 1 = .ok (.iconst 0, 1) := by decide +kernel
theorem dX8_share_2 : decode cX8_share 2 = .ok (.putfield 105, 3) := by decide +kernel
theorem dX8_share_5 : decode cX8_share 5 = .ok (.aload_n 0, 1) := by decide +kernel
theorem dX8_share_6 : decode cX8_share 6 = .ok (.iload_n 1, 1) := by decide +kernel
theorem dX8_share_7 : decode cX8_share 7 = .ok (.invokevirtual 230, 3) := by decide +kernel
theorem dX8_share_10 : decode cX8_share 10 = .ok (.ifCond .ne 9, 3) := by decide +kernel
theorem dX8_share_13 : decode cX8_share 13 = .ok (.aload_n 0, 1) := by decide +kernel
theorem dX8_share_14 : decode cX8_share 14 = .ok (.iconst (-1), 1) := by decide +kernel
theorem dX8_share_15 : decode cX8_share 15 = .ok (.invokevirtual 164, 3) := by decide +kernel
theorem dX8_share_18 : decode cX8_share 18 = .ok (.ireturn, 1) := by decide +kernel
theorem dX8_share_19 : decode cX8_share 19 = .ok (.aload_n 0, 1) := by decide +kernel
theorem dX8_share_20 : decode cX8_share 20 = .ok (.invokevirtual 273, 3) := by decide +kernel
theorem dX8_share_23 : decode cX8_share 23 = .ok (.iload_n 1, 1) := by decide +kernel
theorem dX8_share_24 : decode cX8_share 24 = .ok (.ifCond .eq 11, 3) := by decide +kernel
theorem dX8_share_27 : decode cX8_share 27 = .ok (.iload_n 1, 1) := by decide +kernel
theorem dX8_share_28 : decode cX8_share 28 = .ok (.aload_n 0, 1) := by decide +kernel
theorem dX8_share_29 : decode cX8_share 29 = .ok (.invokevirtual 276, 3) := by decide +kernel
theorem dX8_share_32 : decode cX8_share 32 = .ok (.if_icmp .lt 8, 3) := by decide +kernel
theorem dX8_share_35 : decode cX8_share 35 = .ok (.bipush (-9), 2) := by decide +kernel
theorem dX8_share_37 : decode cX8_share 37 = .ok (.goto 17, 3) := by decide +kernel
theorem dX8_share_40 : decode cX8_share 40 = .ok (.aload_n 0, 1) := by decide +kernel
theorem dX8_share_41 : decode cX8_share 41 = .ok (.getfield 68, 3) := by decide +kernel
theorem dX8_share_44 : decode cX8_share 44 = .ok (.iload_n 1, 1) := by decide +kernel
theorem dX8_share_45 : decode cX8_share 45 = .ok (.baload, 1) := by decide +kernel
theorem dX8_share_46 : decode cX8_share 46 = .ok (.ifCond .eq 7, 3) := by decide +kernel
theorem dX8_share_49 : decode cX8_share 49 = .ok (.iconst 1, 1) := by decide +kernel
theorem dX8_share_50 : decode cX8_share 50 = .ok (.goto 4, 3) := by decide +kernel
theorem dX8_share_53 : decode cX8_share 53 = .ok (.iconst 0, 1) := by decide +kernel
theorem dX8_share_54 : decode cX8_share 54 = .ok (.ireturn, 1) := by decide +kernel
theorem dX8_pressBits_0 : decode cX8_pressBits 0 = .ok (.bipush (-9), 2) := by decide +kernel
theorem dX8_pressBits_2 : decode cX8_pressBits 2 = .ok (.istore_n 1, 1) := by decide +kernel
theorem dX8_pressBits_3 : decode cX8_pressBits 3 = .ok (.iconst 0, 1) := by decide +kernel
theorem dX8_pressBits_4 : decode cX8_pressBits 4 = .ok (.istore_n 2, 1) := by decide +kernel
theorem dX8_pressBits_5 : decode cX8_pressBits 5 = .ok (.iload_n 2, 1) := by decide +kernel
theorem dX8_pressBits_6 : decode cX8_pressBits 6 = .ok (.iconst 1, 1) := by decide +kernel
theorem dX8_pressBits_7 : decode cX8_pressBits 7 = .ok (.aload_n 0, 1) := by decide +kernel
theorem dX8_pressBits_8 : decode cX8_pressBits 8 = .ok (.getfield 19, 3) := by decide +kernel
theorem dX8_pressBits_11 : decode cX8_pressBits 11 = .ok (.ishl, 1) := by decide +kernel
theorem dX8_pressBits_12 : decode cX8_pressBits 12 = .ok (.if_icmp .ge 91, 3) := by decide +kernel
theorem dX8_pressBits_15 : decode cX8_pressBits 15 = .ok (.iload_n 1, 1) := by decide +kernel
theorem dX8_pressBits_16 : decode cX8_pressBits 16 = .ok (.ifCond .lt 14, 3) := by decide +kernel
theorem dX8_pressBits_19 : decode cX8_pressBits 19 = .ok (.iload_n 2, 1) := by decide +kernel
theorem dX8_pressBits_20 : decode cX8_pressBits 20 = .ok (.invokestatic 282, 3) := by decide +kernel
theorem dX8_pressBits_23 : decode cX8_pressBits 23 = .ok (.iload_n 1, 1) := by decide +kernel
theorem dX8_pressBits_24 : decode cX8_pressBits 24 = .ok (.invokestatic 282, 3) := by decide +kernel
theorem dX8_pressBits_27 : decode cX8_pressBits 27 = .ok (.if_icmp .ge 70, 3) := by decide +kernel
theorem dX8_pressBits_30 : decode cX8_pressBits 30 = .ok (.aload_n 0, 1) := by decide +kernel
theorem dX8_pressBits_31 : decode cX8_pressBits 31 = .ok (.invokevirtual 158, 3) := by decide +kernel
theorem dX8_pressBits_34 : decode cX8_pressBits 34 = .ok (.iconst 0, 1) := by decide +kernel
theorem dX8_pressBits_35 : decode cX8_pressBits 35 = .ok (.istore_n 3, 1) := by decide +kernel
theorem dX8_pressBits_36 : decode cX8_pressBits 36 = .ok (.iload_n 3, 1) := by decide +kernel
theorem dX8_pressBits_37 : decode cX8_pressBits 37 = .ok (.aload_n 0, 1) := by decide +kernel
theorem dX8_pressBits_38 : decode cX8_pressBits 38 = .ok (.getfield 19, 3) := by decide +kernel
theorem dX8_pressBits_41 : decode cX8_pressBits 41 = .ok (.if_icmp .ge 38, 3) := by decide +kernel
theorem dX8_pressBits_44 : decode cX8_pressBits 44 = .ok (.aload_n 0, 1) := by decide +kernel
theorem dX8_pressBits_45 : decode cX8_pressBits 45 = .ok (.getfield 35, 3) := by decide +kernel
theorem dX8_pressBits_48 : decode cX8_pressBits 48 = .ok (.iload_n 3, 1) := by decide +kernel
theorem dX8_pressBits_49 : decode cX8_pressBits 49 = .ok (.aload_n 0, 1) := by decide +kernel
theorem dX8_pressBits_50 : decode cX8_pressBits 50 = .ok (.getfield 35, 3) := by decide +kernel
theorem dX8_pressBits_53 : decode cX8_pressBits 53 = .ok (.iload_n 3, 1) := by decide +kernel
theorem dX8_pressBits_54 : decode cX8_pressBits 54 = .ok (.iaload, 1) := by decide +kernel
theorem dX8_pressBits_55 : decode cX8_pressBits 55 = .ok (.iload_n 2, 1) := by decide +kernel
theorem dX8_pressBits_56 : decode cX8_pressBits 56 = .ok (.iload_n 3, 1) := by decide +kernel
theorem dX8_pressBits_57 : decode cX8_pressBits 57 = .ok (.invokestatic 150, 3) := by decide +kernel
theorem dX8_pressBits_60 : decode cX8_pressBits 60 = .ok (.ifCond .eq 7, 3) := by decide +kernel
theorem dX8_pressBits_63 : decode cX8_pressBits 63 = .ok (.iconst 1, 1) := by decide +kernel
theorem dX8_pressBits_64 : decode cX8_pressBits 64 = .ok (.goto 4, 3) := by decide +kernel
theorem dX8_pressBits_67 : decode cX8_pressBits 67 = .ok (.iconst 0, 1) := by decide +kernel
theorem dX8_pressBits_68 : decode cX8_pressBits 68 = .ok (.iadd, 1) := by decide +kernel
theorem dX8_pressBits_69 : decode cX8_pressBits 69 = .ok (.invokestatic 129, 3) := by decide +kernel
theorem dX8_pressBits_72 : decode cX8_pressBits 72 = .ok (.iastore, 1) := by decide +kernel
theorem dX8_pressBits_73 : decode cX8_pressBits 73 = .ok (.iinc 3 1, 3) := by decide +kernel
theorem dX8_pressBits_76 : decode cX8_pressBits 76 = .ok (.goto (-40), 3) := by decide +kernel
theorem dX8_pressBits_79 : decode cX8_pressBits 79 = .ok (.aload_n 0, 1) := by decide +kernel
theorem dX8_pressBits_80 : decode cX8_pressBits 80 = .ok (.iconst 0, 1) := by decide +kernel
theorem dX8_pressBits_81 : decode cX8_pressBits 81 = .ok (.invokevirtual 161, 3) := by decide +kernel
theorem dX8_pressBits_84 : decode cX8_pressBits 84 = .ok (.aload_n 0, 1) := by decide +kernel
theorem dX8_pressBits_85 : decode cX8_pressBits 85 = .ok (.invokevirtual 252, 3) := by decide +kernel
theorem dX8_pressBits_88 : decode cX8_pressBits 88 = .ok (.ifCond .eq 7, 3) := by decide +kernel
theorem dX8_pressBits_91 : decode cX8_pressBits 91 = .ok (.iload_n 2, 1) := by decide +kernel
theorem dX8_pressBits_92 : decode cX8_pressBits 92 = .ok (.goto 4, 3) := by decide +kernel
theorem dX8_pressBits_95 : decode cX8_pressBits 95 = .ok (.iload_n 1, 1) := by decide +kernel
theorem dX8_pressBits_96 : decode cX8_pressBits 96 = .ok (.istore_n 1, 1) := by decide +kernel
theorem dX8_pressBits_97 : decode cX8_pressBits 97 = .ok (.iinc 2 1, 3) := by decide +kernel
theorem dX8_pressBits_100 : decode cX8_pressBits 100 = .ok (.goto (-95), 3) := by decide +kernel
theorem dX8_pressBits_103 : decode cX8_pressBits 103 = .ok (.iload_n 1, 1) := by decide +kernel
theorem dX8_pressBits_104 : decode cX8_pressBits 104 = .ok (.ireturn, 1) := by decide +kernel
theorem dX8_press_0 : decode cX8_press 0 = .ok (.aload_n 0, 1) := by decide +kernel
theorem dX8_press_1 : decode cX8_press 1 = .ok (.iconst 0, 1) := by decide +kernel
theorem dX8_press_2 : decode cX8_press 2 = .ok (.putfield 105, 3) := by decide +kernel
theorem dX8_press_5 : decode cX8_press 5 = .ok (.iload_n 1, 1) := by decide +kernel
theorem dX8_press_6 : decode cX8_press 6 = .ok (.i2l, 1) := by decide +kernel
theorem dX8_press_7 : decode cX8_press 7 = .ok (.lconst 0, 1) := by decide +kernel
theorem dX8_press_8 : decode cX8_press 8 = .ok (.lconst 1, 1) := by decide +kernel
theorem dX8_press_9 : decode cX8_press 9 = .ok (.invokestatic 111, 3) := by decide +kernel
theorem dX8_press_12 : decode cX8_press 12 = .ok (.ifCond .ne 10, 3) := by decide +kernel
theorem dX8_press_15 : decode cX8_press 15 = .ok (.aload_n 0, 1) := by decide +kernel
theorem dX8_press_16 : decode cX8_press 16 = .ok (.bipush (-2), 2) := by decide +kernel
theorem dX8_press_18 : decode cX8_press 18 = .ok (.invokevirtual 164, 3) := by decide +kernel
theorem dX8_press_21 : decode cX8_press 21 = .ok (.ireturn, 1) := by decide +kernel
theorem dX8_press_22 : decode cX8_press 22 = .ok (.aload_n 0, 1) := by decide +kernel
theorem dX8_press_23 : decode cX8_press 23 = .ok (.invokevirtual 285, 3) := by decide +kernel
theorem dX8_press_26 : decode cX8_press 26 = .ok (.istore_n 2, 1) := by decide +kernel
theorem dX8_press_27 : decode cX8_press 27 = .ok (.iload_n 1, 1) := by decide +kernel
theorem dX8_press_28 : decode cX8_press 28 = .ok (.ifCond .eq 7, 3) := by decide +kernel
theorem dX8_press_31 : decode cX8_press 31 = .ok (.iload_n 2, 1) := by decide +kernel
theorem dX8_press_32 : decode cX8_press 32 = .ok (.ifCond .ge 7, 3) := by decide +kernel
theorem dX8_press_35 : decode cX8_press 35 = .ok (.iload_n 2, 1) := by decide +kernel
theorem dX8_press_36 : decode cX8_press 36 = .ok (.goto 7, 3) := by decide +kernel
theorem dX8_press_39 : decode cX8_press 39 = .ok (.iload_n 2, 1) := by decide +kernel
theorem dX8_press_40 : decode cX8_press 40 = .ok (.invokestatic 282, 3) := by decide +kernel
theorem dX8_press_43 : decode cX8_press 43 = .ok (.ireturn, 1) := by decide +kernel
theorem dX8_sumByChanges_0 : decode cX8_sumByChanges 0 = .ok (.aload_n 0, 1) := by decide +kernel
theorem dX8_sumByChanges_1 : decode cX8_sumByChanges 1 = .ok (.invokevirtual 158, 3) := by decide +kernel
theorem dX8_sumByChanges_4 : decode cX8_sumByChanges 4 = .ok (.iconst 0, 1) := by decide +kernel
theorem dX8_sumByChanges_5 : decode cX8_sumByChanges 5 = .ok (.istore_n 2, 1) := by decide +kernel
theorem dX8_sumByChanges_6 : decode cX8_sumByChanges 6 = .ok (.iload_n 2, 1) := by decide +kernel
theorem dX8_sumByChanges_7 : decode cX8_sumByChanges 7 = .ok (.iload_n 1, 1) := by decide +kernel
theorem dX8_sumByChanges_8 : decode cX8_sumByChanges 8 = .ok (.if_icmp .ge 50, 3) := by decide +kernel
theorem dX8_sumByChanges_11 : decode cX8_sumByChanges 11 = .ok (.aload_n 0, 1) := by decide +kernel
theorem dX8_sumByChanges_12 : decode cX8_sumByChanges 12 = .ok (.getfield 84, 3) := by decide +kernel
theorem dX8_sumByChanges_15 : decode cX8_sumByChanges 15 = .ok (.iload_n 2, 1) := by decide +kernel
theorem dX8_sumByChanges_16 : decode cX8_sumByChanges 16 = .ok (.iaload, 1) := by decide +kernel
theorem dX8_sumByChanges_17 : decode cX8_sumByChanges 17 = .ok (.iconst 2, 1) := by decide +kernel
theorem dX8_sumByChanges_18 : decode cX8_sumByChanges 18 = .ok (.idiv, 1) := by decide +kernel
theorem dX8_sumByChanges_19 : decode cX8_sumByChanges 19 = .ok (.istore_n 3, 1) := by decide +kernel
theorem dX8_sumByChanges_20 : decode cX8_sumByChanges 20 = .ok (.aload_n 0, 1) := by decide +kernel
theorem dX8_sumByChanges_21 : decode cX8_sumByChanges 21 = .ok (.getfield 35, 3) := by decide +kernel
theorem dX8_sumByChanges_24 : decode cX8_sumByChanges 24 = .ok (.iload_n 3, 1) := by decide +kernel
theorem dX8_sumByChanges_25 : decode cX8_sumByChanges 25 = .ok (.aload_n 0, 1) := by decide +kernel
theorem dX8_sumByChanges_26 : decode cX8_sumByChanges 26 = .ok (.getfield 35, 3) := by decide +kernel
theorem dX8_sumByChanges_29 : decode cX8_sumByChanges 29 = .ok (.iload_n 3, 1) := by decide +kernel
theorem dX8_sumByChanges_30 : decode cX8_sumByChanges 30 = .ok (.iaload, 1) := by decide +kernel
theorem dX8_sumByChanges_31 : decode cX8_sumByChanges 31 = .ok (.aload_n 0, 1) := by decide +kernel
theorem dX8_sumByChanges_32 : decode cX8_sumByChanges 32 = .ok (.getfield 84, 3) := by decide +kernel
theorem dX8_sumByChanges_35 : decode cX8_sumByChanges 35 = .ok (.iload_n 2, 1) := by decide +kernel
theorem dX8_sumByChanges_36 : decode cX8_sumByChanges 36 = .ok (.iaload, 1) := by decide +kernel
theorem dX8_sumByChanges_37 : decode cX8_sumByChanges 37 = .ok (.iconst 2, 1) := by decide +kernel
theorem dX8_sumByChanges_38 : decode cX8_sumByChanges 38 = .ok (.irem, 1) := by decide +kernel
theorem dX8_sumByChanges_39 : decode cX8_sumByChanges 39 = .ok (.ifCond .ne 7, 3) := by decide +kernel
theorem dX8_sumByChanges_42 : decode cX8_sumByChanges 42 = .ok (.iconst 1, 1) := by decide +kernel
theorem dX8_sumByChanges_43 : decode cX8_sumByChanges 43 = .ok (.goto 4, 3) := by decide +kernel
theorem dX8_sumByChanges_46 : decode cX8_sumByChanges 46 = .ok (.iconst (-1), 1) := by decide +kernel
theorem dX8_sumByChanges_47 : decode cX8_sumByChanges 47 = .ok (.iadd, 1) := by decide +kernel
theorem dX8_sumByChanges_48 : decode cX8_sumByChanges 48 = .ok (.invokestatic 129, 3) := by decide +kernel
theorem dX8_sumByChanges_51 : decode cX8_sumByChanges 51 = .ok (.iastore, 1) := by decide +kernel
theorem dX8_sumByChanges_52 : decode cX8_sumByChanges 52 = .ok (.iinc 2 1, 3) := by decide +kernel
theorem dX8_sumByChanges_55 : decode cX8_sumByChanges 55 = .ok (.goto (-49), 3) := by decide +kernel
theorem dX8_sumByChanges_58 : decode cX8_sumByChanges 58 = .ok (.aload_n 0, 1) := by decide +kernel
theorem dX8_sumByChanges_59 : decode cX8_sumByChanges 59 = .ok (.iconst 0, 1) := by decide +kernel
theorem dX8_sumByChanges_60 : decode cX8_sumByChanges 60 = .ok (.invokevirtual 161, 3) := by decide +kernel
theorem dX8_sumByChanges_63 : decode cX8_sumByChanges 63 = .ok (.aload_n 0, 1) := by decide +kernel
theorem dX8_sumByChanges_64 : decode cX8_sumByChanges 64 = .ok (.invokevirtual 118, 3) := by decide +kernel
theorem dX8_sumByChanges_67 : decode cX8_sumByChanges 67 = .ok (.ireturn, 1) := by decide +kernel
theorem dX8_lastBy_0 : decode cX8_lastBy 0 = .ok (.iload_n 1, 1) := by decide +kernel
theorem dX8_lastBy_1 : decode cX8_lastBy 1 = .ok (.iconst 2, 1) := by decide +kernel
theorem dX8_lastBy_2 : decode cX8_lastBy 2 = .ok (.irem, 1) := by decide +kernel
theorem dX8_lastBy_3 : decode cX8_lastBy 3 = .ok (.iconst 1, 1) := by decide +kernel
theorem dX8_lastBy_4 : decode cX8_lastBy 4 = .ok (.if_icmp .ne 9, 3) := by decide +kernel
theorem dX8_lastBy_7 : decode cX8_lastBy 7 = .ok (.sipush (-999), 3) := by decide +kernel
theorem dX8_lastBy_10 : decode cX8_lastBy 10 = .ok (.goto 6, 3) := by decide +kernel
theorem dX8_lastBy_13 : decode cX8_lastBy 13 = .ok (.sipush 999, 3) := by decide +kernel
theorem dX8_lastBy_16 : decode cX8_lastBy 16 = .ok (.istore_n 2, 1) := by decide +kernel
theorem dX8_lastBy_17 : decode cX8_lastBy 17 = .ok (.aload_n 0, 1) := by decide +kernel
theorem dX8_lastBy_18 : decode cX8_lastBy 18 = .ok (.getfield 84, 3) := by decide +kernel
theorem dX8_lastBy_21 : decode cX8_lastBy 21 = .ok (.iload_n 1, 1) := by decide +kernel
theorem dX8_lastBy_22 : decode cX8_lastBy 22 = .ok (.iconst 1, 1) := by decide +kernel
theorem dX8_lastBy_23 : decode cX8_lastBy 23 = .ok (.isub, 1) := by decide +kernel
theorem dX8_lastBy_24 : decode cX8_lastBy 24 = .ok (.iconst 0, 1) := by decide +kernel
theorem dX8_lastBy_25 : decode cX8_lastBy 25 = .ok (.iastore, 1) := by decide +kernel
theorem dX8_lastBy_26 : decode cX8_lastBy 26 = .ok (.aload_n 0, 1) := by decide +kernel
theorem dX8_lastBy_27 : decode cX8_lastBy 27 = .ok (.getfield 84, 3) := by decide +kernel
theorem dX8_lastBy_30 : decode cX8_lastBy 30 = .ok (.iload_n 1, 1) := by decide +kernel
theorem dX8_lastBy_31 : decode cX8_lastBy 31 = .ok (.iconst 1, 1) := by decide +kernel
theorem dX8_lastBy_32 : decode cX8_lastBy 32 = .ok (.isub, 1) := by decide +kernel
theorem dX8_lastBy_33 : decode cX8_lastBy 33 = .ok (.iaload, 1) := by decide +kernel
