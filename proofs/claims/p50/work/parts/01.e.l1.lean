theorem dL_below_0 : decode cL_below 0 = .ok (.iload_n 0, 1) := by decide +kernel
theorem dL_below_1 : decode cL_below 1 = .ok (.ldc 7, 2) := by decide +kernel
theorem dL_below_3 : decode cL_below 3 = .ok (.iand, 1) := by decide +kernel
theorem dL_below_4 : decode cL_below 4 = .ok (.iload_n 1, 1) := by decide +kernel
theorem dL_below_5 : decode cL_below 5 = .ok (.irem, 1) := by decide +kernel
theorem dL_below_6 : decode cL_below 6 = .ok (.ireturn, 1) := by decide +kernel
theorem dL_cell_0 : decode cL_cell 0 = .ok (.iload_n 1, 1) := by decide +kernel
theorem dL_cell_1 : decode cL_cell 1 = .ok (.aload_n 0, 1) := by decide +kernel
theorem dL_cell_2 : decode cL_cell 2 = .ok (.arraylength, 1) := by decide +kernel
theorem dL_cell_3 : decode cL_cell 3 = .ok (.if_icmp .ge 9, 3) := by decide +kernel
theorem dL_cell_6 : decode cL_cell 6 = .ok (.aload_n 0, 1) := by decide +kernel
theorem dL_cell_7 : decode cL_cell 7 = .ok (.iload_n 1, 1) := by decide +kernel
theorem dL_cell_8 : decode cL_cell 8 = .ok (.iaload, 1) := by decide +kernel
theorem dL_cell_9 : decode cL_cell 9 = .ok (.goto 9, 3) := by decide +kernel
theorem dL_cell_12 : decode cL_cell 12 = .ok (.ldc 8, 2) := by decide +kernel
theorem dL_cell_14 : decode cL_cell 14 = .ok (.iload_n 1, 1) := by decide +kernel
theorem dL_cell_15 : decode cL_cell 15 = .ok (.iconst 3, 1) := by decide +kernel
theorem dL_cell_16 : decode cL_cell 16 = .ok (.iadd, 1) := by decide +kernel
theorem dL_cell_17 : decode cL_cell 17 = .ok (.imul, 1) := by decide +kernel
theorem dL_cell_18 : decode cL_cell 18 = .ok (.ireturn, 1) := by decide +kernel
theorem dL_isGrown_0 : decode cL_isGrown 0 = .ok (.aload_n 0, 1) := by decide +kernel
theorem dL_isGrown_1 : decode cL_isGrown 1 = .ok (.iconst 0, 1) := by decide +kernel
theorem dL_isGrown_2 : decode cL_isGrown 2 = .ok (.invokevirtual 46, 3) := by decide +kernel
theorem dL_isGrown_5 : decode cL_isGrown 5 = .ok (.pop, 1) := by decide +kernel
theorem dL_isGrown_6 : decode cL_isGrown 6 = .ok (.aload_n 0, 1) := by decide +kernel
theorem dL_isGrown_7 : decode cL_isGrown 7 = .ok (.iconst 1, 1) := by decide +kernel
theorem dL_isGrown_8 : decode cL_isGrown 8 = .ok (.invokevirtual 46, 3) := by decide +kernel
theorem dL_isGrown_11 : decode cL_isGrown 11 = .ok (.pop, 1) := by decide +kernel
theorem dL_isGrown_12 : decode cL_isGrown 12 = .ok (.iconst 0, 1) := by decide +kernel
theorem dL_isGrown_13 : decode cL_isGrown 13 = .ok (.istore_n 3, 1) := by decide +kernel
theorem dL_isGrown_14 : decode cL_isGrown 14 = .ok (.iconst 0, 1) := by decide +kernel
theorem dL_isGrown_15 : decode cL_isGrown 15 = .ok (.istore 4, 2) := by decide +kernel
theorem dL_isGrown_17 : decode cL_isGrown 17 = .ok (.iconst 0, 1) := by decide +kernel
theorem dL_isGrown_18 : decode cL_isGrown 18 = .ok (.istore 5, 2) := by decide +kernel
theorem dL_isGrown_20 : decode cL_isGrown 20 = .ok (.iload_n 1, 1) := by decide +kernel
theorem dL_isGrown_21 : decode cL_isGrown 21 = .ok (.iconst 2, 1) := by decide +kernel
theorem dL_isGrown_22 : decode cL_isGrown 22 = .ok (.ishr, 1) := by decide +kernel
theorem dL_isGrown_23 : decode cL_isGrown 23 = .ok (.bipush 6, 2) := by decide +kernel
theorem dL_isGrown_25 : decode cL_isGrown 25 = .ok (.invokestatic 49, 3) := by decide +kernel
theorem dL_isGrown_28 : decode cL_isGrown 28 = .ok (.istore 6, 2) := by decide +kernel
theorem dL_isGrown_30 : decode cL_isGrown 30 = .ok (.iload 6, 2) := by decide +kernel
theorem dL_isGrown_32 : decode cL_isGrown 32 = .ok (.ifCond .le 77, 3) := by decide +kernel
theorem dL_isGrown_35 : decode cL_isGrown 35 = .ok (.iconst 1, 1) := by decide +kernel
theorem dL_isGrown_36 : decode cL_isGrown 36 = .ok (.iload_n 1, 1) := by decide +kernel
theorem dL_isGrown_37 : decode cL_isGrown 37 = .ok (.iconst 2, 1) := by decide +kernel
theorem dL_isGrown_38 : decode cL_isGrown 38 = .ok (.iload 6, 2) := by decide +kernel
theorem dL_isGrown_40 : decode cL_isGrown 40 = .ok (.imul, 1) := by decide +kernel
theorem dL_isGrown_41 : decode cL_isGrown 41 = .ok (.iconst 3, 1) := by decide +kernel
theorem dL_isGrown_42 : decode cL_isGrown 42 = .ok (.iadd, 1) := by decide +kernel
theorem dL_isGrown_43 : decode cL_isGrown 43 = .ok (.ishr, 1) := by decide +kernel
theorem dL_isGrown_44 : decode cL_isGrown 44 = .ok (.iconst 3, 1) := by decide +kernel
theorem dL_isGrown_45 : decode cL_isGrown 45 = .ok (.invokestatic 49, 3) := by decide +kernel
theorem dL_isGrown_48 : decode cL_isGrown 48 = .ok (.iadd, 1) := by decide +kernel
theorem dL_isGrown_49 : decode cL_isGrown 49 = .ok (.istore 7, 2) := by decide +kernel
theorem dL_isGrown_51 : decode cL_isGrown 51 = .ok (.aload_n 0, 1) := by decide +kernel
theorem dL_isGrown_52 : decode cL_isGrown 52 = .ok (.iconst 0, 1) := by decide +kernel
theorem dL_isGrown_53 : decode cL_isGrown 53 = .ok (.iload 7, 2) := by decide +kernel
theorem dL_isGrown_55 : decode cL_isGrown 55 = .ok (.invokevirtual 53, 3) := by decide +kernel
theorem dL_isGrown_58 : decode cL_isGrown 58 = .ok (.bipush (-9), 2) := by decide +kernel
theorem dL_isGrown_60 : decode cL_isGrown 60 = .ok (.if_icmp .ne 6, 3) := by decide +kernel
theorem dL_isGrown_63 : decode cL_isGrown 63 = .ok (.goto 40, 3) := by decide +kernel
theorem dL_isGrown_66 : decode cL_isGrown 66 = .ok (.iinc 5 1, 3) := by decide +kernel
theorem dL_isGrown_69 : decode cL_isGrown 69 = .ok (.iload_n 3, 1) := by decide +kernel
theorem dL_isGrown_70 : decode cL_isGrown 70 = .ok (.ifCond .ne 9, 3) := by decide +kernel
theorem dL_isGrown_73 : decode cL_isGrown 73 = .ok (.iload 7, 2) := by decide +kernel
theorem dL_isGrown_75 : decode cL_isGrown 75 = .ok (.istore_n 3, 1) := by decide +kernel
theorem dL_isGrown_76 : decode cL_isGrown 76 = .ok (.goto 11, 3) := by decide +kernel
theorem dL_isGrown_79 : decode cL_isGrown 79 = .ok (.aload_n 0, 1) := by decide +kernel
theorem dL_isGrown_80 : decode cL_isGrown 80 = .ok (.iconst 1, 1) := by decide +kernel
theorem dL_isGrown_81 : decode cL_isGrown 81 = .ok (.iload 7, 2) := by decide +kernel
theorem dL_isGrown_83 : decode cL_isGrown 83 = .ok (.invokevirtual 53, 3) := by decide +kernel
theorem dL_isGrown_86 : decode cL_isGrown 86 = .ok (.pop, 1) := by decide +kernel
theorem dL_isGrown_87 : decode cL_isGrown 87 = .ok (.iload 7, 2) := by decide +kernel
theorem dL_isGrown_89 : decode cL_isGrown 89 = .ok (.iload 4, 2) := by decide +kernel
theorem dL_isGrown_91 : decode cL_isGrown 91 = .ok (.if_icmp .le 8, 3) := by decide +kernel
theorem dL_isGrown_94 : decode cL_isGrown 94 = .ok (.iload 7, 2) := by decide +kernel
theorem dL_isGrown_96 : decode cL_isGrown 96 = .ok (.goto 5, 3) := by decide +kernel
theorem dL_isGrown_99 : decode cL_isGrown 99 = .ok (.iload 4, 2) := by decide +kernel
theorem dL_isGrown_101 : decode cL_isGrown 101 = .ok (.istore 4, 2) := by decide +kernel
theorem dL_isGrown_103 : decode cL_isGrown 103 = .ok (.iinc 6 (-1), 3) := by decide +kernel
theorem dL_isGrown_106 : decode cL_isGrown 106 = .ok (.goto (-76), 3) := by decide +kernel
theorem dL_isGrown_109 : decode cL_isGrown 109 = .ok (.aload_n 0, 1) := by decide +kernel
theorem dL_isGrown_110 : decode cL_isGrown 110 = .ok (.iconst 0, 1) := by decide +kernel
theorem dL_isGrown_111 : decode cL_isGrown 111 = .ok (.iconst 0, 1) := by decide +kernel
theorem dL_isGrown_112 : decode cL_isGrown 112 = .ok (.invokevirtual 56, 3) := by decide +kernel
theorem dL_isGrown_115 : decode cL_isGrown 115 = .ok (.istore 6, 2) := by decide +kernel
theorem dL_isGrown_117 : decode cL_isGrown 117 = .ok (.aload_n 0, 1) := by decide +kernel
theorem dL_isGrown_118 : decode cL_isGrown 118 = .ok (.iconst 0, 1) := by decide +kernel
theorem dL_isGrown_119 : decode cL_isGrown 119 = .ok (.iconst 0, 1) := by decide +kernel
theorem dL_isGrown_120 : decode cL_isGrown 120 = .ok (.iconst 0, 1) := by decide +kernel
theorem dL_isGrown_121 : decode cL_isGrown 121 = .ok (.invokevirtual 60, 3) := by decide +kernel
theorem dL_isGrown_124 : decode cL_isGrown 124 = .ok (.iload 6, 2) := by decide +kernel
theorem dL_isGrown_126 : decode cL_isGrown 126 = .ok (.if_icmp .ne 45, 3) := by decide +kernel
theorem dL_isGrown_129 : decode cL_isGrown 129 = .ok (.aload_n 0, 1) := by decide +kernel
theorem dL_isGrown_130 : decode cL_isGrown 130 = .ok (.iconst 0, 1) := by decide +kernel
theorem dL_isGrown_131 : decode cL_isGrown 131 = .ok (.iconst 1, 1) := by decide +kernel
theorem dL_isGrown_132 : decode cL_isGrown 132 = .ok (.iconst 1, 1) := by decide +kernel
theorem dL_isGrown_133 : decode cL_isGrown 133 = .ok (.invokevirtual 60, 3) := by decide +kernel
theorem dL_isGrown_136 : decode cL_isGrown 136 = .ok (.iload 6, 2) := by decide +kernel
theorem dL_isGrown_138 : decode cL_isGrown 138 = .ok (.if_icmp .ne 33, 3) := by decide +kernel
theorem dL_isGrown_141 : decode cL_isGrown 141 = .ok (.aload_n 0, 1) := by decide +kernel
theorem dL_isGrown_142 : decode cL_isGrown 142 = .ok (.iconst 0, 1) := by decide +kernel
theorem dL_isGrown_143 : decode cL_isGrown 143 = .ok (.iconst 2, 1) := by decide +kernel
theorem dL_isGrown_144 : decode cL_isGrown 144 = .ok (.iconst 2, 1) := by decide +kernel
theorem dL_isGrown_145 : decode cL_isGrown 145 = .ok (.invokevirtual 60, 3) := by decide +kernel
theorem dL_isGrown_148 : decode cL_isGrown 148 = .ok (.iload 6, 2) := by decide +kernel
theorem dL_isGrown_150 : decode cL_isGrown 150 = .ok (.if_icmp .ne 21, 3) := by decide +kernel
theorem dL_isGrown_153 : decode cL_isGrown 153 = .ok (.aload_n 0, 1) := by decide +kernel
theorem dL_isGrown_154 : decode cL_isGrown 154 = .ok (.iconst 0, 1) := by decide +kernel
theorem dL_isGrown_155 : decode cL_isGrown 155 = .ok (.iconst 1, 1) := by decide +kernel
theorem dL_isGrown_156 : decode cL_isGrown 156 = .ok (.invokevirtual 64, 3) := by decide +kernel
theorem dL_isGrown_159 : decode cL_isGrown 159 = .ok (.ifCond .ne 12, 3) := by decide +kernel
theorem dL_isGrown_162 : decode cL_isGrown 162 = .ok (.aload_n 0, 1) := by decide +kernel
theorem dL_isGrown_163 : decode cL_isGrown 163 = .ok (.iconst 1, 1) := by decide +kernel
theorem dL_isGrown_164 : decode cL_isGrown 164 = .ok (.iconst 2, 1) := by decide +kernel
theorem dL_isGrown_165 : decode cL_isGrown 165 = .ok (.invokevirtual 64, 3) := by decide +kernel
theorem dL_isGrown_168 : decode cL_isGrown 168 = .ok (.ifCond .eq 5, 3) := by decide +kernel
theorem dL_isGrown_171 : decode cL_isGrown 171 = .ok (.iconst 0, 1) := by decide +kernel
theorem dL_isGrown_172 : decode cL_isGrown 172 = .ok (.ireturn, 1) := by decide +kernel
theorem dL_isGrown_173 : decode cL_isGrown 173 = .ok (.aload_n 0, 1) := by decide +kernel
theorem dL_isGrown_174 : decode cL_isGrown 174 = .ok (.iconst 0, 1) := by decide +kernel
theorem dL_isGrown_175 : decode cL_isGrown 175 = .ok (.invokevirtual 67, 3) := by decide +kernel
theorem dL_isGrown_178 : decode cL_isGrown 178 = .ok (.iload 5, 2) := by decide +kernel
theorem dL_isGrown_180 : decode cL_isGrown 180 = .ok (.iconst 2, 1) := by decide +kernel
theorem dL_isGrown_181 : decode cL_isGrown 181 = .ok (.irem, 1) := by decide +kernel
theorem dL_isGrown_182 : decode cL_isGrown 182 = .ok (.ifCond .ne 7, 3) := by decide +kernel
theorem dL_isGrown_185 : decode cL_isGrown 185 = .ok (.iconst 1, 1) := by decide +kernel
theorem dL_isGrown_186 : decode cL_isGrown 186 = .ok (.goto 4, 3) := by decide +kernel
theorem dL_isGrown_189 : decode cL_isGrown 189 = .ok (.iconst (-1), 1) := by decide +kernel
theorem dL_isGrown_190 : decode cL_isGrown 190 = .ok (.if_icmp .ne 22, 3) := by decide +kernel
theorem dL_isGrown_193 : decode cL_isGrown 193 = .ok (.aload_n 0, 1) := by decide +kernel
theorem dL_isGrown_194 : decode cL_isGrown 194 = .ok (.iconst 0, 1) := by decide +kernel
theorem dL_isGrown_195 : decode cL_isGrown 195 = .ok (.invokevirtual 70, 3) := by decide +kernel
theorem dL_isGrown_198 : decode cL_isGrown 198 = .ok (.iload 6, 2) := by decide +kernel
theorem dL_isGrown_200 : decode cL_isGrown 200 = .ok (.aload_n 0, 1) := by decide +kernel
theorem dL_isGrown_201 : decode cL_isGrown 201 = .ok (.iconst 0, 1) := by decide +kernel
theorem dL_isGrown_202 : decode cL_isGrown 202 = .ok (.iconst 1, 1) := by decide +kernel
theorem dL_isGrown_203 : decode cL_isGrown 203 = .ok (.invokevirtual 56, 3) := by decide +kernel
theorem dL_isGrown_206 : decode cL_isGrown 206 = .ok (.iadd, 1) := by decide +kernel
theorem dL_isGrown_207 : decode cL_isGrown 207 = .ok (.iconst 2, 1) := by decide +kernel
theorem dL_isGrown_208 : decode cL_isGrown 208 = .ok (.isub, 1) := by decide +kernel
theorem dL_isGrown_209 : decode cL_isGrown 209 = .ok (.if_icmp .eq 5, 3) := by decide +kernel
theorem dL_isGrown_212 : decode cL_isGrown 212 = .ok (.iconst 0, 1) := by decide +kernel
theorem dL_isGrown_213 : decode cL_isGrown 213 = .ok (.ireturn, 1) := by decide +kernel
theorem dL_isGrown_214 : decode cL_isGrown 214 = .ok (.aload_n 0, 1) := by decide +kernel
theorem dL_isGrown_215 : decode cL_isGrown 215 = .ok (.iconst 0, 1) := by decide +kernel
theorem dL_isGrown_216 : decode cL_isGrown 216 = .ok (.invokevirtual 39, 3) := by decide +kernel
theorem dL_isGrown_219 : decode cL_isGrown 219 = .ok (.iconst 1, 1) := by decide +kernel
theorem dL_isGrown_220 : decode cL_isGrown 220 = .ok (.if_icmp .ne 25, 3) := by decide +kernel
theorem dL_isGrown_223 : decode cL_isGrown 223 = .ok (.aload_n 0, 1) := by decide +kernel
theorem dL_isGrown_224 : decode cL_isGrown 224 = .ok (.iconst 0, 1) := by decide +kernel
theorem dL_isGrown_225 : decode cL_isGrown 225 = .ok (.invokevirtual 32, 3) := by decide +kernel
theorem dL_isGrown_228 : decode cL_isGrown 228 = .ok (.iload 6, 2) := by decide +kernel
theorem dL_isGrown_230 : decode cL_isGrown 230 = .ok (.if_icmp .ne 15, 3) := by decide +kernel
theorem dL_isGrown_233 : decode cL_isGrown 233 = .ok (.aload_n 0, 1) := by decide +kernel
theorem dL_isGrown_234 : decode cL_isGrown 234 = .ok (.iconst 0, 1) := by decide +kernel
theorem dL_isGrown_235 : decode cL_isGrown 235 = .ok (.invokevirtual 73, 3) := by decide +kernel
theorem dL_isGrown_238 : decode cL_isGrown 238 = .ok (.iload 4, 2) := by decide +kernel
theorem dL_isGrown_240 : decode cL_isGrown 240 = .ok (.iconst 2, 1) := by decide +kernel
theorem dL_isGrown_241 : decode cL_isGrown 241 = .ok (.iadd, 1) := by decide +kernel
theorem dL_isGrown_242 : decode cL_isGrown 242 = .ok (.if_icmp .le 5, 3) := by decide +kernel
theorem dL_isGrown_245 : decode cL_isGrown 245 = .ok (.iconst 0, 1) := by decide +kernel
theorem dL_isGrown_246 : decode cL_isGrown 246 = .ok (.ireturn, 1) := by decide +kernel
theorem dL_isGrown_247 : decode cL_isGrown 247 = .ok (.iload_n 2, 1) := by decide +kernel
theorem dL_isGrown_248 : decode cL_isGrown 248 = .ok (.iconst 3, 1) := by decide +kernel
theorem dL_isGrown_249 : decode cL_isGrown 249 = .ok (.ishr, 1) := by decide +kernel
theorem dL_isGrown_250 : decode cL_isGrown 250 = .ok (.iload 6, 2) := by decide +kernel
theorem dL_isGrown_252 : decode cL_isGrown 252 = .ok (.iconst 1, 1) := by decide +kernel
theorem dL_isGrown_253 : decode cL_isGrown 253 = .ok (.iadd, 1) := by decide +kernel
theorem dL_isGrown_254 : decode cL_isGrown 254 = .ok (.invokestatic 49, 3) := by decide +kernel
theorem dL_isGrown_257 : decode cL_isGrown 257 = .ok (.istore 7, 2) := by decide +kernel
theorem dL_isGrown_259 : decode cL_isGrown 259 = .ok (.aload_n 0, 1) := by decide +kernel
theorem dL_isGrown_260 : decode cL_isGrown 260 = .ok (.iconst 0, 1) := by decide +kernel
theorem dL_isGrown_261 : decode cL_isGrown 261 = .ok (.iload 7, 2) := by decide +kernel
theorem dL_isGrown_263 : decode cL_isGrown 263 = .ok (.iconst 0, 1) := by decide +kernel
theorem dL_isGrown_264 : decode cL_isGrown 264 = .ok (.invokevirtual 76, 3) := by decide +kernel
theorem dL_isGrown_267 : decode cL_isGrown 267 = .ok (.iconst 1, 1) := by decide +kernel
theorem dL_isGrown_268 : decode cL_isGrown 268 = .ok (.if_icmp .gt 55, 3) := by decide +kernel
theorem dL_isGrown_271 : decode cL_isGrown 271 = .ok (.aload_n 0, 1) := by decide +kernel
theorem dL_isGrown_272 : decode cL_isGrown 272 = .ok (.iconst 0, 1) := by decide +kernel
theorem dL_isGrown_273 : decode cL_isGrown 273 = .ok (.iload 7, 2) := by decide +kernel
theorem dL_isGrown_275 : decode cL_isGrown 275 = .ok (.iconst 1, 1) := by decide +kernel
theorem dL_isGrown_276 : decode cL_isGrown 276 = .ok (.invokevirtual 76, 3) := by decide +kernel
theorem dL_isGrown_279 : decode cL_isGrown 279 = .ok (.iconst 1, 1) := by decide +kernel
theorem dL_isGrown_280 : decode cL_isGrown 280 = .ok (.if_icmp .gt 43, 3) := by decide +kernel
theorem dL_isGrown_283 : decode cL_isGrown 283 = .ok (.aload_n 0, 1) := by decide +kernel
theorem dL_isGrown_284 : decode cL_isGrown 284 = .ok (.iconst 0, 1) := by decide +kernel
theorem dL_isGrown_285 : decode cL_isGrown 285 = .ok (.iload 7, 2) := by decide +kernel
theorem dL_isGrown_287 : decode cL_isGrown 287 = .ok (.iconst 1, 1) := by decide +kernel
theorem dL_isGrown_288 : decode cL_isGrown 288 = .ok (.invokevirtual 80, 3) := by decide +kernel
theorem dL_isGrown_291 : decode cL_isGrown 291 = .ok (.iload 7, 2) := by decide +kernel
theorem dL_isGrown_293 : decode cL_isGrown 293 = .ok (.iload 6, 2) := by decide +kernel
theorem dL_isGrown_295 : decode cL_isGrown 295 = .ok (.if_icmp .ge 10, 3) := by decide +kernel
theorem dL_isGrown_298 : decode cL_isGrown 298 = .ok (.iload 7, 2) := by decide +kernel
theorem dL_isGrown_300 : decode cL_isGrown 300 = .ok (.iconst 1, 1) := by decide +kernel
theorem dL_isGrown_301 : decode cL_isGrown 301 = .ok (.iadd, 1) := by decide +kernel
theorem dL_isGrown_302 : decode cL_isGrown 302 = .ok (.goto 5, 3) := by decide +kernel
theorem dL_isGrown_305 : decode cL_isGrown 305 = .ok (.iload 6, 2) := by decide +kernel
theorem dL_isGrown_307 : decode cL_isGrown 307 = .ok (.if_icmp .ne 16, 3) := by decide +kernel
theorem dL_isGrown_310 : decode cL_isGrown 310 = .ok (.aload_n 0, 1) := by decide +kernel
theorem dL_isGrown_311 : decode cL_isGrown 311 = .ok (.iconst 0, 1) := by decide +kernel
theorem dL_isGrown_312 : decode cL_isGrown 312 = .ok (.iload 6, 2) := by decide +kernel
theorem dL_isGrown_314 : decode cL_isGrown 314 = .ok (.iconst 1, 1) := by decide +kernel
theorem dL_isGrown_315 : decode cL_isGrown 315 = .ok (.invokevirtual 80, 3) := by decide +kernel
theorem dL_isGrown_318 : decode cL_isGrown 318 = .ok (.iload 6, 2) := by decide +kernel
theorem dL_isGrown_320 : decode cL_isGrown 320 = .ok (.if_icmp .eq 5, 3) := by decide +kernel
theorem dL_isGrown_323 : decode cL_isGrown 323 = .ok (.iconst 0, 1) := by decide +kernel
theorem dL_isGrown_324 : decode cL_isGrown 324 = .ok (.ireturn, 1) := by decide +kernel
theorem dL_isGrown_325 : decode cL_isGrown 325 = .ok (.aload_n 0, 1) := by decide +kernel
theorem dL_isGrown_326 : decode cL_isGrown 326 = .ok (.iconst 1, 1) := by decide +kernel
theorem dL_isGrown_327 : decode cL_isGrown 327 = .ok (.aload_n 0, 1) := by decide +kernel
theorem dL_isGrown_328 : decode cL_isGrown 328 = .ok (.iconst 1, 1) := by decide +kernel
theorem dL_isGrown_329 : decode cL_isGrown 329 = .ok (.invokevirtual 83, 3) := by decide +kernel
theorem dL_isGrown_332 : decode cL_isGrown 332 = .ok (.invokevirtual 86, 3) := by decide +kernel
theorem dL_isGrown_335 : decode cL_isGrown 335 = .ok (.pop, 1) := by decide +kernel
theorem dL_isGrown_336 : decode cL_isGrown 336 = .ok (.aload_n 0, 1) := by decide +kernel
theorem dL_isGrown_337 : decode cL_isGrown 337 = .ok (.iconst 2, 1) := by decide +kernel
theorem dL_isGrown_338 : decode cL_isGrown 338 = .ok (.iload 6, 2) := by decide +kernel
theorem dL_isGrown_340 : decode cL_isGrown 340 = .ok (.aload_n 0, 1) := by decide +kernel
theorem dL_isGrown_341 : decode cL_isGrown 341 = .ok (.iconst 0, 1) := by decide +kernel
theorem dL_isGrown_342 : decode cL_isGrown 342 = .ok (.iconst 0, 1) := by decide +kernel
theorem dL_isGrown_343 : decode cL_isGrown 343 = .ok (.invokevirtual 89, 3) := by decide +kernel
theorem dL_isGrown_346 : decode cL_isGrown 346 = .ok (.iconst 0, 1) := by decide +kernel
theorem dL_isGrown_347 : decode cL_isGrown 347 = .ok (.invokevirtual 92, 3) := by decide +kernel
theorem dL_isGrown_350 : decode cL_isGrown 350 = .ok (.pop, 1) := by decide +kernel
theorem dL_isGrown_351 : decode cL_isGrown 351 = .ok (.aload_n 0, 1) := by decide +kernel
theorem dL_isGrown_352 : decode cL_isGrown 352 = .ok (.iconst 1, 1) := by decide +kernel
theorem dL_isGrown_353 : decode cL_isGrown 353 = .ok (.iconst 2, 1) := by decide +kernel
theorem dL_isGrown_354 : decode cL_isGrown 354 = .ok (.invokevirtual 64, 3) := by decide +kernel
theorem dL_isGrown_357 : decode cL_isGrown 357 = .ok (.ifCond .eq 5, 3) := by decide +kernel
theorem dL_isGrown_360 : decode cL_isGrown 360 = .ok (.iconst 0, 1) := by decide +kernel
theorem dL_isGrown_361 : decode cL_isGrown 361 = .ok (.ireturn, 1) := by decide +kernel
theorem dL_isGrown_362 : decode cL_isGrown 362 = .ok (.iload 6, 2) := by decide +kernel
theorem dL_isGrown_364 : decode cL_isGrown 364 = .ok (.iconst 1, 1) := by decide +kernel
theorem dL_isGrown_365 : decode cL_isGrown 365 = .ok (.if_icmp .le 54, 3) := by decide +kernel
theorem dL_isGrown_368 : decode cL_isGrown 368 = .ok (.aload_n 0, 1) := by decide +kernel
theorem dL_isGrown_369 : decode cL_isGrown 369 = .ok (.iconst 0, 1) := by decide +kernel
theorem dL_isGrown_370 : decode cL_isGrown 370 = .ok (.iconst 1, 1) := by decide +kernel
theorem dL_isGrown_371 : decode cL_isGrown 371 = .ok (.iconst 0, 1) := by decide +kernel
theorem dL_isGrown_372 : decode cL_isGrown 372 = .ok (.invokevirtual 60, 3) := by decide +kernel
theorem dL_isGrown_375 : decode cL_isGrown 375 = .ok (.pop, 1) := by decide +kernel
theorem dL_isGrown_376 : decode cL_isGrown 376 = .ok (.aload_n 0, 1) := by decide +kernel
theorem dL_isGrown_377 : decode cL_isGrown 377 = .ok (.iconst 1, 1) := by decide +kernel
theorem dL_isGrown_378 : decode cL_isGrown 378 = .ok (.iload 6, 2) := by decide +kernel
theorem dL_isGrown_380 : decode cL_isGrown 380 = .ok (.iconst 1, 1) := by decide +kernel
theorem dL_isGrown_381 : decode cL_isGrown 381 = .ok (.isub, 1) := by decide +kernel
theorem dL_isGrown_382 : decode cL_isGrown 382 = .ok (.invokevirtual 96, 3) := by decide +kernel
theorem dL_isGrown_385 : decode cL_isGrown 385 = .ok (.aload_n 0, 1) := by decide +kernel
theorem dL_isGrown_386 : decode cL_isGrown 386 = .ok (.iconst 1, 1) := by decide +kernel
theorem dL_isGrown_387 : decode cL_isGrown 387 = .ok (.iload 6, 2) := by decide +kernel
theorem dL_isGrown_389 : decode cL_isGrown 389 = .ok (.iconst 2, 1) := by decide +kernel
theorem dL_isGrown_390 : decode cL_isGrown 390 = .ok (.isub, 1) := by decide +kernel
theorem dL_isGrown_391 : decode cL_isGrown 391 = .ok (.invokevirtual 96, 3) := by decide +kernel
theorem dL_isGrown_394 : decode cL_isGrown 394 = .ok (.if_icmp .ne 5, 3) := by decide +kernel
theorem dL_isGrown_397 : decode cL_isGrown 397 = .ok (.iconst 0, 1) := by decide +kernel
theorem dL_isGrown_398 : decode cL_isGrown 398 = .ok (.ireturn, 1) := by decide +kernel
theorem dL_isGrown_399 : decode cL_isGrown 399 = .ok (.aload_n 0, 1) := by decide +kernel
theorem dL_isGrown_400 : decode cL_isGrown 400 = .ok (.iconst 1, 1) := by decide +kernel
theorem dL_isGrown_401 : decode cL_isGrown 401 = .ok (.iload 6, 2) := by decide +kernel
theorem dL_isGrown_403 : decode cL_isGrown 403 = .ok (.iconst 2, 1) := by decide +kernel
theorem dL_isGrown_404 : decode cL_isGrown 404 = .ok (.isub, 1) := by decide +kernel
theorem dL_isGrown_405 : decode cL_isGrown 405 = .ok (.invokevirtual 100, 3) := by decide +kernel
theorem dL_isGrown_408 : decode cL_isGrown 408 = .ok (.pop, 1) := by decide +kernel
theorem dL_isGrown_409 : decode cL_isGrown 409 = .ok (.aload_n 0, 1) := by decide +kernel
theorem dL_isGrown_410 : decode cL_isGrown 410 = .ok (.iconst 1, 1) := by decide +kernel
theorem dL_isGrown_411 : decode cL_isGrown 411 = .ok (.invokevirtual 103, 3) := by decide +kernel
theorem dL_isGrown_414 : decode cL_isGrown 414 = .ok (.ifCond .ne 5, 3) := by decide +kernel
theorem dL_isGrown_417 : decode cL_isGrown 417 = .ok (.iconst 0, 1) := by decide +kernel
theorem dL_isGrown_418 : decode cL_isGrown 418 = .ok (.ireturn, 1) := by decide +kernel
theorem dL_isGrown_419 : decode cL_isGrown 419 = .ok (.iload_n 3, 1) := by decide +kernel
theorem dL_isGrown_420 : decode cL_isGrown 420 = .ok (.ifCond .ne 5, 3) := by decide +kernel
theorem dL_isGrown_423 : decode cL_isGrown 423 = .ok (.iconst 1, 1) := by decide +kernel
theorem dL_isGrown_424 : decode cL_isGrown 424 = .ok (.ireturn, 1) := by decide +kernel
theorem dL_isGrown_425 : decode cL_isGrown 425 = .ok (.aload_n 0, 1) := by decide +kernel
theorem dL_isGrown_426 : decode cL_isGrown 426 = .ok (.iconst 1, 1) := by decide +kernel
theorem dL_isGrown_427 : decode cL_isGrown 427 = .ok (.iconst 1, 1) := by decide +kernel
theorem dL_isGrown_428 : decode cL_isGrown 428 = .ok (.iconst 0, 1) := by decide +kernel
theorem dL_isGrown_429 : decode cL_isGrown 429 = .ok (.invokevirtual 60, 3) := by decide +kernel
theorem dL_isGrown_432 : decode cL_isGrown 432 = .ok (.pop, 1) := by decide +kernel
theorem dL_isGrown_433 : decode cL_isGrown 433 = .ok (.aload_n 0, 1) := by decide +kernel
theorem dL_isGrown_434 : decode cL_isGrown 434 = .ok (.iconst 0, 1) := by decide +kernel
theorem dL_isGrown_435 : decode cL_isGrown 435 = .ok (.iconst 2, 1) := by decide +kernel
theorem dL_isGrown_436 : decode cL_isGrown 436 = .ok (.iload_n 3, 1) := by decide +kernel
theorem dL_isGrown_437 : decode cL_isGrown 437 = .ok (.ishl, 1) := by decide +kernel
theorem dL_isGrown_438 : decode cL_isGrown 438 = .ok (.iconst 1, 1) := by decide +kernel
theorem dL_isGrown_439 : decode cL_isGrown 439 = .ok (.iadd, 1) := by decide +kernel
theorem dL_isGrown_440 : decode cL_isGrown 440 = .ok (.iconst 2, 1) := by decide +kernel
theorem dL_isGrown_441 : decode cL_isGrown 441 = .ok (.invokevirtual 107, 3) := by decide +kernel
theorem dL_isGrown_444 : decode cL_isGrown 444 = .ok (.aload_n 0, 1) := by decide +kernel
theorem dL_isGrown_445 : decode cL_isGrown 445 = .ok (.iconst 1, 1) := by decide +kernel
theorem dL_isGrown_446 : decode cL_isGrown 446 = .ok (.iconst 0, 1) := by decide +kernel
theorem dL_isGrown_447 : decode cL_isGrown 447 = .ok (.invokevirtual 56, 3) := by decide +kernel
theorem dL_isGrown_450 : decode cL_isGrown 450 = .ok (.if_icmp .ne 16, 3) := by decide +kernel
theorem dL_isGrown_453 : decode cL_isGrown 453 = .ok (.aload_n 0, 1) := by decide +kernel
theorem dL_isGrown_454 : decode cL_isGrown 454 = .ok (.iconst 0, 1) := by decide +kernel
theorem dL_isGrown_455 : decode cL_isGrown 455 = .ok (.iconst 1, 1) := by decide +kernel
theorem dL_isGrown_456 : decode cL_isGrown 456 = .ok (.invokevirtual 64, 3) := by decide +kernel
theorem dL_isGrown_459 : decode cL_isGrown 459 = .ok (.ifCond .ne 7, 3) := by decide +kernel
theorem dL_isGrown_462 : decode cL_isGrown 462 = .ok (.iconst 1, 1) := by decide +kernel
theorem dL_isGrown_463 : decode cL_isGrown 463 = .ok (.goto 4, 3) := by decide +kernel
theorem dL_isGrown_466 : decode cL_isGrown 466 = .ok (.iconst 0, 1) := by decide +kernel
theorem dL_isGrown_467 : decode cL_isGrown 467 = .ok (.ireturn, 1) := by decide +kernel
theorem dL_isEven_0 : decode cL_isEven 0 = .ok (.iconst 0, 1) := by decide +kernel
theorem dL_isEven_1 : decode cL_isEven 1 = .ok (.istore_n 2, 1) := by decide +kernel
theorem dL_isEven_2 : decode cL_isEven 2 = .ok (.iload_n 2, 1) := by decide +kernel
theorem dL_isEven_3 : decode cL_isEven 3 = .ok (.aload_n 0, 1) := by decide +kernel
theorem dL_isEven_4 : decode cL_isEven 4 = .ok (.iload_n 1, 1) := by decide +kernel
theorem dL_isEven_5 : decode cL_isEven 5 = .ok (.invokevirtual 36, 3) := by decide +kernel
theorem dL_isEven_8 : decode cL_isEven 8 = .ok (.if_icmp .gt 22, 3) := by decide +kernel
theorem dL_isEven_11 : decode cL_isEven 11 = .ok (.aload_n 0, 1) := by decide +kernel
theorem dL_isEven_12 : decode cL_isEven 12 = .ok (.iload_n 1, 1) := by decide +kernel
theorem dL_isEven_13 : decode cL_isEven 13 = .ok (.iload_n 2, 1) := by decide +kernel
theorem dL_isEven_14 : decode cL_isEven 14 = .ok (.iconst 1, 1) := by decide +kernel
theorem dL_isEven_15 : decode cL_isEven 15 = .ok (.invokevirtual 76, 3) := by decide +kernel
theorem dL_isEven_18 : decode cL_isEven 18 = .ok (.iconst 1, 1) := by decide +kernel
theorem dL_isEven_19 : decode cL_isEven 19 = .ok (.if_icmp .le 5, 3) := by decide +kernel
theorem dL_isEven_22 : decode cL_isEven 22 = .ok (.iconst 0, 1) := by decide +kernel
theorem dL_isEven_23 : decode cL_isEven 23 = .ok (.ireturn, 1) := by decide +kernel
theorem dL_isEven_24 : decode cL_isEven 24 = .ok (.iinc 2 1, 3) := by decide +kernel
theorem dL_isEven_27 : decode cL_isEven 27 = .ok (.goto (-25), 3) := by decide +kernel
theorem dL_isEven_30 : decode cL_isEven 30 = .ok (.iconst 1, 1) := by decide +kernel
theorem dL_isEven_31 : decode cL_isEven 31 = .ok (.ireturn, 1) := by decide +kernel
theorem dL_made_0 : decode cL_made 0 = .ok (.iconst 1, 1) := by decide +kernel
theorem dL_made_1 : decode cL_made 1 = .ok (.iload_n 1, 1) := by decide +kernel
theorem dL_made_2 : decode cL_made 2 = .ok (.iconst 4, 1) := by decide +kernel
theorem dL_made_3 : decode cL_made 3 = .ok (.ishr, 1) := by decide +kernel
theorem dL_made_4 : decode cL_made 4 = .ok (.bipush 16, 2) := by decide +kernel
theorem dL_made_6 : decode cL_made 6 = .ok (.invokestatic 49, 3) := by decide +kernel
theorem dL_made_9 : decode cL_made 9 = .ok (.iadd, 1) := by decide +kernel
theorem dL_made_10 : decode cL_made 10 = .ok (.istore_n 3, 1) := by decide +kernel
theorem dL_made_11 : decode cL_made 11 = .ok (.aload_n 0, 1) := by decide +kernel
theorem dL_made_12 : decode cL_made 12 = .ok (.iconst 0, 1) := by decide +kernel
theorem dL_made_13 : decode cL_made 13 = .ok (.iconst 0, 1) := by decide +kernel
theorem dL_made_14 : decode cL_made 14 = .ok (.invokevirtual 100, 3) := by decide +kernel
theorem dL_made_17 : decode cL_made 17 = .ok (.pop, 1) := by decide +kernel
theorem dL_made_18 : decode cL_made 18 = .ok (.aload_n 0, 1) := by decide +kernel
theorem dL_made_19 : decode cL_made 19 = .ok (.iconst 0, 1) := by decide +kernel
theorem dL_made_20 : decode cL_made 20 = .ok (.iload_n 3, 1) := by decide +kernel
theorem dL_made_21 : decode cL_made 21 = .ok (.invokevirtual 100, 3) := by decide +kernel
theorem dL_made_24 : decode cL_made 24 = .ok (.pop, 1) := by decide +kernel
theorem dL_made_25 : decode cL_made 25 = .ok (.iload_n 2, 1) := by decide +kernel
theorem dL_made_26 : decode cL_made 26 = .ok (.iconst 2, 1) := by decide +kernel
theorem dL_made_27 : decode cL_made 27 = .ok (.ishr, 1) := by decide +kernel
theorem dL_made_28 : decode cL_made 28 = .ok (.iconst 3, 1) := by decide +kernel
theorem dL_made_29 : decode cL_made 29 = .ok (.invokestatic 49, 3) := by decide +kernel
theorem dL_made_32 : decode cL_made 32 = .ok (.ifCond .le 30, 3) := by decide +kernel
theorem dL_made_35 : decode cL_made 35 = .ok (.aload_n 0, 1) := by decide +kernel
theorem dL_made_36 : decode cL_made 36 = .ok (.iconst 0, 1) := by decide +kernel
theorem dL_made_37 : decode cL_made 37 = .ok (.iload_n 3, 1) := by decide +kernel
theorem dL_made_38 : decode cL_made 38 = .ok (.iload_n 1, 1) := by decide +kernel
theorem dL_made_39 : decode cL_made 39 = .ok (.bipush 8, 2) := by decide +kernel
theorem dL_made_41 : decode cL_made 41 = .ok (.ishr, 1) := by decide +kernel
theorem dL_made_42 : decode cL_made 42 = .ok (.iload_n 3, 1) := by decide +kernel
theorem dL_made_43 : decode cL_made 43 = .ok (.iconst 1, 1) := by decide +kernel
theorem dL_made_44 : decode cL_made 44 = .ok (.iadd, 1) := by decide +kernel
theorem dL_made_45 : decode cL_made 45 = .ok (.invokestatic 49, 3) := by decide +kernel
theorem dL_made_48 : decode cL_made 48 = .ok (.iload_n 2, 1) := by decide +kernel
theorem dL_made_49 : decode cL_made 49 = .ok (.iconst 5, 1) := by decide +kernel
theorem dL_made_50 : decode cL_made 50 = .ok (.ishr, 1) := by decide +kernel
theorem dL_made_51 : decode cL_made 51 = .ok (.iload_n 3, 1) := by decide +kernel
theorem dL_made_52 : decode cL_made 52 = .ok (.invokestatic 49, 3) := by decide +kernel
theorem dL_made_55 : decode cL_made 55 = .ok (.invokevirtual 92, 3) := by decide +kernel
theorem dL_made_58 : decode cL_made 58 = .ok (.pop, 1) := by decide +kernel
theorem dL_made_59 : decode cL_made 59 = .ok (.goto 43, 3) := by decide +kernel
theorem dL_made_62 : decode cL_made 62 = .ok (.iconst 0, 1) := by decide +kernel
theorem dL_made_63 : decode cL_made 63 = .ok (.istore 4, 2) := by decide +kernel
theorem dL_made_65 : decode cL_made 65 = .ok (.iload 4, 2) := by decide +kernel
theorem dL_made_67 : decode cL_made 67 = .ok (.iload_n 3, 1) := by decide +kernel
theorem dL_made_68 : decode cL_made 68 = .ok (.if_icmp .ge 34, 3) := by decide +kernel
theorem dL_made_71 : decode cL_made 71 = .ok (.aload_n 0, 1) := by decide +kernel
theorem dL_made_72 : decode cL_made 72 = .ok (.iconst 0, 1) := by decide +kernel
theorem dL_made_73 : decode cL_made 73 = .ok (.iload 4, 2) := by decide +kernel
theorem dL_made_75 : decode cL_made 75 = .ok (.iload_n 2, 1) := by decide +kernel
theorem dL_made_76 : decode cL_made 76 = .ok (.iload 4, 2) := by decide +kernel
theorem dL_made_78 : decode cL_made 78 = .ok (.iconst 3, 1) := by decide +kernel
theorem dL_made_79 : decode cL_made 79 = .ok (.iadd, 1) := by decide +kernel
theorem dL_made_80 : decode cL_made 80 = .ok (.ishr, 1) := by decide +kernel
theorem dL_made_81 : decode cL_made 81 = .ok (.iconst 1, 1) := by decide +kernel
theorem dL_made_82 : decode cL_made 82 = .ok (.iand, 1) := by decide +kernel
theorem dL_made_83 : decode cL_made 83 = .ok (.iconst 1, 1) := by decide +kernel
theorem dL_made_84 : decode cL_made 84 = .ok (.if_icmp .ne 7, 3) := by decide +kernel
theorem dL_made_87 : decode cL_made 87 = .ok (.iconst 1, 1) := by decide +kernel
theorem dL_made_88 : decode cL_made 88 = .ok (.goto 4, 3) := by decide +kernel
theorem dL_made_91 : decode cL_made 91 = .ok (.iconst 0, 1) := by decide +kernel
theorem dL_made_92 : decode cL_made 92 = .ok (.invokevirtual 110, 3) := by decide +kernel
theorem dL_made_95 : decode cL_made 95 = .ok (.pop, 1) := by decide +kernel
theorem dL_made_96 : decode cL_made 96 = .ok (.iinc 4 1, 3) := by decide +kernel
theorem dL_made_99 : decode cL_made 99 = .ok (.goto (-34), 3) := by decide +kernel
theorem dL_made_102 : decode cL_made 102 = .ok (.iload_n 2, 1) := by decide +kernel
theorem dL_made_103 : decode cL_made 103 = .ok (.bipush 9, 2) := by decide +kernel
theorem dL_made_105 : decode cL_made 105 = .ok (.ishr, 1) := by decide +kernel
theorem dL_made_106 : decode cL_made 106 = .ok (.iconst 3, 1) := by decide +kernel
theorem dL_made_107 : decode cL_made 107 = .ok (.invokestatic 49, 3) := by decide +kernel
theorem dL_made_110 : decode cL_made 110 = .ok (.ifCond .ne 35, 3) := by decide +kernel
theorem dL_made_113 : decode cL_made 113 = .ok (.iload_n 2, 1) := by decide +kernel
theorem dL_made_114 : decode cL_made 114 = .ok (.iconst 4, 1) := by decide +kernel
theorem dL_made_115 : decode cL_made 115 = .ok (.ishr, 1) := by decide +kernel
theorem dL_made_116 : decode cL_made 116 = .ok (.iload_n 3, 1) := by decide +kernel
theorem dL_made_117 : decode cL_made 117 = .ok (.invokestatic 49, 3) := by decide +kernel
theorem dL_made_120 : decode cL_made 120 = .ok (.istore 4, 2) := by decide +kernel
theorem dL_made_122 : decode cL_made 122 = .ok (.aload_n 0, 1) := by decide +kernel
theorem dL_made_123 : decode cL_made 123 = .ok (.iconst 0, 1) := by decide +kernel
theorem dL_made_124 : decode cL_made 124 = .ok (.iload 4, 2) := by decide +kernel
theorem dL_made_126 : decode cL_made 126 = .ok (.aload_n 0, 1) := by decide +kernel
theorem dL_made_127 : decode cL_made 127 = .ok (.iconst 0, 1) := by decide +kernel
theorem dL_made_128 : decode cL_made 128 = .ok (.iload 4, 2) := by decide +kernel
theorem dL_made_130 : decode cL_made 130 = .ok (.invokevirtual 96, 3) := by decide +kernel
theorem dL_made_133 : decode cL_made 133 = .ok (.ifCond .ne 7, 3) := by decide +kernel
theorem dL_made_136 : decode cL_made 136 = .ok (.iconst 1, 1) := by decide +kernel
theorem dL_made_137 : decode cL_made 137 = .ok (.goto 4, 3) := by decide +kernel
theorem dL_made_140 : decode cL_made 140 = .ok (.iconst 0, 1) := by decide +kernel
theorem dL_made_141 : decode cL_made 141 = .ok (.invokevirtual 110, 3) := by decide +kernel
theorem dL_made_144 : decode cL_made 144 = .ok (.pop, 1) := by decide +kernel
theorem dL_made_145 : decode cL_made 145 = .ok (.iload_n 3, 1) := by decide +kernel
theorem dL_made_146 : decode cL_made 146 = .ok (.ireturn, 1) := by decide +kernel
theorem dL_isAny_0 : decode cL_isAny 0 = .ok (.aload_n 0, 1) := by decide +kernel
theorem dL_isAny_1 : decode cL_isAny 1 = .ok (.iload_n 1, 1) := by decide +kernel
theorem dL_isAny_2 : decode cL_isAny 2 = .ok (.iload_n 2, 1) := by decide +kernel
theorem dL_isAny_3 : decode cL_isAny 3 = .ok (.invokestatic 113, 3) := by decide +kernel
theorem dL_isAny_6 : decode cL_isAny 6 = .ok (.istore_n 3, 1) := by decide +kernel
theorem dL_isAny_7 : decode cL_isAny 7 = .ok (.aload_n 0, 1) := by decide +kernel
theorem dL_isAny_8 : decode cL_isAny 8 = .ok (.iconst 0, 1) := by decide +kernel
theorem dL_isAny_9 : decode cL_isAny 9 = .ok (.invokestatic 117, 3) := by decide +kernel
theorem dL_isAny_12 : decode cL_isAny 12 = .ok (.istore 4, 2) := by decide +kernel
theorem dL_isAny_14 : decode cL_isAny 14 = .ok (.aload_n 0, 1) := by decide +kernel
theorem dL_isAny_15 : decode cL_isAny 15 = .ok (.iconst 1, 1) := by decide +kernel
theorem dL_isAny_16 : decode cL_isAny 16 = .ok (.iload_n 3, 1) := by decide +kernel
theorem dL_isAny_17 : decode cL_isAny 17 = .ok (.aload_n 0, 1) := by decide +kernel
theorem dL_isAny_18 : decode cL_isAny 18 = .ok (.iconst 0, 1) := by decide +kernel
theorem dL_isAny_19 : decode cL_isAny 19 = .ok (.iconst 1, 1) := by decide +kernel
theorem dL_isAny_20 : decode cL_isAny 20 = .ok (.invokevirtual 121, 3) := by decide +kernel
theorem dL_isAny_23 : decode cL_isAny 23 = .ok (.iconst 0, 1) := by decide +kernel
theorem dL_isAny_24 : decode cL_isAny 24 = .ok (.invokevirtual 92, 3) := by decide +kernel
theorem dL_isAny_27 : decode cL_isAny 27 = .ok (.pop, 1) := by decide +kernel
theorem dL_isAny_28 : decode cL_isAny 28 = .ok (.aload_n 0, 1) := by decide +kernel
theorem dL_isAny_29 : decode cL_isAny 29 = .ok (.iconst 1, 1) := by decide +kernel
theorem dL_isAny_30 : decode cL_isAny 30 = .ok (.iconst 1, 1) := by decide +kernel
theorem dL_isAny_31 : decode cL_isAny 31 = .ok (.invokevirtual 124, 3) := by decide +kernel
theorem dL_isAny_34 : decode cL_isAny 34 = .ok (.pop, 1) := by decide +kernel
theorem dL_isAny_35 : decode cL_isAny 35 = .ok (.aload_n 0, 1) := by decide +kernel
theorem dL_isAny_36 : decode cL_isAny 36 = .ok (.iconst 1, 1) := by decide +kernel
theorem dL_isAny_37 : decode cL_isAny 37 = .ok (.iconst 0, 1) := by decide +kernel
theorem dL_isAny_38 : decode cL_isAny 38 = .ok (.iconst 0, 1) := by decide +kernel
theorem dL_isAny_39 : decode cL_isAny 39 = .ok (.invokevirtual 127, 3) := by decide +kernel
theorem dL_isAny_42 : decode cL_isAny 42 = .ok (.ifCond .lt 7, 3) := by decide +kernel
theorem dL_isAny_45 : decode cL_isAny 45 = .ok (.iconst 1, 1) := by decide +kernel
theorem dL_isAny_46 : decode cL_isAny 46 = .ok (.goto 4, 3) := by decide +kernel
theorem dL_isAny_49 : decode cL_isAny 49 = .ok (.iconst 0, 1) := by decide +kernel
theorem dL_isAny_50 : decode cL_isAny 50 = .ok (.iload 4, 2) := by decide +kernel
theorem dL_isAny_52 : decode cL_isAny 52 = .ok (.if_icmp .ne 12, 3) := by decide +kernel
theorem dL_isAny_55 : decode cL_isAny 55 = .ok (.aload_n 0, 1) := by decide +kernel
theorem dL_isAny_56 : decode cL_isAny 56 = .ok (.iconst 0, 1) := by decide +kernel
theorem dL_isAny_57 : decode cL_isAny 57 = .ok (.invokevirtual 32, 3) := by decide +kernel
theorem dL_isAny_60 : decode cL_isAny 60 = .ok (.iload_n 3, 1) := by decide +kernel
theorem dL_isAny_61 : decode cL_isAny 61 = .ok (.if_icmp .le 5, 3) := by decide +kernel
theorem dL_isAny_64 : decode cL_isAny 64 = .ok (.iconst 0, 1) := by decide +kernel
theorem dL_isAny_65 : decode cL_isAny 65 = .ok (.ireturn, 1) := by decide +kernel
theorem dL_isAny_66 : decode cL_isAny 66 = .ok (.aload_n 0, 1) := by decide +kernel
theorem dL_isAny_67 : decode cL_isAny 67 = .ok (.iconst 0, 1) := by decide +kernel
theorem dL_isAny_68 : decode cL_isAny 68 = .ok (.iconst 1, 1) := by decide +kernel
theorem dL_isAny_69 : decode cL_isAny 69 = .ok (.invokevirtual 130, 3) := by decide +kernel
theorem dL_isAny_72 : decode cL_isAny 72 = .ok (.pop, 1) := by decide +kernel
theorem dL_isAny_73 : decode cL_isAny 73 = .ok (.aload_n 0, 1) := by decide +kernel
theorem dL_isAny_74 : decode cL_isAny 74 = .ok (.iconst 1, 1) := by decide +kernel
theorem dL_isAny_75 : decode cL_isAny 75 = .ok (.iconst 2, 1) := by decide +kernel
theorem dL_isAny_76 : decode cL_isAny 76 = .ok (.iconst 1, 1) := by decide +kernel
theorem dL_isAny_77 : decode cL_isAny 77 = .ok (.iload_n 2, 1) := by decide +kernel
theorem dL_isAny_78 : decode cL_isAny 78 = .ok (.bipush 6, 2) := by decide +kernel
theorem dL_isAny_80 : decode cL_isAny 80 = .ok (.ishr, 1) := by decide +kernel
theorem dL_isAny_81 : decode cL_isAny 81 = .ok (.iconst 3, 1) := by decide +kernel
theorem dL_isAny_82 : decode cL_isAny 82 = .ok (.invokestatic 49, 3) := by decide +kernel
theorem dL_isAny_85 : decode cL_isAny 85 = .ok (.iadd, 1) := by decide +kernel
theorem dL_isAny_86 : decode cL_isAny 86 = .ok (.ishl, 1) := by decide +kernel
theorem dL_isAny_87 : decode cL_isAny 87 = .ok (.iconst 1, 1) := by decide +kernel
theorem dL_isAny_88 : decode cL_isAny 88 = .ok (.iadd, 1) := by decide +kernel
theorem dL_isAny_89 : decode cL_isAny 89 = .ok (.iconst 2, 1) := by decide +kernel
theorem dL_isAny_90 : decode cL_isAny 90 = .ok (.invokevirtual 133, 3) := by decide +kernel
theorem dL_isAny_93 : decode cL_isAny 93 = .ok (.bipush (-9), 2) := by decide +kernel
theorem dL_isAny_95 : decode cL_isAny 95 = .ok (.if_icmp .eq 15, 3) := by decide +kernel
theorem dL_isAny_98 : decode cL_isAny 98 = .ok (.aload_n 0, 1) := by decide +kernel
theorem dL_isAny_99 : decode cL_isAny 99 = .ok (.iconst 1, 1) := by decide +kernel
theorem dL_isAny_100 : decode cL_isAny 100 = .ok (.invokestatic 117, 3) := by decide +kernel
theorem dL_isAny_103 : decode cL_isAny 103 = .ok (.iload 4, 2) := by decide +kernel
theorem dL_isAny_105 : decode cL_isAny 105 = .ok (.if_icmp .eq 5, 3) := by decide +kernel
theorem dL_isAny_108 : decode cL_isAny 108 = .ok (.iconst 0, 1) := by decide +kernel
theorem dL_isAny_109 : decode cL_isAny 109 = .ok (.ireturn, 1) := by decide +kernel
theorem dL_isAny_110 : decode cL_isAny 110 = .ok (.aload_n 0, 1) := by decide +kernel
theorem dL_isAny_111 : decode cL_isAny 111 = .ok (.iconst 0, 1) := by decide +kernel
theorem dL_isAny_112 : decode cL_isAny 112 = .ok (.iconst 1, 1) := by decide +kernel
theorem dL_isAny_113 : decode cL_isAny 113 = .ok (.invokevirtual 130, 3) := by decide +kernel
theorem dL_isAny_116 : decode cL_isAny 116 = .ok (.pop, 1) := by decide +kernel
theorem dL_isAny_117 : decode cL_isAny 117 = .ok (.aload_n 0, 1) := by decide +kernel
theorem dL_isAny_118 : decode cL_isAny 118 = .ok (.iconst 0, 1) := by decide +kernel
theorem dL_isAny_119 : decode cL_isAny 119 = .ok (.invokevirtual 136, 3) := by decide +kernel
theorem dL_isAny_122 : decode cL_isAny 122 = .ok (.ifCond .ne 7, 3) := by decide +kernel
theorem dL_isAny_125 : decode cL_isAny 125 = .ok (.iconst 1, 1) := by decide +kernel
theorem dL_isAny_126 : decode cL_isAny 126 = .ok (.goto 4, 3) := by decide +kernel
theorem dL_isAny_129 : decode cL_isAny 129 = .ok (.iconst 0, 1) := by decide +kernel
theorem dL_isAny_130 : decode cL_isAny 130 = .ok (.istore 5, 2) := by decide +kernel
theorem dL_isAny_132 : decode cL_isAny 132 = .ok (.aload_n 0, 1) := by decide +kernel
theorem dL_isAny_133 : decode cL_isAny 133 = .ok (.iconst 1, 1) := by decide +kernel
theorem dL_isAny_134 : decode cL_isAny 134 = .ok (.iconst 5, 1) := by decide +kernel
theorem dL_isAny_135 : decode cL_isAny 135 = .ok (.bipush 6, 2) := by decide +kernel
theorem dL_isAny_137 : decode cL_isAny 137 = .ok (.invokevirtual 133, 3) := by decide +kernel
theorem dL_isAny_140 : decode cL_isAny 140 = .ok (.iconst 2, 1) := by decide +kernel
theorem dL_isAny_141 : decode cL_isAny 141 = .ok (.iload_n 3, 1) := by decide +kernel
theorem dL_isAny_142 : decode cL_isAny 142 = .ok (.imul, 1) := by decide +kernel
theorem dL_isAny_143 : decode cL_isAny 143 = .ok (.if_icmp .ne 35, 3) := by decide +kernel
theorem dL_isAny_146 : decode cL_isAny 146 = .ok (.aload_n 0, 1) := by decide +kernel
theorem dL_isAny_147 : decode cL_isAny 147 = .ok (.iconst 1, 1) := by decide +kernel
theorem dL_isAny_148 : decode cL_isAny 148 = .ok (.invokevirtual 136, 3) := by decide +kernel
theorem dL_isAny_151 : decode cL_isAny 151 = .ok (.ifCond .ne 7, 3) := by decide +kernel
theorem dL_isAny_154 : decode cL_isAny 154 = .ok (.iconst 1, 1) := by decide +kernel
theorem dL_isAny_155 : decode cL_isAny 155 = .ok (.goto 4, 3) := by decide +kernel
theorem dL_isAny_158 : decode cL_isAny 158 = .ok (.iconst 0, 1) := by decide +kernel
theorem dL_isAny_159 : decode cL_isAny 159 = .ok (.iload 5, 2) := by decide +kernel
theorem dL_isAny_161 : decode cL_isAny 161 = .ok (.if_icmp .ne 17, 3) := by decide +kernel
theorem dL_isAny_164 : decode cL_isAny 164 = .ok (.iload 5, 2) := by decide +kernel
theorem dL_isAny_166 : decode cL_isAny 166 = .ok (.ifCond .eq 14, 3) := by decide +kernel
theorem dL_isAny_169 : decode cL_isAny 169 = .ok (.aload_n 0, 1) := by decide +kernel
theorem dL_isAny_170 : decode cL_isAny 170 = .ok (.iconst 0, 1) := by decide +kernel
theorem dL_isAny_171 : decode cL_isAny 171 = .ok (.invokevirtual 73, 3) := by decide +kernel
theorem dL_isAny_174 : decode cL_isAny 174 = .ok (.iconst 2, 1) := by decide +kernel
theorem dL_isAny_175 : decode cL_isAny 175 = .ok (.if_icmp .le 5, 3) := by decide +kernel
theorem dL_isAny_178 : decode cL_isAny 178 = .ok (.iconst 0, 1) := by decide +kernel
theorem dL_isAny_179 : decode cL_isAny 179 = .ok (.ireturn, 1) := by decide +kernel
theorem dL_isAny_180 : decode cL_isAny 180 = .ok (.aload_n 0, 1) := by decide +kernel
theorem dL_isAny_181 : decode cL_isAny 181 = .ok (.iconst 0, 1) := by decide +kernel
theorem dL_isAny_182 : decode cL_isAny 182 = .ok (.iconst 1, 1) := by decide +kernel
theorem dL_isAny_183 : decode cL_isAny 183 = .ok (.invokevirtual 130, 3) := by decide +kernel
theorem dL_isAny_186 : decode cL_isAny 186 = .ok (.pop, 1) := by decide +kernel
theorem dL_isAny_187 : decode cL_isAny 187 = .ok (.aload_n 0, 1) := by decide +kernel
theorem dL_isAny_188 : decode cL_isAny 188 = .ok (.iconst 1, 1) := by decide +kernel
theorem dL_isAny_189 : decode cL_isAny 189 = .ok (.iconst 1, 1) := by decide +kernel
theorem dL_isAny_190 : decode cL_isAny 190 = .ok (.invokevirtual 124, 3) := by decide +kernel
theorem dL_isAny_193 : decode cL_isAny 193 = .ok (.pop, 1) := by decide +kernel
theorem dL_isAny_194 : decode cL_isAny 194 = .ok (.aload_n 0, 1) := by decide +kernel
theorem dL_isAny_195 : decode cL_isAny 195 = .ok (.iconst 0, 1) := by decide +kernel
theorem dL_isAny_196 : decode cL_isAny 196 = .ok (.iconst 2, 1) := by decide +kernel
theorem dL_isAny_197 : decode cL_isAny 197 = .ok (.invokevirtual 130, 3) := by decide +kernel
theorem dL_isAny_200 : decode cL_isAny 200 = .ok (.pop, 1) := by decide +kernel
theorem dL_isAny_201 : decode cL_isAny 201 = .ok (.aload_n 0, 1) := by decide +kernel
theorem dL_isAny_202 : decode cL_isAny 202 = .ok (.iconst 2, 1) := by decide +kernel
theorem dL_isAny_203 : decode cL_isAny 203 = .ok (.invokevirtual 139, 3) := by decide +kernel
theorem dL_isAny_206 : decode cL_isAny 206 = .ok (.pop, 1) := by decide +kernel
theorem dL_isAny_207 : decode cL_isAny 207 = .ok (.aload_n 0, 1) := by decide +kernel
theorem dL_isAny_208 : decode cL_isAny 208 = .ok (.iconst 1, 1) := by decide +kernel
theorem dL_isAny_209 : decode cL_isAny 209 = .ok (.iconst 2, 1) := by decide +kernel
theorem dL_isAny_210 : decode cL_isAny 210 = .ok (.iconst 0, 1) := by decide +kernel
theorem dL_isAny_211 : decode cL_isAny 211 = .ok (.invokevirtual 127, 3) := by decide +kernel
theorem dL_isAny_214 : decode cL_isAny 214 = .ok (.ifCond .lt 7, 3) := by decide +kernel
theorem dL_isAny_217 : decode cL_isAny 217 = .ok (.iconst 1, 1) := by decide +kernel
theorem dL_isAny_218 : decode cL_isAny 218 = .ok (.goto 4, 3) := by decide +kernel
theorem dL_isAny_221 : decode cL_isAny 221 = .ok (.iconst 0, 1) := by decide +kernel
theorem dL_isAny_222 : decode cL_isAny 222 = .ok (.aload_n 0, 1) := by decide +kernel
theorem dL_isAny_223 : decode cL_isAny 223 = .ok (.iconst 0, 1) := by decide +kernel
theorem dL_isAny_224 : decode cL_isAny 224 = .ok (.invokevirtual 39, 3) := by decide +kernel
theorem dL_isAny_227 : decode cL_isAny 227 = .ok (.ifCond .le 7, 3) := by decide +kernel
theorem dL_isAny_230 : decode cL_isAny 230 = .ok (.iconst 1, 1) := by decide +kernel
theorem dL_isAny_231 : decode cL_isAny 231 = .ok (.goto 4, 3) := by decide +kernel
theorem dL_isAny_234 : decode cL_isAny 234 = .ok (.iconst 0, 1) := by decide +kernel
theorem dL_isAny_235 : decode cL_isAny 235 = .ok (.if_icmp .eq 5, 3) := by decide +kernel
theorem dL_isAny_238 : decode cL_isAny 238 = .ok (.iconst 0, 1) := by decide +kernel
theorem dL_isAny_239 : decode cL_isAny 239 = .ok (.ireturn, 1) := by decide +kernel
theorem dL_isAny_240 : decode cL_isAny 240 = .ok (.aload_n 0, 1) := by decide +kernel
theorem dL_isAny_241 : decode cL_isAny 241 = .ok (.iconst 1, 1) := by decide +kernel
theorem dL_isAny_242 : decode cL_isAny 242 = .ok (.iconst 0, 1) := by decide +kernel
theorem dL_isAny_243 : decode cL_isAny 243 = .ok (.iconst 1, 1) := by decide +kernel
theorem dL_isAny_244 : decode cL_isAny 244 = .ok (.invokevirtual 127, 3) := by decide +kernel
theorem dL_isAny_247 : decode cL_isAny 247 = .ok (.iload_n 3, 1) := by decide +kernel
theorem dL_isAny_248 : decode cL_isAny 248 = .ok (.if_icmp .lt 12, 3) := by decide +kernel
theorem dL_isAny_251 : decode cL_isAny 251 = .ok (.aload_n 0, 1) := by decide +kernel
theorem dL_isAny_252 : decode cL_isAny 252 = .ok (.iconst 0, 1) := by decide +kernel
theorem dL_isAny_253 : decode cL_isAny 253 = .ok (.invokevirtual 39, 3) := by decide +kernel
theorem dL_isAny_256 : decode cL_isAny 256 = .ok (.iconst 2, 1) := by decide +kernel
theorem dL_isAny_257 : decode cL_isAny 257 = .ok (.if_icmp .ge 7, 3) := by decide +kernel
theorem dL_isAny_260 : decode cL_isAny 260 = .ok (.iconst 1, 1) := by decide +kernel
theorem dL_isAny_261 : decode cL_isAny 261 = .ok (.goto 4, 3) := by decide +kernel
theorem dL_isAny_264 : decode cL_isAny 264 = .ok (.iconst 0, 1) := by decide +kernel
theorem dL_isAny_265 : decode cL_isAny 265 = .ok (.ireturn, 1) := by decide +kernel
theorem dL_isLine_0 : decode cL_isLine 0 = .ok (.iconst 1, 1) := by decide +kernel
theorem dL_isLine_1 : decode cL_isLine 1 = .ok (.iload_n 1, 1) := by decide +kernel
theorem dL_isLine_2 : decode cL_isLine 2 = .ok (.bipush 7, 2) := by decide +kernel
theorem dL_isLine_4 : decode cL_isLine 4 = .ok (.ishr, 1) := by decide +kernel
theorem dL_isLine_5 : decode cL_isLine 5 = .ok (.bipush 32, 2) := by decide +kernel
theorem dL_isLine_7 : decode cL_isLine 7 = .ok (.invokestatic 49, 3) := by decide +kernel
theorem dL_isLine_10 : decode cL_isLine 10 = .ok (.iadd, 1) := by decide +kernel
theorem dL_isLine_11 : decode cL_isLine 11 = .ok (.istore_n 3, 1) := by decide +kernel
theorem dL_isLine_12 : decode cL_isLine 12 = .ok (.iload_n 2, 1) := by decide +kernel
theorem dL_isLine_13 : decode cL_isLine 13 = .ok (.bipush 6, 2) := by decide +kernel
theorem dL_isLine_15 : decode cL_isLine 15 = .ok (.ishr, 1) := by decide +kernel
theorem dL_isLine_16 : decode cL_isLine 16 = .ok (.iload_n 3, 1) := by decide +kernel
theorem dL_isLine_17 : decode cL_isLine 17 = .ok (.iconst 1, 1) := by decide +kernel
theorem dL_isLine_18 : decode cL_isLine 18 = .ok (.iadd, 1) := by decide +kernel
theorem dL_isLine_19 : decode cL_isLine 19 = .ok (.invokestatic 49, 3) := by decide +kernel
theorem dL_isLine_22 : decode cL_isLine 22 = .ok (.istore 4, 2) := by decide +kernel
theorem dL_isLine_24 : decode cL_isLine 24 = .ok (.aload_n 0, 1) := by decide +kernel
theorem dL_isLine_25 : decode cL_isLine 25 = .ok (.iconst 1, 1) := by decide +kernel
theorem dL_isLine_26 : decode cL_isLine 26 = .ok (.iload_n 3, 1) := by decide +kernel
theorem dL_isLine_27 : decode cL_isLine 27 = .ok (.iload 4, 2) := by decide +kernel
theorem dL_isLine_29 : decode cL_isLine 29 = .ok (.iload_n 1, 1) := by decide +kernel
theorem dL_isLine_30 : decode cL_isLine 30 = .ok (.iconst 3, 1) := by decide +kernel
theorem dL_isLine_31 : decode cL_isLine 31 = .ok (.ishr, 1) := by decide +kernel
theorem dL_isLine_32 : decode cL_isLine 32 = .ok (.iload_n 3, 1) := by decide +kernel
theorem dL_isLine_33 : decode cL_isLine 33 = .ok (.invokestatic 49, 3) := by decide +kernel
theorem dL_isLine_36 : decode cL_isLine 36 = .ok (.invokevirtual 92, 3) := by decide +kernel
theorem dL_isLine_39 : decode cL_isLine 39 = .ok (.pop, 1) := by decide +kernel
theorem dL_isLine_40 : decode cL_isLine 40 = .ok (.aload_n 0, 1) := by decide +kernel
theorem dL_isLine_41 : decode cL_isLine 41 = .ok (.iconst 2, 1) := by decide +kernel
theorem dL_isLine_42 : decode cL_isLine 42 = .ok (.iload_n 3, 1) := by decide +kernel
theorem dL_isLine_43 : decode cL_isLine 43 = .ok (.iload 4, 2) := by decide +kernel
theorem dL_isLine_45 : decode cL_isLine 45 = .ok (.iload_n 2, 1) := by decide +kernel
theorem dL_isLine_46 : decode cL_isLine 46 = .ok (.bipush 10, 2) := by decide +kernel
theorem dL_isLine_48 : decode cL_isLine 48 = .ok (.ishr, 1) := by decide +kernel
theorem dL_isLine_49 : decode cL_isLine 49 = .ok (.iload_n 3, 1) := by decide +kernel
theorem dL_isLine_50 : decode cL_isLine 50 = .ok (.invokestatic 49, 3) := by decide +kernel
theorem dL_isLine_53 : decode cL_isLine 53 = .ok (.invokevirtual 92, 3) := by decide +kernel
theorem dL_isLine_56 : decode cL_isLine 56 = .ok (.pop, 1) := by decide +kernel
theorem dL_isLine_57 : decode cL_isLine 57 = .ok (.aload_n 0, 1) := by decide +kernel
theorem dL_isLine_58 : decode cL_isLine 58 = .ok (.iconst 1, 1) := by decide +kernel
theorem dL_isLine_59 : decode cL_isLine 59 = .ok (.iconst 1, 1) := by decide +kernel
theorem dL_isLine_60 : decode cL_isLine 60 = .ok (.invokevirtual 121, 3) := by decide +kernel
theorem dL_isLine_63 : decode cL_isLine 63 = .ok (.iload 4, 2) := by decide +kernel
theorem dL_isLine_65 : decode cL_isLine 65 = .ok (.if_icmp .ne 14, 3) := by decide +kernel
theorem dL_isLine_68 : decode cL_isLine 68 = .ok (.aload_n 0, 1) := by decide +kernel
theorem dL_isLine_69 : decode cL_isLine 69 = .ok (.iconst 2, 1) := by decide +kernel
theorem dL_isLine_70 : decode cL_isLine 70 = .ok (.iconst 1, 1) := by decide +kernel
theorem dL_isLine_71 : decode cL_isLine 71 = .ok (.invokevirtual 121, 3) := by decide +kernel
theorem dL_isLine_74 : decode cL_isLine 74 = .ok (.iload 4, 2) := by decide +kernel
theorem dL_isLine_76 : decode cL_isLine 76 = .ok (.if_icmp .eq 5, 3) := by decide +kernel
theorem dL_isLine_79 : decode cL_isLine 79 = .ok (.iconst 0, 1) := by decide +kernel
theorem dL_isLine_80 : decode cL_isLine 80 = .ok (.ireturn, 1) := by decide +kernel
theorem dL_isLine_81 : decode cL_isLine 81 = .ok (.aload_n 0, 1) := by decide +kernel
theorem dL_isLine_82 : decode cL_isLine 82 = .ok (.iconst 1, 1) := by decide +kernel
theorem dL_isLine_83 : decode cL_isLine 83 = .ok (.iconst 1, 1) := by decide +kernel
theorem dL_isLine_84 : decode cL_isLine 84 = .ok (.invokevirtual 124, 3) := by decide +kernel
theorem dL_isLine_87 : decode cL_isLine 87 = .ok (.pop, 1) := by decide +kernel
theorem dL_isLine_88 : decode cL_isLine 88 = .ok (.aload_n 0, 1) := by decide +kernel
theorem dL_isLine_89 : decode cL_isLine 89 = .ok (.iconst 1, 1) := by decide +kernel
theorem dL_isLine_90 : decode cL_isLine 90 = .ok (.iconst 2, 1) := by decide +kernel
theorem dL_isLine_91 : decode cL_isLine 91 = .ok (.iconst 0, 1) := by decide +kernel
theorem dL_isLine_92 : decode cL_isLine 92 = .ok (.invokevirtual 127, 3) := by decide +kernel
theorem dL_isLine_95 : decode cL_isLine 95 = .ok (.ifCond .lt 7, 3) := by decide +kernel
theorem dL_isLine_98 : decode cL_isLine 98 = .ok (.iconst 1, 1) := by decide +kernel
theorem dL_isLine_99 : decode cL_isLine 99 = .ok (.goto 4, 3) := by decide +kernel
theorem dL_isLine_102 : decode cL_isLine 102 = .ok (.iconst 0, 1) := by decide +kernel
theorem dL_isLine_103 : decode cL_isLine 103 = .ok (.ireturn, 1) := by decide +kernel
