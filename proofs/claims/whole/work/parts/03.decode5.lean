theorem dX9_costAll_141 : decode cX9_costAll 141 = .ok (.iadd, 1) := by decide +kernel
theorem dX9_costAll_142 : decode cX9_costAll 142 = .ok (.iaload, 1) := by decide +kernel
theorem dX9_costAll_143 : decode cX9_costAll 143 = .ok (.if_icmp .ne 7, 3) := by decide +kernel
theorem dX9_costAll_146 : decode cX9_costAll 146 = .ok (.iconst 0, 1) := by decide +kernel
theorem dX9_costAll_147 : decode cX9_costAll 147 = .ok (.goto 4, 3) := by decide +kernel
theorem dX9_costAll_150 : decode cX9_costAll 150 = .ok (.iconst 1, 1) := by decide +kernel
theorem dX9_costAll_151 : decode cX9_costAll 151 = .ok (.istore 5, 2) := by decide +kernel
theorem dX9_costAll_153 : decode cX9_costAll 153 = .ok (.iload 5, 2) := by decide +kernel
theorem dX9_costAll_155 : decode cX9_costAll 155 = .ok (.iload_n 2, 1) := by decide +kernel
theorem dX9_costAll_156 : decode cX9_costAll 156 = .ok (.ifCond .le 24, 3) := by decide +kernel
theorem dX9_costAll_159 : decode cX9_costAll 159 = .ok (.aload_n 0, 1) := by decide +kernel
theorem dX9_costAll_160 : decode cX9_costAll 160 = .ok (.getfield 49, 3) := by decide +kernel
theorem dX9_costAll_163 : decode cX9_costAll 163 = .ok (.bipush 6, 2) := by decide +kernel
theorem dX9_costAll_165 : decode cX9_costAll 165 = .ok (.iload_n 1, 1) := by decide +kernel
theorem dX9_costAll_166 : decode cX9_costAll 166 = .ok (.iconst 1, 1) := by decide +kernel
theorem dX9_costAll_167 : decode cX9_costAll 167 = .ok (.iadd, 1) := by decide +kernel
theorem dX9_costAll_168 : decode cX9_costAll 168 = .ok (.imul, 1) := by decide +kernel
theorem dX9_costAll_169 : decode cX9_costAll 169 = .ok (.aload_n 0, 1) := by decide +kernel
theorem dX9_costAll_170 : decode cX9_costAll 170 = .ok (.getfield 20, 3) := by decide +kernel
theorem dX9_costAll_173 : decode cX9_costAll 173 = .ok (.iload_n 3, 1) := by decide +kernel
theorem dX9_costAll_174 : decode cX9_costAll 174 = .ok (.iaload, 1) := by decide +kernel
theorem dX9_costAll_175 : decode cX9_costAll 175 = .ok (.iadd, 1) := by decide +kernel
theorem dX9_costAll_176 : decode cX9_costAll 176 = .ok (.iaload, 1) := by decide +kernel
theorem dX9_costAll_177 : decode cX9_costAll 177 = .ok (.goto 4, 3) := by decide +kernel
theorem dX9_costAll_180 : decode cX9_costAll 180 = .ok (.iconst 0, 1) := by decide +kernel
theorem dX9_costAll_181 : decode cX9_costAll 181 = .ok (.iadd, 1) := by decide +kernel
theorem dX9_costAll_182 : decode cX9_costAll 182 = .ok (.istore 5, 2) := by decide +kernel
theorem dX9_costAll_184 : decode cX9_costAll 184 = .ok (.iload 5, 2) := by decide +kernel
theorem dX9_costAll_186 : decode cX9_costAll 186 = .ok (.iload_n 2, 1) := by decide +kernel
theorem dX9_costAll_187 : decode cX9_costAll 187 = .ok (.iconst 1, 1) := by decide +kernel
theorem dX9_costAll_188 : decode cX9_costAll 188 = .ok (.if_icmp .le 26, 3) := by decide +kernel
theorem dX9_costAll_191 : decode cX9_costAll 191 = .ok (.aload_n 0, 1) := by decide +kernel
theorem dX9_costAll_192 : decode cX9_costAll 192 = .ok (.getfield 49, 3) := by decide +kernel
theorem dX9_costAll_195 : decode cX9_costAll 195 = .ok (.bipush 6, 2) := by decide +kernel
theorem dX9_costAll_197 : decode cX9_costAll 197 = .ok (.aload_n 0, 1) := by decide +kernel
theorem dX9_costAll_198 : decode cX9_costAll 198 = .ok (.iload_n 1, 1) := by decide +kernel
theorem dX9_costAll_199 : decode cX9_costAll 199 = .ok (.invokevirtual 142, 3) := by decide +kernel
theorem dX9_costAll_202 : decode cX9_costAll 202 = .ok (.imul, 1) := by decide +kernel
theorem dX9_costAll_203 : decode cX9_costAll 203 = .ok (.aload_n 0, 1) := by decide +kernel
theorem dX9_costAll_204 : decode cX9_costAll 204 = .ok (.getfield 23, 3) := by decide +kernel
theorem dX9_costAll_207 : decode cX9_costAll 207 = .ok (.iload_n 3, 1) := by decide +kernel
theorem dX9_costAll_208 : decode cX9_costAll 208 = .ok (.iaload, 1) := by decide +kernel
theorem dX9_costAll_209 : decode cX9_costAll 209 = .ok (.iadd, 1) := by decide +kernel
theorem dX9_costAll_210 : decode cX9_costAll 210 = .ok (.iaload, 1) := by decide +kernel
theorem dX9_costAll_211 : decode cX9_costAll 211 = .ok (.goto 4, 3) := by decide +kernel
theorem dX9_costAll_214 : decode cX9_costAll 214 = .ok (.iconst 0, 1) := by decide +kernel
theorem dX9_costAll_215 : decode cX9_costAll 215 = .ok (.iadd, 1) := by decide +kernel
theorem dX9_costAll_216 : decode cX9_costAll 216 = .ok (.istore 5, 2) := by decide +kernel
theorem dX9_costAll_218 : decode cX9_costAll 218 = .ok (.bipush 6, 2) := by decide +kernel
theorem dX9_costAll_220 : decode cX9_costAll 220 = .ok (.iload_n 1, 1) := by decide +kernel
theorem dX9_costAll_221 : decode cX9_costAll 221 = .ok (.imul, 1) := by decide +kernel
theorem dX9_costAll_222 : decode cX9_costAll 222 = .ok (.aload_n 0, 1) := by decide +kernel
theorem dX9_costAll_223 : decode cX9_costAll 223 = .ok (.getfield 26, 3) := by decide +kernel
theorem dX9_costAll_226 : decode cX9_costAll 226 = .ok (.iload_n 3, 1) := by decide +kernel
theorem dX9_costAll_227 : decode cX9_costAll 227 = .ok (.iaload, 1) := by decide +kernel
theorem dX9_costAll_228 : decode cX9_costAll 228 = .ok (.iadd, 1) := by decide +kernel
theorem dX9_costAll_229 : decode cX9_costAll 229 = .ok (.istore 6, 2) := by decide +kernel
theorem dX9_costAll_231 : decode cX9_costAll 231 = .ok (.aload_n 0, 1) := by decide +kernel
theorem dX9_costAll_232 : decode cX9_costAll 232 = .ok (.getfield 49, 3) := by decide +kernel
theorem dX9_costAll_235 : decode cX9_costAll 235 = .ok (.iload 6, 2) := by decide +kernel
theorem dX9_costAll_237 : decode cX9_costAll 237 = .ok (.iload 5, 2) := by decide +kernel
theorem dX9_costAll_239 : decode cX9_costAll 239 = .ok (.aload_n 0, 1) := by decide +kernel
theorem dX9_costAll_240 : decode cX9_costAll 240 = .ok (.getfield 49, 3) := by decide +kernel
theorem dX9_costAll_243 : decode cX9_costAll 243 = .ok (.iload 6, 2) := by decide +kernel
theorem dX9_costAll_245 : decode cX9_costAll 245 = .ok (.iaload, 1) := by decide +kernel
theorem dX9_costAll_246 : decode cX9_costAll 246 = .ok (.if_icmp .ge 8, 3) := by decide +kernel
theorem dX9_costAll_249 : decode cX9_costAll 249 = .ok (.iload 5, 2) := by decide +kernel
theorem dX9_costAll_251 : decode cX9_costAll 251 = .ok (.goto 10, 3) := by decide +kernel
theorem dX9_costAll_254 : decode cX9_costAll 254 = .ok (.aload_n 0, 1) := by decide +kernel
theorem dX9_costAll_255 : decode cX9_costAll 255 = .ok (.getfield 49, 3) := by decide +kernel
theorem dX9_costAll_258 : decode cX9_costAll 258 = .ok (.iload 6, 2) := by decide +kernel
theorem dX9_costAll_260 : decode cX9_costAll 260 = .ok (.iaload, 1) := by decide +kernel
theorem dX9_costAll_261 : decode cX9_costAll 261 = .ok (.iastore, 1) := by decide +kernel
theorem dX9_costAll_262 : decode cX9_costAll 262 = .ok (.iinc 3 1, 3) := by decide +kernel
theorem dX9_costAll_265 : decode cX9_costAll 265 = .ok (.goto (-210), 3) := by decide +kernel
theorem dX9_costAll_268 : decode cX9_costAll 268 = .ok (.iinc 1 (-1), 3) := by decide +kernel
theorem dX9_costAll_271 : decode cX9_costAll 271 = .ok (.goto (-262), 3) := by decide +kernel
theorem dX9_costAll_274 : decode cX9_costAll 274 = .ok (.sipush 999, 3) := by decide +kernel
theorem dX9_costAll_277 : decode cX9_costAll 277 = .ok (.istore_n 1, 1) := by decide +kernel
theorem dX9_costAll_278 : decode cX9_costAll 278 = .ok (.iconst 0, 1) := by decide +kernel
theorem dX9_costAll_279 : decode cX9_costAll 279 = .ok (.istore_n 2, 1) := by decide +kernel
theorem dX9_costAll_280 : decode cX9_costAll 280 = .ok (.iload_n 2, 1) := by decide +kernel
theorem dX9_costAll_281 : decode cX9_costAll 281 = .ok (.bipush 6, 2) := by decide +kernel
theorem dX9_costAll_283 : decode cX9_costAll 283 = .ok (.if_icmp .ge 43, 3) := by decide +kernel
theorem dX9_costAll_286 : decode cX9_costAll 286 = .ok (.aload_n 0, 1) := by decide +kernel
theorem dX9_costAll_287 : decode cX9_costAll 287 = .ok (.getfield 29, 3) := by decide +kernel
theorem dX9_costAll_290 : decode cX9_costAll 290 = .ok (.iconst 1, 1) := by decide +kernel
theorem dX9_costAll_291 : decode cX9_costAll 291 = .ok (.iaload, 1) := by decide +kernel
theorem dX9_costAll_292 : decode cX9_costAll 292 = .ok (.iload_n 2, 1) := by decide +kernel
theorem dX9_costAll_293 : decode cX9_costAll 293 = .ok (.invokestatic 145, 3) := by decide +kernel
theorem dX9_costAll_296 : decode cX9_costAll 296 = .ok (.ifCond .eq 22, 3) := by decide +kernel
theorem dX9_costAll_299 : decode cX9_costAll 299 = .ok (.aload_n 0, 1) := by decide +kernel
theorem dX9_costAll_300 : decode cX9_costAll 300 = .ok (.getfield 49, 3) := by decide +kernel
theorem dX9_costAll_303 : decode cX9_costAll 303 = .ok (.iload_n 2, 1) := by decide +kernel
theorem dX9_costAll_304 : decode cX9_costAll 304 = .ok (.iaload, 1) := by decide +kernel
theorem dX9_costAll_305 : decode cX9_costAll 305 = .ok (.iload_n 1, 1) := by decide +kernel
theorem dX9_costAll_306 : decode cX9_costAll 306 = .ok (.if_icmp .ge 12, 3) := by decide +kernel
theorem dX9_costAll_309 : decode cX9_costAll 309 = .ok (.aload_n 0, 1) := by decide +kernel
theorem dX9_costAll_310 : decode cX9_costAll 310 = .ok (.getfield 49, 3) := by decide +kernel
theorem dX9_costAll_313 : decode cX9_costAll 313 = .ok (.iload_n 2, 1) := by decide +kernel
theorem dX9_costAll_314 : decode cX9_costAll 314 = .ok (.iaload, 1) := by decide +kernel
theorem dX9_costAll_315 : decode cX9_costAll 315 = .ok (.goto 4, 3) := by decide +kernel
theorem dX9_costAll_318 : decode cX9_costAll 318 = .ok (.iload_n 1, 1) := by decide +kernel
theorem dX9_costAll_319 : decode cX9_costAll 319 = .ok (.istore_n 1, 1) := by decide +kernel
theorem dX9_costAll_320 : decode cX9_costAll 320 = .ok (.iinc 2 1, 3) := by decide +kernel
theorem dX9_costAll_323 : decode cX9_costAll 323 = .ok (.goto (-43), 3) := by decide +kernel
theorem dX9_costAll_326 : decode cX9_costAll 326 = .ok (.iload_n 1, 1) := by decide +kernel
theorem dX9_costAll_327 : decode cX9_costAll 327 = .ok (.ireturn, 1) := by decide +kernel
theorem dX9_mend_0 : decode cX9_mend 0 = .ok (.iload_n 1, 1) := by decide +kernel
theorem dX9_mend_1 : decode cX9_mend 1 = .ok (.iconst (-1), 1) := by decide +kernel
theorem dX9_mend_2 : decode cX9_mend 2 = .ok (.aload_n 0, 1) := by decide +kernel
theorem dX9_mend_3 : decode cX9_mend 3 = .ok (.getfield 29, 3) := by decide +kernel
theorem dX9_mend_6 : decode cX9_mend 6 = .ok (.iconst 2, 1) := by decide +kernel
theorem dX9_mend_7 : decode cX9_mend 7 = .ok (.iaload, 1) := by decide +kernel
theorem dX9_mend_8 : decode cX9_mend 8 = .ok (.iconst 1, 1) := by decide +kernel
theorem dX9_mend_9 : decode cX9_mend 9 = .ok (.isub, 1) := by decide +kernel
theorem dX9_mend_10 : decode cX9_mend 10 = .ok (.invokestatic 88, 3) := by decide +kernel
theorem dX9_mend_13 : decode cX9_mend 13 = .ok (.ifCond .ne 5, 3) := by decide +kernel
theorem dX9_mend_16 : decode cX9_mend 16 = .ok (.iconst (-1), 1) := by decide +kernel
theorem dX9_mend_17 : decode cX9_mend 17 = .ok (.ireturn, 1) := by decide +kernel
theorem dX9_mend_18 : decode cX9_mend 18 = .ok (.aload_n 0, 1) := by decide +kernel
theorem dX9_mend_19 : decode cX9_mend 19 = .ok (.getfield 29, 3) := by decide +kernel
theorem dX9_mend_22 : decode cX9_mend 22 = .ok (.iconst 2, 1) := by decide +kernel
theorem dX9_mend_23 : decode cX9_mend 23 = .ok (.iaload, 1) := by decide +kernel
theorem dX9_mend_24 : decode cX9_mend 24 = .ok (.ifCond .ne 6, 3) := by decide +kernel
theorem dX9_mend_27 : decode cX9_mend 27 = .ok (.bipush (-2), 2) := by decide +kernel
theorem dX9_mend_29 : decode cX9_mend 29 = .ok (.ireturn, 1) := by decide +kernel
theorem dX9_mend_30 : decode cX9_mend 30 = .ok (.aload_n 0, 1) := by decide +kernel
theorem dX9_mend_31 : decode cX9_mend 31 = .ok (.invokevirtual 149, 3) := by decide +kernel
theorem dX9_mend_34 : decode cX9_mend 34 = .ok (.iconst 0, 1) := by decide +kernel
theorem dX9_mend_35 : decode cX9_mend 35 = .ok (.istore_n 2, 1) := by decide +kernel
theorem dX9_mend_36 : decode cX9_mend 36 = .ok (.iload_n 2, 1) := by decide +kernel
theorem dX9_mend_37 : decode cX9_mend 37 = .ok (.bipush 31, 2) := by decide +kernel
theorem dX9_mend_39 : decode cX9_mend 39 = .ok (.if_icmp .ge 17, 3) := by decide +kernel
theorem dX9_mend_42 : decode cX9_mend 42 = .ok (.aload_n 0, 1) := by decide +kernel
theorem dX9_mend_43 : decode cX9_mend 43 = .ok (.getfield 52, 3) := by decide +kernel
theorem dX9_mend_46 : decode cX9_mend 46 = .ok (.iload_n 2, 1) := by decide +kernel
theorem dX9_mend_47 : decode cX9_mend 47 = .ok (.bipush (-9), 2) := by decide +kernel
theorem dX9_mend_49 : decode cX9_mend 49 = .ok (.iastore, 1) := by decide +kernel
theorem dX9_mend_50 : decode cX9_mend 50 = .ok (.iinc 2 1, 3) := by decide +kernel
theorem dX9_mend_53 : decode cX9_mend 53 = .ok (.goto (-17), 3) := by decide +kernel
theorem dX9_mend_56 : decode cX9_mend 56 = .ok (.aload_n 0, 1) := by decide +kernel
theorem dX9_mend_57 : decode cX9_mend 57 = .ok (.invokevirtual 167, 3) := by decide +kernel
theorem dX9_mend_60 : decode cX9_mend 60 = .ok (.istore_n 2, 1) := by decide +kernel
theorem dX9_mend_61 : decode cX9_mend 61 = .ok (.iload_n 2, 1) := by decide +kernel
theorem dX9_mend_62 : decode cX9_mend 62 = .ok (.sipush 999, 3) := by decide +kernel
theorem dX9_mend_65 : decode cX9_mend 65 = .ok (.if_icmp .lt 6, 3) := by decide +kernel
theorem dX9_mend_68 : decode cX9_mend 68 = .ok (.bipush (-9), 2) := by decide +kernel
theorem dX9_mend_70 : decode cX9_mend 70 = .ok (.ireturn, 1) := by decide +kernel
theorem dX9_mend_71 : decode cX9_mend 71 = .ok (.iconst 0, 1) := by decide +kernel
theorem dX9_mend_72 : decode cX9_mend 72 = .ok (.istore_n 3, 1) := by decide +kernel
theorem dX9_mend_73 : decode cX9_mend 73 = .ok (.iload_n 3, 1) := by decide +kernel
theorem dX9_mend_74 : decode cX9_mend 74 = .ok (.iload_n 1, 1) := by decide +kernel
theorem dX9_mend_75 : decode cX9_mend 75 = .ok (.if_icmp .gt 60, 3) := by decide +kernel
theorem dX9_mend_78 : decode cX9_mend 78 = .ok (.aload_n 0, 1) := by decide +kernel
theorem dX9_mend_79 : decode cX9_mend 79 = .ok (.getfield 52, 3) := by decide +kernel
theorem dX9_mend_82 : decode cX9_mend 82 = .ok (.iload_n 3, 1) := by decide +kernel
theorem dX9_mend_83 : decode cX9_mend 83 = .ok (.iconst 0, 1) := by decide +kernel
theorem dX9_mend_84 : decode cX9_mend 84 = .ok (.iastore, 1) := by decide +kernel
theorem dX9_mend_85 : decode cX9_mend 85 = .ok (.aload_n 0, 1) := by decide +kernel
theorem dX9_mend_86 : decode cX9_mend 86 = .ok (.getfield 52, 3) := by decide +kernel
theorem dX9_mend_89 : decode cX9_mend 89 = .ok (.iload_n 3, 1) := by decide +kernel
theorem dX9_mend_90 : decode cX9_mend 90 = .ok (.iaload, 1) := by decide +kernel
theorem dX9_mend_91 : decode cX9_mend 91 = .ok (.invokestatic 125, 3) := by decide +kernel
theorem dX9_mend_94 : decode cX9_mend 94 = .ok (.aload_n 0, 1) := by decide +kernel
theorem dX9_mend_95 : decode cX9_mend 95 = .ok (.getfield 29, 3) := by decide +kernel
theorem dX9_mend_98 : decode cX9_mend 98 = .ok (.iconst 3, 1) := by decide +kernel
theorem dX9_mend_99 : decode cX9_mend 99 = .ok (.iload_n 3, 1) := by decide +kernel
theorem dX9_mend_100 : decode cX9_mend 100 = .ok (.iadd, 1) := by decide +kernel
theorem dX9_mend_101 : decode cX9_mend 101 = .ok (.iaload, 1) := by decide +kernel
theorem dX9_mend_102 : decode cX9_mend 102 = .ok (.invokestatic 125, 3) := by decide +kernel
theorem dX9_mend_105 : decode cX9_mend 105 = .ok (.if_icmp .ne 11, 3) := by decide +kernel
theorem dX9_mend_108 : decode cX9_mend 108 = .ok (.aload_n 0, 1) := by decide +kernel
theorem dX9_mend_109 : decode cX9_mend 109 = .ok (.invokevirtual 167, 3) := by decide +kernel
theorem dX9_mend_112 : decode cX9_mend 112 = .ok (.iload_n 2, 1) := by decide +kernel
theorem dX9_mend_113 : decode cX9_mend 113 = .ok (.if_icmp .eq 16, 3) := by decide +kernel
theorem dX9_mend_116 : decode cX9_mend 116 = .ok (.aload_n 0, 1) := by decide +kernel
theorem dX9_mend_117 : decode cX9_mend 117 = .ok (.getfield 52, 3) := by decide +kernel
theorem dX9_mend_120 : decode cX9_mend 120 = .ok (.iload_n 3, 1) := by decide +kernel
theorem dX9_mend_121 : decode cX9_mend 121 = .ok (.dup2, 1) := by decide +kernel
theorem dX9_mend_122 : decode cX9_mend 122 = .ok (.iaload, 1) := by decide +kernel
theorem dX9_mend_123 : decode cX9_mend 123 = .ok (.iconst 1, 1) := by decide +kernel
theorem dX9_mend_124 : decode cX9_mend 124 = .ok (.iadd, 1) := by decide +kernel
theorem dX9_mend_125 : decode cX9_mend 125 = .ok (.iastore, 1) := by decide +kernel
theorem dX9_mend_126 : decode cX9_mend 126 = .ok (.goto (-41), 3) := by decide +kernel
theorem dX9_mend_129 : decode cX9_mend 129 = .ok (.iinc 3 1, 3) := by decide +kernel
theorem dX9_mend_132 : decode cX9_mend 132 = .ok (.goto (-59), 3) := by decide +kernel
theorem dX9_mend_135 : decode cX9_mend 135 = .ok (.iload_n 1, 1) := by decide +kernel
theorem dX9_mend_136 : decode cX9_mend 136 = .ok (.ifCond .ge 7, 3) := by decide +kernel
theorem dX9_mend_139 : decode cX9_mend 139 = .ok (.iload_n 2, 1) := by decide +kernel
theorem dX9_mend_140 : decode cX9_mend 140 = .ok (.goto 9, 3) := by decide +kernel
theorem dX9_mend_143 : decode cX9_mend 143 = .ok (.aload_n 0, 1) := by decide +kernel
theorem dX9_mend_144 : decode cX9_mend 144 = .ok (.getfield 52, 3) := by decide +kernel
theorem dX9_mend_147 : decode cX9_mend 147 = .ok (.iload_n 1, 1) := by decide +kernel
theorem dX9_mend_148 : decode cX9_mend 148 = .ok (.iaload, 1) := by decide +kernel
theorem dX9_mend_149 : decode cX9_mend 149 = .ok (.ireturn, 1) := by decide +kernel
theorem dX9_pairOf_0 : decode cX9_pairOf 0 = .ok (.aload_n 0, 1) := by decide +kernel
theorem dX9_pairOf_1 : decode cX9_pairOf 1 = .ok (.aload_n 0, 1) := by decide +kernel
theorem dX9_pairOf_2 : decode cX9_pairOf 2 = .ok (.getfield 29, 3) := by decide +kernel
theorem dX9_pairOf_5 : decode cX9_pairOf 5 = .ok (.iconst 0, 1) := by decide +kernel
theorem dX9_pairOf_6 : decode cX9_pairOf 6 = .ok (.iaload, 1) := by decide +kernel
theorem dX9_pairOf_7 : decode cX9_pairOf 7 = .ok (.iload_n 1, 1) := by decide +kernel
theorem dX9_pairOf_8 : decode cX9_pairOf 8 = .ok (.iload_n 2, 1) := by decide +kernel
theorem dX9_pairOf_9 : decode cX9_pairOf 9 = .ok (.ifCond .ge 7, 3) := by decide +kernel
theorem dX9_pairOf_12 : decode cX9_pairOf 12 = .ok (.iconst 0, 1) := by decide +kernel
theorem dX9_pairOf_13 : decode cX9_pairOf 13 = .ok (.goto 9, 3) := by decide +kernel
theorem dX9_pairOf_16 : decode cX9_pairOf 16 = .ok (.aload_n 0, 1) := by decide +kernel
theorem dX9_pairOf_17 : decode cX9_pairOf 17 = .ok (.getfield 55, 3) := by decide +kernel
theorem dX9_pairOf_20 : decode cX9_pairOf 20 = .ok (.iload_n 2, 1) := by decide +kernel
theorem dX9_pairOf_21 : decode cX9_pairOf 21 = .ok (.iaload, 1) := by decide +kernel
theorem dX9_pairOf_22 : decode cX9_pairOf 22 = .ok (.iload_n 3, 1) := by decide +kernel
theorem dX9_pairOf_23 : decode cX9_pairOf 23 = .ok (.ifCond .ge 7, 3) := by decide +kernel
theorem dX9_pairOf_26 : decode cX9_pairOf 26 = .ok (.iconst 0, 1) := by decide +kernel
theorem dX9_pairOf_27 : decode cX9_pairOf 27 = .ok (.goto 9, 3) := by decide +kernel
theorem dX9_pairOf_30 : decode cX9_pairOf 30 = .ok (.aload_n 0, 1) := by decide +kernel
theorem dX9_pairOf_31 : decode cX9_pairOf 31 = .ok (.getfield 55, 3) := by decide +kernel
theorem dX9_pairOf_34 : decode cX9_pairOf 34 = .ok (.iload_n 3, 1) := by decide +kernel
theorem dX9_pairOf_35 : decode cX9_pairOf 35 = .ok (.iaload, 1) := by decide +kernel
theorem dX9_pairOf_36 : decode cX9_pairOf 36 = .ok (.invokevirtual 152, 3) := by decide +kernel
theorem dX9_pairOf_39 : decode cX9_pairOf 39 = .ok (.istore 4, 2) := by decide +kernel
theorem dX9_pairOf_41 : decode cX9_pairOf 41 = .ok (.aload_n 0, 1) := by decide +kernel
theorem dX9_pairOf_42 : decode cX9_pairOf 42 = .ok (.aload_n 0, 1) := by decide +kernel
theorem dX9_pairOf_43 : decode cX9_pairOf 43 = .ok (.getfield 170, 3) := by decide +kernel
theorem dX9_pairOf_46 : decode cX9_pairOf 46 = .ok (.iload_n 1, 1) := by decide +kernel
theorem dX9_pairOf_47 : decode cX9_pairOf 47 = .ok (.iload_n 2, 1) := by decide +kernel
theorem dX9_pairOf_48 : decode cX9_pairOf 48 = .ok (.ifCond .ge 7, 3) := by decide +kernel
theorem dX9_pairOf_51 : decode cX9_pairOf 51 = .ok (.iconst 0, 1) := by decide +kernel
theorem dX9_pairOf_52 : decode cX9_pairOf 52 = .ok (.goto 9, 3) := by decide +kernel
theorem dX9_pairOf_55 : decode cX9_pairOf 55 = .ok (.aload_n 0, 1) := by decide +kernel
theorem dX9_pairOf_56 : decode cX9_pairOf 56 = .ok (.getfield 58, 3) := by decide +kernel
theorem dX9_pairOf_59 : decode cX9_pairOf 59 = .ok (.iload_n 2, 1) := by decide +kernel
theorem dX9_pairOf_60 : decode cX9_pairOf 60 = .ok (.iaload, 1) := by decide +kernel
theorem dX9_pairOf_61 : decode cX9_pairOf 61 = .ok (.iload_n 3, 1) := by decide +kernel
theorem dX9_pairOf_62 : decode cX9_pairOf 62 = .ok (.ifCond .ge 7, 3) := by decide +kernel
theorem dX9_pairOf_65 : decode cX9_pairOf 65 = .ok (.iconst 0, 1) := by decide +kernel
theorem dX9_pairOf_66 : decode cX9_pairOf 66 = .ok (.goto 9, 3) := by decide +kernel
theorem dX9_pairOf_69 : decode cX9_pairOf 69 = .ok (.aload_n 0, 1) := by decide +kernel
theorem dX9_pairOf_70 : decode cX9_pairOf 70 = .ok (.getfield 58, 3) := by decide +kernel
theorem dX9_pairOf_73 : decode cX9_pairOf 73 = .ok (.iload_n 3, 1) := by decide +kernel
theorem dX9_pairOf_74 : decode cX9_pairOf 74 = .ok (.iaload, 1) := by decide +kernel
theorem dX9_pairOf_75 : decode cX9_pairOf 75 = .ok (.invokevirtual 152, 3) := by decide +kernel
theorem dX9_pairOf_78 : decode cX9_pairOf 78 = .ok (.istore 5, 2) := by decide +kernel
theorem dX9_pairOf_80 : decode cX9_pairOf 80 = .ok (.iconst 0, 1) := by decide +kernel
theorem dX9_pairOf_81 : decode cX9_pairOf 81 = .ok (.istore 6, 2) := by decide +kernel
theorem dX9_pairOf_83 : decode cX9_pairOf 83 = .ok (.iload 6, 2) := by decide +kernel
theorem dX9_pairOf_85 : decode cX9_pairOf 85 = .ok (.aload_n 0, 1) := by decide +kernel
theorem dX9_pairOf_86 : decode cX9_pairOf 86 = .ok (.getfield 173, 3) := by decide +kernel
theorem dX9_pairOf_89 : decode cX9_pairOf 89 = .ok (.if_icmp .ge 36, 3) := by decide +kernel
theorem dX9_pairOf_92 : decode cX9_pairOf 92 = .ok (.aload_n 0, 1) := by decide +kernel
theorem dX9_pairOf_93 : decode cX9_pairOf 93 = .ok (.getfield 55, 3) := by decide +kernel
theorem dX9_pairOf_96 : decode cX9_pairOf 96 = .ok (.iload 6, 2) := by decide +kernel
theorem dX9_pairOf_98 : decode cX9_pairOf 98 = .ok (.iaload, 1) := by decide +kernel
theorem dX9_pairOf_99 : decode cX9_pairOf 99 = .ok (.iload 4, 2) := by decide +kernel
theorem dX9_pairOf_101 : decode cX9_pairOf 101 = .ok (.if_icmp .ne 18, 3) := by decide +kernel
theorem dX9_pairOf_104 : decode cX9_pairOf 104 = .ok (.aload_n 0, 1) := by decide +kernel
theorem dX9_pairOf_105 : decode cX9_pairOf 105 = .ok (.getfield 58, 3) := by decide +kernel
theorem dX9_pairOf_108 : decode cX9_pairOf 108 = .ok (.iload 6, 2) := by decide +kernel
theorem dX9_pairOf_110 : decode cX9_pairOf 110 = .ok (.iaload, 1) := by decide +kernel
theorem dX9_pairOf_111 : decode cX9_pairOf 111 = .ok (.iload 5, 2) := by decide +kernel
theorem dX9_pairOf_113 : decode cX9_pairOf 113 = .ok (.if_icmp .ne 6, 3) := by decide +kernel
theorem dX9_pairOf_116 : decode cX9_pairOf 116 = .ok (.iload 6, 2) := by decide +kernel
theorem dX9_pairOf_118 : decode cX9_pairOf 118 = .ok (.ireturn, 1) := by decide +kernel
theorem dX9_pairOf_119 : decode cX9_pairOf 119 = .ok (.iinc 6 1, 3) := by decide +kernel
theorem dX9_pairOf_122 : decode cX9_pairOf 122 = .ok (.goto (-39), 3) := by decide +kernel
theorem dX9_pairOf_125 : decode cX9_pairOf 125 = .ok (.aload_n 0, 1) := by decide +kernel
theorem dX9_pairOf_126 : decode cX9_pairOf 126 = .ok (.getfield 173, 3) := by decide +kernel
theorem dX9_pairOf_129 : decode cX9_pairOf 129 = .ok (.bipush 120, 2) := by decide +kernel
theorem dX9_pairOf_131 : decode cX9_pairOf 131 = .ok (.if_icmp .ne 10, 3) := by decide +kernel
theorem dX9_pairOf_134 : decode cX9_pairOf 134 = .ok (.aload_n 0, 1) := by decide +kernel
theorem dX9_pairOf_135 : decode cX9_pairOf 135 = .ok (.iconst 1, 1) := by decide +kernel
theorem dX9_pairOf_136 : decode cX9_pairOf 136 = .ok (.putfield 176, 3) := by decide +kernel
theorem dX9_pairOf_139 : decode cX9_pairOf 139 = .ok (.iconst 0, 1) := by decide +kernel
theorem dX9_pairOf_140 : decode cX9_pairOf 140 = .ok (.ireturn, 1) := by decide +kernel
theorem dX9_pairOf_141 : decode cX9_pairOf 141 = .ok (.aload_n 0, 1) := by decide +kernel
theorem dX9_pairOf_142 : decode cX9_pairOf 142 = .ok (.getfield 55, 3) := by decide +kernel
theorem dX9_pairOf_145 : decode cX9_pairOf 145 = .ok (.aload_n 0, 1) := by decide +kernel
theorem dX9_pairOf_146 : decode cX9_pairOf 146 = .ok (.getfield 173, 3) := by decide +kernel
theorem dX9_pairOf_149 : decode cX9_pairOf 149 = .ok (.iload 4, 2) := by decide +kernel
theorem dX9_pairOf_151 : decode cX9_pairOf 151 = .ok (.iastore, 1) := by decide +kernel
theorem dX9_pairOf_152 : decode cX9_pairOf 152 = .ok (.aload_n 0, 1) := by decide +kernel
theorem dX9_pairOf_153 : decode cX9_pairOf 153 = .ok (.getfield 58, 3) := by decide +kernel
theorem dX9_pairOf_156 : decode cX9_pairOf 156 = .ok (.aload_n 0, 1) := by decide +kernel
theorem dX9_pairOf_157 : decode cX9_pairOf 157 = .ok (.getfield 173, 3) := by decide +kernel
theorem dX9_pairOf_160 : decode cX9_pairOf 160 = .ok (.iload 5, 2) := by decide +kernel
theorem dX9_pairOf_162 : decode cX9_pairOf 162 = .ok (.iastore, 1) := by decide +kernel
theorem dX9_pairOf_163 : decode cX9_pairOf 163 = .ok (.aload_n 0, 1) := by decide +kernel
theorem dX9_pairOf_164 : decode cX9_pairOf 164 = .ok (.dup, 1) := by decide +kernel
theorem dX9_pairOf_165 : decode cX9_pairOf 165 = .ok (.getfield 173, 3) := by decide +kernel
theorem dX9_pairOf_168 : decode cX9_pairOf 168 = .ok (.iconst 1, 1) := by decide +kernel
theorem dX9_pairOf_169 : decode cX9_pairOf 169 = .ok (.iadd, 1) := by decide +kernel
theorem dX9_pairOf_170 : decode cX9_pairOf 170 = .ok (.putfield 173, 3) := by decide +kernel
theorem dX9_pairOf_173 : decode cX9_pairOf 173 = .ok (.aload_n 0, 1) := by decide +kernel
theorem dX9_pairOf_174 : decode cX9_pairOf 174 = .ok (.getfield 173, 3) := by decide +kernel
theorem dX9_pairOf_177 : decode cX9_pairOf 177 = .ok (.iconst 1, 1) := by decide +kernel
theorem dX9_pairOf_178 : decode cX9_pairOf 178 = .ok (.isub, 1) := by decide +kernel
theorem dX9_pairOf_179 : decode cX9_pairOf 179 = .ok (.ireturn, 1) := by decide +kernel
theorem dX9_findPairs_0 : decode cX9_findPairs 0 = .ok (.aload_n 0, 1) := by decide +kernel
theorem dX9_findPairs_1 : decode cX9_findPairs 1 = .ok (.iload_n 1, 1) := by decide +kernel
theorem dX9_findPairs_2 : decode cX9_findPairs 2 = .ok (.putfield 170, 3) := by decide +kernel
theorem dX9_findPairs_5 : decode cX9_findPairs 5 = .ok (.aload_n 0, 1) := by decide +kernel
theorem dX9_findPairs_6 : decode cX9_findPairs 6 = .ok (.iload_n 2, 1) := by decide +kernel
theorem dX9_findPairs_7 : decode cX9_findPairs 7 = .ok (.putfield 180, 3) := by decide +kernel
theorem dX9_findPairs_10 : decode cX9_findPairs 10 = .ok (.aload_n 0, 1) := by decide +kernel
theorem dX9_findPairs_11 : decode cX9_findPairs 11 = .ok (.iconst 0, 1) := by decide +kernel
theorem dX9_findPairs_12 : decode cX9_findPairs 12 = .ok (.putfield 173, 3) := by decide +kernel
theorem dX9_findPairs_15 : decode cX9_findPairs 15 = .ok (.aload_n 0, 1) := by decide +kernel
theorem dX9_findPairs_16 : decode cX9_findPairs 16 = .ok (.iconst 0, 1) := by decide +kernel
theorem dX9_findPairs_17 : decode cX9_findPairs 17 = .ok (.putfield 176, 3) := by decide +kernel
theorem dX9_findPairs_20 : decode cX9_findPairs 20 = .ok (.iconst 0, 1) := by decide +kernel
theorem dX9_findPairs_21 : decode cX9_findPairs 21 = .ok (.istore_n 3, 1) := by decide +kernel
theorem dX9_findPairs_22 : decode cX9_findPairs 22 = .ok (.iload_n 3, 1) := by decide +kernel
theorem dX9_findPairs_23 : decode cX9_findPairs 23 = .ok (.iconst 4, 1) := by decide +kernel
theorem dX9_findPairs_24 : decode cX9_findPairs 24 = .ok (.if_icmp .ge 22, 3) := by decide +kernel
theorem dX9_findPairs_27 : decode cX9_findPairs 27 = .ok (.aload_n 0, 1) := by decide +kernel
theorem dX9_findPairs_28 : decode cX9_findPairs 28 = .ok (.getfield 61, 3) := by decide +kernel
theorem dX9_findPairs_31 : decode cX9_findPairs 31 = .ok (.iload_n 3, 1) := by decide +kernel
theorem dX9_findPairs_32 : decode cX9_findPairs 32 = .ok (.aload_n 0, 1) := by decide +kernel
theorem dX9_findPairs_33 : decode cX9_findPairs 33 = .ok (.iload_n 3, 1) := by decide +kernel
theorem dX9_findPairs_34 : decode cX9_findPairs 34 = .ok (.iconst (-1), 1) := by decide +kernel
theorem dX9_findPairs_35 : decode cX9_findPairs 35 = .ok (.iconst (-1), 1) := by decide +kernel
theorem dX9_findPairs_36 : decode cX9_findPairs 36 = .ok (.invokevirtual 183, 3) := by decide +kernel
theorem dX9_findPairs_39 : decode cX9_findPairs 39 = .ok (.iastore, 1) := by decide +kernel
theorem dX9_findPairs_40 : decode cX9_findPairs 40 = .ok (.iinc 3 1, 3) := by decide +kernel
theorem dX9_findPairs_43 : decode cX9_findPairs 43 = .ok (.goto (-21), 3) := by decide +kernel
theorem dX9_findPairs_46 : decode cX9_findPairs 46 = .ok (.iconst 0, 1) := by decide +kernel
theorem dX9_findPairs_47 : decode cX9_findPairs 47 = .ok (.istore_n 3, 1) := by decide +kernel
theorem dX9_findPairs_48 : decode cX9_findPairs 48 = .ok (.iload_n 3, 1) := by decide +kernel
theorem dX9_findPairs_49 : decode cX9_findPairs 49 = .ok (.aload_n 0, 1) := by decide +kernel
theorem dX9_findPairs_50 : decode cX9_findPairs 50 = .ok (.getfield 173, 3) := by decide +kernel
theorem dX9_findPairs_53 : decode cX9_findPairs 53 = .ok (.if_icmp .ge 137, 3) := by decide +kernel
theorem dX9_findPairs_56 : decode cX9_findPairs 56 = .ok (.aload_n 0, 1) := by decide +kernel
theorem dX9_findPairs_57 : decode cX9_findPairs 57 = .ok (.getfield 176, 3) := by decide +kernel
theorem dX9_findPairs_60 : decode cX9_findPairs 60 = .ok (.ifCond .ne 130, 3) := by decide +kernel
theorem dX9_findPairs_63 : decode cX9_findPairs 63 = .ok (.iconst 0, 1) := by decide +kernel
theorem dX9_findPairs_64 : decode cX9_findPairs 64 = .ok (.istore 4, 2) := by decide +kernel
theorem dX9_findPairs_66 : decode cX9_findPairs 66 = .ok (.iload 4, 2) := by decide +kernel
theorem dX9_findPairs_68 : decode cX9_findPairs 68 = .ok (.iconst 2, 1) := by decide +kernel
theorem dX9_findPairs_69 : decode cX9_findPairs 69 = .ok (.if_icmp .ge 115, 3) := by decide +kernel
theorem dX9_findPairs_72 : decode cX9_findPairs 72 = .ok (.aload_n 0, 1) := by decide +kernel
theorem dX9_findPairs_73 : decode cX9_findPairs 73 = .ok (.getfield 64, 3) := by decide +kernel
theorem dX9_findPairs_76 : decode cX9_findPairs 76 = .ok (.bipush 120, 2) := by decide +kernel
theorem dX9_findPairs_78 : decode cX9_findPairs 78 = .ok (.iload 4, 2) := by decide +kernel
theorem dX9_findPairs_80 : decode cX9_findPairs 80 = .ok (.imul, 1) := by decide +kernel
theorem dX9_findPairs_81 : decode cX9_findPairs 81 = .ok (.iload_n 3, 1) := by decide +kernel
theorem dX9_findPairs_82 : decode cX9_findPairs 82 = .ok (.iadd, 1) := by decide +kernel
theorem dX9_findPairs_83 : decode cX9_findPairs 83 = .ok (.aload_n 0, 1) := by decide +kernel
theorem dX9_findPairs_84 : decode cX9_findPairs 84 = .ok (.iconst 4, 1) := by decide +kernel
theorem dX9_findPairs_85 : decode cX9_findPairs 85 = .ok (.iload 4, 2) := by decide +kernel
theorem dX9_findPairs_87 : decode cX9_findPairs 87 = .ok (.iadd, 1) := by decide +kernel
theorem dX9_findPairs_88 : decode cX9_findPairs 88 = .ok (.iload_n 3, 1) := by decide +kernel
theorem dX9_findPairs_89 : decode cX9_findPairs 89 = .ok (.iconst (-1), 1) := by decide +kernel
theorem dX9_findPairs_90 : decode cX9_findPairs 90 = .ok (.invokevirtual 183, 3) := by decide +kernel
theorem dX9_findPairs_93 : decode cX9_findPairs 93 = .ok (.iastore, 1) := by decide +kernel
theorem dX9_findPairs_94 : decode cX9_findPairs 94 = .ok (.iconst 0, 1) := by decide +kernel
theorem dX9_findPairs_95 : decode cX9_findPairs 95 = .ok (.istore 5, 2) := by decide +kernel
theorem dX9_findPairs_97 : decode cX9_findPairs 97 = .ok (.iload 5, 2) := by decide +kernel
theorem dX9_findPairs_99 : decode cX9_findPairs 99 = .ok (.iload_n 3, 1) := by decide +kernel
theorem dX9_findPairs_100 : decode cX9_findPairs 100 = .ok (.if_icmp .gt 78, 3) := by decide +kernel
theorem dX9_findPairs_103 : decode cX9_findPairs 103 = .ok (.aload_n 0, 1) := by decide +kernel
theorem dX9_findPairs_104 : decode cX9_findPairs 104 = .ok (.getfield 176, 3) := by decide +kernel
theorem dX9_findPairs_107 : decode cX9_findPairs 107 = .ok (.ifCond .ne 71, 3) := by decide +kernel
theorem dX9_findPairs_110 : decode cX9_findPairs 110 = .ok (.aload_n 0, 1) := by decide +kernel
theorem dX9_findPairs_111 : decode cX9_findPairs 111 = .ok (.getfield 67, 3) := by decide +kernel
theorem dX9_findPairs_114 : decode cX9_findPairs 114 = .ok (.sipush 14400, 3) := by decide +kernel
theorem dX9_findPairs_117 : decode cX9_findPairs 117 = .ok (.iload 4, 2) := by decide +kernel
theorem dX9_findPairs_119 : decode cX9_findPairs 119 = .ok (.imul, 1) := by decide +kernel
theorem dX9_findPairs_120 : decode cX9_findPairs 120 = .ok (.bipush 120, 2) := by decide +kernel
theorem dX9_findPairs_122 : decode cX9_findPairs 122 = .ok (.iload_n 3, 1) := by decide +kernel
theorem dX9_findPairs_123 : decode cX9_findPairs 123 = .ok (.imul, 1) := by decide +kernel
theorem dX9_findPairs_124 : decode cX9_findPairs 124 = .ok (.iadd, 1) := by decide +kernel
theorem dX9_findPairs_125 : decode cX9_findPairs 125 = .ok (.iload 5, 2) := by decide +kernel
theorem dX9_findPairs_127 : decode cX9_findPairs 127 = .ok (.iadd, 1) := by decide +kernel
theorem dX9_findPairs_128 : decode cX9_findPairs 128 = .ok (.aload_n 0, 1) := by decide +kernel
theorem dX9_findPairs_129 : decode cX9_findPairs 129 = .ok (.bipush 6, 2) := by decide +kernel
theorem dX9_findPairs_131 : decode cX9_findPairs 131 = .ok (.iload 4, 2) := by decide +kernel
theorem dX9_findPairs_133 : decode cX9_findPairs 133 = .ok (.iadd, 1) := by decide +kernel
theorem dX9_findPairs_134 : decode cX9_findPairs 134 = .ok (.iload_n 3, 1) := by decide +kernel
theorem dX9_findPairs_135 : decode cX9_findPairs 135 = .ok (.iload 5, 2) := by decide +kernel
theorem dX9_findPairs_137 : decode cX9_findPairs 137 = .ok (.invokevirtual 183, 3) := by decide +kernel
theorem dX9_findPairs_140 : decode cX9_findPairs 140 = .ok (.iastore, 1) := by decide +kernel
theorem dX9_findPairs_141 : decode cX9_findPairs 141 = .ok (.aload_n 0, 1) := by decide +kernel
theorem dX9_findPairs_142 : decode cX9_findPairs 142 = .ok (.getfield 67, 3) := by decide +kernel
theorem dX9_findPairs_145 : decode cX9_findPairs 145 = .ok (.sipush 14400, 3) := by decide +kernel
theorem dX9_findPairs_148 : decode cX9_findPairs 148 = .ok (.iload 4, 2) := by decide +kernel
theorem dX9_findPairs_150 : decode cX9_findPairs 150 = .ok (.imul, 1) := by decide +kernel
theorem dX9_findPairs_151 : decode cX9_findPairs 151 = .ok (.bipush 120, 2) := by decide +kernel
theorem dX9_findPairs_153 : decode cX9_findPairs 153 = .ok (.iload 5, 2) := by decide +kernel
theorem dX9_findPairs_155 : decode cX9_findPairs 155 = .ok (.imul, 1) := by decide +kernel
theorem dX9_findPairs_156 : decode cX9_findPairs 156 = .ok (.iadd, 1) := by decide +kernel
theorem dX9_findPairs_157 : decode cX9_findPairs 157 = .ok (.iload_n 3, 1) := by decide +kernel
theorem dX9_findPairs_158 : decode cX9_findPairs 158 = .ok (.iadd, 1) := by decide +kernel
theorem dX9_findPairs_159 : decode cX9_findPairs 159 = .ok (.aload_n 0, 1) := by decide +kernel
theorem dX9_findPairs_160 : decode cX9_findPairs 160 = .ok (.bipush 6, 2) := by decide +kernel
theorem dX9_findPairs_162 : decode cX9_findPairs 162 = .ok (.iload 4, 2) := by decide +kernel
theorem dX9_findPairs_164 : decode cX9_findPairs 164 = .ok (.iadd, 1) := by decide +kernel
theorem dX9_findPairs_165 : decode cX9_findPairs 165 = .ok (.iload 5, 2) := by decide +kernel
theorem dX9_findPairs_167 : decode cX9_findPairs 167 = .ok (.iload_n 3, 1) := by decide +kernel
theorem dX9_findPairs_168 : decode cX9_findPairs 168 = .ok (.invokevirtual 183, 3) := by decide +kernel
theorem dX9_findPairs_171 : decode cX9_findPairs 171 = .ok (.iastore, 1) := by decide +kernel
theorem dX9_findPairs_172 : decode cX9_findPairs 172 = .ok (.iinc 5 1, 3) := by decide +kernel
theorem dX9_findPairs_175 : decode cX9_findPairs 175 = .ok (.goto (-78), 3) := by decide +kernel
theorem dX9_findPairs_178 : decode cX9_findPairs 178 = .ok (.iinc 4 1, 3) := by decide +kernel
theorem dX9_findPairs_181 : decode cX9_findPairs 181 = .ok (.goto (-115), 3) := by decide +kernel
theorem dX9_findPairs_184 : decode cX9_findPairs 184 = .ok (.iinc 3 1, 3) := by decide +kernel
theorem dX9_findPairs_187 : decode cX9_findPairs 187 = .ok (.goto (-139), 3) := by decide +kernel
theorem dX9_findPairs_190 : decode cX9_findPairs 190 = .ok (.return_, 1) := by decide +kernel
theorem dX9_isGoodA_0 : decode cX9_isGoodA 0 = .ok (.aload_n 0, 1) := by decide +kernel
theorem dX9_isGoodA_1 : decode cX9_isGoodA 1 = .ok (.getfield 55, 3) := by decide +kernel
theorem dX9_isGoodA_4 : decode cX9_isGoodA 4 = .ok (.iload_n 1, 1) := by decide +kernel
theorem dX9_isGoodA_5 : decode cX9_isGoodA 5 = .ok (.iaload, 1) := by decide +kernel
theorem dX9_isGoodA_6 : decode cX9_isGoodA 6 = .ok (.aload_n 0, 1) := by decide +kernel
theorem dX9_isGoodA_7 : decode cX9_isGoodA 7 = .ok (.getfield 29, 3) := by decide +kernel
theorem dX9_isGoodA_10 : decode cX9_isGoodA 10 = .ok (.iconst 1, 1) := by decide +kernel
theorem dX9_isGoodA_11 : decode cX9_isGoodA 11 = .ok (.iaload, 1) := by decide +kernel
theorem dX9_isGoodA_12 : decode cX9_isGoodA 12 = .ok (.iand, 1) := by decide +kernel
theorem dX9_isGoodA_13 : decode cX9_isGoodA 13 = .ok (.ifCond .eq 7, 3) := by decide +kernel
theorem dX9_isGoodA_16 : decode cX9_isGoodA 16 = .ok (.iconst 1, 1) := by decide +kernel
theorem dX9_isGoodA_17 : decode cX9_isGoodA 17 = .ok (.goto 4, 3) := by decide +kernel
theorem dX9_isGoodA_20 : decode cX9_isGoodA 20 = .ok (.iconst 0, 1) := by decide +kernel
theorem dX9_isGoodA_21 : decode cX9_isGoodA 21 = .ok (.ireturn, 1) := by decide +kernel
theorem dX9_isGoodB_0 : decode cX9_isGoodB 0 = .ok (.aload_n 0, 1) := by decide +kernel
theorem dX9_isGoodB_1 : decode cX9_isGoodB 1 = .ok (.getfield 58, 3) := by decide +kernel
theorem dX9_isGoodB_4 : decode cX9_isGoodB 4 = .ok (.iload_n 1, 1) := by decide +kernel
theorem dX9_isGoodB_5 : decode cX9_isGoodB 5 = .ok (.iaload, 1) := by decide +kernel
theorem dX9_isGoodB_6 : decode cX9_isGoodB 6 = .ok (.aload_n 0, 1) := by decide +kernel
theorem dX9_isGoodB_7 : decode cX9_isGoodB 7 = .ok (.getfield 180, 3) := by decide +kernel
theorem dX9_isGoodB_10 : decode cX9_isGoodB 10 = .ok (.iand, 1) := by decide +kernel
theorem dX9_isGoodB_11 : decode cX9_isGoodB 11 = .ok (.ifCond .eq 7, 3) := by decide +kernel
theorem dX9_isGoodB_14 : decode cX9_isGoodB 14 = .ok (.iconst 1, 1) := by decide +kernel
theorem dX9_isGoodB_15 : decode cX9_isGoodB 15 = .ok (.goto 4, 3) := by decide +kernel
theorem dX9_isGoodB_18 : decode cX9_isGoodB 18 = .ok (.iconst 0, 1) := by decide +kernel
theorem dX9_isGoodB_19 : decode cX9_isGoodB 19 = .ok (.ireturn, 1) := by decide +kernel
theorem dX9_findOwn_0 : decode cX9_findOwn 0 = .ok (.aload_n 0, 1) := by decide +kernel
theorem dX9_findOwn_1 : decode cX9_findOwn 1 = .ok (.aload_n 0, 1) := by decide +kernel
theorem dX9_findOwn_2 : decode cX9_findOwn 2 = .ok (.getfield 29, 3) := by decide +kernel
theorem dX9_findOwn_5 : decode cX9_findOwn 5 = .ok (.iconst 0, 1) := by decide +kernel
theorem dX9_findOwn_6 : decode cX9_findOwn 6 = .ok (.iaload, 1) := by decide +kernel
theorem dX9_findOwn_7 : decode cX9_findOwn 7 = .ok (.aload_n 0, 1) := by decide +kernel
theorem dX9_findOwn_8 : decode cX9_findOwn 8 = .ok (.getfield 29, 3) := by decide +kernel
theorem dX9_findOwn_11 : decode cX9_findOwn 11 = .ok (.iconst 1, 1) := by decide +kernel
theorem dX9_findOwn_12 : decode cX9_findOwn 12 = .ok (.iaload, 1) := by decide +kernel
theorem dX9_findOwn_13 : decode cX9_findOwn 13 = .ok (.invokevirtual 187, 3) := by decide +kernel
theorem dX9_findOwn_16 : decode cX9_findOwn 16 = .ok (.return_, 1) := by decide +kernel
theorem dX9_sets_0 : decode cX9_sets 0 = .ok (.aload_n 0, 1) := by decide +kernel
theorem dX9_sets_1 : decode cX9_sets 1 = .ok (.invokevirtual 191, 3) := by decide +kernel
theorem dX9_sets_4 : decode cX9_sets 4 = .ok (.aload_n 0, 1) := by decide +kernel
theorem dX9_sets_5 : decode cX9_sets 5 = .ok (.getfield 173, 3) := by decide +kernel
theorem dX9_sets_8 : decode cX9_sets 8 = .ok (.ireturn, 1) := by decide +kernel
theorem dX9_isSame_0 : decode cX9_isSame 0 = .ok (.aload_n 0, 1) := by decide +kernel
theorem dX9_isSame_1 : decode cX9_isSame 1 = .ok (.getfield 70, 3) := by decide +kernel
theorem dX9_isSame_4 : decode cX9_isSame 4 = .ok (.iload_n 1, 1) := by decide +kernel
theorem dX9_isSame_5 : decode cX9_isSame 5 = .ok (.iaload, 1) := by decide +kernel
theorem dX9_isSame_6 : decode cX9_isSame 6 = .ok (.aload_n 0, 1) := by decide +kernel
theorem dX9_isSame_7 : decode cX9_isSame 7 = .ok (.getfield 70, 3) := by decide +kernel
theorem dX9_isSame_10 : decode cX9_isSame 10 = .ok (.iload_n 2, 1) := by decide +kernel
theorem dX9_isSame_11 : decode cX9_isSame 11 = .ok (.iaload, 1) := by decide +kernel
theorem dX9_isSame_12 : decode cX9_isSame 12 = .ok (.if_icmp .eq 5, 3) := by decide +kernel
theorem dX9_isSame_15 : decode cX9_isSame 15 = .ok (.iconst 0, 1) := by decide +kernel
theorem dX9_isSame_16 : decode cX9_isSame 16 = .ok (.ireturn, 1) := by decide +kernel
theorem dX9_isSame_17 : decode cX9_isSame 17 = .ok (.iconst 0, 1) := by decide +kernel
theorem dX9_isSame_18 : decode cX9_isSame 18 = .ok (.istore_n 3, 1) := by decide +kernel
theorem dX9_isSame_19 : decode cX9_isSame 19 = .ok (.iload_n 3, 1) := by decide +kernel
theorem dX9_isSame_20 : decode cX9_isSame 20 = .ok (.iconst 2, 1) := by decide +kernel
theorem dX9_isSame_21 : decode cX9_isSame 21 = .ok (.if_icmp .ge 180, 3) := by decide +kernel
theorem dX9_isSame_24 : decode cX9_isSame 24 = .ok (.aload_n 0, 1) := by decide +kernel
theorem dX9_isSame_25 : decode cX9_isSame 25 = .ok (.getfield 70, 3) := by decide +kernel
theorem dX9_isSame_28 : decode cX9_isSame 28 = .ok (.aload_n 0, 1) := by decide +kernel
theorem dX9_isSame_29 : decode cX9_isSame 29 = .ok (.getfield 64, 3) := by decide +kernel
theorem dX9_isSame_32 : decode cX9_isSame 32 = .ok (.bipush 120, 2) := by decide +kernel
theorem dX9_isSame_34 : decode cX9_isSame 34 = .ok (.iload_n 3, 1) := by decide +kernel
theorem dX9_isSame_35 : decode cX9_isSame 35 = .ok (.imul, 1) := by decide +kernel
theorem dX9_isSame_36 : decode cX9_isSame 36 = .ok (.iload_n 1, 1) := by decide +kernel
theorem dX9_isSame_37 : decode cX9_isSame 37 = .ok (.iadd, 1) := by decide +kernel
theorem dX9_isSame_38 : decode cX9_isSame 38 = .ok (.iaload, 1) := by decide +kernel
theorem dX9_isSame_39 : decode cX9_isSame 39 = .ok (.iaload, 1) := by decide +kernel
theorem dX9_isSame_40 : decode cX9_isSame 40 = .ok (.aload_n 0, 1) := by decide +kernel
theorem dX9_isSame_41 : decode cX9_isSame 41 = .ok (.getfield 70, 3) := by decide +kernel
theorem dX9_isSame_44 : decode cX9_isSame 44 = .ok (.aload_n 0, 1) := by decide +kernel
theorem dX9_isSame_45 : decode cX9_isSame 45 = .ok (.getfield 64, 3) := by decide +kernel
theorem dX9_isSame_48 : decode cX9_isSame 48 = .ok (.bipush 120, 2) := by decide +kernel
theorem dX9_isSame_50 : decode cX9_isSame 50 = .ok (.iload_n 3, 1) := by decide +kernel
theorem dX9_isSame_51 : decode cX9_isSame 51 = .ok (.imul, 1) := by decide +kernel
theorem dX9_isSame_52 : decode cX9_isSame 52 = .ok (.iload_n 2, 1) := by decide +kernel
theorem dX9_isSame_53 : decode cX9_isSame 53 = .ok (.iadd, 1) := by decide +kernel
theorem dX9_isSame_54 : decode cX9_isSame 54 = .ok (.iaload, 1) := by decide +kernel
theorem dX9_isSame_55 : decode cX9_isSame 55 = .ok (.iaload, 1) := by decide +kernel
theorem dX9_isSame_56 : decode cX9_isSame 56 = .ok (.if_icmp .eq 5, 3) := by decide +kernel
theorem dX9_isSame_59 : decode cX9_isSame 59 = .ok (.iconst 0, 1) := by decide +kernel
theorem dX9_isSame_60 : decode cX9_isSame 60 = .ok (.ireturn, 1) := by decide +kernel
theorem dX9_isSame_61 : decode cX9_isSame 61 = .ok (.iconst 0, 1) := by decide +kernel
theorem dX9_isSame_62 : decode cX9_isSame 62 = .ok (.istore 4, 2) := by decide +kernel
theorem dX9_isSame_64 : decode cX9_isSame 64 = .ok (.iload 4, 2) := by decide +kernel
theorem dX9_isSame_66 : decode cX9_isSame 66 = .ok (.aload_n 0, 1) := by decide +kernel
theorem dX9_isSame_67 : decode cX9_isSame 67 = .ok (.getfield 173, 3) := by decide +kernel
theorem dX9_isSame_70 : decode cX9_isSame 70 = .ok (.if_icmp .ge 125, 3) := by decide +kernel
theorem dX9_isSame_73 : decode cX9_isSame 73 = .ok (.sipush 14400, 3) := by decide +kernel
theorem dX9_isSame_76 : decode cX9_isSame 76 = .ok (.iload_n 3, 1) := by decide +kernel
theorem dX9_isSame_77 : decode cX9_isSame 77 = .ok (.imul, 1) := by decide +kernel
theorem dX9_isSame_78 : decode cX9_isSame 78 = .ok (.bipush 120, 2) := by decide +kernel
theorem dX9_isSame_80 : decode cX9_isSame 80 = .ok (.iload_n 1, 1) := by decide +kernel
theorem dX9_isSame_81 : decode cX9_isSame 81 = .ok (.imul, 1) := by decide +kernel
theorem dX9_isSame_82 : decode cX9_isSame 82 = .ok (.iadd, 1) := by decide +kernel
theorem dX9_isSame_83 : decode cX9_isSame 83 = .ok (.iload 4, 2) := by decide +kernel
theorem dX9_isSame_85 : decode cX9_isSame 85 = .ok (.iadd, 1) := by decide +kernel
theorem dX9_isSame_86 : decode cX9_isSame 86 = .ok (.istore 5, 2) := by decide +kernel
theorem dX9_isSame_88 : decode cX9_isSame 88 = .ok (.sipush 14400, 3) := by decide +kernel
theorem dX9_isSame_91 : decode cX9_isSame 91 = .ok (.iload_n 3, 1) := by decide +kernel
theorem dX9_isSame_92 : decode cX9_isSame 92 = .ok (.imul, 1) := by decide +kernel
theorem dX9_isSame_93 : decode cX9_isSame 93 = .ok (.bipush 120, 2) := by decide +kernel
theorem dX9_isSame_95 : decode cX9_isSame 95 = .ok (.iload_n 2, 1) := by decide +kernel
theorem dX9_isSame_96 : decode cX9_isSame 96 = .ok (.imul, 1) := by decide +kernel
theorem dX9_isSame_97 : decode cX9_isSame 97 = .ok (.iadd, 1) := by decide +kernel
theorem dX9_isSame_98 : decode cX9_isSame 98 = .ok (.iload 4, 2) := by decide +kernel
theorem dX9_isSame_100 : decode cX9_isSame 100 = .ok (.iadd, 1) := by decide +kernel
theorem dX9_isSame_101 : decode cX9_isSame 101 = .ok (.istore 6, 2) := by decide +kernel
theorem dX9_isSame_103 : decode cX9_isSame 103 = .ok (.sipush 14400, 3) := by decide +kernel
theorem dX9_isSame_106 : decode cX9_isSame 106 = .ok (.iload_n 3, 1) := by decide +kernel
theorem dX9_isSame_107 : decode cX9_isSame 107 = .ok (.imul, 1) := by decide +kernel
theorem dX9_isSame_108 : decode cX9_isSame 108 = .ok (.bipush 120, 2) := by decide +kernel
theorem dX9_isSame_110 : decode cX9_isSame 110 = .ok (.iload 4, 2) := by decide +kernel
theorem dX9_isSame_112 : decode cX9_isSame 112 = .ok (.imul, 1) := by decide +kernel
theorem dX9_isSame_113 : decode cX9_isSame 113 = .ok (.iadd, 1) := by decide +kernel
theorem dX9_isSame_114 : decode cX9_isSame 114 = .ok (.iload_n 1, 1) := by decide +kernel
theorem dX9_isSame_115 : decode cX9_isSame 115 = .ok (.iadd, 1) := by decide +kernel
theorem dX9_isSame_116 : decode cX9_isSame 116 = .ok (.istore 7, 2) := by decide +kernel
theorem dX9_isSame_118 : decode cX9_isSame 118 = .ok (.sipush 14400, 3) := by decide +kernel
theorem dX9_isSame_121 : decode cX9_isSame 121 = .ok (.iload_n 3, 1) := by decide +kernel
theorem dX9_isSame_122 : decode cX9_isSame 122 = .ok (.imul, 1) := by decide +kernel
theorem dX9_isSame_123 : decode cX9_isSame 123 = .ok (.bipush 120, 2) := by decide +kernel
theorem dX9_isSame_125 : decode cX9_isSame 125 = .ok (.iload 4, 2) := by decide +kernel
theorem dX9_isSame_127 : decode cX9_isSame 127 = .ok (.imul, 1) := by decide +kernel
theorem dX9_isSame_128 : decode cX9_isSame 128 = .ok (.iadd, 1) := by decide +kernel
theorem dX9_isSame_129 : decode cX9_isSame 129 = .ok (.iload_n 2, 1) := by decide +kernel
theorem dX9_isSame_130 : decode cX9_isSame 130 = .ok (.iadd, 1) := by decide +kernel
theorem dX9_isSame_131 : decode cX9_isSame 131 = .ok (.istore 8, 2) := by decide +kernel
theorem dX9_isSame_133 : decode cX9_isSame 133 = .ok (.aload_n 0, 1) := by decide +kernel
theorem dX9_isSame_134 : decode cX9_isSame 134 = .ok (.getfield 70, 3) := by decide +kernel
theorem dX9_isSame_137 : decode cX9_isSame 137 = .ok (.aload_n 0, 1) := by decide +kernel
theorem dX9_isSame_138 : decode cX9_isSame 138 = .ok (.getfield 67, 3) := by decide +kernel
theorem dX9_isSame_141 : decode cX9_isSame 141 = .ok (.iload 5, 2) := by decide +kernel
theorem dX9_isSame_143 : decode cX9_isSame 143 = .ok (.iaload, 1) := by decide +kernel
theorem dX9_isSame_144 : decode cX9_isSame 144 = .ok (.iaload, 1) := by decide +kernel
theorem dX9_isSame_145 : decode cX9_isSame 145 = .ok (.aload_n 0, 1) := by decide +kernel
theorem dX9_isSame_146 : decode cX9_isSame 146 = .ok (.getfield 70, 3) := by decide +kernel
theorem dX9_isSame_149 : decode cX9_isSame 149 = .ok (.aload_n 0, 1) := by decide +kernel
theorem dX9_isSame_150 : decode cX9_isSame 150 = .ok (.getfield 67, 3) := by decide +kernel
theorem dX9_isSame_153 : decode cX9_isSame 153 = .ok (.iload 6, 2) := by decide +kernel
theorem dX9_isSame_155 : decode cX9_isSame 155 = .ok (.iaload, 1) := by decide +kernel
theorem dX9_isSame_156 : decode cX9_isSame 156 = .ok (.iaload, 1) := by decide +kernel
theorem dX9_isSame_157 : decode cX9_isSame 157 = .ok (.if_icmp .ne 30, 3) := by decide +kernel
theorem dX9_isSame_160 : decode cX9_isSame 160 = .ok (.aload_n 0, 1) := by decide +kernel
theorem dX9_isSame_161 : decode cX9_isSame 161 = .ok (.getfield 70, 3) := by decide +kernel
theorem dX9_isSame_164 : decode cX9_isSame 164 = .ok (.aload_n 0, 1) := by decide +kernel
theorem dX9_isSame_165 : decode cX9_isSame 165 = .ok (.getfield 67, 3) := by decide +kernel
theorem dX9_isSame_168 : decode cX9_isSame 168 = .ok (.iload 7, 2) := by decide +kernel
theorem dX9_isSame_170 : decode cX9_isSame 170 = .ok (.iaload, 1) := by decide +kernel
theorem dX9_isSame_171 : decode cX9_isSame 171 = .ok (.iaload, 1) := by decide +kernel
theorem dX9_isSame_172 : decode cX9_isSame 172 = .ok (.aload_n 0, 1) := by decide +kernel
theorem dX9_isSame_173 : decode cX9_isSame 173 = .ok (.getfield 70, 3) := by decide +kernel
theorem dX9_isSame_176 : decode cX9_isSame 176 = .ok (.aload_n 0, 1) := by decide +kernel
theorem dX9_isSame_177 : decode cX9_isSame 177 = .ok (.getfield 67, 3) := by decide +kernel
theorem dX9_isSame_180 : decode cX9_isSame 180 = .ok (.iload 8, 2) := by decide +kernel
theorem dX9_isSame_182 : decode cX9_isSame 182 = .ok (.iaload, 1) := by decide +kernel
theorem dX9_isSame_183 : decode cX9_isSame 183 = .ok (.iaload, 1) := by decide +kernel
theorem dX9_isSame_184 : decode cX9_isSame 184 = .ok (.if_icmp .eq 5, 3) := by decide +kernel
theorem dX9_isSame_187 : decode cX9_isSame 187 = .ok (.iconst 0, 1) := by decide +kernel
theorem dX9_isSame_188 : decode cX9_isSame 188 = .ok (.ireturn, 1) := by decide +kernel
theorem dX9_isSame_189 : decode cX9_isSame 189 = .ok (.iinc 4 1, 3) := by decide +kernel
theorem dX9_isSame_192 : decode cX9_isSame 192 = .ok (.goto (-128), 3) := by decide +kernel
theorem dX9_isSame_195 : decode cX9_isSame 195 = .ok (.iinc 3 1, 3) := by decide +kernel
theorem dX9_isSame_198 : decode cX9_isSame 198 = .ok (.goto (-179), 3) := by decide +kernel
theorem dX9_isSame_201 : decode cX9_isSame 201 = .ok (.iconst 1, 1) := by decide +kernel
theorem dX9_isSame_202 : decode cX9_isSame 202 = .ok (.ireturn, 1) := by decide +kernel
theorem dX9_classes_0 : decode cX9_classes 0 = .ok (.aload_n 0, 1) := by decide +kernel
theorem dX9_classes_1 : decode cX9_classes 1 = .ok (.invokevirtual 191, 3) := by decide +kernel
theorem dX9_classes_4 : decode cX9_classes 4 = .ok (.iconst 0, 1) := by decide +kernel
theorem dX9_classes_5 : decode cX9_classes 5 = .ok (.istore_n 1, 1) := by decide +kernel
theorem dX9_classes_6 : decode cX9_classes 6 = .ok (.iload_n 1, 1) := by decide +kernel
theorem dX9_classes_7 : decode cX9_classes 7 = .ok (.aload_n 0, 1) := by decide +kernel
theorem dX9_classes_8 : decode cX9_classes 8 = .ok (.getfield 173, 3) := by decide +kernel
theorem dX9_classes_11 : decode cX9_classes 11 = .ok (.if_icmp .ge 28, 3) := by decide +kernel
theorem dX9_classes_14 : decode cX9_classes 14 = .ok (.aload_n 0, 1) := by decide +kernel
theorem dX9_classes_15 : decode cX9_classes 15 = .ok (.getfield 70, 3) := by decide +kernel
theorem dX9_classes_18 : decode cX9_classes 18 = .ok (.iload_n 1, 1) := by decide +kernel
theorem dX9_classes_19 : decode cX9_classes 19 = .ok (.aload_n 0, 1) := by decide +kernel
theorem dX9_classes_20 : decode cX9_classes 20 = .ok (.iload_n 1, 1) := by decide +kernel
theorem dX9_classes_21 : decode cX9_classes 21 = .ok (.invokevirtual 194, 3) := by decide +kernel
theorem dX9_classes_24 : decode cX9_classes 24 = .ok (.ifCond .eq 7, 3) := by decide +kernel
theorem dX9_classes_27 : decode cX9_classes 27 = .ok (.iconst 1, 1) := by decide +kernel
theorem dX9_classes_28 : decode cX9_classes 28 = .ok (.goto 4, 3) := by decide +kernel
theorem dX9_classes_31 : decode cX9_classes 31 = .ok (.iconst 0, 1) := by decide +kernel
theorem dX9_classes_32 : decode cX9_classes 32 = .ok (.iastore, 1) := by decide +kernel
theorem dX9_classes_33 : decode cX9_classes 33 = .ok (.iinc 1 1, 3) := by decide +kernel
theorem dX9_classes_36 : decode cX9_classes 36 = .ok (.goto (-30), 3) := by decide +kernel
theorem dX9_classes_39 : decode cX9_classes 39 = .ok (.iconst 0, 1) := by decide +kernel
theorem dX9_classes_40 : decode cX9_classes 40 = .ok (.istore_n 1, 1) := by decide +kernel
theorem dX9_classes_41 : decode cX9_classes 41 = .ok (.iconst 1, 1) := by decide +kernel
theorem dX9_classes_42 : decode cX9_classes 42 = .ok (.istore_n 2, 1) := by decide +kernel
theorem dX9_classes_43 : decode cX9_classes 43 = .ok (.iload_n 2, 1) := by decide +kernel
theorem dX9_classes_44 : decode cX9_classes 44 = .ok (.iload_n 1, 1) := by decide +kernel
theorem dX9_classes_45 : decode cX9_classes 45 = .ok (.if_icmp .eq 110, 3) := by decide +kernel
theorem dX9_classes_48 : decode cX9_classes 48 = .ok (.iload_n 2, 1) := by decide +kernel
theorem dX9_classes_49 : decode cX9_classes 49 = .ok (.istore_n 1, 1) := by decide +kernel
theorem dX9_classes_50 : decode cX9_classes 50 = .ok (.iconst 0, 1) := by decide +kernel
theorem dX9_classes_51 : decode cX9_classes 51 = .ok (.istore_n 2, 1) := by decide +kernel
theorem dX9_classes_52 : decode cX9_classes 52 = .ok (.iconst 0, 1) := by decide +kernel
theorem dX9_classes_53 : decode cX9_classes 53 = .ok (.istore_n 3, 1) := by decide +kernel
theorem dX9_classes_54 : decode cX9_classes 54 = .ok (.iload_n 3, 1) := by decide +kernel
theorem dX9_classes_55 : decode cX9_classes 55 = .ok (.aload_n 0, 1) := by decide +kernel
theorem dX9_classes_56 : decode cX9_classes 56 = .ok (.getfield 173, 3) := by decide +kernel
theorem dX9_classes_59 : decode cX9_classes 59 = .ok (.if_icmp .ge 65, 3) := by decide +kernel
theorem dX9_classes_62 : decode cX9_classes 62 = .ok (.iconst 0, 1) := by decide +kernel
theorem dX9_classes_63 : decode cX9_classes 63 = .ok (.istore 4, 2) := by decide +kernel
theorem dX9_classes_65 : decode cX9_classes 65 = .ok (.aload_n 0, 1) := by decide +kernel
theorem dX9_classes_66 : decode cX9_classes 66 = .ok (.iload_n 3, 1) := by decide +kernel
theorem dX9_classes_67 : decode cX9_classes 67 = .ok (.iload 4, 2) := by decide +kernel
theorem dX9_classes_69 : decode cX9_classes 69 = .ok (.invokevirtual 197, 3) := by decide +kernel
theorem dX9_classes_72 : decode cX9_classes 72 = .ok (.ifCond .ne 9, 3) := by decide +kernel
theorem dX9_classes_75 : decode cX9_classes 75 = .ok (.iinc 4 1, 3) := by decide +kernel
theorem dX9_classes_78 : decode cX9_classes 78 = .ok (.goto (-13), 3) := by decide +kernel
theorem dX9_classes_81 : decode cX9_classes 81 = .ok (.aload_n 0, 1) := by decide +kernel
theorem dX9_classes_82 : decode cX9_classes 82 = .ok (.getfield 73, 3) := by decide +kernel
theorem dX9_classes_85 : decode cX9_classes 85 = .ok (.iload_n 3, 1) := by decide +kernel
theorem dX9_classes_86 : decode cX9_classes 86 = .ok (.iload 4, 2) := by decide +kernel
theorem dX9_classes_88 : decode cX9_classes 88 = .ok (.iload_n 3, 1) := by decide +kernel
theorem dX9_classes_89 : decode cX9_classes 89 = .ok (.if_icmp .ne 7, 3) := by decide +kernel
theorem dX9_classes_92 : decode cX9_classes 92 = .ok (.iload_n 2, 1) := by decide +kernel
theorem dX9_classes_93 : decode cX9_classes 93 = .ok (.goto 10, 3) := by decide +kernel
theorem dX9_classes_96 : decode cX9_classes 96 = .ok (.aload_n 0, 1) := by decide +kernel
theorem dX9_classes_97 : decode cX9_classes 97 = .ok (.getfield 73, 3) := by decide +kernel
theorem dX9_classes_100 : decode cX9_classes 100 = .ok (.iload 4, 2) := by decide +kernel
theorem dX9_classes_102 : decode cX9_classes 102 = .ok (.iaload, 1) := by decide +kernel
theorem dX9_classes_103 : decode cX9_classes 103 = .ok (.iastore, 1) := by decide +kernel
theorem dX9_classes_104 : decode cX9_classes 104 = .ok (.iload_n 2, 1) := by decide +kernel
theorem dX9_classes_105 : decode cX9_classes 105 = .ok (.iload 4, 2) := by decide +kernel
theorem dX9_classes_107 : decode cX9_classes 107 = .ok (.iload_n 3, 1) := by decide +kernel
theorem dX9_classes_108 : decode cX9_classes 108 = .ok (.if_icmp .ne 7, 3) := by decide +kernel
theorem dX9_classes_111 : decode cX9_classes 111 = .ok (.iconst 1, 1) := by decide +kernel
theorem dX9_classes_112 : decode cX9_classes 112 = .ok (.goto 4, 3) := by decide +kernel
theorem dX9_classes_115 : decode cX9_classes 115 = .ok (.iconst 0, 1) := by decide +kernel
theorem dX9_classes_116 : decode cX9_classes 116 = .ok (.iadd, 1) := by decide +kernel
theorem dX9_classes_117 : decode cX9_classes 117 = .ok (.istore_n 2, 1) := by decide +kernel
theorem dX9_classes_118 : decode cX9_classes 118 = .ok (.iinc 3 1, 3) := by decide +kernel
theorem dX9_classes_121 : decode cX9_classes 121 = .ok (.goto (-67), 3) := by decide +kernel
theorem dX9_classes_124 : decode cX9_classes 124 = .ok (.iconst 0, 1) := by decide +kernel
theorem dX9_classes_125 : decode cX9_classes 125 = .ok (.istore_n 3, 1) := by decide +kernel
theorem dX9_classes_126 : decode cX9_classes 126 = .ok (.iload_n 3, 1) := by decide +kernel
theorem dX9_classes_127 : decode cX9_classes 127 = .ok (.aload_n 0, 1) := by decide +kernel
theorem dX9_classes_128 : decode cX9_classes 128 = .ok (.getfield 173, 3) := by decide +kernel
theorem dX9_classes_131 : decode cX9_classes 131 = .ok (.if_icmp .ge 21, 3) := by decide +kernel
theorem dX9_classes_134 : decode cX9_classes 134 = .ok (.aload_n 0, 1) := by decide +kernel
theorem dX9_classes_135 : decode cX9_classes 135 = .ok (.getfield 70, 3) := by decide +kernel
theorem dX9_classes_138 : decode cX9_classes 138 = .ok (.iload_n 3, 1) := by decide +kernel
theorem dX9_classes_139 : decode cX9_classes 139 = .ok (.aload_n 0, 1) := by decide +kernel
theorem dX9_classes_140 : decode cX9_classes 140 = .ok (.getfield 73, 3) := by decide +kernel
theorem dX9_classes_143 : decode cX9_classes 143 = .ok (.iload_n 3, 1) := by decide +kernel
theorem dX9_classes_144 : decode cX9_classes 144 = .ok (.iaload, 1) := by decide +kernel
theorem dX9_classes_145 : decode cX9_classes 145 = .ok (.iastore, 1) := by decide +kernel
theorem dX9_classes_146 : decode cX9_classes 146 = .ok (.iinc 3 1, 3) := by decide +kernel
theorem dX9_classes_149 : decode cX9_classes 149 = .ok (.goto (-23), 3) := by decide +kernel
theorem dX9_classes_152 : decode cX9_classes 152 = .ok (.goto (-109), 3) := by decide +kernel
theorem dX9_classes_155 : decode cX9_classes 155 = .ok (.iload_n 2, 1) := by decide +kernel
theorem dX9_classes_156 : decode cX9_classes 156 = .ok (.ireturn, 1) := by decide +kernel
theorem dX9_useful_0 : decode cX9_useful 0 = .ok (.aload_n 0, 1) := by decide +kernel
theorem dX9_useful_1 : decode cX9_useful 1 = .ok (.invokevirtual 191, 3) := by decide +kernel
theorem dX9_useful_4 : decode cX9_useful 4 = .ok (.iconst 0, 1) := by decide +kernel
theorem dX9_useful_5 : decode cX9_useful 5 = .ok (.istore_n 1, 1) := by decide +kernel
theorem dX9_useful_6 : decode cX9_useful 6 = .ok (.iconst 0, 1) := by decide +kernel
theorem dX9_useful_7 : decode cX9_useful 7 = .ok (.istore_n 2, 1) := by decide +kernel
theorem dX9_useful_8 : decode cX9_useful 8 = .ok (.iload_n 2, 1) := by decide +kernel
theorem dX9_useful_9 : decode cX9_useful 9 = .ok (.aload_n 0, 1) := by decide +kernel
theorem dX9_useful_10 : decode cX9_useful 10 = .ok (.getfield 173, 3) := by decide +kernel
theorem dX9_useful_13 : decode cX9_useful 13 = .ok (.if_icmp .ge 18, 3) := by decide +kernel
theorem dX9_useful_16 : decode cX9_useful 16 = .ok (.iload_n 1, 1) := by decide +kernel
theorem dX9_useful_17 : decode cX9_useful 17 = .ok (.aload_n 0, 1) := by decide +kernel
theorem dX9_useful_18 : decode cX9_useful 18 = .ok (.getfield 55, 3) := by decide +kernel
theorem dX9_useful_21 : decode cX9_useful 21 = .ok (.iload_n 2, 1) := by decide +kernel
theorem dX9_useful_22 : decode cX9_useful 22 = .ok (.iaload, 1) := by decide +kernel
theorem dX9_useful_23 : decode cX9_useful 23 = .ok (.ior, 1) := by decide +kernel
theorem dX9_useful_24 : decode cX9_useful 24 = .ok (.istore_n 1, 1) := by decide +kernel
theorem dX9_useful_25 : decode cX9_useful 25 = .ok (.iinc 2 1, 3) := by decide +kernel
theorem dX9_useful_28 : decode cX9_useful 28 = .ok (.goto (-20), 3) := by decide +kernel
theorem dX9_useful_31 : decode cX9_useful 31 = .ok (.iload_n 1, 1) := by decide +kernel
theorem dX9_useful_32 : decode cX9_useful 32 = .ok (.aload_n 0, 1) := by decide +kernel
theorem dX9_useful_33 : decode cX9_useful 33 = .ok (.getfield 29, 3) := by decide +kernel
theorem dX9_useful_36 : decode cX9_useful 36 = .ok (.iconst 1, 1) := by decide +kernel
theorem dX9_useful_37 : decode cX9_useful 37 = .ok (.iaload, 1) := by decide +kernel
theorem dX9_useful_38 : decode cX9_useful 38 = .ok (.iand, 1) := by decide +kernel
theorem dX9_useful_39 : decode cX9_useful 39 = .ok (.istore_n 2, 1) := by decide +kernel
theorem dX9_useful_40 : decode cX9_useful 40 = .ok (.iconst (-1), 1) := by decide +kernel
theorem dX9_useful_41 : decode cX9_useful 41 = .ok (.istore_n 3, 1) := by decide +kernel
theorem dX9_useful_42 : decode cX9_useful 42 = .ok (.iload_n 2, 1) := by decide +kernel
theorem dX9_useful_43 : decode cX9_useful 43 = .ok (.iload_n 3, 1) := by decide +kernel
theorem dX9_useful_44 : decode cX9_useful 44 = .ok (.if_icmp .eq 168, 3) := by decide +kernel
theorem dX9_useful_47 : decode cX9_useful 47 = .ok (.iload_n 2, 1) := by decide +kernel
theorem dX9_useful_48 : decode cX9_useful 48 = .ok (.istore_n 3, 1) := by decide +kernel
theorem dX9_useful_49 : decode cX9_useful 49 = .ok (.iconst 0, 1) := by decide +kernel
theorem dX9_useful_50 : decode cX9_useful 50 = .ok (.istore 4, 2) := by decide +kernel
theorem dX9_useful_52 : decode cX9_useful 52 = .ok (.iload 4, 2) := by decide +kernel
theorem dX9_useful_54 : decode cX9_useful 54 = .ok (.aload_n 0, 1) := by decide +kernel
theorem dX9_useful_55 : decode cX9_useful 55 = .ok (.getfield 13, 3) := by decide +kernel
theorem dX9_useful_58 : decode cX9_useful 58 = .ok (.iconst 0, 1) := by decide +kernel
theorem dX9_useful_59 : decode cX9_useful 59 = .ok (.iaload, 1) := by decide +kernel
theorem dX9_useful_60 : decode cX9_useful 60 = .ok (.if_icmp .ge 149, 3) := by decide +kernel
theorem dX9_useful_63 : decode cX9_useful 63 = .ok (.aload_n 0, 1) := by decide +kernel
theorem dX9_useful_64 : decode cX9_useful 64 = .ok (.getfield 17, 3) := by decide +kernel
theorem dX9_useful_67 : decode cX9_useful 67 = .ok (.iload 4, 2) := by decide +kernel
theorem dX9_useful_69 : decode cX9_useful 69 = .ok (.iaload, 1) := by decide +kernel
theorem dX9_useful_70 : decode cX9_useful 70 = .ok (.invokestatic 125, 3) := by decide +kernel
theorem dX9_useful_73 : decode cX9_useful 73 = .ok (.istore 5, 2) := by decide +kernel
theorem dX9_useful_75 : decode cX9_useful 75 = .ok (.aload_n 0, 1) := by decide +kernel
theorem dX9_useful_76 : decode cX9_useful 76 = .ok (.getfield 29, 3) := by decide +kernel
theorem dX9_useful_79 : decode cX9_useful 79 = .ok (.iconst 0, 1) := by decide +kernel
theorem dX9_useful_80 : decode cX9_useful 80 = .ok (.iaload, 1) := by decide +kernel
theorem dX9_useful_81 : decode cX9_useful 81 = .ok (.iload 4, 2) := by decide +kernel
theorem dX9_useful_83 : decode cX9_useful 83 = .ok (.invokestatic 145, 3) := by decide +kernel
theorem dX9_useful_86 : decode cX9_useful 86 = .ok (.ifCond .eq 61, 3) := by decide +kernel
theorem dX9_useful_89 : decode cX9_useful 89 = .ok (.iload_n 2, 1) := by decide +kernel
theorem dX9_useful_90 : decode cX9_useful 90 = .ok (.aload_n 0, 1) := by decide +kernel
theorem dX9_useful_91 : decode cX9_useful 91 = .ok (.getfield 26, 3) := by decide +kernel
theorem dX9_useful_94 : decode cX9_useful 94 = .ok (.iload 4, 2) := by decide +kernel
theorem dX9_useful_96 : decode cX9_useful 96 = .ok (.iaload, 1) := by decide +kernel
theorem dX9_useful_97 : decode cX9_useful 97 = .ok (.invokestatic 145, 3) := by decide +kernel
theorem dX9_useful_100 : decode cX9_useful 100 = .ok (.ifCond .eq 47, 3) := by decide +kernel
theorem dX9_useful_103 : decode cX9_useful 103 = .ok (.iload 5, 2) := by decide +kernel
theorem dX9_useful_105 : decode cX9_useful 105 = .ok (.iconst 1, 1) := by decide +kernel
theorem dX9_useful_106 : decode cX9_useful 106 = .ok (.if_icmp .lt 17, 3) := by decide +kernel
theorem dX9_useful_109 : decode cX9_useful 109 = .ok (.iload_n 1, 1) := by decide +kernel
theorem dX9_useful_110 : decode cX9_useful 110 = .ok (.aload_n 0, 1) := by decide +kernel
theorem dX9_useful_111 : decode cX9_useful 111 = .ok (.getfield 20, 3) := by decide +kernel
theorem dX9_useful_114 : decode cX9_useful 114 = .ok (.iload 4, 2) := by decide +kernel
theorem dX9_useful_116 : decode cX9_useful 116 = .ok (.iaload, 1) := by decide +kernel
theorem dX9_useful_117 : decode cX9_useful 117 = .ok (.invokestatic 145, 3) := by decide +kernel
theorem dX9_useful_120 : decode cX9_useful 120 = .ok (.ifCond .eq 27, 3) := by decide +kernel
theorem dX9_useful_123 : decode cX9_useful 123 = .ok (.iload 5, 2) := by decide +kernel
theorem dX9_useful_125 : decode cX9_useful 125 = .ok (.iconst 2, 1) := by decide +kernel
theorem dX9_useful_126 : decode cX9_useful 126 = .ok (.if_icmp .lt 17, 3) := by decide +kernel
theorem dX9_useful_129 : decode cX9_useful 129 = .ok (.iload_n 1, 1) := by decide +kernel
theorem dX9_useful_130 : decode cX9_useful 130 = .ok (.aload_n 0, 1) := by decide +kernel
theorem dX9_useful_131 : decode cX9_useful 131 = .ok (.getfield 23, 3) := by decide +kernel
theorem dX9_useful_134 : decode cX9_useful 134 = .ok (.iload 4, 2) := by decide +kernel
theorem dX9_useful_136 : decode cX9_useful 136 = .ok (.iaload, 1) := by decide +kernel
theorem dX9_useful_137 : decode cX9_useful 137 = .ok (.invokestatic 145, 3) := by decide +kernel
theorem dX9_useful_140 : decode cX9_useful 140 = .ok (.ifCond .eq 7, 3) := by decide +kernel
theorem dX9_useful_143 : decode cX9_useful 143 = .ok (.iconst 1, 1) := by decide +kernel
theorem dX9_useful_144 : decode cX9_useful 144 = .ok (.goto 4, 3) := by decide +kernel
theorem dX9_useful_147 : decode cX9_useful 147 = .ok (.iconst 0, 1) := by decide +kernel
theorem dX9_useful_148 : decode cX9_useful 148 = .ok (.istore 6, 2) := by decide +kernel
theorem dX9_useful_150 : decode cX9_useful 150 = .ok (.iload_n 2, 1) := by decide +kernel
theorem dX9_useful_151 : decode cX9_useful 151 = .ok (.iload 6, 2) := by decide +kernel
theorem dX9_useful_153 : decode cX9_useful 153 = .ok (.ifCond .eq 20, 3) := by decide +kernel
theorem dX9_useful_156 : decode cX9_useful 156 = .ok (.iload 5, 2) := by decide +kernel
theorem dX9_useful_158 : decode cX9_useful 158 = .ok (.ifCond .le 15, 3) := by decide +kernel
theorem dX9_useful_161 : decode cX9_useful 161 = .ok (.iconst 1, 1) := by decide +kernel
theorem dX9_useful_162 : decode cX9_useful 162 = .ok (.aload_n 0, 1) := by decide +kernel
theorem dX9_useful_163 : decode cX9_useful 163 = .ok (.getfield 20, 3) := by decide +kernel
theorem dX9_useful_166 : decode cX9_useful 166 = .ok (.iload 4, 2) := by decide +kernel
theorem dX9_useful_168 : decode cX9_useful 168 = .ok (.iaload, 1) := by decide +kernel
theorem dX9_useful_169 : decode cX9_useful 169 = .ok (.ishl, 1) := by decide +kernel
theorem dX9_useful_170 : decode cX9_useful 170 = .ok (.goto 4, 3) := by decide +kernel
theorem dX9_useful_173 : decode cX9_useful 173 = .ok (.iconst 0, 1) := by decide +kernel
theorem dX9_useful_174 : decode cX9_useful 174 = .ok (.ior, 1) := by decide +kernel
theorem dX9_useful_175 : decode cX9_useful 175 = .ok (.istore_n 2, 1) := by decide +kernel
theorem dX9_useful_176 : decode cX9_useful 176 = .ok (.iload_n 2, 1) := by decide +kernel
theorem dX9_useful_177 : decode cX9_useful 177 = .ok (.iload 6, 2) := by decide +kernel
theorem dX9_useful_179 : decode cX9_useful 179 = .ok (.ifCond .eq 21, 3) := by decide +kernel
theorem dX9_useful_182 : decode cX9_useful 182 = .ok (.iload 5, 2) := by decide +kernel
theorem dX9_useful_184 : decode cX9_useful 184 = .ok (.iconst 1, 1) := by decide +kernel
theorem dX9_useful_185 : decode cX9_useful 185 = .ok (.if_icmp .le 15, 3) := by decide +kernel
theorem dX9_useful_188 : decode cX9_useful 188 = .ok (.iconst 1, 1) := by decide +kernel
theorem dX9_useful_189 : decode cX9_useful 189 = .ok (.aload_n 0, 1) := by decide +kernel
theorem dX9_useful_190 : decode cX9_useful 190 = .ok (.getfield 23, 3) := by decide +kernel
theorem dX9_useful_193 : decode cX9_useful 193 = .ok (.iload 4, 2) := by decide +kernel
theorem dX9_useful_195 : decode cX9_useful 195 = .ok (.iaload, 1) := by decide +kernel
theorem dX9_useful_196 : decode cX9_useful 196 = .ok (.ishl, 1) := by decide +kernel
theorem dX9_useful_197 : decode cX9_useful 197 = .ok (.goto 4, 3) := by decide +kernel
theorem dX9_useful_200 : decode cX9_useful 200 = .ok (.iconst 0, 1) := by decide +kernel
theorem dX9_useful_201 : decode cX9_useful 201 = .ok (.ior, 1) := by decide +kernel
theorem dX9_useful_202 : decode cX9_useful 202 = .ok (.istore_n 2, 1) := by decide +kernel
theorem dX9_useful_203 : decode cX9_useful 203 = .ok (.iinc 4 1, 3) := by decide +kernel
theorem dX9_useful_206 : decode cX9_useful 206 = .ok (.goto (-154), 3) := by decide +kernel
theorem dX9_useful_209 : decode cX9_useful 209 = .ok (.goto (-167), 3) := by decide +kernel
theorem dX9_useful_212 : decode cX9_useful 212 = .ok (.iload_n 2, 1) := by decide +kernel
theorem dX9_useful_213 : decode cX9_useful 213 = .ok (.ireturn, 1) := by decide +kernel
theorem dX9_put_0 : decode cX9_put 0 = .ok (.iconst 0, 1) := by decide +kernel
theorem dX9_put_1 : decode cX9_put 1 = .ok (.istore_n 3, 1) := by decide +kernel
theorem dX9_put_2 : decode cX9_put 2 = .ok (.iload_n 3, 1) := by decide +kernel
theorem dX9_put_3 : decode cX9_put 3 = .ok (.aload_n 0, 1) := by decide +kernel
theorem dX9_put_4 : decode cX9_put 4 = .ok (.getfield 76, 3) := by decide +kernel
theorem dX9_put_7 : decode cX9_put 7 = .ok (.iload_n 2, 1) := by decide +kernel
theorem dX9_put_8 : decode cX9_put 8 = .ok (.iaload, 1) := by decide +kernel
theorem dX9_put_9 : decode cX9_put 9 = .ok (.if_icmp .ge 28, 3) := by decide +kernel
theorem dX9_put_12 : decode cX9_put 12 = .ok (.aload_n 0, 1) := by decide +kernel
theorem dX9_put_13 : decode cX9_put 13 = .ok (.getfield 82, 3) := by decide +kernel
theorem dX9_put_16 : decode cX9_put 16 = .ok (.iload_n 1, 1) := by decide +kernel
theorem dX9_put_17 : decode cX9_put 17 = .ok (.iload_n 3, 1) := by decide +kernel
theorem dX9_put_18 : decode cX9_put 18 = .ok (.iadd, 1) := by decide +kernel
theorem dX9_put_19 : decode cX9_put 19 = .ok (.aload_n 0, 1) := by decide +kernel
theorem dX9_put_20 : decode cX9_put 20 = .ok (.getfield 79, 3) := by decide +kernel
theorem dX9_put_23 : decode cX9_put 23 = .ok (.bipush 31, 2) := by decide +kernel
theorem dX9_put_25 : decode cX9_put 25 = .ok (.iload_n 2, 1) := by decide +kernel
theorem dX9_put_26 : decode cX9_put 26 = .ok (.imul, 1) := by decide +kernel
theorem dX9_put_27 : decode cX9_put 27 = .ok (.iload_n 3, 1) := by decide +kernel
theorem dX9_put_28 : decode cX9_put 28 = .ok (.iadd, 1) := by decide +kernel
theorem dX9_put_29 : decode cX9_put 29 = .ok (.iaload, 1) := by decide +kernel
theorem dX9_put_30 : decode cX9_put 30 = .ok (.iastore, 1) := by decide +kernel
theorem dX9_put_31 : decode cX9_put 31 = .ok (.iinc 3 1, 3) := by decide +kernel
theorem dX9_put_34 : decode cX9_put 34 = .ok (.goto (-32), 3) := by decide +kernel
theorem dX9_put_37 : decode cX9_put 37 = .ok (.return_, 1) := by decide +kernel
theorem dX9_offer_0 : decode cX9_offer 0 = .ok (.aload_n 0, 1) := by decide +kernel
theorem dX9_offer_1 : decode cX9_offer 1 = .ok (.getfield 76, 3) := by decide +kernel
theorem dX9_offer_4 : decode cX9_offer 4 = .ok (.iload_n 1, 1) := by decide +kernel
theorem dX9_offer_5 : decode cX9_offer 5 = .ok (.iaload, 1) := by decide +kernel
theorem dX9_offer_6 : decode cX9_offer 6 = .ok (.ifCond .ne 7, 3) := by decide +kernel
theorem dX9_offer_9 : decode cX9_offer 9 = .ok (.iconst 1, 1) := by decide +kernel
theorem dX9_offer_10 : decode cX9_offer 10 = .ok (.goto 4, 3) := by decide +kernel
theorem dX9_offer_13 : decode cX9_offer 13 = .ok (.iconst 0, 1) := by decide +kernel
theorem dX9_offer_14 : decode cX9_offer 14 = .ok (.istore_n 3, 1) := by decide +kernel
theorem dX9_offer_15 : decode cX9_offer 15 = .ok (.iconst 0, 1) := by decide +kernel
theorem dX9_offer_16 : decode cX9_offer 16 = .ok (.istore 4, 2) := by decide +kernel
theorem dX9_offer_18 : decode cX9_offer 18 = .ok (.iload 4, 2) := by decide +kernel
theorem dX9_offer_20 : decode cX9_offer 20 = .ok (.iload_n 2, 1) := by decide +kernel
theorem dX9_offer_21 : decode cX9_offer 21 = .ok (.if_icmp .ge 62, 3) := by decide +kernel
theorem dX9_offer_24 : decode cX9_offer 24 = .ok (.iload_n 3, 1) := by decide +kernel
theorem dX9_offer_25 : decode cX9_offer 25 = .ok (.ifCond .ne 58, 3) := by decide +kernel
theorem dX9_offer_28 : decode cX9_offer 28 = .ok (.aload_n 0, 1) := by decide +kernel
theorem dX9_offer_29 : decode cX9_offer 29 = .ok (.getfield 76, 3) := by decide +kernel
theorem dX9_offer_32 : decode cX9_offer 32 = .ok (.iload_n 1, 1) := by decide +kernel
theorem dX9_offer_33 : decode cX9_offer 33 = .ok (.iaload, 1) := by decide +kernel
theorem dX9_offer_34 : decode cX9_offer 34 = .ok (.iload_n 2, 1) := by decide +kernel
theorem dX9_offer_35 : decode cX9_offer 35 = .ok (.if_icmp .ne 48, 3) := by decide +kernel
theorem dX9_offer_38 : decode cX9_offer 38 = .ok (.aload_n 0, 1) := by decide +kernel
theorem dX9_offer_39 : decode cX9_offer 39 = .ok (.getfield 82, 3) := by decide +kernel
theorem dX9_offer_42 : decode cX9_offer 42 = .ok (.iload 4, 2) := by decide +kernel
theorem dX9_offer_44 : decode cX9_offer 44 = .ok (.iaload, 1) := by decide +kernel
theorem dX9_offer_45 : decode cX9_offer 45 = .ok (.aload_n 0, 1) := by decide +kernel
theorem dX9_offer_46 : decode cX9_offer 46 = .ok (.getfield 79, 3) := by decide +kernel
theorem dX9_offer_49 : decode cX9_offer 49 = .ok (.bipush 31, 2) := by decide +kernel
theorem dX9_offer_51 : decode cX9_offer 51 = .ok (.iload_n 1, 1) := by decide +kernel
theorem dX9_offer_52 : decode cX9_offer 52 = .ok (.imul, 1) := by decide +kernel
theorem dX9_offer_53 : decode cX9_offer 53 = .ok (.iload 4, 2) := by decide +kernel
theorem dX9_offer_55 : decode cX9_offer 55 = .ok (.iadd, 1) := by decide +kernel
theorem dX9_offer_56 : decode cX9_offer 56 = .ok (.iaload, 1) := by decide +kernel
theorem dX9_offer_57 : decode cX9_offer 57 = .ok (.isub, 1) := by decide +kernel
theorem dX9_offer_58 : decode cX9_offer 58 = .ok (.istore 5, 2) := by decide +kernel
theorem dX9_offer_60 : decode cX9_offer 60 = .ok (.iload 5, 2) := by decide +kernel
theorem dX9_offer_62 : decode cX9_offer 62 = .ok (.ifCond .le 4, 3) := by decide +kernel
theorem dX9_offer_65 : decode cX9_offer 65 = .ok (.return_, 1) := by decide +kernel
theorem dX9_offer_66 : decode cX9_offer 66 = .ok (.iload 5, 2) := by decide +kernel
theorem dX9_offer_68 : decode cX9_offer 68 = .ok (.ifCond .ge 7, 3) := by decide +kernel
theorem dX9_offer_71 : decode cX9_offer 71 = .ok (.iconst 1, 1) := by decide +kernel
theorem dX9_offer_72 : decode cX9_offer 72 = .ok (.goto 4, 3) := by decide +kernel
theorem dX9_offer_75 : decode cX9_offer 75 = .ok (.iconst 0, 1) := by decide +kernel
theorem dX9_offer_76 : decode cX9_offer 76 = .ok (.istore_n 3, 1) := by decide +kernel
theorem dX9_offer_77 : decode cX9_offer 77 = .ok (.iinc 4 1, 3) := by decide +kernel
theorem dX9_offer_80 : decode cX9_offer 80 = .ok (.goto (-62), 3) := by decide +kernel
theorem dX9_offer_83 : decode cX9_offer 83 = .ok (.iload_n 3, 1) := by decide +kernel
theorem dX9_offer_84 : decode cX9_offer 84 = .ok (.ifCond .eq 44, 3) := by decide +kernel
theorem dX9_offer_87 : decode cX9_offer 87 = .ok (.aload_n 0, 1) := by decide +kernel
theorem dX9_offer_88 : decode cX9_offer 88 = .ok (.getfield 76, 3) := by decide +kernel
theorem dX9_offer_91 : decode cX9_offer 91 = .ok (.iload_n 1, 1) := by decide +kernel
theorem dX9_offer_92 : decode cX9_offer 92 = .ok (.iload_n 2, 1) := by decide +kernel
theorem dX9_offer_93 : decode cX9_offer 93 = .ok (.iastore, 1) := by decide +kernel
theorem dX9_offer_94 : decode cX9_offer 94 = .ok (.iconst 0, 1) := by decide +kernel
theorem dX9_offer_95 : decode cX9_offer 95 = .ok (.istore 4, 2) := by decide +kernel
theorem dX9_offer_97 : decode cX9_offer 97 = .ok (.iload 4, 2) := by decide +kernel
theorem dX9_offer_99 : decode cX9_offer 99 = .ok (.iload_n 2, 1) := by decide +kernel
theorem dX9_offer_100 : decode cX9_offer 100 = .ok (.if_icmp .ge 28, 3) := by decide +kernel
theorem dX9_offer_103 : decode cX9_offer 103 = .ok (.aload_n 0, 1) := by decide +kernel
theorem dX9_offer_104 : decode cX9_offer 104 = .ok (.getfield 79, 3) := by decide +kernel
theorem dX9_offer_107 : decode cX9_offer 107 = .ok (.bipush 31, 2) := by decide +kernel
theorem dX9_offer_109 : decode cX9_offer 109 = .ok (.iload_n 1, 1) := by decide +kernel
theorem dX9_offer_110 : decode cX9_offer 110 = .ok (.imul, 1) := by decide +kernel
theorem dX9_offer_111 : decode cX9_offer 111 = .ok (.iload 4, 2) := by decide +kernel
theorem dX9_offer_113 : decode cX9_offer 113 = .ok (.iadd, 1) := by decide +kernel
theorem dX9_offer_114 : decode cX9_offer 114 = .ok (.aload_n 0, 1) := by decide +kernel
theorem dX9_offer_115 : decode cX9_offer 115 = .ok (.getfield 82, 3) := by decide +kernel
theorem dX9_offer_118 : decode cX9_offer 118 = .ok (.iload 4, 2) := by decide +kernel
theorem dX9_offer_120 : decode cX9_offer 120 = .ok (.iaload, 1) := by decide +kernel
theorem dX9_offer_121 : decode cX9_offer 121 = .ok (.iastore, 1) := by decide +kernel
theorem dX9_offer_122 : decode cX9_offer 122 = .ok (.iinc 4 1, 3) := by decide +kernel
theorem dX9_offer_125 : decode cX9_offer 125 = .ok (.goto (-28), 3) := by decide +kernel
theorem dX9_offer_128 : decode cX9_offer 128 = .ok (.return_, 1) := by decide +kernel
theorem dX9_offerTwo_0 : decode cX9_offerTwo 0 = .ok (.iconst 0, 1) := by decide +kernel
theorem dX9_offerTwo_1 : decode cX9_offerTwo 1 = .ok (.istore_n 3, 1) := by decide +kernel
theorem dX9_offerTwo_2 : decode cX9_offerTwo 2 = .ok (.iload_n 3, 1) := by decide +kernel
theorem dX9_offerTwo_3 : decode cX9_offerTwo 3 = .ok (.aload_n 0, 1) := by decide +kernel
theorem dX9_offerTwo_4 : decode cX9_offerTwo 4 = .ok (.getfield 173, 3) := by decide +kernel
theorem dX9_offerTwo_7 : decode cX9_offerTwo 7 = .ok (.if_icmp .ge 114, 3) := by decide +kernel
theorem dX9_offerTwo_10 : decode cX9_offerTwo 10 = .ok (.aload_n 0, 1) := by decide +kernel
theorem dX9_offerTwo_11 : decode cX9_offerTwo 11 = .ok (.getfield 76, 3) := by decide +kernel
theorem dX9_offerTwo_14 : decode cX9_offerTwo 14 = .ok (.iload_n 2, 1) := by decide +kernel
theorem dX9_offerTwo_15 : decode cX9_offerTwo 15 = .ok (.iaload, 1) := by decide +kernel
theorem dX9_offerTwo_16 : decode cX9_offerTwo 16 = .ok (.ifCond .le 99, 3) := by decide +kernel
theorem dX9_offerTwo_19 : decode cX9_offerTwo 19 = .ok (.aload_n 0, 1) := by decide +kernel
theorem dX9_offerTwo_20 : decode cX9_offerTwo 20 = .ok (.getfield 76, 3) := by decide +kernel
theorem dX9_offerTwo_23 : decode cX9_offerTwo 23 = .ok (.iload_n 3, 1) := by decide +kernel
theorem dX9_offerTwo_24 : decode cX9_offerTwo 24 = .ok (.iaload, 1) := by decide +kernel
theorem dX9_offerTwo_25 : decode cX9_offerTwo 25 = .ok (.ifCond .le 90, 3) := by decide +kernel
theorem dX9_offerTwo_28 : decode cX9_offerTwo 28 = .ok (.aload_n 0, 1) := by decide +kernel
theorem dX9_offerTwo_29 : decode cX9_offerTwo 29 = .ok (.getfield 76, 3) := by decide +kernel
theorem dX9_offerTwo_32 : decode cX9_offerTwo 32 = .ok (.iload_n 2, 1) := by decide +kernel
theorem dX9_offerTwo_33 : decode cX9_offerTwo 33 = .ok (.iaload, 1) := by decide +kernel
theorem dX9_offerTwo_34 : decode cX9_offerTwo 34 = .ok (.aload_n 0, 1) := by decide +kernel
theorem dX9_offerTwo_35 : decode cX9_offerTwo 35 = .ok (.getfield 76, 3) := by decide +kernel
theorem dX9_offerTwo_38 : decode cX9_offerTwo 38 = .ok (.iload_n 3, 1) := by decide +kernel
theorem dX9_offerTwo_39 : decode cX9_offerTwo 39 = .ok (.iaload, 1) := by decide +kernel
theorem dX9_offerTwo_40 : decode cX9_offerTwo 40 = .ok (.iadd, 1) := by decide +kernel
theorem dX9_offerTwo_41 : decode cX9_offerTwo 41 = .ok (.iload_n 1, 1) := by decide +kernel
theorem dX9_offerTwo_42 : decode cX9_offerTwo 42 = .ok (.iconst 1, 1) := by decide +kernel
theorem dX9_offerTwo_43 : decode cX9_offerTwo 43 = .ok (.isub, 1) := by decide +kernel
theorem dX9_offerTwo_44 : decode cX9_offerTwo 44 = .ok (.if_icmp .ne 71, 3) := by decide +kernel
theorem dX9_offerTwo_47 : decode cX9_offerTwo 47 = .ok (.iconst 0, 1) := by decide +kernel
theorem dX9_offerTwo_48 : decode cX9_offerTwo 48 = .ok (.istore 4, 2) := by decide +kernel
theorem dX9_offerTwo_50 : decode cX9_offerTwo 50 = .ok (.iload 4, 2) := by decide +kernel
theorem dX9_offerTwo_52 : decode cX9_offerTwo 52 = .ok (.iconst 2, 1) := by decide +kernel
theorem dX9_offerTwo_53 : decode cX9_offerTwo 53 = .ok (.if_icmp .ge 62, 3) := by decide +kernel
theorem dX9_offerTwo_56 : decode cX9_offerTwo 56 = .ok (.aload_n 0, 1) := by decide +kernel
theorem dX9_offerTwo_57 : decode cX9_offerTwo 57 = .ok (.getfield 82, 3) := by decide +kernel
theorem dX9_offerTwo_60 : decode cX9_offerTwo 60 = .ok (.iconst 0, 1) := by decide +kernel
theorem dX9_offerTwo_61 : decode cX9_offerTwo 61 = .ok (.bipush 6, 2) := by decide +kernel
theorem dX9_offerTwo_63 : decode cX9_offerTwo 63 = .ok (.iload 4, 2) := by decide +kernel
theorem dX9_offerTwo_65 : decode cX9_offerTwo 65 = .ok (.iadd, 1) := by decide +kernel
theorem dX9_offerTwo_66 : decode cX9_offerTwo 66 = .ok (.iastore, 1) := by decide +kernel
theorem dX9_offerTwo_67 : decode cX9_offerTwo 67 = .ok (.aload_n 0, 1) := by decide +kernel
theorem dX9_offerTwo_68 : decode cX9_offerTwo 68 = .ok (.iconst 1, 1) := by decide +kernel
theorem dX9_offerTwo_69 : decode cX9_offerTwo 69 = .ok (.iload_n 2, 1) := by decide +kernel
theorem dX9_offerTwo_70 : decode cX9_offerTwo 70 = .ok (.invokevirtual 200, 3) := by decide +kernel
theorem dX9_offerTwo_73 : decode cX9_offerTwo 73 = .ok (.aload_n 0, 1) := by decide +kernel
theorem dX9_offerTwo_74 : decode cX9_offerTwo 74 = .ok (.iconst 1, 1) := by decide +kernel
theorem dX9_offerTwo_75 : decode cX9_offerTwo 75 = .ok (.aload_n 0, 1) := by decide +kernel
theorem dX9_offerTwo_76 : decode cX9_offerTwo 76 = .ok (.getfield 76, 3) := by decide +kernel
theorem dX9_offerTwo_79 : decode cX9_offerTwo 79 = .ok (.iload_n 2, 1) := by decide +kernel
theorem dX9_offerTwo_80 : decode cX9_offerTwo 80 = .ok (.iaload, 1) := by decide +kernel
theorem dX9_offerTwo_81 : decode cX9_offerTwo 81 = .ok (.iadd, 1) := by decide +kernel
theorem dX9_offerTwo_82 : decode cX9_offerTwo 82 = .ok (.iload_n 3, 1) := by decide +kernel
theorem dX9_offerTwo_83 : decode cX9_offerTwo 83 = .ok (.invokevirtual 200, 3) := by decide +kernel
theorem dX9_offerTwo_86 : decode cX9_offerTwo 86 = .ok (.aload_n 0, 1) := by decide +kernel
theorem dX9_offerTwo_87 : decode cX9_offerTwo 87 = .ok (.aload_n 0, 1) := by decide +kernel
theorem dX9_offerTwo_88 : decode cX9_offerTwo 88 = .ok (.getfield 67, 3) := by decide +kernel
theorem dX9_offerTwo_91 : decode cX9_offerTwo 91 = .ok (.sipush 14400, 3) := by decide +kernel
theorem dX9_offerTwo_94 : decode cX9_offerTwo 94 = .ok (.iload 4, 2) := by decide +kernel
theorem dX9_offerTwo_96 : decode cX9_offerTwo 96 = .ok (.imul, 1) := by decide +kernel
theorem dX9_offerTwo_97 : decode cX9_offerTwo 97 = .ok (.bipush 120, 2) := by decide +kernel
theorem dX9_offerTwo_99 : decode cX9_offerTwo 99 = .ok (.iload_n 2, 1) := by decide +kernel
theorem dX9_offerTwo_100 : decode cX9_offerTwo 100 = .ok (.imul, 1) := by decide +kernel
theorem dX9_offerTwo_101 : decode cX9_offerTwo 101 = .ok (.iadd, 1) := by decide +kernel
theorem dX9_offerTwo_102 : decode cX9_offerTwo 102 = .ok (.iload_n 3, 1) := by decide +kernel
theorem dX9_offerTwo_103 : decode cX9_offerTwo 103 = .ok (.iadd, 1) := by decide +kernel
theorem dX9_offerTwo_104 : decode cX9_offerTwo 104 = .ok (.iaload, 1) := by decide +kernel
theorem dX9_offerTwo_105 : decode cX9_offerTwo 105 = .ok (.iload_n 1, 1) := by decide +kernel
theorem dX9_offerTwo_106 : decode cX9_offerTwo 106 = .ok (.invokevirtual 203, 3) := by decide +kernel
theorem dX9_offerTwo_109 : decode cX9_offerTwo 109 = .ok (.iinc 4 1, 3) := by decide +kernel
theorem dX9_offerTwo_112 : decode cX9_offerTwo 112 = .ok (.goto (-62), 3) := by decide +kernel
theorem dX9_offerTwo_115 : decode cX9_offerTwo 115 = .ok (.iinc 3 1, 3) := by decide +kernel
theorem dX9_offerTwo_118 : decode cX9_offerTwo 118 = .ok (.goto (-116), 3) := by decide +kernel
theorem dX9_offerTwo_121 : decode cX9_offerTwo 121 = .ok (.return_, 1) := by decide +kernel
theorem dX9_findWords_0 : decode cX9_findWords 0 = .ok (.iconst 0, 1) := by decide +kernel
theorem dX9_findWords_1 : decode cX9_findWords 1 = .ok (.istore_n 1, 1) := by decide +kernel
theorem dX9_findWords_2 : decode cX9_findWords 2 = .ok (.iload_n 1, 1) := by decide +kernel
theorem dX9_findWords_3 : decode cX9_findWords 3 = .ok (.aload_n 0, 1) := by decide +kernel
theorem dX9_findWords_4 : decode cX9_findWords 4 = .ok (.getfield 173, 3) := by decide +kernel
theorem dX9_findWords_7 : decode cX9_findWords 7 = .ok (.if_icmp .ge 16, 3) := by decide +kernel
theorem dX9_findWords_10 : decode cX9_findWords 10 = .ok (.aload_n 0, 1) := by decide +kernel
theorem dX9_findWords_11 : decode cX9_findWords 11 = .ok (.getfield 76, 3) := by decide +kernel
theorem dX9_findWords_14 : decode cX9_findWords 14 = .ok (.iload_n 1, 1) := by decide +kernel
theorem dX9_findWords_15 : decode cX9_findWords 15 = .ok (.iconst 0, 1) := by decide +kernel
theorem dX9_findWords_16 : decode cX9_findWords 16 = .ok (.iastore, 1) := by decide +kernel
theorem dX9_findWords_17 : decode cX9_findWords 17 = .ok (.iinc 1 1, 3) := by decide +kernel
theorem dX9_findWords_20 : decode cX9_findWords 20 = .ok (.goto (-18), 3) := by decide +kernel
theorem dX9_findWords_23 : decode cX9_findWords 23 = .ok (.iconst 0, 1) := by decide +kernel
theorem dX9_findWords_24 : decode cX9_findWords 24 = .ok (.istore_n 1, 1) := by decide +kernel
theorem dX9_findWords_25 : decode cX9_findWords 25 = .ok (.iload_n 1, 1) := by decide +kernel
theorem dX9_findWords_26 : decode cX9_findWords 26 = .ok (.iconst 4, 1) := by decide +kernel
theorem dX9_findWords_27 : decode cX9_findWords 27 = .ok (.if_icmp .ge 27, 3) := by decide +kernel
theorem dX9_findWords_30 : decode cX9_findWords 30 = .ok (.aload_n 0, 1) := by decide +kernel
theorem dX9_findWords_31 : decode cX9_findWords 31 = .ok (.getfield 82, 3) := by decide +kernel
theorem dX9_findWords_34 : decode cX9_findWords 34 = .ok (.iconst 0, 1) := by decide +kernel
theorem dX9_findWords_35 : decode cX9_findWords 35 = .ok (.iload_n 1, 1) := by decide +kernel
theorem dX9_findWords_36 : decode cX9_findWords 36 = .ok (.iastore, 1) := by decide +kernel
theorem dX9_findWords_37 : decode cX9_findWords 37 = .ok (.aload_n 0, 1) := by decide +kernel
theorem dX9_findWords_38 : decode cX9_findWords 38 = .ok (.aload_n 0, 1) := by decide +kernel
theorem dX9_findWords_39 : decode cX9_findWords 39 = .ok (.getfield 61, 3) := by decide +kernel
theorem dX9_findWords_42 : decode cX9_findWords 42 = .ok (.iload_n 1, 1) := by decide +kernel
theorem dX9_findWords_43 : decode cX9_findWords 43 = .ok (.iaload, 1) := by decide +kernel
theorem dX9_findWords_44 : decode cX9_findWords 44 = .ok (.iconst 1, 1) := by decide +kernel
theorem dX9_findWords_45 : decode cX9_findWords 45 = .ok (.invokevirtual 203, 3) := by decide +kernel
theorem dX9_findWords_48 : decode cX9_findWords 48 = .ok (.iinc 1 1, 3) := by decide +kernel
theorem dX9_findWords_51 : decode cX9_findWords 51 = .ok (.goto (-26), 3) := by decide +kernel
theorem dX9_findWords_54 : decode cX9_findWords 54 = .ok (.iconst 2, 1) := by decide +kernel
theorem dX9_findWords_55 : decode cX9_findWords 55 = .ok (.istore_n 1, 1) := by decide +kernel
theorem dX9_findWords_56 : decode cX9_findWords 56 = .ok (.iload_n 1, 1) := by decide +kernel
theorem dX9_findWords_57 : decode cX9_findWords 57 = .ok (.bipush 31, 2) := by decide +kernel
theorem dX9_findWords_59 : decode cX9_findWords 59 = .ok (.if_icmp .gt 87, 3) := by decide +kernel
theorem dX9_findWords_62 : decode cX9_findWords 62 = .ok (.iconst 0, 1) := by decide +kernel
theorem dX9_findWords_63 : decode cX9_findWords 63 = .ok (.istore_n 2, 1) := by decide +kernel
theorem dX9_findWords_64 : decode cX9_findWords 64 = .ok (.iload_n 2, 1) := by decide +kernel
theorem dX9_findWords_65 : decode cX9_findWords 65 = .ok (.aload_n 0, 1) := by decide +kernel
theorem dX9_findWords_66 : decode cX9_findWords 66 = .ok (.getfield 173, 3) := by decide +kernel
theorem dX9_findWords_69 : decode cX9_findWords 69 = .ok (.if_icmp .ge 71, 3) := by decide +kernel
theorem dX9_findWords_72 : decode cX9_findWords 72 = .ok (.aload_n 0, 1) := by decide +kernel
theorem dX9_findWords_73 : decode cX9_findWords 73 = .ok (.getfield 76, 3) := by decide +kernel
theorem dX9_findWords_76 : decode cX9_findWords 76 = .ok (.iload_n 2, 1) := by decide +kernel
theorem dX9_findWords_77 : decode cX9_findWords 77 = .ok (.iaload, 1) := by decide +kernel
theorem dX9_findWords_78 : decode cX9_findWords 78 = .ok (.iload_n 1, 1) := by decide +kernel
theorem dX9_findWords_79 : decode cX9_findWords 79 = .ok (.iconst 1, 1) := by decide +kernel
theorem dX9_findWords_80 : decode cX9_findWords 80 = .ok (.isub, 1) := by decide +kernel
theorem dX9_findWords_81 : decode cX9_findWords 81 = .ok (.if_icmp .ne 47, 3) := by decide +kernel
theorem dX9_findWords_84 : decode cX9_findWords 84 = .ok (.iconst 0, 1) := by decide +kernel
theorem dX9_findWords_85 : decode cX9_findWords 85 = .ok (.istore_n 3, 1) := by decide +kernel
theorem dX9_findWords_86 : decode cX9_findWords 86 = .ok (.iload_n 3, 1) := by decide +kernel
theorem dX9_findWords_87 : decode cX9_findWords 87 = .ok (.iconst 2, 1) := by decide +kernel
theorem dX9_findWords_88 : decode cX9_findWords 88 = .ok (.if_icmp .ge 40, 3) := by decide +kernel
theorem dX9_findWords_91 : decode cX9_findWords 91 = .ok (.aload_n 0, 1) := by decide +kernel
theorem dX9_findWords_92 : decode cX9_findWords 92 = .ok (.getfield 82, 3) := by decide +kernel
theorem dX9_findWords_95 : decode cX9_findWords 95 = .ok (.iconst 0, 1) := by decide +kernel
theorem dX9_findWords_96 : decode cX9_findWords 96 = .ok (.iconst 4, 1) := by decide +kernel
theorem dX9_findWords_97 : decode cX9_findWords 97 = .ok (.iload_n 3, 1) := by decide +kernel
theorem dX9_findWords_98 : decode cX9_findWords 98 = .ok (.iadd, 1) := by decide +kernel
theorem dX9_findWords_99 : decode cX9_findWords 99 = .ok (.iastore, 1) := by decide +kernel
theorem dX9_findWords_100 : decode cX9_findWords 100 = .ok (.aload_n 0, 1) := by decide +kernel
theorem dX9_findWords_101 : decode cX9_findWords 101 = .ok (.iconst 1, 1) := by decide +kernel
theorem dX9_findWords_102 : decode cX9_findWords 102 = .ok (.iload_n 2, 1) := by decide +kernel
theorem dX9_findWords_103 : decode cX9_findWords 103 = .ok (.invokevirtual 200, 3) := by decide +kernel
theorem dX9_findWords_106 : decode cX9_findWords 106 = .ok (.aload_n 0, 1) := by decide +kernel
theorem dX9_findWords_107 : decode cX9_findWords 107 = .ok (.aload_n 0, 1) := by decide +kernel
theorem dX9_findWords_108 : decode cX9_findWords 108 = .ok (.getfield 64, 3) := by decide +kernel
theorem dX9_findWords_111 : decode cX9_findWords 111 = .ok (.bipush 120, 2) := by decide +kernel
theorem dX9_findWords_113 : decode cX9_findWords 113 = .ok (.iload_n 3, 1) := by decide +kernel
theorem dX9_findWords_114 : decode cX9_findWords 114 = .ok (.imul, 1) := by decide +kernel
theorem dX9_findWords_115 : decode cX9_findWords 115 = .ok (.iload_n 2, 1) := by decide +kernel
theorem dX9_findWords_116 : decode cX9_findWords 116 = .ok (.iadd, 1) := by decide +kernel
theorem dX9_findWords_117 : decode cX9_findWords 117 = .ok (.iaload, 1) := by decide +kernel
theorem dX9_findWords_118 : decode cX9_findWords 118 = .ok (.iload_n 1, 1) := by decide +kernel
theorem dX9_findWords_119 : decode cX9_findWords 119 = .ok (.invokevirtual 203, 3) := by decide +kernel
theorem dX9_findWords_122 : decode cX9_findWords 122 = .ok (.iinc 3 1, 3) := by decide +kernel
theorem dX9_findWords_125 : decode cX9_findWords 125 = .ok (.goto (-39), 3) := by decide +kernel
theorem dX9_findWords_128 : decode cX9_findWords 128 = .ok (.aload_n 0, 1) := by decide +kernel
theorem dX9_findWords_129 : decode cX9_findWords 129 = .ok (.iload_n 1, 1) := by decide +kernel
theorem dX9_findWords_130 : decode cX9_findWords 130 = .ok (.iload_n 2, 1) := by decide +kernel
theorem dX9_findWords_131 : decode cX9_findWords 131 = .ok (.invokevirtual 206, 3) := by decide +kernel
theorem dX9_findWords_134 : decode cX9_findWords 134 = .ok (.iinc 2 1, 3) := by decide +kernel
theorem dX9_findWords_137 : decode cX9_findWords 137 = .ok (.goto (-73), 3) := by decide +kernel
theorem dX9_findWords_140 : decode cX9_findWords 140 = .ok (.iinc 1 1, 3) := by decide +kernel
theorem dX9_findWords_143 : decode cX9_findWords 143 = .ok (.goto (-87), 3) := by decide +kernel
theorem dX9_findWords_146 : decode cX9_findWords 146 = .ok (.return_, 1) := by decide +kernel
theorem dX9_isWanted_0 : decode cX9_isWanted 0 = .ok (.iload_n 2, 1) := by decide +kernel
theorem dX9_isWanted_1 : decode cX9_isWanted 1 = .ok (.ifCond .eq 24, 3) := by decide +kernel
theorem dX9_isWanted_4 : decode cX9_isWanted 4 = .ok (.aload_n 0, 1) := by decide +kernel
theorem dX9_isWanted_5 : decode cX9_isWanted 5 = .ok (.iload_n 1, 1) := by decide +kernel
theorem dX9_isWanted_6 : decode cX9_isWanted 6 = .ok (.invokevirtual 194, 3) := by decide +kernel
theorem dX9_isWanted_9 : decode cX9_isWanted 9 = .ok (.aload_n 0, 1) := by decide +kernel
theorem dX9_isWanted_10 : decode cX9_isWanted 10 = .ok (.iload_n 1, 1) := by decide +kernel
theorem dX9_isWanted_11 : decode cX9_isWanted 11 = .ok (.invokevirtual 209, 3) := by decide +kernel
theorem dX9_isWanted_14 : decode cX9_isWanted 14 = .ok (.if_icmp .eq 7, 3) := by decide +kernel
theorem dX9_isWanted_17 : decode cX9_isWanted 17 = .ok (.iconst 1, 1) := by decide +kernel
theorem dX9_isWanted_18 : decode cX9_isWanted 18 = .ok (.goto 12, 3) := by decide +kernel
theorem dX9_isWanted_21 : decode cX9_isWanted 21 = .ok (.iconst 0, 1) := by decide +kernel
theorem dX9_isWanted_22 : decode cX9_isWanted 22 = .ok (.goto 8, 3) := by decide +kernel
theorem dX9_isWanted_25 : decode cX9_isWanted 25 = .ok (.aload_n 0, 1) := by decide +kernel
theorem dX9_isWanted_26 : decode cX9_isWanted 26 = .ok (.iload_n 1, 1) := by decide +kernel
theorem dX9_isWanted_27 : decode cX9_isWanted 27 = .ok (.invokevirtual 194, 3) := by decide +kernel
theorem dX9_isWanted_30 : decode cX9_isWanted 30 = .ok (.ireturn, 1) := by decide +kernel
theorem dX9_leastOf_0 : decode cX9_leastOf 0 = .ok (.aload_n 0, 1) := by decide +kernel
theorem dX9_leastOf_1 : decode cX9_leastOf 1 = .ok (.invokevirtual 212, 3) := by decide +kernel
theorem dX9_leastOf_4 : decode cX9_leastOf 4 = .ok (.bipush (-9), 2) := by decide +kernel
theorem dX9_leastOf_6 : decode cX9_leastOf 6 = .ok (.istore_n 2, 1) := by decide +kernel
theorem dX9_leastOf_7 : decode cX9_leastOf 7 = .ok (.iconst 0, 1) := by decide +kernel
theorem dX9_leastOf_8 : decode cX9_leastOf 8 = .ok (.istore_n 3, 1) := by decide +kernel
theorem dX9_leastOf_9 : decode cX9_leastOf 9 = .ok (.iload_n 3, 1) := by decide +kernel
theorem dX9_leastOf_10 : decode cX9_leastOf 10 = .ok (.aload_n 0, 1) := by decide +kernel
theorem dX9_leastOf_11 : decode cX9_leastOf 11 = .ok (.getfield 173, 3) := by decide +kernel
theorem dX9_leastOf_14 : decode cX9_leastOf 14 = .ok (.if_icmp .ge 44, 3) := by decide +kernel
theorem dX9_leastOf_17 : decode cX9_leastOf 17 = .ok (.aload_n 0, 1) := by decide +kernel
theorem dX9_leastOf_18 : decode cX9_leastOf 18 = .ok (.getfield 76, 3) := by decide +kernel
theorem dX9_leastOf_21 : decode cX9_leastOf 21 = .ok (.iload_n 3, 1) := by decide +kernel
theorem dX9_leastOf_22 : decode cX9_leastOf 22 = .ok (.iaload, 1) := by decide +kernel
theorem dX9_leastOf_23 : decode cX9_leastOf 23 = .ok (.ifCond .le 29, 3) := by decide +kernel
theorem dX9_leastOf_26 : decode cX9_leastOf 26 = .ok (.aload_n 0, 1) := by decide +kernel
theorem dX9_leastOf_27 : decode cX9_leastOf 27 = .ok (.iload_n 3, 1) := by decide +kernel
theorem dX9_leastOf_28 : decode cX9_leastOf 28 = .ok (.iload_n 1, 1) := by decide +kernel
theorem dX9_leastOf_29 : decode cX9_leastOf 29 = .ok (.invokevirtual 215, 3) := by decide +kernel
theorem dX9_leastOf_32 : decode cX9_leastOf 32 = .ok (.ifCond .eq 20, 3) := by decide +kernel
theorem dX9_leastOf_35 : decode cX9_leastOf 35 = .ok (.iload_n 2, 1) := by decide +kernel
theorem dX9_leastOf_36 : decode cX9_leastOf 36 = .ok (.bipush (-9), 2) := by decide +kernel
theorem dX9_leastOf_38 : decode cX9_leastOf 38 = .ok (.if_icmp .eq 12, 3) := by decide +kernel
theorem dX9_leastOf_41 : decode cX9_leastOf 41 = .ok (.aload_n 0, 1) := by decide +kernel
theorem dX9_leastOf_42 : decode cX9_leastOf 42 = .ok (.iload_n 3, 1) := by decide +kernel
theorem dX9_leastOf_43 : decode cX9_leastOf 43 = .ok (.iload_n 2, 1) := by decide +kernel
theorem dX9_leastOf_44 : decode cX9_leastOf 44 = .ok (.invokevirtual 219, 3) := by decide +kernel
theorem dX9_leastOf_47 : decode cX9_leastOf 47 = .ok (.ifCond .eq 5, 3) := by decide +kernel
theorem dX9_leastOf_50 : decode cX9_leastOf 50 = .ok (.iload_n 3, 1) := by decide +kernel
theorem dX9_leastOf_51 : decode cX9_leastOf 51 = .ok (.istore_n 2, 1) := by decide +kernel
theorem dX9_leastOf_52 : decode cX9_leastOf 52 = .ok (.iinc 3 1, 3) := by decide +kernel
theorem dX9_leastOf_55 : decode cX9_leastOf 55 = .ok (.goto (-46), 3) := by decide +kernel
theorem dX9_leastOf_58 : decode cX9_leastOf 58 = .ok (.iload_n 2, 1) := by decide +kernel
theorem dX9_leastOf_59 : decode cX9_leastOf 59 = .ok (.ireturn, 1) := by decide +kernel
theorem dX9_isLess_0 : decode cX9_isLess 0 = .ok (.aload_n 0, 1) := by decide +kernel
theorem dX9_isLess_1 : decode cX9_isLess 1 = .ok (.getfield 76, 3) := by decide +kernel
theorem dX9_isLess_4 : decode cX9_isLess 4 = .ok (.iload_n 1, 1) := by decide +kernel
theorem dX9_isLess_5 : decode cX9_isLess 5 = .ok (.iaload, 1) := by decide +kernel
theorem dX9_isLess_6 : decode cX9_isLess 6 = .ok (.aload_n 0, 1) := by decide +kernel
theorem dX9_isLess_7 : decode cX9_isLess 7 = .ok (.getfield 76, 3) := by decide +kernel
theorem dX9_isLess_10 : decode cX9_isLess 10 = .ok (.iload_n 2, 1) := by decide +kernel
theorem dX9_isLess_11 : decode cX9_isLess 11 = .ok (.iaload, 1) := by decide +kernel
theorem dX9_isLess_12 : decode cX9_isLess 12 = .ok (.if_icmp .eq 24, 3) := by decide +kernel
theorem dX9_isLess_15 : decode cX9_isLess 15 = .ok (.aload_n 0, 1) := by decide +kernel
theorem dX9_isLess_16 : decode cX9_isLess 16 = .ok (.getfield 76, 3) := by decide +kernel
theorem dX9_isLess_19 : decode cX9_isLess 19 = .ok (.iload_n 1, 1) := by decide +kernel
theorem dX9_isLess_20 : decode cX9_isLess 20 = .ok (.iaload, 1) := by decide +kernel
theorem dX9_isLess_21 : decode cX9_isLess 21 = .ok (.aload_n 0, 1) := by decide +kernel
theorem dX9_isLess_22 : decode cX9_isLess 22 = .ok (.getfield 76, 3) := by decide +kernel
theorem dX9_isLess_25 : decode cX9_isLess 25 = .ok (.iload_n 2, 1) := by decide +kernel
theorem dX9_isLess_26 : decode cX9_isLess 26 = .ok (.iaload, 1) := by decide +kernel
theorem dX9_isLess_27 : decode cX9_isLess 27 = .ok (.if_icmp .ge 7, 3) := by decide +kernel
theorem dX9_isLess_30 : decode cX9_isLess 30 = .ok (.iconst 1, 1) := by decide +kernel
theorem dX9_isLess_31 : decode cX9_isLess 31 = .ok (.goto 4, 3) := by decide +kernel
theorem dX9_isLess_34 : decode cX9_isLess 34 = .ok (.iconst 0, 1) := by decide +kernel
theorem dX9_isLess_35 : decode cX9_isLess 35 = .ok (.ireturn, 1) := by decide +kernel
theorem dX9_isLess_36 : decode cX9_isLess 36 = .ok (.iconst 0, 1) := by decide +kernel
theorem dX9_isLess_37 : decode cX9_isLess 37 = .ok (.istore_n 3, 1) := by decide +kernel
theorem dX9_isLess_38 : decode cX9_isLess 38 = .ok (.iload_n 3, 1) := by decide +kernel
theorem dX9_isLess_39 : decode cX9_isLess 39 = .ok (.aload_n 0, 1) := by decide +kernel
theorem dX9_isLess_40 : decode cX9_isLess 40 = .ok (.getfield 76, 3) := by decide +kernel
theorem dX9_isLess_43 : decode cX9_isLess 43 = .ok (.iload_n 1, 1) := by decide +kernel
theorem dX9_isLess_44 : decode cX9_isLess 44 = .ok (.iaload, 1) := by decide +kernel
theorem dX9_isLess_45 : decode cX9_isLess 45 = .ok (.if_icmp .ge 50, 3) := by decide +kernel
theorem dX9_isLess_48 : decode cX9_isLess 48 = .ok (.aload_n 0, 1) := by decide +kernel
theorem dX9_isLess_49 : decode cX9_isLess 49 = .ok (.getfield 79, 3) := by decide +kernel
theorem dX9_isLess_52 : decode cX9_isLess 52 = .ok (.bipush 31, 2) := by decide +kernel
theorem dX9_isLess_54 : decode cX9_isLess 54 = .ok (.iload_n 1, 1) := by decide +kernel
theorem dX9_isLess_55 : decode cX9_isLess 55 = .ok (.imul, 1) := by decide +kernel
theorem dX9_isLess_56 : decode cX9_isLess 56 = .ok (.iload_n 3, 1) := by decide +kernel
theorem dX9_isLess_57 : decode cX9_isLess 57 = .ok (.iadd, 1) := by decide +kernel
theorem dX9_isLess_58 : decode cX9_isLess 58 = .ok (.iaload, 1) := by decide +kernel
theorem dX9_isLess_59 : decode cX9_isLess 59 = .ok (.aload_n 0, 1) := by decide +kernel
theorem dX9_isLess_60 : decode cX9_isLess 60 = .ok (.getfield 79, 3) := by decide +kernel
theorem dX9_isLess_63 : decode cX9_isLess 63 = .ok (.bipush 31, 2) := by decide +kernel
theorem dX9_isLess_65 : decode cX9_isLess 65 = .ok (.iload_n 2, 1) := by decide +kernel
theorem dX9_isLess_66 : decode cX9_isLess 66 = .ok (.imul, 1) := by decide +kernel
theorem dX9_isLess_67 : decode cX9_isLess 67 = .ok (.iload_n 3, 1) := by decide +kernel
theorem dX9_isLess_68 : decode cX9_isLess 68 = .ok (.iadd, 1) := by decide +kernel
theorem dX9_isLess_69 : decode cX9_isLess 69 = .ok (.iaload, 1) := by decide +kernel
theorem dX9_isLess_70 : decode cX9_isLess 70 = .ok (.isub, 1) := by decide +kernel
theorem dX9_isLess_71 : decode cX9_isLess 71 = .ok (.istore 4, 2) := by decide +kernel
theorem dX9_isLess_73 : decode cX9_isLess 73 = .ok (.iload 4, 2) := by decide +kernel
theorem dX9_isLess_75 : decode cX9_isLess 75 = .ok (.ifCond .eq 14, 3) := by decide +kernel
theorem dX9_isLess_78 : decode cX9_isLess 78 = .ok (.iload 4, 2) := by decide +kernel
theorem dX9_isLess_80 : decode cX9_isLess 80 = .ok (.ifCond .ge 7, 3) := by decide +kernel
theorem dX9_isLess_83 : decode cX9_isLess 83 = .ok (.iconst 1, 1) := by decide +kernel
theorem dX9_isLess_84 : decode cX9_isLess 84 = .ok (.goto 4, 3) := by decide +kernel
theorem dX9_isLess_87 : decode cX9_isLess 87 = .ok (.iconst 0, 1) := by decide +kernel
theorem dX9_isLess_88 : decode cX9_isLess 88 = .ok (.ireturn, 1) := by decide +kernel
theorem dX9_isLess_89 : decode cX9_isLess 89 = .ok (.iinc 3 1, 3) := by decide +kernel
theorem dX9_isLess_92 : decode cX9_isLess 92 = .ok (.goto (-54), 3) := by decide +kernel
theorem dX9_isLess_95 : decode cX9_isLess 95 = .ok (.iconst 0, 1) := by decide +kernel
theorem dX9_isLess_96 : decode cX9_isLess 96 = .ok (.ireturn, 1) := by decide +kernel
theorem dX9_toldOf_0 : decode cX9_toldOf 0 = .ok (.iload_n 1, 1) := by decide +kernel
theorem dX9_toldOf_1 : decode cX9_toldOf 1 = .ok (.bipush (-9), 2) := by decide +kernel
theorem dX9_toldOf_3 : decode cX9_toldOf 3 = .ok (.if_icmp .ne 8, 3) := by decide +kernel
theorem dX9_toldOf_6 : decode cX9_toldOf 6 = .ok (.bipush (-9), 2) := by decide +kernel
theorem dX9_toldOf_8 : decode cX9_toldOf 8 = .ok (.goto 42, 3) := by decide +kernel
theorem dX9_toldOf_11 : decode cX9_toldOf 11 = .ok (.iload_n 2, 1) := by decide +kernel
theorem dX9_toldOf_12 : decode cX9_toldOf 12 = .ok (.ifCond .ge 12, 3) := by decide +kernel
theorem dX9_toldOf_15 : decode cX9_toldOf 15 = .ok (.aload_n 0, 1) := by decide +kernel
theorem dX9_toldOf_16 : decode cX9_toldOf 16 = .ok (.getfield 76, 3) := by decide +kernel
theorem dX9_toldOf_19 : decode cX9_toldOf 19 = .ok (.iload_n 1, 1) := by decide +kernel
theorem dX9_toldOf_20 : decode cX9_toldOf 20 = .ok (.iaload, 1) := by decide +kernel
theorem dX9_toldOf_21 : decode cX9_toldOf 21 = .ok (.goto 29, 3) := by decide +kernel
theorem dX9_toldOf_24 : decode cX9_toldOf 24 = .ok (.iload_n 2, 1) := by decide +kernel
theorem dX9_toldOf_25 : decode cX9_toldOf 25 = .ok (.aload_n 0, 1) := by decide +kernel
theorem dX9_toldOf_26 : decode cX9_toldOf 26 = .ok (.getfield 76, 3) := by decide +kernel
theorem dX9_toldOf_29 : decode cX9_toldOf 29 = .ok (.iload_n 1, 1) := by decide +kernel
theorem dX9_toldOf_30 : decode cX9_toldOf 30 = .ok (.iaload, 1) := by decide +kernel
theorem dX9_toldOf_31 : decode cX9_toldOf 31 = .ok (.if_icmp .ge 17, 3) := by decide +kernel
theorem dX9_toldOf_34 : decode cX9_toldOf 34 = .ok (.aload_n 0, 1) := by decide +kernel
theorem dX9_toldOf_35 : decode cX9_toldOf 35 = .ok (.getfield 79, 3) := by decide +kernel
theorem dX9_toldOf_38 : decode cX9_toldOf 38 = .ok (.bipush 31, 2) := by decide +kernel
theorem dX9_toldOf_40 : decode cX9_toldOf 40 = .ok (.iload_n 1, 1) := by decide +kernel
theorem dX9_toldOf_41 : decode cX9_toldOf 41 = .ok (.imul, 1) := by decide +kernel
theorem dX9_toldOf_42 : decode cX9_toldOf 42 = .ok (.iload_n 2, 1) := by decide +kernel
theorem dX9_toldOf_43 : decode cX9_toldOf 43 = .ok (.iadd, 1) := by decide +kernel
theorem dX9_toldOf_44 : decode cX9_toldOf 44 = .ok (.iaload, 1) := by decide +kernel
theorem dX9_toldOf_45 : decode cX9_toldOf 45 = .ok (.goto 5, 3) := by decide +kernel
theorem dX9_toldOf_48 : decode cX9_toldOf 48 = .ok (.bipush (-5), 2) := by decide +kernel
theorem dX9_toldOf_50 : decode cX9_toldOf 50 = .ok (.ireturn, 1) := by decide +kernel
theorem dX9_least_0 : decode cX9_least 0 = .ok (.iload_n 1, 1) := by decide +kernel
theorem dX9_least_1 : decode cX9_least 1 = .ok (.iconst (-1), 1) := by decide +kernel
theorem dX9_least_2 : decode cX9_least 2 = .ok (.if_icmp .ge 5, 3) := by decide +kernel
theorem dX9_least_5 : decode cX9_least 5 = .ok (.iconst (-1), 1) := by decide +kernel
theorem dX9_least_6 : decode cX9_least 6 = .ok (.ireturn, 1) := by decide +kernel
theorem dX9_least_7 : decode cX9_least 7 = .ok (.aload_n 0, 1) := by decide +kernel
theorem dX9_least_8 : decode cX9_least 8 = .ok (.invokevirtual 191, 3) := by decide +kernel
theorem dX9_least_11 : decode cX9_least 11 = .ok (.aload_n 0, 1) := by decide +kernel
theorem dX9_least_12 : decode cX9_least 12 = .ok (.aload_n 0, 1) := by decide +kernel
theorem dX9_least_13 : decode cX9_least 13 = .ok (.iconst 0, 1) := by decide +kernel
theorem dX9_least_14 : decode cX9_least 14 = .ok (.invokevirtual 222, 3) := by decide +kernel
theorem dX9_least_17 : decode cX9_least 17 = .ok (.iload_n 1, 1) := by decide +kernel
theorem dX9_least_18 : decode cX9_least 18 = .ok (.invokevirtual 225, 3) := by decide +kernel
theorem dX9_least_21 : decode cX9_least 21 = .ok (.ireturn, 1) := by decide +kernel
theorem dX9_findTrees_0 : decode cX9_findTrees 0 = .ok (.iconst 0, 1) := by decide +kernel
theorem dX9_findTrees_1 : decode cX9_findTrees 1 = .ok (.istore_n 2, 1) := by decide +kernel
theorem dX9_findTrees_2 : decode cX9_findTrees 2 = .ok (.iload_n 2, 1) := by decide +kernel
theorem dX9_findTrees_3 : decode cX9_findTrees 3 = .ok (.sipush 1920, 3) := by decide +kernel
theorem dX9_findTrees_6 : decode cX9_findTrees 6 = .ok (.if_icmp .ge 16, 3) := by decide +kernel
theorem dX9_findTrees_9 : decode cX9_findTrees 9 = .ok (.aload_n 0, 1) := by decide +kernel
theorem dX9_findTrees_10 : decode cX9_findTrees 10 = .ok (.getfield 85, 3) := by decide +kernel
theorem dX9_findTrees_13 : decode cX9_findTrees 13 = .ok (.iload_n 2, 1) := by decide +kernel
theorem dX9_findTrees_14 : decode cX9_findTrees 14 = .ok (.lconst 0, 1) := by decide +kernel
theorem dX9_findTrees_15 : decode cX9_findTrees 15 = .ok (.lastore, 1) := by decide +kernel
theorem dX9_findTrees_16 : decode cX9_findTrees 16 = .ok (.iinc 2 1, 3) := by decide +kernel
theorem dX9_findTrees_19 : decode cX9_findTrees 19 = .ok (.goto (-17), 3) := by decide +kernel
theorem dX9_findTrees_22 : decode cX9_findTrees 22 = .ok (.iconst 0, 1) := by decide +kernel
theorem dX9_findTrees_23 : decode cX9_findTrees 23 = .ok (.istore_n 2, 1) := by decide +kernel
theorem dX9_findTrees_24 : decode cX9_findTrees 24 = .ok (.iload_n 2, 1) := by decide +kernel
theorem dX9_findTrees_25 : decode cX9_findTrees 25 = .ok (.iconst 4, 1) := by decide +kernel
theorem dX9_findTrees_26 : decode cX9_findTrees 26 = .ok (.if_icmp .ge 27, 3) := by decide +kernel
theorem dX9_findTrees_29 : decode cX9_findTrees 29 = .ok (.aload_n 0, 1) := by decide +kernel
theorem dX9_findTrees_30 : decode cX9_findTrees 30 = .ok (.getfield 85, 3) := by decide +kernel
theorem dX9_findTrees_33 : decode cX9_findTrees 33 = .ok (.bipush 120, 2) := by decide +kernel
theorem dX9_findTrees_35 : decode cX9_findTrees 35 = .ok (.aload_n 0, 1) := by decide +kernel
theorem dX9_findTrees_36 : decode cX9_findTrees 36 = .ok (.getfield 61, 3) := by decide +kernel
theorem dX9_findTrees_39 : decode cX9_findTrees 39 = .ok (.iload_n 2, 1) := by decide +kernel
theorem dX9_findTrees_40 : decode cX9_findTrees 40 = .ok (.iaload, 1) := by decide +kernel
theorem dX9_findTrees_41 : decode cX9_findTrees 41 = .ok (.iadd, 1) := by decide +kernel
theorem dX9_findTrees_42 : decode cX9_findTrees 42 = .ok (.dup2, 1) := by decide +kernel
theorem dX9_findTrees_43 : decode cX9_findTrees 43 = .ok (.laload, 1) := by decide +kernel
theorem dX9_findTrees_44 : decode cX9_findTrees 44 = .ok (.lconst 1, 1) := by decide +kernel
theorem dX9_findTrees_45 : decode cX9_findTrees 45 = .ok (.ladd, 1) := by decide +kernel
theorem dX9_findTrees_46 : decode cX9_findTrees 46 = .ok (.lastore, 1) := by decide +kernel
theorem dX9_findTrees_47 : decode cX9_findTrees 47 = .ok (.iinc 2 1, 3) := by decide +kernel
theorem dX9_findTrees_50 : decode cX9_findTrees 50 = .ok (.goto (-26), 3) := by decide +kernel
theorem dX9_findTrees_53 : decode cX9_findTrees 53 = .ok (.iconst 2, 1) := by decide +kernel
theorem dX9_findTrees_54 : decode cX9_findTrees 54 = .ok (.istore_n 2, 1) := by decide +kernel
theorem dX9_findTrees_55 : decode cX9_findTrees 55 = .ok (.iload_n 2, 1) := by decide +kernel
theorem dX9_findTrees_56 : decode cX9_findTrees 56 = .ok (.iload_n 1, 1) := by decide +kernel
theorem dX9_findTrees_57 : decode cX9_findTrees 57 = .ok (.if_icmp .gt 105, 3) := by decide +kernel
theorem dX9_findTrees_60 : decode cX9_findTrees 60 = .ok (.iconst 0, 1) := by decide +kernel
theorem dX9_findTrees_61 : decode cX9_findTrees 61 = .ok (.istore_n 3, 1) := by decide +kernel
theorem dX9_findTrees_62 : decode cX9_findTrees 62 = .ok (.iload_n 3, 1) := by decide +kernel
theorem dX9_findTrees_63 : decode cX9_findTrees 63 = .ok (.aload_n 0, 1) := by decide +kernel
theorem dX9_findTrees_64 : decode cX9_findTrees 64 = .ok (.getfield 173, 3) := by decide +kernel
theorem dX9_findTrees_67 : decode cX9_findTrees 67 = .ok (.if_icmp .ge 89, 3) := by decide +kernel
theorem dX9_findTrees_70 : decode cX9_findTrees 70 = .ok (.iconst 0, 1) := by decide +kernel
theorem dX9_findTrees_71 : decode cX9_findTrees 71 = .ok (.istore 4, 2) := by decide +kernel
theorem dX9_findTrees_73 : decode cX9_findTrees 73 = .ok (.iload 4, 2) := by decide +kernel
theorem dX9_findTrees_75 : decode cX9_findTrees 75 = .ok (.iconst 2, 1) := by decide +kernel
theorem dX9_findTrees_76 : decode cX9_findTrees 76 = .ok (.if_icmp .ge 74, 3) := by decide +kernel
theorem dX9_findTrees_79 : decode cX9_findTrees 79 = .ok (.aload_n 0, 1) := by decide +kernel
theorem dX9_findTrees_80 : decode cX9_findTrees 80 = .ok (.getfield 85, 3) := by decide +kernel
theorem dX9_findTrees_83 : decode cX9_findTrees 83 = .ok (.bipush 120, 2) := by decide +kernel
theorem dX9_findTrees_85 : decode cX9_findTrees 85 = .ok (.iload_n 2, 1) := by decide +kernel
theorem dX9_findTrees_86 : decode cX9_findTrees 86 = .ok (.imul, 1) := by decide +kernel
theorem dX9_findTrees_87 : decode cX9_findTrees 87 = .ok (.aload_n 0, 1) := by decide +kernel
theorem dX9_findTrees_88 : decode cX9_findTrees 88 = .ok (.getfield 64, 3) := by decide +kernel
theorem dX9_findTrees_91 : decode cX9_findTrees 91 = .ok (.bipush 120, 2) := by decide +kernel
theorem dX9_findTrees_93 : decode cX9_findTrees 93 = .ok (.iload 4, 2) := by decide +kernel
theorem dX9_findTrees_95 : decode cX9_findTrees 95 = .ok (.imul, 1) := by decide +kernel
theorem dX9_findTrees_96 : decode cX9_findTrees 96 = .ok (.iload_n 3, 1) := by decide +kernel
theorem dX9_findTrees_97 : decode cX9_findTrees 97 = .ok (.iadd, 1) := by decide +kernel
theorem dX9_findTrees_98 : decode cX9_findTrees 98 = .ok (.iaload, 1) := by decide +kernel
theorem dX9_findTrees_99 : decode cX9_findTrees 99 = .ok (.iadd, 1) := by decide +kernel
theorem dX9_findTrees_100 : decode cX9_findTrees 100 = .ok (.dup2, 1) := by decide +kernel
theorem dX9_findTrees_101 : decode cX9_findTrees 101 = .ok (.laload, 1) := by decide +kernel
theorem dX9_findTrees_102 : decode cX9_findTrees 102 = .ok (.aload_n 0, 1) := by decide +kernel
theorem dX9_findTrees_103 : decode cX9_findTrees 103 = .ok (.getfield 85, 3) := by decide +kernel
theorem dX9_findTrees_106 : decode cX9_findTrees 106 = .ok (.bipush 120, 2) := by decide +kernel
theorem dX9_findTrees_108 : decode cX9_findTrees 108 = .ok (.iload_n 2, 1) := by decide +kernel
theorem dX9_findTrees_109 : decode cX9_findTrees 109 = .ok (.iconst 1, 1) := by decide +kernel
theorem dX9_findTrees_110 : decode cX9_findTrees 110 = .ok (.isub, 1) := by decide +kernel
theorem dX9_findTrees_111 : decode cX9_findTrees 111 = .ok (.imul, 1) := by decide +kernel
theorem dX9_findTrees_112 : decode cX9_findTrees 112 = .ok (.iload_n 3, 1) := by decide +kernel
theorem dX9_findTrees_113 : decode cX9_findTrees 113 = .ok (.iadd, 1) := by decide +kernel
theorem dX9_findTrees_114 : decode cX9_findTrees 114 = .ok (.laload, 1) := by decide +kernel
theorem dX9_findTrees_115 : decode cX9_findTrees 115 = .ok (.ladd, 1) := by decide +kernel
theorem dX9_findTrees_116 : decode cX9_findTrees 116 = .ok (.lastore, 1) := by decide +kernel
theorem dX9_findTrees_117 : decode cX9_findTrees 117 = .ok (.iconst 1, 1) := by decide +kernel
theorem dX9_findTrees_118 : decode cX9_findTrees 118 = .ok (.istore 5, 2) := by decide +kernel
theorem dX9_findTrees_120 : decode cX9_findTrees 120 = .ok (.iload 5, 2) := by decide +kernel
theorem dX9_findTrees_122 : decode cX9_findTrees 122 = .ok (.iload_n 2, 1) := by decide +kernel
theorem dX9_findTrees_123 : decode cX9_findTrees 123 = .ok (.iconst 1, 1) := by decide +kernel
theorem dX9_findTrees_124 : decode cX9_findTrees 124 = .ok (.isub, 1) := by decide +kernel
theorem dX9_findTrees_125 : decode cX9_findTrees 125 = .ok (.if_icmp .ge 19, 3) := by decide +kernel
theorem dX9_findTrees_128 : decode cX9_findTrees 128 = .ok (.aload_n 0, 1) := by decide +kernel
theorem dX9_findTrees_129 : decode cX9_findTrees 129 = .ok (.iload_n 2, 1) := by decide +kernel
theorem dX9_findTrees_130 : decode cX9_findTrees 130 = .ok (.iload 5, 2) := by decide +kernel
theorem dX9_findTrees_132 : decode cX9_findTrees 132 = .ok (.iload_n 3, 1) := by decide +kernel
theorem dX9_findTrees_133 : decode cX9_findTrees 133 = .ok (.iload 4, 2) := by decide +kernel
theorem dX9_findTrees_135 : decode cX9_findTrees 135 = .ok (.invokevirtual 229, 3) := by decide +kernel
theorem dX9_findTrees_138 : decode cX9_findTrees 138 = .ok (.iinc 5 1, 3) := by decide +kernel
theorem dX9_findTrees_141 : decode cX9_findTrees 141 = .ok (.goto (-21), 3) := by decide +kernel
theorem dX9_findTrees_144 : decode cX9_findTrees 144 = .ok (.iinc 4 1, 3) := by decide +kernel
theorem dX9_findTrees_147 : decode cX9_findTrees 147 = .ok (.goto (-74), 3) := by decide +kernel
theorem dX9_findTrees_150 : decode cX9_findTrees 150 = .ok (.iinc 3 1, 3) := by decide +kernel
theorem dX9_findTrees_153 : decode cX9_findTrees 153 = .ok (.goto (-91), 3) := by decide +kernel
theorem dX9_findTrees_156 : decode cX9_findTrees 156 = .ok (.iinc 2 1, 3) := by decide +kernel
theorem dX9_findTrees_159 : decode cX9_findTrees 159 = .ok (.goto (-104), 3) := by decide +kernel
theorem dX9_findTrees_162 : decode cX9_findTrees 162 = .ok (.return_, 1) := by decide +kernel
theorem dX9_addTwo_0 : decode cX9_addTwo 0 = .ok (.aload_n 0, 1) := by decide +kernel
theorem dX9_addTwo_1 : decode cX9_addTwo 1 = .ok (.getfield 85, 3) := by decide +kernel
theorem dX9_addTwo_4 : decode cX9_addTwo 4 = .ok (.bipush 120, 2) := by decide +kernel
theorem dX9_addTwo_6 : decode cX9_addTwo 6 = .ok (.iload_n 2, 1) := by decide +kernel
theorem dX9_addTwo_7 : decode cX9_addTwo 7 = .ok (.imul, 1) := by decide +kernel
theorem dX9_addTwo_8 : decode cX9_addTwo 8 = .ok (.iload_n 3, 1) := by decide +kernel
theorem dX9_addTwo_9 : decode cX9_addTwo 9 = .ok (.iadd, 1) := by decide +kernel
theorem dX9_addTwo_10 : decode cX9_addTwo 10 = .ok (.laload, 1) := by decide +kernel
theorem dX9_addTwo_11 : decode cX9_addTwo 11 = .ok (.lstore 5, 2) := by decide +kernel
theorem dX9_addTwo_13 : decode cX9_addTwo 13 = .ok (.iconst 0, 1) := by decide +kernel
theorem dX9_addTwo_14 : decode cX9_addTwo 14 = .ok (.istore 7, 2) := by decide +kernel
theorem dX9_addTwo_16 : decode cX9_addTwo 16 = .ok (.iload 7, 2) := by decide +kernel
theorem dX9_addTwo_18 : decode cX9_addTwo 18 = .ok (.aload_n 0, 1) := by decide +kernel
theorem dX9_addTwo_19 : decode cX9_addTwo 19 = .ok (.getfield 173, 3) := by decide +kernel
theorem dX9_addTwo_22 : decode cX9_addTwo 22 = .ok (.if_icmp .ge 67, 3) := by decide +kernel
theorem dX9_addTwo_25 : decode cX9_addTwo 25 = .ok (.lload 5, 2) := by decide +kernel
theorem dX9_addTwo_27 : decode cX9_addTwo 27 = .ok (.lconst 0, 1) := by decide +kernel
theorem dX9_addTwo_28 : decode cX9_addTwo 28 = .ok (.lcmp, 1) := by decide +kernel
theorem dX9_addTwo_29 : decode cX9_addTwo 29 = .ok (.ifCond .le 60, 3) := by decide +kernel
theorem dX9_addTwo_32 : decode cX9_addTwo 32 = .ok (.aload_n 0, 1) := by decide +kernel
theorem dX9_addTwo_33 : decode cX9_addTwo 33 = .ok (.getfield 85, 3) := by decide +kernel
theorem dX9_addTwo_36 : decode cX9_addTwo 36 = .ok (.bipush 120, 2) := by decide +kernel
theorem dX9_addTwo_38 : decode cX9_addTwo 38 = .ok (.iload_n 1, 1) := by decide +kernel
theorem dX9_addTwo_39 : decode cX9_addTwo 39 = .ok (.imul, 1) := by decide +kernel
theorem dX9_addTwo_40 : decode cX9_addTwo 40 = .ok (.aload_n 0, 1) := by decide +kernel
theorem dX9_addTwo_41 : decode cX9_addTwo 41 = .ok (.getfield 67, 3) := by decide +kernel
theorem dX9_addTwo_44 : decode cX9_addTwo 44 = .ok (.sipush 14400, 3) := by decide +kernel
theorem dX9_addTwo_47 : decode cX9_addTwo 47 = .ok (.iload 4, 2) := by decide +kernel
theorem dX9_addTwo_49 : decode cX9_addTwo 49 = .ok (.imul, 1) := by decide +kernel
theorem dX9_addTwo_50 : decode cX9_addTwo 50 = .ok (.bipush 120, 2) := by decide +kernel
theorem dX9_addTwo_52 : decode cX9_addTwo 52 = .ok (.iload_n 3, 1) := by decide +kernel
theorem dX9_addTwo_53 : decode cX9_addTwo 53 = .ok (.imul, 1) := by decide +kernel
theorem dX9_addTwo_54 : decode cX9_addTwo 54 = .ok (.iadd, 1) := by decide +kernel
theorem dX9_addTwo_55 : decode cX9_addTwo 55 = .ok (.iload 7, 2) := by decide +kernel
theorem dX9_addTwo_57 : decode cX9_addTwo 57 = .ok (.iadd, 1) := by decide +kernel
theorem dX9_addTwo_58 : decode cX9_addTwo 58 = .ok (.iaload, 1) := by decide +kernel
theorem dX9_addTwo_59 : decode cX9_addTwo 59 = .ok (.iadd, 1) := by decide +kernel
theorem dX9_addTwo_60 : decode cX9_addTwo 60 = .ok (.dup2, 1) := by decide +kernel
theorem dX9_addTwo_61 : decode cX9_addTwo 61 = .ok (.laload, 1) := by decide +kernel
theorem dX9_addTwo_62 : decode cX9_addTwo 62 = .ok (.lload 5, 2) := by decide +kernel
theorem dX9_addTwo_64 : decode cX9_addTwo 64 = .ok (.aload_n 0, 1) := by decide +kernel
theorem dX9_addTwo_65 : decode cX9_addTwo 65 = .ok (.getfield 85, 3) := by decide +kernel
theorem dX9_addTwo_68 : decode cX9_addTwo 68 = .ok (.bipush 120, 2) := by decide +kernel
theorem dX9_addTwo_70 : decode cX9_addTwo 70 = .ok (.iload_n 1, 1) := by decide +kernel
theorem dX9_addTwo_71 : decode cX9_addTwo 71 = .ok (.iconst 1, 1) := by decide +kernel
theorem dX9_addTwo_72 : decode cX9_addTwo 72 = .ok (.isub, 1) := by decide +kernel
theorem dX9_addTwo_73 : decode cX9_addTwo 73 = .ok (.iload_n 2, 1) := by decide +kernel
theorem dX9_addTwo_74 : decode cX9_addTwo 74 = .ok (.isub, 1) := by decide +kernel
theorem dX9_addTwo_75 : decode cX9_addTwo 75 = .ok (.imul, 1) := by decide +kernel
theorem dX9_addTwo_76 : decode cX9_addTwo 76 = .ok (.iload 7, 2) := by decide +kernel
theorem dX9_addTwo_78 : decode cX9_addTwo 78 = .ok (.iadd, 1) := by decide +kernel
theorem dX9_addTwo_79 : decode cX9_addTwo 79 = .ok (.laload, 1) := by decide +kernel
theorem dX9_addTwo_80 : decode cX9_addTwo 80 = .ok (.lmul, 1) := by decide +kernel
theorem dX9_addTwo_81 : decode cX9_addTwo 81 = .ok (.ladd, 1) := by decide +kernel
theorem dX9_addTwo_82 : decode cX9_addTwo 82 = .ok (.lastore, 1) := by decide +kernel
theorem dX9_addTwo_83 : decode cX9_addTwo 83 = .ok (.iinc 7 1, 3) := by decide +kernel
theorem dX9_addTwo_86 : decode cX9_addTwo 86 = .ok (.goto (-70), 3) := by decide +kernel
theorem dX9_addTwo_89 : decode cX9_addTwo 89 = .ok (.return_, 1) := by decide +kernel
theorem dX9_manyOf_0 : decode cX9_manyOf 0 = .ok (.aload_n 0, 1) := by decide +kernel
theorem dX9_manyOf_1 : decode cX9_manyOf 1 = .ok (.iload_n 1, 1) := by decide +kernel
theorem dX9_manyOf_2 : decode cX9_manyOf 2 = .ok (.invokevirtual 233, 3) := by decide +kernel
theorem dX9_manyOf_5 : decode cX9_manyOf 5 = .ok (.lconst 0, 1) := by decide +kernel
theorem dX9_manyOf_6 : decode cX9_manyOf 6 = .ok (.lstore_n 3, 1) := by decide +kernel
theorem dX9_manyOf_7 : decode cX9_manyOf 7 = .ok (.iconst 0, 1) := by decide +kernel
theorem dX9_manyOf_8 : decode cX9_manyOf 8 = .ok (.istore 5, 2) := by decide +kernel
theorem dX9_manyOf_10 : decode cX9_manyOf 10 = .ok (.iload 5, 2) := by decide +kernel
theorem dX9_manyOf_12 : decode cX9_manyOf 12 = .ok (.aload_n 0, 1) := by decide +kernel
theorem dX9_manyOf_13 : decode cX9_manyOf 13 = .ok (.getfield 173, 3) := by decide +kernel
theorem dX9_manyOf_16 : decode cX9_manyOf 16 = .ok (.if_icmp .ge 50, 3) := by decide +kernel
theorem dX9_manyOf_19 : decode cX9_manyOf 19 = .ok (.lload_n 3, 1) := by decide +kernel
theorem dX9_manyOf_20 : decode cX9_manyOf 20 = .ok (.aload_n 0, 1) := by decide +kernel
theorem dX9_manyOf_21 : decode cX9_manyOf 21 = .ok (.iload 5, 2) := by decide +kernel
theorem dX9_manyOf_23 : decode cX9_manyOf 23 = .ok (.invokevirtual 194, 3) := by decide +kernel
theorem dX9_manyOf_26 : decode cX9_manyOf 26 = .ok (.ifCond .eq 31, 3) := by decide +kernel
theorem dX9_manyOf_29 : decode cX9_manyOf 29 = .ok (.iload_n 2, 1) := by decide +kernel
theorem dX9_manyOf_30 : decode cX9_manyOf 30 = .ok (.ifCond .eq 12, 3) := by decide +kernel
theorem dX9_manyOf_33 : decode cX9_manyOf 33 = .ok (.aload_n 0, 1) := by decide +kernel
theorem dX9_manyOf_34 : decode cX9_manyOf 34 = .ok (.iload 5, 2) := by decide +kernel
theorem dX9_manyOf_36 : decode cX9_manyOf 36 = .ok (.invokevirtual 209, 3) := by decide +kernel
theorem dX9_manyOf_39 : decode cX9_manyOf 39 = .ok (.ifCond .eq 18, 3) := by decide +kernel
theorem dX9_manyOf_42 : decode cX9_manyOf 42 = .ok (.aload_n 0, 1) := by decide +kernel
theorem dX9_manyOf_43 : decode cX9_manyOf 43 = .ok (.getfield 85, 3) := by decide +kernel
theorem dX9_manyOf_46 : decode cX9_manyOf 46 = .ok (.bipush 120, 2) := by decide +kernel
theorem dX9_manyOf_48 : decode cX9_manyOf 48 = .ok (.iload_n 1, 1) := by decide +kernel
theorem dX9_manyOf_49 : decode cX9_manyOf 49 = .ok (.imul, 1) := by decide +kernel
theorem dX9_manyOf_50 : decode cX9_manyOf 50 = .ok (.iload 5, 2) := by decide +kernel
theorem dX9_manyOf_52 : decode cX9_manyOf 52 = .ok (.iadd, 1) := by decide +kernel
theorem dX9_manyOf_53 : decode cX9_manyOf 53 = .ok (.laload, 1) := by decide +kernel
theorem dX9_manyOf_54 : decode cX9_manyOf 54 = .ok (.goto 4, 3) := by decide +kernel
theorem dX9_manyOf_57 : decode cX9_manyOf 57 = .ok (.lconst 0, 1) := by decide +kernel
theorem dX9_manyOf_58 : decode cX9_manyOf 58 = .ok (.ladd, 1) := by decide +kernel
theorem dX9_manyOf_59 : decode cX9_manyOf 59 = .ok (.lstore_n 3, 1) := by decide +kernel
theorem dX9_manyOf_60 : decode cX9_manyOf 60 = .ok (.iinc 5 1, 3) := by decide +kernel
theorem dX9_manyOf_63 : decode cX9_manyOf 63 = .ok (.goto (-53), 3) := by decide +kernel
theorem dX9_manyOf_66 : decode cX9_manyOf 66 = .ok (.lload_n 3, 1) := by decide +kernel
theorem dX9_manyOf_67 : decode cX9_manyOf 67 = .ok (.lreturn, 1) := by decide +kernel
theorem dX9_many_0 : decode cX9_many 0 = .ok (.iload_n 1, 1) := by decide +kernel
theorem dX9_many_1 : decode cX9_many 1 = .ok (.iconst 1, 1) := by decide +kernel
theorem dX9_many_2 : decode cX9_many 2 = .ok (.bipush 15, 2) := by decide +kernel
theorem dX9_many_4 : decode cX9_many 4 = .ok (.invokestatic 88, 3) := by decide +kernel
theorem dX9_many_7 : decode cX9_many 7 = .ok (.ifCond .ne 7, 3) := by decide +kernel
theorem dX9_many_10 : decode cX9_many 10 = .ok (.ldc2_w 237, 3) := by decide +kernel
