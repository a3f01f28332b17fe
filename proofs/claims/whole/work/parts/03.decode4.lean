theorem dX9_next_57 : decode cX9_next 57 = .ok (.invokestatic 88, 3) := by decide +kernel
theorem dX9_next_60 : decode cX9_next 60 = .ok (.ifCond .eq 120, 3) := by decide +kernel
theorem dX9_next_63 : decode cX9_next 63 = .ok (.iconst 0, 1) := by decide +kernel
theorem dX9_next_64 : decode cX9_next 64 = .ok (.istore_n 2, 1) := by decide +kernel
theorem dX9_next_65 : decode cX9_next 65 = .ok (.aload_n 0, 1) := by decide +kernel
theorem dX9_next_66 : decode cX9_next 66 = .ok (.invokevirtual 101, 3) := by decide +kernel
theorem dX9_next_69 : decode cX9_next 69 = .ok (.bipush 97, 2) := by decide +kernel
theorem dX9_next_71 : decode cX9_next 71 = .ok (.bipush 122, 2) := by decide +kernel
theorem dX9_next_73 : decode cX9_next 73 = .ok (.invokestatic 88, 3) := by decide +kernel
theorem dX9_next_76 : decode cX9_next 76 = .ok (.ifCond .eq 46, 3) := by decide +kernel
theorem dX9_next_79 : decode cX9_next 79 = .ok (.aload_n 0, 1) := by decide +kernel
theorem dX9_next_80 : decode cX9_next 80 = .ok (.getfield 98, 3) := by decide +kernel
theorem dX9_next_83 : decode cX9_next 83 = .ok (.aload_n 0, 1) := by decide +kernel
theorem dX9_next_84 : decode cX9_next 84 = .ok (.getfield 105, 3) := by decide +kernel
theorem dX9_next_87 : decode cX9_next 87 = .ok (.isub, 1) := by decide +kernel
theorem dX9_next_88 : decode cX9_next 88 = .ok (.iconst 4, 1) := by decide +kernel
theorem dX9_next_89 : decode cX9_next 89 = .ok (.if_icmp .ge 18, 3) := by decide +kernel
theorem dX9_next_92 : decode cX9_next 92 = .ok (.bipush 27, 2) := by decide +kernel
theorem dX9_next_94 : decode cX9_next 94 = .ok (.iload_n 2, 1) := by decide +kernel
theorem dX9_next_95 : decode cX9_next 95 = .ok (.imul, 1) := by decide +kernel
theorem dX9_next_96 : decode cX9_next 96 = .ok (.aload_n 0, 1) := by decide +kernel
theorem dX9_next_97 : decode cX9_next 97 = .ok (.invokevirtual 101, 3) := by decide +kernel
theorem dX9_next_100 : decode cX9_next 100 = .ok (.iadd, 1) := by decide +kernel
theorem dX9_next_101 : decode cX9_next 101 = .ok (.bipush 96, 2) := by decide +kernel
theorem dX9_next_103 : decode cX9_next 103 = .ok (.isub, 1) := by decide +kernel
theorem dX9_next_104 : decode cX9_next 104 = .ok (.goto 4, 3) := by decide +kernel
theorem dX9_next_107 : decode cX9_next 107 = .ok (.iconst 0, 1) := by decide +kernel
theorem dX9_next_108 : decode cX9_next 108 = .ok (.istore_n 2, 1) := by decide +kernel
theorem dX9_next_109 : decode cX9_next 109 = .ok (.aload_n 0, 1) := by decide +kernel
theorem dX9_next_110 : decode cX9_next 110 = .ok (.dup, 1) := by decide +kernel
theorem dX9_next_111 : decode cX9_next 111 = .ok (.getfield 98, 3) := by decide +kernel
theorem dX9_next_114 : decode cX9_next 114 = .ok (.iconst 1, 1) := by decide +kernel
theorem dX9_next_115 : decode cX9_next 115 = .ok (.iadd, 1) := by decide +kernel
theorem dX9_next_116 : decode cX9_next 116 = .ok (.putfield 98, 3) := by decide +kernel
theorem dX9_next_119 : decode cX9_next 119 = .ok (.goto (-54), 3) := by decide +kernel
theorem dX9_next_122 : decode cX9_next 122 = .ok (.aload_n 0, 1) := by decide +kernel
theorem dX9_next_123 : decode cX9_next 123 = .ok (.getfield 98, 3) := by decide +kernel
theorem dX9_next_126 : decode cX9_next 126 = .ok (.aload_n 0, 1) := by decide +kernel
theorem dX9_next_127 : decode cX9_next 127 = .ok (.getfield 105, 3) := by decide +kernel
theorem dX9_next_130 : decode cX9_next 130 = .ok (.isub, 1) := by decide +kernel
theorem dX9_next_131 : decode cX9_next 131 = .ok (.iconst 4, 1) := by decide +kernel
theorem dX9_next_132 : decode cX9_next 132 = .ok (.if_icmp .le 7, 3) := by decide +kernel
theorem dX9_next_135 : decode cX9_next 135 = .ok (.iconst 0, 1) := by decide +kernel
theorem dX9_next_136 : decode cX9_next 136 = .ok (.goto 4, 3) := by decide +kernel
theorem dX9_next_139 : decode cX9_next 139 = .ok (.iload_n 2, 1) := by decide +kernel
theorem dX9_next_140 : decode cX9_next 140 = .ok (.istore_n 2, 1) := by decide +kernel
theorem dX9_next_141 : decode cX9_next 141 = .ok (.aload_n 0, 1) := by decide +kernel
theorem dX9_next_142 : decode cX9_next 142 = .ok (.iload_n 2, 1) := by decide +kernel
theorem dX9_next_143 : decode cX9_next 143 = .ok (.ldc 114, 2) := by decide +kernel
theorem dX9_next_145 : decode cX9_next 145 = .ok (.if_icmp .ne 7, 3) := by decide +kernel
theorem dX9_next_148 : decode cX9_next 148 = .ok (.iconst 1, 1) := by decide +kernel
theorem dX9_next_149 : decode cX9_next 149 = .ok (.goto 18, 3) := by decide +kernel
theorem dX9_next_152 : decode cX9_next 152 = .ok (.iload_n 2, 1) := by decide +kernel
theorem dX9_next_153 : decode cX9_next 153 = .ok (.iconst 1, 1) := by decide +kernel
theorem dX9_next_154 : decode cX9_next 154 = .ok (.bipush 8, 2) := by decide +kernel
theorem dX9_next_156 : decode cX9_next 156 = .ok (.invokestatic 88, 3) := by decide +kernel
theorem dX9_next_159 : decode cX9_next 159 = .ok (.ifCond .eq 7, 3) := by decide +kernel
theorem dX9_next_162 : decode cX9_next 162 = .ok (.iconst 0, 1) := by decide +kernel
theorem dX9_next_163 : decode cX9_next 163 = .ok (.goto 4, 3) := by decide +kernel
theorem dX9_next_166 : decode cX9_next 166 = .ok (.iconst 5, 1) := by decide +kernel
theorem dX9_next_167 : decode cX9_next 167 = .ok (.putfield 111, 3) := by decide +kernel
theorem dX9_next_170 : decode cX9_next 170 = .ok (.aload_n 0, 1) := by decide +kernel
theorem dX9_next_171 : decode cX9_next 171 = .ok (.iload_n 2, 1) := by decide +kernel
theorem dX9_next_172 : decode cX9_next 172 = .ok (.iconst 1, 1) := by decide +kernel
theorem dX9_next_173 : decode cX9_next 173 = .ok (.isub, 1) := by decide +kernel
theorem dX9_next_174 : decode cX9_next 174 = .ok (.putfield 108, 3) := by decide +kernel
theorem dX9_next_177 : decode cX9_next 177 = .ok (.goto 141, 3) := by decide +kernel
theorem dX9_next_180 : decode cX9_next 180 = .ok (.iload_n 1, 1) := by decide +kernel
theorem dX9_next_181 : decode cX9_next 181 = .ok (.bipush 48, 2) := by decide +kernel
theorem dX9_next_183 : decode cX9_next 183 = .ok (.bipush 57, 2) := by decide +kernel
theorem dX9_next_185 : decode cX9_next 185 = .ok (.invokestatic 88, 3) := by decide +kernel
theorem dX9_next_188 : decode cX9_next 188 = .ok (.ifCond .eq 105, 3) := by decide +kernel
theorem dX9_next_191 : decode cX9_next 191 = .ok (.aload_n 0, 1) := by decide +kernel
theorem dX9_next_192 : decode cX9_next 192 = .ok (.invokevirtual 101, 3) := by decide +kernel
theorem dX9_next_195 : decode cX9_next 195 = .ok (.bipush 48, 2) := by decide +kernel
theorem dX9_next_197 : decode cX9_next 197 = .ok (.bipush 57, 2) := by decide +kernel
theorem dX9_next_199 : decode cX9_next 199 = .ok (.invokestatic 88, 3) := by decide +kernel
theorem dX9_next_202 : decode cX9_next 202 = .ok (.ifCond .eq 51, 3) := by decide +kernel
theorem dX9_next_205 : decode cX9_next 205 = .ok (.aload_n 0, 1) := by decide +kernel
theorem dX9_next_206 : decode cX9_next 206 = .ok (.aload_n 0, 1) := by decide +kernel
theorem dX9_next_207 : decode cX9_next 207 = .ok (.getfield 108, 3) := by decide +kernel
theorem dX9_next_210 : decode cX9_next 210 = .ok (.bipush 99, 2) := by decide +kernel
theorem dX9_next_212 : decode cX9_next 212 = .ok (.if_icmp .le 10, 3) := by decide +kernel
theorem dX9_next_215 : decode cX9_next 215 = .ok (.aload_n 0, 1) := by decide +kernel
theorem dX9_next_216 : decode cX9_next 216 = .ok (.getfield 108, 3) := by decide +kernel
theorem dX9_next_219 : decode cX9_next 219 = .ok (.goto 18, 3) := by decide +kernel
theorem dX9_next_222 : decode cX9_next 222 = .ok (.bipush 10, 2) := by decide +kernel
theorem dX9_next_224 : decode cX9_next 224 = .ok (.aload_n 0, 1) := by decide +kernel
theorem dX9_next_225 : decode cX9_next 225 = .ok (.getfield 108, 3) := by decide +kernel
theorem dX9_next_228 : decode cX9_next 228 = .ok (.imul, 1) := by decide +kernel
theorem dX9_next_229 : decode cX9_next 229 = .ok (.aload_n 0, 1) := by decide +kernel
theorem dX9_next_230 : decode cX9_next 230 = .ok (.invokevirtual 101, 3) := by decide +kernel
theorem dX9_next_233 : decode cX9_next 233 = .ok (.iadd, 1) := by decide +kernel
theorem dX9_next_234 : decode cX9_next 234 = .ok (.bipush 48, 2) := by decide +kernel
theorem dX9_next_236 : decode cX9_next 236 = .ok (.isub, 1) := by decide +kernel
theorem dX9_next_237 : decode cX9_next 237 = .ok (.putfield 108, 3) := by decide +kernel
theorem dX9_next_240 : decode cX9_next 240 = .ok (.aload_n 0, 1) := by decide +kernel
theorem dX9_next_241 : decode cX9_next 241 = .ok (.dup, 1) := by decide +kernel
theorem dX9_next_242 : decode cX9_next 242 = .ok (.getfield 98, 3) := by decide +kernel
theorem dX9_next_245 : decode cX9_next 245 = .ok (.iconst 1, 1) := by decide +kernel
theorem dX9_next_246 : decode cX9_next 246 = .ok (.iadd, 1) := by decide +kernel
theorem dX9_next_247 : decode cX9_next 247 = .ok (.putfield 98, 3) := by decide +kernel
theorem dX9_next_250 : decode cX9_next 250 = .ok (.goto (-59), 3) := by decide +kernel
theorem dX9_next_253 : decode cX9_next 253 = .ok (.aload_n 0, 1) := by decide +kernel
theorem dX9_next_254 : decode cX9_next 254 = .ok (.aload_n 0, 1) := by decide +kernel
theorem dX9_next_255 : decode cX9_next 255 = .ok (.getfield 108, 3) := by decide +kernel
theorem dX9_next_258 : decode cX9_next 258 = .ok (.bipush 99, 2) := by decide +kernel
theorem dX9_next_260 : decode cX9_next 260 = .ok (.if_icmp .gt 22, 3) := by decide +kernel
theorem dX9_next_263 : decode cX9_next 263 = .ok (.iload_n 1, 1) := by decide +kernel
theorem dX9_next_264 : decode cX9_next 264 = .ok (.bipush 48, 2) := by decide +kernel
theorem dX9_next_266 : decode cX9_next 266 = .ok (.if_icmp .ne 20, 3) := by decide +kernel
theorem dX9_next_269 : decode cX9_next 269 = .ok (.aload_n 0, 1) := by decide +kernel
theorem dX9_next_270 : decode cX9_next 270 = .ok (.getfield 98, 3) := by decide +kernel
theorem dX9_next_273 : decode cX9_next 273 = .ok (.aload_n 0, 1) := by decide +kernel
theorem dX9_next_274 : decode cX9_next 274 = .ok (.getfield 105, 3) := by decide +kernel
theorem dX9_next_277 : decode cX9_next 277 = .ok (.isub, 1) := by decide +kernel
theorem dX9_next_278 : decode cX9_next 278 = .ok (.iconst 1, 1) := by decide +kernel
theorem dX9_next_279 : decode cX9_next 279 = .ok (.if_icmp .le 7, 3) := by decide +kernel
theorem dX9_next_282 : decode cX9_next 282 = .ok (.iconst 5, 1) := by decide +kernel
theorem dX9_next_283 : decode cX9_next 283 = .ok (.goto 4, 3) := by decide +kernel
theorem dX9_next_286 : decode cX9_next 286 = .ok (.iconst 2, 1) := by decide +kernel
theorem dX9_next_287 : decode cX9_next 287 = .ok (.putfield 111, 3) := by decide +kernel
theorem dX9_next_290 : decode cX9_next 290 = .ok (.goto 28, 3) := by decide +kernel
theorem dX9_next_293 : decode cX9_next 293 = .ok (.aload_n 0, 1) := by decide +kernel
theorem dX9_next_294 : decode cX9_next 294 = .ok (.dup, 1) := by decide +kernel
theorem dX9_next_295 : decode cX9_next 295 = .ok (.getfield 98, 3) := by decide +kernel
theorem dX9_next_298 : decode cX9_next 298 = .ok (.iconst 1, 1) := by decide +kernel
theorem dX9_next_299 : decode cX9_next 299 = .ok (.iadd, 1) := by decide +kernel
theorem dX9_next_300 : decode cX9_next 300 = .ok (.putfield 98, 3) := by decide +kernel
theorem dX9_next_303 : decode cX9_next 303 = .ok (.aload_n 0, 1) := by decide +kernel
theorem dX9_next_304 : decode cX9_next 304 = .ok (.iload_n 1, 1) := by decide +kernel
theorem dX9_next_305 : decode cX9_next 305 = .ok (.bipush 59, 2) := by decide +kernel
theorem dX9_next_307 : decode cX9_next 307 = .ok (.if_icmp .ne 7, 3) := by decide +kernel
theorem dX9_next_310 : decode cX9_next 310 = .ok (.iconst 3, 1) := by decide +kernel
theorem dX9_next_311 : decode cX9_next 311 = .ok (.goto 4, 3) := by decide +kernel
theorem dX9_next_314 : decode cX9_next 314 = .ok (.iconst 5, 1) := by decide +kernel
theorem dX9_next_315 : decode cX9_next 315 = .ok (.putfield 111, 3) := by decide +kernel
theorem dX9_next_318 : decode cX9_next 318 = .ok (.return_, 1) := by decide +kernel
theorem dX9_due_0 : decode cX9_due 0 = .ok (.aload_n 0, 1) := by decide +kernel
theorem dX9_due_1 : decode cX9_due 1 = .ok (.getfield 108, 3) := by decide +kernel
theorem dX9_due_4 : decode cX9_due 4 = .ok (.istore_n 2, 1) := by decide +kernel
theorem dX9_due_5 : decode cX9_due 5 = .ok (.aload_n 0, 1) := by decide +kernel
theorem dX9_due_6 : decode cX9_due 6 = .ok (.getfield 115, 3) := by decide +kernel
theorem dX9_due_9 : decode cX9_due 9 = .ok (.bipush (-9), 2) := by decide +kernel
theorem dX9_due_11 : decode cX9_due 11 = .ok (.if_icmp .ne 22, 3) := by decide +kernel
theorem dX9_due_14 : decode cX9_due 14 = .ok (.iload_n 1, 1) := by decide +kernel
theorem dX9_due_15 : decode cX9_due 15 = .ok (.ifCond .eq 10, 3) := by decide +kernel
theorem dX9_due_18 : decode cX9_due 18 = .ok (.aload_n 0, 1) := by decide +kernel
theorem dX9_due_19 : decode cX9_due 19 = .ok (.invokevirtual 118, 3) := by decide +kernel
theorem dX9_due_22 : decode cX9_due 22 = .ok (.goto 11, 3) := by decide +kernel
theorem dX9_due_25 : decode cX9_due 25 = .ok (.aload_n 0, 1) := by decide +kernel
theorem dX9_due_26 : decode cX9_due 26 = .ok (.aload_n 0, 1) := by decide +kernel
theorem dX9_due_27 : decode cX9_due 27 = .ok (.getfield 105, 3) := by decide +kernel
theorem dX9_due_30 : decode cX9_due 30 = .ok (.putfield 115, 3) := by decide +kernel
theorem dX9_due_33 : decode cX9_due 33 = .ok (.iload_n 2, 1) := by decide +kernel
theorem dX9_due_34 : decode cX9_due 34 = .ok (.ireturn, 1) := by decide +kernel
theorem dX9_state_0 : decode cX9_state 0 = .ok (.aload_n 0, 1) := by decide +kernel
theorem dX9_state_1 : decode cX9_state 1 = .ok (.aload_n 0, 1) := by decide +kernel
theorem dX9_state_2 : decode cX9_state 2 = .ok (.getfield 111, 3) := by decide +kernel
theorem dX9_state_5 : decode cX9_state 5 = .ok (.iconst 2, 1) := by decide +kernel
theorem dX9_state_6 : decode cX9_state 6 = .ok (.if_icmp .ne 16, 3) := by decide +kernel
theorem dX9_state_9 : decode cX9_state 9 = .ok (.aload_n 0, 1) := by decide +kernel
theorem dX9_state_10 : decode cX9_state 10 = .ok (.getfield 108, 3) := by decide +kernel
theorem dX9_state_13 : decode cX9_state 13 = .ok (.bipush 6, 2) := by decide +kernel
theorem dX9_state_15 : decode cX9_state 15 = .ok (.if_icmp .ge 7, 3) := by decide +kernel
theorem dX9_state_18 : decode cX9_state 18 = .ok (.iconst 1, 1) := by decide +kernel
theorem dX9_state_19 : decode cX9_state 19 = .ok (.goto 4, 3) := by decide +kernel
theorem dX9_state_22 : decode cX9_state 22 = .ok (.iconst 0, 1) := by decide +kernel
theorem dX9_state_23 : decode cX9_state 23 = .ok (.invokevirtual 121, 3) := by decide +kernel
theorem dX9_state_26 : decode cX9_state 26 = .ok (.ireturn, 1) := by decide +kernel
theorem dX9_readItem_0 : decode cX9_readItem 0 = .ok (.aload_n 0, 1) := by decide +kernel
theorem dX9_readItem_1 : decode cX9_readItem 1 = .ok (.getfield 111, 3) := by decide +kernel
theorem dX9_readItem_4 : decode cX9_readItem 4 = .ok (.istore_n 1, 1) := by decide +kernel
theorem dX9_readItem_5 : decode cX9_readItem 5 = .ok (.aload_n 0, 1) := by decide +kernel
theorem dX9_readItem_6 : decode cX9_readItem 6 = .ok (.getfield 108, 3) := by decide +kernel
theorem dX9_readItem_9 : decode cX9_readItem 9 = .ok (.istore_n 2, 1) := by decide +kernel
theorem dX9_readItem_10 : decode cX9_readItem 10 = .ok (.aload_n 0, 1) := by decide +kernel
theorem dX9_readItem_11 : decode cX9_readItem 11 = .ok (.iload_n 1, 1) := by decide +kernel
theorem dX9_readItem_12 : decode cX9_readItem 12 = .ok (.iconst 1, 1) := by decide +kernel
theorem dX9_readItem_13 : decode cX9_readItem 13 = .ok (.if_icmp .eq 18, 3) := by decide +kernel
theorem dX9_readItem_16 : decode cX9_readItem 16 = .ok (.iload_n 1, 1) := by decide +kernel
theorem dX9_readItem_17 : decode cX9_readItem 17 = .ok (.ifCond .ne 18, 3) := by decide +kernel
theorem dX9_readItem_20 : decode cX9_readItem 20 = .ok (.aload_n 0, 1) := by decide +kernel
theorem dX9_readItem_21 : decode cX9_readItem 21 = .ok (.getfield 13, 3) := by decide +kernel
theorem dX9_readItem_24 : decode cX9_readItem 24 = .ok (.iconst 1, 1) := by decide +kernel
theorem dX9_readItem_25 : decode cX9_readItem 25 = .ok (.iaload, 1) := by decide +kernel
theorem dX9_readItem_26 : decode cX9_readItem 26 = .ok (.bipush 16, 2) := by decide +kernel
theorem dX9_readItem_28 : decode cX9_readItem 28 = .ok (.if_icmp .ge 7, 3) := by decide +kernel
theorem dX9_readItem_31 : decode cX9_readItem 31 = .ok (.iconst 1, 1) := by decide +kernel
theorem dX9_readItem_32 : decode cX9_readItem 32 = .ok (.goto 4, 3) := by decide +kernel
theorem dX9_readItem_35 : decode cX9_readItem 35 = .ok (.iconst 0, 1) := by decide +kernel
theorem dX9_readItem_36 : decode cX9_readItem 36 = .ok (.invokevirtual 121, 3) := by decide +kernel
theorem dX9_readItem_39 : decode cX9_readItem 39 = .ok (.pop, 1) := by decide +kernel
theorem dX9_readItem_40 : decode cX9_readItem 40 = .ok (.aload_n 0, 1) := by decide +kernel
theorem dX9_readItem_41 : decode cX9_readItem 41 = .ok (.getfield 115, 3) := by decide +kernel
theorem dX9_readItem_44 : decode cX9_readItem 44 = .ok (.bipush (-9), 2) := by decide +kernel
theorem dX9_readItem_46 : decode cX9_readItem 46 = .ok (.if_icmp .eq 4, 3) := by decide +kernel
theorem dX9_readItem_49 : decode cX9_readItem 49 = .ok (.return_, 1) := by decide +kernel
theorem dX9_readItem_50 : decode cX9_readItem 50 = .ok (.iload_n 1, 1) := by decide +kernel
theorem dX9_readItem_51 : decode cX9_readItem 51 = .ok (.ifCond .ne 88, 3) := by decide +kernel
theorem dX9_readItem_54 : decode cX9_readItem 54 = .ok (.bipush 16, 2) := by decide +kernel
theorem dX9_readItem_56 : decode cX9_readItem 56 = .ok (.aload_n 0, 1) := by decide +kernel
theorem dX9_readItem_57 : decode cX9_readItem 57 = .ok (.getfield 13, 3) := by decide +kernel
theorem dX9_readItem_60 : decode cX9_readItem 60 = .ok (.iconst 1, 1) := by decide +kernel
theorem dX9_readItem_61 : decode cX9_readItem 61 = .ok (.iaload, 1) := by decide +kernel
theorem dX9_readItem_62 : decode cX9_readItem 62 = .ok (.iadd, 1) := by decide +kernel
theorem dX9_readItem_63 : decode cX9_readItem 63 = .ok (.istore_n 3, 1) := by decide +kernel
theorem dX9_readItem_64 : decode cX9_readItem 64 = .ok (.aload_n 0, 1) := by decide +kernel
theorem dX9_readItem_65 : decode cX9_readItem 65 = .ok (.getfield 17, 3) := by decide +kernel
theorem dX9_readItem_68 : decode cX9_readItem 68 = .ok (.iload_n 3, 1) := by decide +kernel
theorem dX9_readItem_69 : decode cX9_readItem 69 = .ok (.iload_n 2, 1) := by decide +kernel
theorem dX9_readItem_70 : decode cX9_readItem 70 = .ok (.iastore, 1) := by decide +kernel
theorem dX9_readItem_71 : decode cX9_readItem 71 = .ok (.aload_n 0, 1) := by decide +kernel
theorem dX9_readItem_72 : decode cX9_readItem 72 = .ok (.getfield 20, 3) := by decide +kernel
theorem dX9_readItem_75 : decode cX9_readItem 75 = .ok (.iload_n 3, 1) := by decide +kernel
theorem dX9_readItem_76 : decode cX9_readItem 76 = .ok (.iload_n 2, 1) := by decide +kernel
theorem dX9_readItem_77 : decode cX9_readItem 77 = .ok (.invokestatic 125, 3) := by decide +kernel
theorem dX9_readItem_80 : decode cX9_readItem 80 = .ok (.ifCond .le 10, 3) := by decide +kernel
theorem dX9_readItem_83 : decode cX9_readItem 83 = .ok (.aload_n 0, 1) := by decide +kernel
theorem dX9_readItem_84 : decode cX9_readItem 84 = .ok (.invokevirtual 129, 3) := by decide +kernel
theorem dX9_readItem_87 : decode cX9_readItem 87 = .ok (.goto 5, 3) := by decide +kernel
theorem dX9_readItem_90 : decode cX9_readItem 90 = .ok (.bipush (-9), 2) := by decide +kernel
theorem dX9_readItem_92 : decode cX9_readItem 92 = .ok (.iastore, 1) := by decide +kernel
theorem dX9_readItem_93 : decode cX9_readItem 93 = .ok (.aload_n 0, 1) := by decide +kernel
theorem dX9_readItem_94 : decode cX9_readItem 94 = .ok (.getfield 23, 3) := by decide +kernel
theorem dX9_readItem_97 : decode cX9_readItem 97 = .ok (.iload_n 3, 1) := by decide +kernel
theorem dX9_readItem_98 : decode cX9_readItem 98 = .ok (.iload_n 2, 1) := by decide +kernel
theorem dX9_readItem_99 : decode cX9_readItem 99 = .ok (.invokestatic 125, 3) := by decide +kernel
theorem dX9_readItem_102 : decode cX9_readItem 102 = .ok (.iconst 1, 1) := by decide +kernel
theorem dX9_readItem_103 : decode cX9_readItem 103 = .ok (.if_icmp .le 10, 3) := by decide +kernel
theorem dX9_readItem_106 : decode cX9_readItem 106 = .ok (.aload_n 0, 1) := by decide +kernel
theorem dX9_readItem_107 : decode cX9_readItem 107 = .ok (.invokevirtual 129, 3) := by decide +kernel
theorem dX9_readItem_110 : decode cX9_readItem 110 = .ok (.goto 5, 3) := by decide +kernel
theorem dX9_readItem_113 : decode cX9_readItem 113 = .ok (.bipush (-9), 2) := by decide +kernel
theorem dX9_readItem_115 : decode cX9_readItem 115 = .ok (.iastore, 1) := by decide +kernel
theorem dX9_readItem_116 : decode cX9_readItem 116 = .ok (.aload_n 0, 1) := by decide +kernel
theorem dX9_readItem_117 : decode cX9_readItem 117 = .ok (.getfield 26, 3) := by decide +kernel
theorem dX9_readItem_120 : decode cX9_readItem 120 = .ok (.iload_n 3, 1) := by decide +kernel
theorem dX9_readItem_121 : decode cX9_readItem 121 = .ok (.aload_n 0, 1) := by decide +kernel
theorem dX9_readItem_122 : decode cX9_readItem 122 = .ok (.invokevirtual 129, 3) := by decide +kernel
theorem dX9_readItem_125 : decode cX9_readItem 125 = .ok (.iastore, 1) := by decide +kernel
theorem dX9_readItem_126 : decode cX9_readItem 126 = .ok (.aload_n 0, 1) := by decide +kernel
theorem dX9_readItem_127 : decode cX9_readItem 127 = .ok (.getfield 13, 3) := by decide +kernel
theorem dX9_readItem_130 : decode cX9_readItem 130 = .ok (.iconst 1, 1) := by decide +kernel
theorem dX9_readItem_131 : decode cX9_readItem 131 = .ok (.dup2, 1) := by decide +kernel
theorem dX9_readItem_132 : decode cX9_readItem 132 = .ok (.iaload, 1) := by decide +kernel
theorem dX9_readItem_133 : decode cX9_readItem 133 = .ok (.iconst 1, 1) := by decide +kernel
theorem dX9_readItem_134 : decode cX9_readItem 134 = .ok (.iadd, 1) := by decide +kernel
theorem dX9_readItem_135 : decode cX9_readItem 135 = .ok (.iastore, 1) := by decide +kernel
theorem dX9_readItem_136 : decode cX9_readItem 136 = .ok (.goto 83, 3) := by decide +kernel
theorem dX9_readItem_139 : decode cX9_readItem 139 = .ok (.aload_n 0, 1) := by decide +kernel
theorem dX9_readItem_140 : decode cX9_readItem 140 = .ok (.invokevirtual 129, 3) := by decide +kernel
theorem dX9_readItem_143 : decode cX9_readItem 143 = .ok (.istore_n 3, 1) := by decide +kernel
theorem dX9_readItem_144 : decode cX9_readItem 144 = .ok (.aload_n 0, 1) := by decide +kernel
theorem dX9_readItem_145 : decode cX9_readItem 145 = .ok (.dup, 1) := by decide +kernel
theorem dX9_readItem_146 : decode cX9_readItem 146 = .ok (.getfield 132, 3) := by decide +kernel
theorem dX9_readItem_149 : decode cX9_readItem 149 = .ok (.aload_n 0, 1) := by decide +kernel
theorem dX9_readItem_150 : decode cX9_readItem 150 = .ok (.getfield 115, 3) := by decide +kernel
theorem dX9_readItem_153 : decode cX9_readItem 153 = .ok (.bipush (-9), 2) := by decide +kernel
theorem dX9_readItem_155 : decode cX9_readItem 155 = .ok (.if_icmp .ne 9, 3) := by decide +kernel
theorem dX9_readItem_158 : decode cX9_readItem 158 = .ok (.iconst 1, 1) := by decide +kernel
theorem dX9_readItem_159 : decode cX9_readItem 159 = .ok (.iload_n 3, 1) := by decide +kernel
theorem dX9_readItem_160 : decode cX9_readItem 160 = .ok (.ishl, 1) := by decide +kernel
theorem dX9_readItem_161 : decode cX9_readItem 161 = .ok (.goto 4, 3) := by decide +kernel
theorem dX9_readItem_164 : decode cX9_readItem 164 = .ok (.iconst 0, 1) := by decide +kernel
theorem dX9_readItem_165 : decode cX9_readItem 165 = .ok (.ior, 1) := by decide +kernel
theorem dX9_readItem_166 : decode cX9_readItem 166 = .ok (.putfield 132, 3) := by decide +kernel
theorem dX9_readItem_169 : decode cX9_readItem 169 = .ok (.aload_n 0, 1) := by decide +kernel
theorem dX9_readItem_170 : decode cX9_readItem 170 = .ok (.getfield 115, 3) := by decide +kernel
theorem dX9_readItem_173 : decode cX9_readItem 173 = .ok (.bipush (-9), 2) := by decide +kernel
theorem dX9_readItem_175 : decode cX9_readItem 175 = .ok (.if_icmp .ne 44, 3) := by decide +kernel
theorem dX9_readItem_178 : decode cX9_readItem 178 = .ok (.aload_n 0, 1) := by decide +kernel
theorem dX9_readItem_179 : decode cX9_readItem 179 = .ok (.getfield 111, 3) := by decide +kernel
theorem dX9_readItem_182 : decode cX9_readItem 182 = .ok (.iconst 2, 1) := by decide +kernel
theorem dX9_readItem_183 : decode cX9_readItem 183 = .ok (.if_icmp .ne 36, 3) := by decide +kernel
theorem dX9_readItem_186 : decode cX9_readItem 186 = .ok (.aload_n 0, 1) := by decide +kernel
theorem dX9_readItem_187 : decode cX9_readItem 187 = .ok (.invokevirtual 129, 3) := by decide +kernel
theorem dX9_readItem_190 : decode cX9_readItem 190 = .ok (.istore_n 3, 1) := by decide +kernel
theorem dX9_readItem_191 : decode cX9_readItem 191 = .ok (.aload_n 0, 1) := by decide +kernel
theorem dX9_readItem_192 : decode cX9_readItem 192 = .ok (.dup, 1) := by decide +kernel
theorem dX9_readItem_193 : decode cX9_readItem 193 = .ok (.getfield 132, 3) := by decide +kernel
theorem dX9_readItem_196 : decode cX9_readItem 196 = .ok (.aload_n 0, 1) := by decide +kernel
theorem dX9_readItem_197 : decode cX9_readItem 197 = .ok (.getfield 115, 3) := by decide +kernel
theorem dX9_readItem_200 : decode cX9_readItem 200 = .ok (.bipush (-9), 2) := by decide +kernel
theorem dX9_readItem_202 : decode cX9_readItem 202 = .ok (.if_icmp .ne 9, 3) := by decide +kernel
theorem dX9_readItem_205 : decode cX9_readItem 205 = .ok (.iconst 1, 1) := by decide +kernel
theorem dX9_readItem_206 : decode cX9_readItem 206 = .ok (.iload_n 3, 1) := by decide +kernel
theorem dX9_readItem_207 : decode cX9_readItem 207 = .ok (.ishl, 1) := by decide +kernel
theorem dX9_readItem_208 : decode cX9_readItem 208 = .ok (.goto 4, 3) := by decide +kernel
theorem dX9_readItem_211 : decode cX9_readItem 211 = .ok (.iconst 0, 1) := by decide +kernel
theorem dX9_readItem_212 : decode cX9_readItem 212 = .ok (.ior, 1) := by decide +kernel
theorem dX9_readItem_213 : decode cX9_readItem 213 = .ok (.putfield 132, 3) := by decide +kernel
theorem dX9_readItem_216 : decode cX9_readItem 216 = .ok (.goto (-47), 3) := by decide +kernel
theorem dX9_readItem_219 : decode cX9_readItem 219 = .ok (.aload_n 0, 1) := by decide +kernel
theorem dX9_readItem_220 : decode cX9_readItem 220 = .ok (.aload_n 0, 1) := by decide +kernel
theorem dX9_readItem_221 : decode cX9_readItem 221 = .ok (.getfield 111, 3) := by decide +kernel
theorem dX9_readItem_224 : decode cX9_readItem 224 = .ok (.iconst 3, 1) := by decide +kernel
theorem dX9_readItem_225 : decode cX9_readItem 225 = .ok (.if_icmp .ne 7, 3) := by decide +kernel
theorem dX9_readItem_228 : decode cX9_readItem 228 = .ok (.iconst 1, 1) := by decide +kernel
theorem dX9_readItem_229 : decode cX9_readItem 229 = .ok (.goto 4, 3) := by decide +kernel
theorem dX9_readItem_232 : decode cX9_readItem 232 = .ok (.iconst 0, 1) := by decide +kernel
theorem dX9_readItem_233 : decode cX9_readItem 233 = .ok (.invokevirtual 121, 3) := by decide +kernel
theorem dX9_readItem_236 : decode cX9_readItem 236 = .ok (.pop, 1) := by decide +kernel
theorem dX9_readItem_237 : decode cX9_readItem 237 = .ok (.return_, 1) := by decide +kernel
theorem dX9_law_0 : decode cX9_law 0 = .ok (.aload_n 0, 1) := by decide +kernel
theorem dX9_law_1 : decode cX9_law 1 = .ok (.iconst 0, 1) := by decide +kernel
theorem dX9_law_2 : decode cX9_law 2 = .ok (.putfield 98, 3) := by decide +kernel
theorem dX9_law_5 : decode cX9_law 5 = .ok (.aload_n 0, 1) := by decide +kernel
theorem dX9_law_6 : decode cX9_law 6 = .ok (.bipush (-9), 2) := by decide +kernel
theorem dX9_law_8 : decode cX9_law 8 = .ok (.putfield 115, 3) := by decide +kernel
theorem dX9_law_11 : decode cX9_law 11 = .ok (.aload_n 0, 1) := by decide +kernel
theorem dX9_law_12 : decode cX9_law 12 = .ok (.getfield 13, 3) := by decide +kernel
theorem dX9_law_15 : decode cX9_law 15 = .ok (.iconst 1, 1) := by decide +kernel
theorem dX9_law_16 : decode cX9_law 16 = .ok (.iconst 0, 1) := by decide +kernel
theorem dX9_law_17 : decode cX9_law 17 = .ok (.iastore, 1) := by decide +kernel
theorem dX9_law_18 : decode cX9_law 18 = .ok (.aload_n 0, 1) := by decide +kernel
theorem dX9_law_19 : decode cX9_law 19 = .ok (.iconst 0, 1) := by decide +kernel
theorem dX9_law_20 : decode cX9_law 20 = .ok (.putfield 132, 3) := by decide +kernel
theorem dX9_law_23 : decode cX9_law 23 = .ok (.iconst 0, 1) := by decide +kernel
theorem dX9_law_24 : decode cX9_law 24 = .ok (.istore_n 1, 1) := by decide +kernel
theorem dX9_law_25 : decode cX9_law 25 = .ok (.aload_n 0, 1) := by decide +kernel
theorem dX9_law_26 : decode cX9_law 26 = .ok (.invokevirtual 118, 3) := by decide +kernel
theorem dX9_law_29 : decode cX9_law 29 = .ok (.aload_n 0, 1) := by decide +kernel
theorem dX9_law_30 : decode cX9_law 30 = .ok (.getfield 115, 3) := by decide +kernel
theorem dX9_law_33 : decode cX9_law 33 = .ok (.bipush (-9), 2) := by decide +kernel
theorem dX9_law_35 : decode cX9_law 35 = .ok (.if_icmp .ne 21, 3) := by decide +kernel
theorem dX9_law_38 : decode cX9_law 38 = .ok (.aload_n 0, 1) := by decide +kernel
theorem dX9_law_39 : decode cX9_law 39 = .ok (.getfield 111, 3) := by decide +kernel
theorem dX9_law_42 : decode cX9_law 42 = .ok (.iconst 4, 1) := by decide +kernel
theorem dX9_law_43 : decode cX9_law 43 = .ok (.if_icmp .eq 13, 3) := by decide +kernel
theorem dX9_law_46 : decode cX9_law 46 = .ok (.aload_n 0, 1) := by decide +kernel
theorem dX9_law_47 : decode cX9_law 47 = .ok (.invokevirtual 135, 3) := by decide +kernel
theorem dX9_law_50 : decode cX9_law 50 = .ok (.iinc 1 1, 3) := by decide +kernel
theorem dX9_law_53 : decode cX9_law 53 = .ok (.goto (-24), 3) := by decide +kernel
theorem dX9_law_56 : decode cX9_law 56 = .ok (.aload_n 0, 1) := by decide +kernel
theorem dX9_law_57 : decode cX9_law 57 = .ok (.getfield 115, 3) := by decide +kernel
theorem dX9_law_60 : decode cX9_law 60 = .ok (.bipush (-9), 2) := by decide +kernel
theorem dX9_law_62 : decode cX9_law 62 = .ok (.if_icmp .eq 11, 3) := by decide +kernel
theorem dX9_law_65 : decode cX9_law 65 = .ok (.bipush (-10), 2) := by decide +kernel
theorem dX9_law_67 : decode cX9_law 67 = .ok (.aload_n 0, 1) := by decide +kernel
theorem dX9_law_68 : decode cX9_law 68 = .ok (.getfield 115, 3) := by decide +kernel
theorem dX9_law_71 : decode cX9_law 71 = .ok (.isub, 1) := by decide +kernel
theorem dX9_law_72 : decode cX9_law 72 = .ok (.ireturn, 1) := by decide +kernel
theorem dX9_law_73 : decode cX9_law 73 = .ok (.aload_n 0, 1) := by decide +kernel
theorem dX9_law_74 : decode cX9_law 74 = .ok (.getfield 13, 3) := by decide +kernel
theorem dX9_law_77 : decode cX9_law 77 = .ok (.iconst 0, 1) := by decide +kernel
theorem dX9_law_78 : decode cX9_law 78 = .ok (.aload_n 0, 1) := by decide +kernel
theorem dX9_law_79 : decode cX9_law 79 = .ok (.getfield 13, 3) := by decide +kernel
theorem dX9_law_82 : decode cX9_law 82 = .ok (.iconst 1, 1) := by decide +kernel
theorem dX9_law_83 : decode cX9_law 83 = .ok (.iaload, 1) := by decide +kernel
theorem dX9_law_84 : decode cX9_law 84 = .ok (.iastore, 1) := by decide +kernel
theorem dX9_law_85 : decode cX9_law 85 = .ok (.iconst 0, 1) := by decide +kernel
theorem dX9_law_86 : decode cX9_law 86 = .ok (.istore_n 2, 1) := by decide +kernel
theorem dX9_law_87 : decode cX9_law 87 = .ok (.iload_n 2, 1) := by decide +kernel
theorem dX9_law_88 : decode cX9_law 88 = .ok (.bipush 16, 2) := by decide +kernel
theorem dX9_law_90 : decode cX9_law 90 = .ok (.if_icmp .ge 69, 3) := by decide +kernel
theorem dX9_law_93 : decode cX9_law 93 = .ok (.aload_n 0, 1) := by decide +kernel
theorem dX9_law_94 : decode cX9_law 94 = .ok (.getfield 17, 3) := by decide +kernel
theorem dX9_law_97 : decode cX9_law 97 = .ok (.iload_n 2, 1) := by decide +kernel
theorem dX9_law_98 : decode cX9_law 98 = .ok (.aload_n 0, 1) := by decide +kernel
theorem dX9_law_99 : decode cX9_law 99 = .ok (.getfield 17, 3) := by decide +kernel
theorem dX9_law_102 : decode cX9_law 102 = .ok (.bipush 16, 2) := by decide +kernel
theorem dX9_law_104 : decode cX9_law 104 = .ok (.iload_n 2, 1) := by decide +kernel
theorem dX9_law_105 : decode cX9_law 105 = .ok (.iadd, 1) := by decide +kernel
theorem dX9_law_106 : decode cX9_law 106 = .ok (.iaload, 1) := by decide +kernel
theorem dX9_law_107 : decode cX9_law 107 = .ok (.iastore, 1) := by decide +kernel
theorem dX9_law_108 : decode cX9_law 108 = .ok (.aload_n 0, 1) := by decide +kernel
theorem dX9_law_109 : decode cX9_law 109 = .ok (.getfield 20, 3) := by decide +kernel
theorem dX9_law_112 : decode cX9_law 112 = .ok (.iload_n 2, 1) := by decide +kernel
theorem dX9_law_113 : decode cX9_law 113 = .ok (.aload_n 0, 1) := by decide +kernel
theorem dX9_law_114 : decode cX9_law 114 = .ok (.getfield 20, 3) := by decide +kernel
theorem dX9_law_117 : decode cX9_law 117 = .ok (.bipush 16, 2) := by decide +kernel
theorem dX9_law_119 : decode cX9_law 119 = .ok (.iload_n 2, 1) := by decide +kernel
theorem dX9_law_120 : decode cX9_law 120 = .ok (.iadd, 1) := by decide +kernel
theorem dX9_law_121 : decode cX9_law 121 = .ok (.iaload, 1) := by decide +kernel
theorem dX9_law_122 : decode cX9_law 122 = .ok (.iastore, 1) := by decide +kernel
theorem dX9_law_123 : decode cX9_law 123 = .ok (.aload_n 0, 1) := by decide +kernel
theorem dX9_law_124 : decode cX9_law 124 = .ok (.getfield 23, 3) := by decide +kernel
theorem dX9_law_127 : decode cX9_law 127 = .ok (.iload_n 2, 1) := by decide +kernel
theorem dX9_law_128 : decode cX9_law 128 = .ok (.aload_n 0, 1) := by decide +kernel
theorem dX9_law_129 : decode cX9_law 129 = .ok (.getfield 23, 3) := by decide +kernel
theorem dX9_law_132 : decode cX9_law 132 = .ok (.bipush 16, 2) := by decide +kernel
theorem dX9_law_134 : decode cX9_law 134 = .ok (.iload_n 2, 1) := by decide +kernel
theorem dX9_law_135 : decode cX9_law 135 = .ok (.iadd, 1) := by decide +kernel
theorem dX9_law_136 : decode cX9_law 136 = .ok (.iaload, 1) := by decide +kernel
theorem dX9_law_137 : decode cX9_law 137 = .ok (.iastore, 1) := by decide +kernel
theorem dX9_law_138 : decode cX9_law 138 = .ok (.aload_n 0, 1) := by decide +kernel
theorem dX9_law_139 : decode cX9_law 139 = .ok (.getfield 26, 3) := by decide +kernel
theorem dX9_law_142 : decode cX9_law 142 = .ok (.iload_n 2, 1) := by decide +kernel
theorem dX9_law_143 : decode cX9_law 143 = .ok (.aload_n 0, 1) := by decide +kernel
theorem dX9_law_144 : decode cX9_law 144 = .ok (.getfield 26, 3) := by decide +kernel
theorem dX9_law_147 : decode cX9_law 147 = .ok (.bipush 16, 2) := by decide +kernel
theorem dX9_law_149 : decode cX9_law 149 = .ok (.iload_n 2, 1) := by decide +kernel
theorem dX9_law_150 : decode cX9_law 150 = .ok (.iadd, 1) := by decide +kernel
theorem dX9_law_151 : decode cX9_law 151 = .ok (.iaload, 1) := by decide +kernel
theorem dX9_law_152 : decode cX9_law 152 = .ok (.iastore, 1) := by decide +kernel
theorem dX9_law_153 : decode cX9_law 153 = .ok (.iinc 2 1, 3) := by decide +kernel
theorem dX9_law_156 : decode cX9_law 156 = .ok (.goto (-69), 3) := by decide +kernel
theorem dX9_law_159 : decode cX9_law 159 = .ok (.aload_n 0, 1) := by decide +kernel
theorem dX9_law_160 : decode cX9_law 160 = .ok (.getfield 29, 3) := by decide +kernel
theorem dX9_law_163 : decode cX9_law 163 = .ok (.iconst 0, 1) := by decide +kernel
theorem dX9_law_164 : decode cX9_law 164 = .ok (.iconst 1, 1) := by decide +kernel
theorem dX9_law_165 : decode cX9_law 165 = .ok (.aload_n 0, 1) := by decide +kernel
theorem dX9_law_166 : decode cX9_law 166 = .ok (.getfield 13, 3) := by decide +kernel
theorem dX9_law_169 : decode cX9_law 169 = .ok (.iconst 0, 1) := by decide +kernel
theorem dX9_law_170 : decode cX9_law 170 = .ok (.iaload, 1) := by decide +kernel
theorem dX9_law_171 : decode cX9_law 171 = .ok (.ishl, 1) := by decide +kernel
theorem dX9_law_172 : decode cX9_law 172 = .ok (.iconst 1, 1) := by decide +kernel
theorem dX9_law_173 : decode cX9_law 173 = .ok (.isub, 1) := by decide +kernel
theorem dX9_law_174 : decode cX9_law 174 = .ok (.iastore, 1) := by decide +kernel
theorem dX9_law_175 : decode cX9_law 175 = .ok (.aload_n 0, 1) := by decide +kernel
theorem dX9_law_176 : decode cX9_law 176 = .ok (.getfield 29, 3) := by decide +kernel
theorem dX9_law_179 : decode cX9_law 179 = .ok (.iconst 1, 1) := by decide +kernel
theorem dX9_law_180 : decode cX9_law 180 = .ok (.aload_n 0, 1) := by decide +kernel
theorem dX9_law_181 : decode cX9_law 181 = .ok (.getfield 132, 3) := by decide +kernel
theorem dX9_law_184 : decode cX9_law 184 = .ok (.iastore, 1) := by decide +kernel
theorem dX9_law_185 : decode cX9_law 185 = .ok (.aload_n 0, 1) := by decide +kernel
theorem dX9_law_186 : decode cX9_law 186 = .ok (.getfield 32, 3) := by decide +kernel
theorem dX9_law_189 : decode cX9_law 189 = .ok (.iconst 0, 1) := by decide +kernel
theorem dX9_law_190 : decode cX9_law 190 = .ok (.iconst 0, 1) := by decide +kernel
theorem dX9_law_191 : decode cX9_law 191 = .ok (.bastore, 1) := by decide +kernel
theorem dX9_law_192 : decode cX9_law 192 = .ok (.aload_n 0, 1) := by decide +kernel
theorem dX9_law_193 : decode cX9_law 193 = .ok (.getfield 32, 3) := by decide +kernel
theorem dX9_law_196 : decode cX9_law 196 = .ok (.iconst 1, 1) := by decide +kernel
theorem dX9_law_197 : decode cX9_law 197 = .ok (.iconst 0, 1) := by decide +kernel
theorem dX9_law_198 : decode cX9_law 198 = .ok (.bastore, 1) := by decide +kernel
theorem dX9_law_199 : decode cX9_law 199 = .ok (.aload_n 0, 1) := by decide +kernel
theorem dX9_law_200 : decode cX9_law 200 = .ok (.iconst 0, 1) := by decide +kernel
theorem dX9_law_201 : decode cX9_law 201 = .ok (.putfield 92, 3) := by decide +kernel
theorem dX9_law_204 : decode cX9_law 204 = .ok (.iload_n 1, 1) := by decide +kernel
theorem dX9_law_205 : decode cX9_law 205 = .ok (.ireturn, 1) := by decide +kernel
theorem dX9_tree_0 : decode cX9_tree 0 = .ok (.iconst 0, 1) := by decide +kernel
theorem dX9_tree_1 : decode cX9_tree 1 = .ok (.istore_n 1, 1) := by decide +kernel
theorem dX9_tree_2 : decode cX9_tree 2 = .ok (.iconst 1, 1) := by decide +kernel
theorem dX9_tree_3 : decode cX9_tree 3 = .ok (.istore_n 2, 1) := by decide +kernel
theorem dX9_tree_4 : decode cX9_tree 4 = .ok (.iconst 0, 1) := by decide +kernel
theorem dX9_tree_5 : decode cX9_tree 5 = .ok (.istore_n 3, 1) := by decide +kernel
theorem dX9_tree_6 : decode cX9_tree 6 = .ok (.iload_n 3, 1) := by decide +kernel
theorem dX9_tree_7 : decode cX9_tree 7 = .ok (.aload_n 0, 1) := by decide +kernel
theorem dX9_tree_8 : decode cX9_tree 8 = .ok (.getfield 92, 3) := by decide +kernel
theorem dX9_tree_11 : decode cX9_tree 11 = .ok (.if_icmp .ge 82, 3) := by decide +kernel
theorem dX9_tree_14 : decode cX9_tree 14 = .ok (.aload_n 0, 1) := by decide +kernel
theorem dX9_tree_15 : decode cX9_tree 15 = .ok (.getfield 7, 3) := by decide +kernel
theorem dX9_tree_18 : decode cX9_tree 18 = .ok (.iload_n 3, 1) := by decide +kernel
theorem dX9_tree_19 : decode cX9_tree 19 = .ok (.baload, 1) := by decide +kernel
theorem dX9_tree_20 : decode cX9_tree 20 = .ok (.sipush 255, 3) := by decide +kernel
theorem dX9_tree_23 : decode cX9_tree 23 = .ok (.iand, 1) := by decide +kernel
theorem dX9_tree_24 : decode cX9_tree 24 = .ok (.istore 4, 2) := by decide +kernel
theorem dX9_tree_26 : decode cX9_tree 26 = .ok (.iload 4, 2) := by decide +kernel
theorem dX9_tree_28 : decode cX9_tree 28 = .ok (.bipush 32, 2) := by decide +kernel
theorem dX9_tree_30 : decode cX9_tree 30 = .ok (.if_icmp .eq 57, 3) := by decide +kernel
theorem dX9_tree_33 : decode cX9_tree 33 = .ok (.iload 4, 2) := by decide +kernel
theorem dX9_tree_35 : decode cX9_tree 35 = .ok (.bipush 97, 2) := by decide +kernel
theorem dX9_tree_37 : decode cX9_tree 37 = .ok (.bipush 104, 2) := by decide +kernel
theorem dX9_tree_39 : decode cX9_tree 39 = .ok (.invokestatic 88, 3) := by decide +kernel
theorem dX9_tree_42 : decode cX9_tree 42 = .ok (.ifCond .eq 13, 3) := by decide +kernel
theorem dX9_tree_45 : decode cX9_tree 45 = .ok (.iload_n 2, 1) := by decide +kernel
theorem dX9_tree_46 : decode cX9_tree 46 = .ok (.ifCond .eq 9, 3) := by decide +kernel
theorem dX9_tree_49 : decode cX9_tree 49 = .ok (.iload_n 1, 1) := by decide +kernel
theorem dX9_tree_50 : decode cX9_tree 50 = .ok (.bipush 31, 2) := by decide +kernel
theorem dX9_tree_52 : decode cX9_tree 52 = .ok (.if_icmp .ne 8, 3) := by decide +kernel
theorem dX9_tree_55 : decode cX9_tree 55 = .ok (.bipush (-10), 2) := by decide +kernel
theorem dX9_tree_57 : decode cX9_tree 57 = .ok (.iload_n 3, 1) := by decide +kernel
theorem dX9_tree_58 : decode cX9_tree 58 = .ok (.isub, 1) := by decide +kernel
theorem dX9_tree_59 : decode cX9_tree 59 = .ok (.ireturn, 1) := by decide +kernel
theorem dX9_tree_60 : decode cX9_tree 60 = .ok (.aload_n 0, 1) := by decide +kernel
theorem dX9_tree_61 : decode cX9_tree 61 = .ok (.getfield 36, 3) := by decide +kernel
theorem dX9_tree_64 : decode cX9_tree 64 = .ok (.iload_n 1, 1) := by decide +kernel
theorem dX9_tree_65 : decode cX9_tree 65 = .ok (.iload 4, 2) := by decide +kernel
theorem dX9_tree_67 : decode cX9_tree 67 = .ok (.bipush 97, 2) := by decide +kernel
theorem dX9_tree_69 : decode cX9_tree 69 = .ok (.isub, 1) := by decide +kernel
theorem dX9_tree_70 : decode cX9_tree 70 = .ok (.iastore, 1) := by decide +kernel
theorem dX9_tree_71 : decode cX9_tree 71 = .ok (.iload_n 2, 1) := by decide +kernel
theorem dX9_tree_72 : decode cX9_tree 72 = .ok (.iload 4, 2) := by decide +kernel
theorem dX9_tree_74 : decode cX9_tree 74 = .ok (.bipush 97, 2) := by decide +kernel
theorem dX9_tree_76 : decode cX9_tree 76 = .ok (.isub, 1) := by decide +kernel
theorem dX9_tree_77 : decode cX9_tree 77 = .ok (.invokestatic 125, 3) := by decide +kernel
theorem dX9_tree_80 : decode cX9_tree 80 = .ok (.iconst 1, 1) := by decide +kernel
theorem dX9_tree_81 : decode cX9_tree 81 = .ok (.isub, 1) := by decide +kernel
theorem dX9_tree_82 : decode cX9_tree 82 = .ok (.iadd, 1) := by decide +kernel
theorem dX9_tree_83 : decode cX9_tree 83 = .ok (.istore_n 2, 1) := by decide +kernel
theorem dX9_tree_84 : decode cX9_tree 84 = .ok (.iinc 1 1, 3) := by decide +kernel
theorem dX9_tree_87 : decode cX9_tree 87 = .ok (.iinc 3 1, 3) := by decide +kernel
theorem dX9_tree_90 : decode cX9_tree 90 = .ok (.goto (-84), 3) := by decide +kernel
theorem dX9_tree_93 : decode cX9_tree 93 = .ok (.iload_n 2, 1) := by decide +kernel
theorem dX9_tree_94 : decode cX9_tree 94 = .ok (.ifCond .le 11, 3) := by decide +kernel
theorem dX9_tree_97 : decode cX9_tree 97 = .ok (.bipush (-10), 2) := by decide +kernel
theorem dX9_tree_99 : decode cX9_tree 99 = .ok (.aload_n 0, 1) := by decide +kernel
theorem dX9_tree_100 : decode cX9_tree 100 = .ok (.getfield 92, 3) := by decide +kernel
theorem dX9_tree_103 : decode cX9_tree 103 = .ok (.isub, 1) := by decide +kernel
theorem dX9_tree_104 : decode cX9_tree 104 = .ok (.ireturn, 1) := by decide +kernel
theorem dX9_tree_105 : decode cX9_tree 105 = .ok (.iconst 0, 1) := by decide +kernel
theorem dX9_tree_106 : decode cX9_tree 106 = .ok (.istore_n 3, 1) := by decide +kernel
theorem dX9_tree_107 : decode cX9_tree 107 = .ok (.iload_n 3, 1) := by decide +kernel
theorem dX9_tree_108 : decode cX9_tree 108 = .ok (.iload_n 1, 1) := by decide +kernel
theorem dX9_tree_109 : decode cX9_tree 109 = .ok (.if_icmp .ge 23, 3) := by decide +kernel
theorem dX9_tree_112 : decode cX9_tree 112 = .ok (.aload_n 0, 1) := by decide +kernel
theorem dX9_tree_113 : decode cX9_tree 113 = .ok (.getfield 29, 3) := by decide +kernel
theorem dX9_tree_116 : decode cX9_tree 116 = .ok (.iconst 3, 1) := by decide +kernel
theorem dX9_tree_117 : decode cX9_tree 117 = .ok (.iload_n 3, 1) := by decide +kernel
theorem dX9_tree_118 : decode cX9_tree 118 = .ok (.iadd, 1) := by decide +kernel
theorem dX9_tree_119 : decode cX9_tree 119 = .ok (.aload_n 0, 1) := by decide +kernel
theorem dX9_tree_120 : decode cX9_tree 120 = .ok (.getfield 36, 3) := by decide +kernel
theorem dX9_tree_123 : decode cX9_tree 123 = .ok (.iload_n 3, 1) := by decide +kernel
theorem dX9_tree_124 : decode cX9_tree 124 = .ok (.iaload, 1) := by decide +kernel
theorem dX9_tree_125 : decode cX9_tree 125 = .ok (.iastore, 1) := by decide +kernel
theorem dX9_tree_126 : decode cX9_tree 126 = .ok (.iinc 3 1, 3) := by decide +kernel
theorem dX9_tree_129 : decode cX9_tree 129 = .ok (.goto (-22), 3) := by decide +kernel
theorem dX9_tree_132 : decode cX9_tree 132 = .ok (.aload_n 0, 1) := by decide +kernel
theorem dX9_tree_133 : decode cX9_tree 133 = .ok (.getfield 29, 3) := by decide +kernel
theorem dX9_tree_136 : decode cX9_tree 136 = .ok (.iconst 2, 1) := by decide +kernel
theorem dX9_tree_137 : decode cX9_tree 137 = .ok (.iload_n 1, 1) := by decide +kernel
theorem dX9_tree_138 : decode cX9_tree 138 = .ok (.iastore, 1) := by decide +kernel
theorem dX9_tree_139 : decode cX9_tree 139 = .ok (.aload_n 0, 1) := by decide +kernel
theorem dX9_tree_140 : decode cX9_tree 140 = .ok (.iconst 0, 1) := by decide +kernel
theorem dX9_tree_141 : decode cX9_tree 141 = .ok (.putfield 92, 3) := by decide +kernel
theorem dX9_tree_144 : decode cX9_tree 144 = .ok (.iload_n 1, 1) := by decide +kernel
theorem dX9_tree_145 : decode cX9_tree 145 = .ok (.ireturn, 1) := by decide +kernel
theorem dX9_isRule_0 : decode cX9_isRule 0 = .ok (.iload_n 1, 1) := by decide +kernel
theorem dX9_isRule_1 : decode cX9_isRule 1 = .ok (.iconst 0, 1) := by decide +kernel
theorem dX9_isRule_2 : decode cX9_isRule 2 = .ok (.aload_n 0, 1) := by decide +kernel
theorem dX9_isRule_3 : decode cX9_isRule 3 = .ok (.getfield 13, 3) := by decide +kernel
theorem dX9_isRule_6 : decode cX9_isRule 6 = .ok (.iconst 0, 1) := by decide +kernel
theorem dX9_isRule_7 : decode cX9_isRule 7 = .ok (.iaload, 1) := by decide +kernel
theorem dX9_isRule_8 : decode cX9_isRule 8 = .ok (.iconst 1, 1) := by decide +kernel
theorem dX9_isRule_9 : decode cX9_isRule 9 = .ok (.isub, 1) := by decide +kernel
theorem dX9_isRule_10 : decode cX9_isRule 10 = .ok (.invokestatic 88, 3) := by decide +kernel
theorem dX9_isRule_13 : decode cX9_isRule 13 = .ok (.ireturn, 1) := by decide +kernel
theorem dX9_rule_0 : decode cX9_rule 0 = .ok (.aload_n 0, 1) := by decide +kernel
theorem dX9_rule_1 : decode cX9_rule 1 = .ok (.iload_n 1, 1) := by decide +kernel
theorem dX9_rule_2 : decode cX9_rule 2 = .ok (.invokevirtual 138, 3) := by decide +kernel
theorem dX9_rule_5 : decode cX9_rule 5 = .ok (.ifCond .eq 12, 3) := by decide +kernel
theorem dX9_rule_8 : decode cX9_rule 8 = .ok (.iload_n 2, 1) := by decide +kernel
theorem dX9_rule_9 : decode cX9_rule 9 = .ok (.iconst 0, 1) := by decide +kernel
theorem dX9_rule_10 : decode cX9_rule 10 = .ok (.iconst 4, 1) := by decide +kernel
theorem dX9_rule_11 : decode cX9_rule 11 = .ok (.invokestatic 88, 3) := by decide +kernel
theorem dX9_rule_14 : decode cX9_rule 14 = .ok (.ifCond .ne 5, 3) := by decide +kernel
theorem dX9_rule_17 : decode cX9_rule 17 = .ok (.iconst (-1), 1) := by decide +kernel
theorem dX9_rule_18 : decode cX9_rule 18 = .ok (.ireturn, 1) := by decide +kernel
theorem dX9_rule_19 : decode cX9_rule 19 = .ok (.iload_n 2, 1) := by decide +kernel
theorem dX9_rule_20 : decode cX9_rule 20 = .ok (.ifCond .ne 12, 3) := by decide +kernel
theorem dX9_rule_23 : decode cX9_rule 23 = .ok (.aload_n 0, 1) := by decide +kernel
theorem dX9_rule_24 : decode cX9_rule 24 = .ok (.getfield 17, 3) := by decide +kernel
theorem dX9_rule_27 : decode cX9_rule 27 = .ok (.iload_n 1, 1) := by decide +kernel
theorem dX9_rule_28 : decode cX9_rule 28 = .ok (.iaload, 1) := by decide +kernel
theorem dX9_rule_29 : decode cX9_rule 29 = .ok (.goto 55, 3) := by decide +kernel
theorem dX9_rule_32 : decode cX9_rule 32 = .ok (.iload_n 2, 1) := by decide +kernel
theorem dX9_rule_33 : decode cX9_rule 33 = .ok (.iconst 1, 1) := by decide +kernel
theorem dX9_rule_34 : decode cX9_rule 34 = .ok (.if_icmp .ne 12, 3) := by decide +kernel
theorem dX9_rule_37 : decode cX9_rule 37 = .ok (.aload_n 0, 1) := by decide +kernel
theorem dX9_rule_38 : decode cX9_rule 38 = .ok (.getfield 20, 3) := by decide +kernel
theorem dX9_rule_41 : decode cX9_rule 41 = .ok (.iload_n 1, 1) := by decide +kernel
theorem dX9_rule_42 : decode cX9_rule 42 = .ok (.iaload, 1) := by decide +kernel
theorem dX9_rule_43 : decode cX9_rule 43 = .ok (.goto 41, 3) := by decide +kernel
theorem dX9_rule_46 : decode cX9_rule 46 = .ok (.iload_n 2, 1) := by decide +kernel
theorem dX9_rule_47 : decode cX9_rule 47 = .ok (.iconst 2, 1) := by decide +kernel
theorem dX9_rule_48 : decode cX9_rule 48 = .ok (.if_icmp .ne 12, 3) := by decide +kernel
theorem dX9_rule_51 : decode cX9_rule 51 = .ok (.aload_n 0, 1) := by decide +kernel
theorem dX9_rule_52 : decode cX9_rule 52 = .ok (.getfield 23, 3) := by decide +kernel
theorem dX9_rule_55 : decode cX9_rule 55 = .ok (.iload_n 1, 1) := by decide +kernel
theorem dX9_rule_56 : decode cX9_rule 56 = .ok (.iaload, 1) := by decide +kernel
theorem dX9_rule_57 : decode cX9_rule 57 = .ok (.goto 27, 3) := by decide +kernel
theorem dX9_rule_60 : decode cX9_rule 60 = .ok (.iload_n 2, 1) := by decide +kernel
theorem dX9_rule_61 : decode cX9_rule 61 = .ok (.iconst 3, 1) := by decide +kernel
theorem dX9_rule_62 : decode cX9_rule 62 = .ok (.if_icmp .ne 12, 3) := by decide +kernel
theorem dX9_rule_65 : decode cX9_rule 65 = .ok (.aload_n 0, 1) := by decide +kernel
theorem dX9_rule_66 : decode cX9_rule 66 = .ok (.getfield 26, 3) := by decide +kernel
theorem dX9_rule_69 : decode cX9_rule 69 = .ok (.iload_n 1, 1) := by decide +kernel
theorem dX9_rule_70 : decode cX9_rule 70 = .ok (.iaload, 1) := by decide +kernel
theorem dX9_rule_71 : decode cX9_rule 71 = .ok (.goto 13, 3) := by decide +kernel
theorem dX9_rule_74 : decode cX9_rule 74 = .ok (.aload_n 0, 1) := by decide +kernel
theorem dX9_rule_75 : decode cX9_rule 75 = .ok (.getfield 29, 3) := by decide +kernel
theorem dX9_rule_78 : decode cX9_rule 78 = .ok (.iconst 0, 1) := by decide +kernel
theorem dX9_rule_79 : decode cX9_rule 79 = .ok (.iaload, 1) := by decide +kernel
theorem dX9_rule_80 : decode cX9_rule 80 = .ok (.iload_n 1, 1) := by decide +kernel
theorem dX9_rule_81 : decode cX9_rule 81 = .ok (.ishr, 1) := by decide +kernel
theorem dX9_rule_82 : decode cX9_rule 82 = .ok (.iconst 1, 1) := by decide +kernel
theorem dX9_rule_83 : decode cX9_rule 83 = .ok (.iand, 1) := by decide +kernel
theorem dX9_rule_84 : decode cX9_rule 84 = .ok (.ireturn, 1) := by decide +kernel
theorem dX9_turn_0 : decode cX9_turn 0 = .ok (.aload_n 0, 1) := by decide +kernel
theorem dX9_turn_1 : decode cX9_turn 1 = .ok (.iload_n 1, 1) := by decide +kernel
theorem dX9_turn_2 : decode cX9_turn 2 = .ok (.invokevirtual 138, 3) := by decide +kernel
theorem dX9_turn_5 : decode cX9_turn 5 = .ok (.ifCond .eq 12, 3) := by decide +kernel
theorem dX9_turn_8 : decode cX9_turn 8 = .ok (.iload_n 2, 1) := by decide +kernel
theorem dX9_turn_9 : decode cX9_turn 9 = .ok (.iconst 0, 1) := by decide +kernel
theorem dX9_turn_10 : decode cX9_turn 10 = .ok (.iconst 1, 1) := by decide +kernel
theorem dX9_turn_11 : decode cX9_turn 11 = .ok (.invokestatic 88, 3) := by decide +kernel
theorem dX9_turn_14 : decode cX9_turn 14 = .ok (.ifCond .ne 5, 3) := by decide +kernel
theorem dX9_turn_17 : decode cX9_turn 17 = .ok (.iconst (-1), 1) := by decide +kernel
theorem dX9_turn_18 : decode cX9_turn 18 = .ok (.ireturn, 1) := by decide +kernel
theorem dX9_turn_19 : decode cX9_turn 19 = .ok (.aload_n 0, 1) := by decide +kernel
theorem dX9_turn_20 : decode cX9_turn 20 = .ok (.getfield 29, 3) := by decide +kernel
theorem dX9_turn_23 : decode cX9_turn 23 = .ok (.iconst 0, 1) := by decide +kernel
theorem dX9_turn_24 : decode cX9_turn 24 = .ok (.iaload, 1) := by decide +kernel
theorem dX9_turn_25 : decode cX9_turn 25 = .ok (.iload_n 1, 1) := by decide +kernel
theorem dX9_turn_26 : decode cX9_turn 26 = .ok (.ishr, 1) := by decide +kernel
theorem dX9_turn_27 : decode cX9_turn 27 = .ok (.iconst 1, 1) := by decide +kernel
theorem dX9_turn_28 : decode cX9_turn 28 = .ok (.iand, 1) := by decide +kernel
theorem dX9_turn_29 : decode cX9_turn 29 = .ok (.istore_n 3, 1) := by decide +kernel
theorem dX9_turn_30 : decode cX9_turn 30 = .ok (.aload_n 0, 1) := by decide +kernel
theorem dX9_turn_31 : decode cX9_turn 31 = .ok (.getfield 29, 3) := by decide +kernel
theorem dX9_turn_34 : decode cX9_turn 34 = .ok (.iconst 0, 1) := by decide +kernel
theorem dX9_turn_35 : decode cX9_turn 35 = .ok (.aload_n 0, 1) := by decide +kernel
theorem dX9_turn_36 : decode cX9_turn 36 = .ok (.getfield 29, 3) := by decide +kernel
theorem dX9_turn_39 : decode cX9_turn 39 = .ok (.iconst 0, 1) := by decide +kernel
theorem dX9_turn_40 : decode cX9_turn 40 = .ok (.iaload, 1) := by decide +kernel
theorem dX9_turn_41 : decode cX9_turn 41 = .ok (.iconst 1, 1) := by decide +kernel
theorem dX9_turn_42 : decode cX9_turn 42 = .ok (.iload_n 1, 1) := by decide +kernel
theorem dX9_turn_43 : decode cX9_turn 43 = .ok (.ishl, 1) := by decide +kernel
theorem dX9_turn_44 : decode cX9_turn 44 = .ok (.iconst (-1), 1) := by decide +kernel
theorem dX9_turn_45 : decode cX9_turn 45 = .ok (.ixor, 1) := by decide +kernel
theorem dX9_turn_46 : decode cX9_turn 46 = .ok (.iand, 1) := by decide +kernel
theorem dX9_turn_47 : decode cX9_turn 47 = .ok (.iload_n 2, 1) := by decide +kernel
theorem dX9_turn_48 : decode cX9_turn 48 = .ok (.iload_n 1, 1) := by decide +kernel
theorem dX9_turn_49 : decode cX9_turn 49 = .ok (.ishl, 1) := by decide +kernel
theorem dX9_turn_50 : decode cX9_turn 50 = .ok (.ior, 1) := by decide +kernel
theorem dX9_turn_51 : decode cX9_turn 51 = .ok (.iastore, 1) := by decide +kernel
theorem dX9_turn_52 : decode cX9_turn 52 = .ok (.iload_n 3, 1) := by decide +kernel
theorem dX9_turn_53 : decode cX9_turn 53 = .ok (.ireturn, 1) := by decide +kernel
theorem dX9_good_0 : decode cX9_good 0 = .ok (.iload_n 1, 1) := by decide +kernel
theorem dX9_good_1 : decode cX9_good 1 = .ok (.iconst 0, 1) := by decide +kernel
theorem dX9_good_2 : decode cX9_good 2 = .ok (.iconst 5, 1) := by decide +kernel
theorem dX9_good_3 : decode cX9_good 3 = .ok (.invokestatic 88, 3) := by decide +kernel
theorem dX9_good_6 : decode cX9_good 6 = .ok (.ifCond .eq 12, 3) := by decide +kernel
theorem dX9_good_9 : decode cX9_good 9 = .ok (.iload_n 2, 1) := by decide +kernel
theorem dX9_good_10 : decode cX9_good 10 = .ok (.iconst 0, 1) := by decide +kernel
theorem dX9_good_11 : decode cX9_good 11 = .ok (.iconst 1, 1) := by decide +kernel
theorem dX9_good_12 : decode cX9_good 12 = .ok (.invokestatic 88, 3) := by decide +kernel
theorem dX9_good_15 : decode cX9_good 15 = .ok (.ifCond .ne 5, 3) := by decide +kernel
theorem dX9_good_18 : decode cX9_good 18 = .ok (.iconst (-1), 1) := by decide +kernel
theorem dX9_good_19 : decode cX9_good 19 = .ok (.ireturn, 1) := by decide +kernel
theorem dX9_good_20 : decode cX9_good 20 = .ok (.aload_n 0, 1) := by decide +kernel
theorem dX9_good_21 : decode cX9_good 21 = .ok (.getfield 29, 3) := by decide +kernel
theorem dX9_good_24 : decode cX9_good 24 = .ok (.iconst 1, 1) := by decide +kernel
theorem dX9_good_25 : decode cX9_good 25 = .ok (.iaload, 1) := by decide +kernel
theorem dX9_good_26 : decode cX9_good 26 = .ok (.iload_n 1, 1) := by decide +kernel
theorem dX9_good_27 : decode cX9_good 27 = .ok (.ishr, 1) := by decide +kernel
theorem dX9_good_28 : decode cX9_good 28 = .ok (.iconst 1, 1) := by decide +kernel
theorem dX9_good_29 : decode cX9_good 29 = .ok (.iand, 1) := by decide +kernel
theorem dX9_good_30 : decode cX9_good 30 = .ok (.istore_n 3, 1) := by decide +kernel
theorem dX9_good_31 : decode cX9_good 31 = .ok (.aload_n 0, 1) := by decide +kernel
theorem dX9_good_32 : decode cX9_good 32 = .ok (.getfield 29, 3) := by decide +kernel
theorem dX9_good_35 : decode cX9_good 35 = .ok (.iconst 1, 1) := by decide +kernel
theorem dX9_good_36 : decode cX9_good 36 = .ok (.aload_n 0, 1) := by decide +kernel
theorem dX9_good_37 : decode cX9_good 37 = .ok (.getfield 29, 3) := by decide +kernel
theorem dX9_good_40 : decode cX9_good 40 = .ok (.iconst 1, 1) := by decide +kernel
theorem dX9_good_41 : decode cX9_good 41 = .ok (.iaload, 1) := by decide +kernel
theorem dX9_good_42 : decode cX9_good 42 = .ok (.iconst 1, 1) := by decide +kernel
theorem dX9_good_43 : decode cX9_good 43 = .ok (.iload_n 1, 1) := by decide +kernel
theorem dX9_good_44 : decode cX9_good 44 = .ok (.ishl, 1) := by decide +kernel
theorem dX9_good_45 : decode cX9_good 45 = .ok (.iconst (-1), 1) := by decide +kernel
theorem dX9_good_46 : decode cX9_good 46 = .ok (.ixor, 1) := by decide +kernel
theorem dX9_good_47 : decode cX9_good 47 = .ok (.iand, 1) := by decide +kernel
theorem dX9_good_48 : decode cX9_good 48 = .ok (.iload_n 2, 1) := by decide +kernel
theorem dX9_good_49 : decode cX9_good 49 = .ok (.iload_n 1, 1) := by decide +kernel
theorem dX9_good_50 : decode cX9_good 50 = .ok (.ishl, 1) := by decide +kernel
theorem dX9_good_51 : decode cX9_good 51 = .ok (.ior, 1) := by decide +kernel
theorem dX9_good_52 : decode cX9_good 52 = .ok (.iastore, 1) := by decide +kernel
theorem dX9_good_53 : decode cX9_good 53 = .ok (.iload_n 3, 1) := by decide +kernel
theorem dX9_good_54 : decode cX9_good 54 = .ok (.ireturn, 1) := by decide +kernel
theorem dX9_second_0 : decode cX9_second 0 = .ok (.iload_n 1, 1) := by decide +kernel
theorem dX9_second_1 : decode cX9_second 1 = .ok (.iconst 1, 1) := by decide +kernel
theorem dX9_second_2 : decode cX9_second 2 = .ok (.iadd, 1) := by decide +kernel
theorem dX9_second_3 : decode cX9_second 3 = .ok (.aload_n 0, 1) := by decide +kernel
theorem dX9_second_4 : decode cX9_second 4 = .ok (.getfield 39, 3) := by decide +kernel
theorem dX9_second_7 : decode cX9_second 7 = .ok (.iload_n 1, 1) := by decide +kernel
theorem dX9_second_8 : decode cX9_second 8 = .ok (.iconst 1, 1) := by decide +kernel
theorem dX9_second_9 : decode cX9_second 9 = .ok (.iadd, 1) := by decide +kernel
theorem dX9_second_10 : decode cX9_second 10 = .ok (.iaload, 1) := by decide +kernel
theorem dX9_second_11 : decode cX9_second 11 = .ok (.iadd, 1) := by decide +kernel
theorem dX9_second_12 : decode cX9_second 12 = .ok (.ireturn, 1) := by decide +kernel
theorem dX9_findParts_0 : decode cX9_findParts 0 = .ok (.aload_n 0, 1) := by decide +kernel
theorem dX9_findParts_1 : decode cX9_findParts 1 = .ok (.getfield 29, 3) := by decide +kernel
theorem dX9_findParts_4 : decode cX9_findParts 4 = .ok (.iconst 2, 1) := by decide +kernel
theorem dX9_findParts_5 : decode cX9_findParts 5 = .ok (.iaload, 1) := by decide +kernel
theorem dX9_findParts_6 : decode cX9_findParts 6 = .ok (.iconst 1, 1) := by decide +kernel
theorem dX9_findParts_7 : decode cX9_findParts 7 = .ok (.isub, 1) := by decide +kernel
theorem dX9_findParts_8 : decode cX9_findParts 8 = .ok (.istore_n 1, 1) := by decide +kernel
theorem dX9_findParts_9 : decode cX9_findParts 9 = .ok (.iload_n 1, 1) := by decide +kernel
theorem dX9_findParts_10 : decode cX9_findParts 10 = .ok (.ifCond .lt 81, 3) := by decide +kernel
theorem dX9_findParts_13 : decode cX9_findParts 13 = .ok (.aload_n 0, 1) := by decide +kernel
theorem dX9_findParts_14 : decode cX9_findParts 14 = .ok (.getfield 29, 3) := by decide +kernel
theorem dX9_findParts_17 : decode cX9_findParts 17 = .ok (.iconst 3, 1) := by decide +kernel
theorem dX9_findParts_18 : decode cX9_findParts 18 = .ok (.iload_n 1, 1) := by decide +kernel
theorem dX9_findParts_19 : decode cX9_findParts 19 = .ok (.iadd, 1) := by decide +kernel
theorem dX9_findParts_20 : decode cX9_findParts 20 = .ok (.iaload, 1) := by decide +kernel
theorem dX9_findParts_21 : decode cX9_findParts 21 = .ok (.invokestatic 125, 3) := by decide +kernel
theorem dX9_findParts_24 : decode cX9_findParts 24 = .ok (.istore_n 2, 1) := by decide +kernel
theorem dX9_findParts_25 : decode cX9_findParts 25 = .ok (.aload_n 0, 1) := by decide +kernel
theorem dX9_findParts_26 : decode cX9_findParts 26 = .ok (.getfield 39, 3) := by decide +kernel
theorem dX9_findParts_29 : decode cX9_findParts 29 = .ok (.iload_n 1, 1) := by decide +kernel
theorem dX9_findParts_30 : decode cX9_findParts 30 = .ok (.iconst 1, 1) := by decide +kernel
theorem dX9_findParts_31 : decode cX9_findParts 31 = .ok (.iastore, 1) := by decide +kernel
theorem dX9_findParts_32 : decode cX9_findParts 32 = .ok (.aload_n 0, 1) := by decide +kernel
theorem dX9_findParts_33 : decode cX9_findParts 33 = .ok (.getfield 39, 3) := by decide +kernel
theorem dX9_findParts_36 : decode cX9_findParts 36 = .ok (.iload_n 1, 1) := by decide +kernel
theorem dX9_findParts_37 : decode cX9_findParts 37 = .ok (.iload_n 2, 1) := by decide +kernel
theorem dX9_findParts_38 : decode cX9_findParts 38 = .ok (.ifCond .ne 7, 3) := by decide +kernel
theorem dX9_findParts_41 : decode cX9_findParts 41 = .ok (.iconst 1, 1) := by decide +kernel
theorem dX9_findParts_42 : decode cX9_findParts 42 = .ok (.goto 42, 3) := by decide +kernel
theorem dX9_findParts_45 : decode cX9_findParts 45 = .ok (.iload_n 2, 1) := by decide +kernel
theorem dX9_findParts_46 : decode cX9_findParts 46 = .ok (.iconst 1, 1) := by decide +kernel
theorem dX9_findParts_47 : decode cX9_findParts 47 = .ok (.if_icmp .ne 16, 3) := by decide +kernel
theorem dX9_findParts_50 : decode cX9_findParts 50 = .ok (.iconst 1, 1) := by decide +kernel
theorem dX9_findParts_51 : decode cX9_findParts 51 = .ok (.aload_n 0, 1) := by decide +kernel
theorem dX9_findParts_52 : decode cX9_findParts 52 = .ok (.getfield 39, 3) := by decide +kernel
theorem dX9_findParts_55 : decode cX9_findParts 55 = .ok (.iload_n 1, 1) := by decide +kernel
theorem dX9_findParts_56 : decode cX9_findParts 56 = .ok (.iconst 1, 1) := by decide +kernel
theorem dX9_findParts_57 : decode cX9_findParts 57 = .ok (.iadd, 1) := by decide +kernel
theorem dX9_findParts_58 : decode cX9_findParts 58 = .ok (.iaload, 1) := by decide +kernel
theorem dX9_findParts_59 : decode cX9_findParts 59 = .ok (.iadd, 1) := by decide +kernel
theorem dX9_findParts_60 : decode cX9_findParts 60 = .ok (.goto 24, 3) := by decide +kernel
theorem dX9_findParts_63 : decode cX9_findParts 63 = .ok (.iconst 1, 1) := by decide +kernel
theorem dX9_findParts_64 : decode cX9_findParts 64 = .ok (.aload_n 0, 1) := by decide +kernel
theorem dX9_findParts_65 : decode cX9_findParts 65 = .ok (.getfield 39, 3) := by decide +kernel
theorem dX9_findParts_68 : decode cX9_findParts 68 = .ok (.iload_n 1, 1) := by decide +kernel
theorem dX9_findParts_69 : decode cX9_findParts 69 = .ok (.iconst 1, 1) := by decide +kernel
theorem dX9_findParts_70 : decode cX9_findParts 70 = .ok (.iadd, 1) := by decide +kernel
theorem dX9_findParts_71 : decode cX9_findParts 71 = .ok (.iaload, 1) := by decide +kernel
theorem dX9_findParts_72 : decode cX9_findParts 72 = .ok (.iadd, 1) := by decide +kernel
theorem dX9_findParts_73 : decode cX9_findParts 73 = .ok (.aload_n 0, 1) := by decide +kernel
theorem dX9_findParts_74 : decode cX9_findParts 74 = .ok (.getfield 39, 3) := by decide +kernel
theorem dX9_findParts_77 : decode cX9_findParts 77 = .ok (.aload_n 0, 1) := by decide +kernel
theorem dX9_findParts_78 : decode cX9_findParts 78 = .ok (.iload_n 1, 1) := by decide +kernel
theorem dX9_findParts_79 : decode cX9_findParts 79 = .ok (.invokevirtual 142, 3) := by decide +kernel
theorem dX9_findParts_82 : decode cX9_findParts 82 = .ok (.iaload, 1) := by decide +kernel
theorem dX9_findParts_83 : decode cX9_findParts 83 = .ok (.iadd, 1) := by decide +kernel
theorem dX9_findParts_84 : decode cX9_findParts 84 = .ok (.iastore, 1) := by decide +kernel
theorem dX9_findParts_85 : decode cX9_findParts 85 = .ok (.iinc 1 (-1), 3) := by decide +kernel
theorem dX9_findParts_88 : decode cX9_findParts 88 = .ok (.goto (-79), 3) := by decide +kernel
theorem dX9_findParts_91 : decode cX9_findParts 91 = .ok (.return_, 1) := by decide +kernel
theorem dX9_has_0 : decode cX9_has 0 = .ok (.iload_n 0, 1) := by decide +kernel
theorem dX9_has_1 : decode cX9_has 1 = .ok (.iload_n 1, 1) := by decide +kernel
theorem dX9_has_2 : decode cX9_has 2 = .ok (.ishr, 1) := by decide +kernel
theorem dX9_has_3 : decode cX9_has 3 = .ok (.iconst 1, 1) := by decide +kernel
theorem dX9_has_4 : decode cX9_has 4 = .ok (.iand, 1) := by decide +kernel
theorem dX9_has_5 : decode cX9_has 5 = .ok (.iconst 1, 1) := by decide +kernel
theorem dX9_has_6 : decode cX9_has 6 = .ok (.if_icmp .ne 7, 3) := by decide +kernel
theorem dX9_has_9 : decode cX9_has 9 = .ok (.iconst 1, 1) := by decide +kernel
theorem dX9_has_10 : decode cX9_has 10 = .ok (.goto 4, 3) := by decide +kernel
theorem dX9_has_13 : decode cX9_has 13 = .ok (.iconst 0, 1) := by decide +kernel
theorem dX9_has_14 : decode cX9_has 14 = .ok (.ireturn, 1) := by decide +kernel
theorem dX9_makesOf_0 : decode cX9_makesOf 0 = .ok (.iconst 0, 1) := by decide +kernel
theorem dX9_makesOf_1 : decode cX9_makesOf 1 = .ok (.istore 5, 2) := by decide +kernel
theorem dX9_makesOf_3 : decode cX9_makesOf 3 = .ok (.iload_n 2, 1) := by decide +kernel
theorem dX9_makesOf_4 : decode cX9_makesOf 4 = .ok (.invokestatic 125, 3) := by decide +kernel
theorem dX9_makesOf_7 : decode cX9_makesOf 7 = .ok (.istore 6, 2) := by decide +kernel
theorem dX9_makesOf_9 : decode cX9_makesOf 9 = .ok (.iconst 0, 1) := by decide +kernel
theorem dX9_makesOf_10 : decode cX9_makesOf 10 = .ok (.istore 7, 2) := by decide +kernel
theorem dX9_makesOf_12 : decode cX9_makesOf 12 = .ok (.iload 7, 2) := by decide +kernel
theorem dX9_makesOf_14 : decode cX9_makesOf 14 = .ok (.aload_n 0, 1) := by decide +kernel
theorem dX9_makesOf_15 : decode cX9_makesOf 15 = .ok (.getfield 13, 3) := by decide +kernel
theorem dX9_makesOf_18 : decode cX9_makesOf 18 = .ok (.iconst 0, 1) := by decide +kernel
theorem dX9_makesOf_19 : decode cX9_makesOf 19 = .ok (.iaload, 1) := by decide +kernel
theorem dX9_makesOf_20 : decode cX9_makesOf 20 = .ok (.if_icmp .ge 112, 3) := by decide +kernel
theorem dX9_makesOf_23 : decode cX9_makesOf 23 = .ok (.iload_n 1, 1) := by decide +kernel
theorem dX9_makesOf_24 : decode cX9_makesOf 24 = .ok (.iload 7, 2) := by decide +kernel
theorem dX9_makesOf_26 : decode cX9_makesOf 26 = .ok (.invokestatic 145, 3) := by decide +kernel
theorem dX9_makesOf_29 : decode cX9_makesOf 29 = .ok (.ifCond .eq 18, 3) := by decide +kernel
theorem dX9_makesOf_32 : decode cX9_makesOf 32 = .ok (.aload_n 0, 1) := by decide +kernel
theorem dX9_makesOf_33 : decode cX9_makesOf 33 = .ok (.getfield 17, 3) := by decide +kernel
theorem dX9_makesOf_36 : decode cX9_makesOf 36 = .ok (.iload 7, 2) := by decide +kernel
theorem dX9_makesOf_38 : decode cX9_makesOf 38 = .ok (.iaload, 1) := by decide +kernel
theorem dX9_makesOf_39 : decode cX9_makesOf 39 = .ok (.iload_n 2, 1) := by decide +kernel
theorem dX9_makesOf_40 : decode cX9_makesOf 40 = .ok (.if_icmp .ne 7, 3) := by decide +kernel
theorem dX9_makesOf_43 : decode cX9_makesOf 43 = .ok (.iconst 1, 1) := by decide +kernel
theorem dX9_makesOf_44 : decode cX9_makesOf 44 = .ok (.goto 4, 3) := by decide +kernel
theorem dX9_makesOf_47 : decode cX9_makesOf 47 = .ok (.iconst 0, 1) := by decide +kernel
theorem dX9_makesOf_48 : decode cX9_makesOf 48 = .ok (.istore 8, 2) := by decide +kernel
theorem dX9_makesOf_50 : decode cX9_makesOf 50 = .ok (.iload 8, 2) := by decide +kernel
theorem dX9_makesOf_52 : decode cX9_makesOf 52 = .ok (.ifCond .eq 48, 3) := by decide +kernel
theorem dX9_makesOf_55 : decode cX9_makesOf 55 = .ok (.iload 6, 2) := by decide +kernel
theorem dX9_makesOf_57 : decode cX9_makesOf 57 = .ok (.iconst 1, 1) := by decide +kernel
theorem dX9_makesOf_58 : decode cX9_makesOf 58 = .ok (.if_icmp .lt 17, 3) := by decide +kernel
theorem dX9_makesOf_61 : decode cX9_makesOf 61 = .ok (.iload_n 3, 1) := by decide +kernel
theorem dX9_makesOf_62 : decode cX9_makesOf 62 = .ok (.aload_n 0, 1) := by decide +kernel
theorem dX9_makesOf_63 : decode cX9_makesOf 63 = .ok (.getfield 20, 3) := by decide +kernel
theorem dX9_makesOf_66 : decode cX9_makesOf 66 = .ok (.iload 7, 2) := by decide +kernel
theorem dX9_makesOf_68 : decode cX9_makesOf 68 = .ok (.iaload, 1) := by decide +kernel
theorem dX9_makesOf_69 : decode cX9_makesOf 69 = .ok (.invokestatic 145, 3) := by decide +kernel
theorem dX9_makesOf_72 : decode cX9_makesOf 72 = .ok (.ifCond .eq 28, 3) := by decide +kernel
theorem dX9_makesOf_75 : decode cX9_makesOf 75 = .ok (.iload 6, 2) := by decide +kernel
theorem dX9_makesOf_77 : decode cX9_makesOf 77 = .ok (.iconst 2, 1) := by decide +kernel
theorem dX9_makesOf_78 : decode cX9_makesOf 78 = .ok (.if_icmp .lt 18, 3) := by decide +kernel
theorem dX9_makesOf_81 : decode cX9_makesOf 81 = .ok (.iload 4, 2) := by decide +kernel
theorem dX9_makesOf_83 : decode cX9_makesOf 83 = .ok (.aload_n 0, 1) := by decide +kernel
theorem dX9_makesOf_84 : decode cX9_makesOf 84 = .ok (.getfield 23, 3) := by decide +kernel
theorem dX9_makesOf_87 : decode cX9_makesOf 87 = .ok (.iload 7, 2) := by decide +kernel
theorem dX9_makesOf_89 : decode cX9_makesOf 89 = .ok (.iaload, 1) := by decide +kernel
theorem dX9_makesOf_90 : decode cX9_makesOf 90 = .ok (.invokestatic 145, 3) := by decide +kernel
theorem dX9_makesOf_93 : decode cX9_makesOf 93 = .ok (.ifCond .eq 7, 3) := by decide +kernel
theorem dX9_makesOf_96 : decode cX9_makesOf 96 = .ok (.iconst 1, 1) := by decide +kernel
theorem dX9_makesOf_97 : decode cX9_makesOf 97 = .ok (.goto 4, 3) := by decide +kernel
theorem dX9_makesOf_100 : decode cX9_makesOf 100 = .ok (.iconst 0, 1) := by decide +kernel
theorem dX9_makesOf_101 : decode cX9_makesOf 101 = .ok (.istore 8, 2) := by decide +kernel
theorem dX9_makesOf_103 : decode cX9_makesOf 103 = .ok (.iload 5, 2) := by decide +kernel
theorem dX9_makesOf_105 : decode cX9_makesOf 105 = .ok (.iload 8, 2) := by decide +kernel
theorem dX9_makesOf_107 : decode cX9_makesOf 107 = .ok (.ifCond .eq 15, 3) := by decide +kernel
theorem dX9_makesOf_110 : decode cX9_makesOf 110 = .ok (.iconst 1, 1) := by decide +kernel
theorem dX9_makesOf_111 : decode cX9_makesOf 111 = .ok (.aload_n 0, 1) := by decide +kernel
theorem dX9_makesOf_112 : decode cX9_makesOf 112 = .ok (.getfield 26, 3) := by decide +kernel
theorem dX9_makesOf_115 : decode cX9_makesOf 115 = .ok (.iload 7, 2) := by decide +kernel
theorem dX9_makesOf_117 : decode cX9_makesOf 117 = .ok (.iaload, 1) := by decide +kernel
theorem dX9_makesOf_118 : decode cX9_makesOf 118 = .ok (.ishl, 1) := by decide +kernel
theorem dX9_makesOf_119 : decode cX9_makesOf 119 = .ok (.goto 4, 3) := by decide +kernel
theorem dX9_makesOf_122 : decode cX9_makesOf 122 = .ok (.iconst 0, 1) := by decide +kernel
theorem dX9_makesOf_123 : decode cX9_makesOf 123 = .ok (.ior, 1) := by decide +kernel
theorem dX9_makesOf_124 : decode cX9_makesOf 124 = .ok (.istore 5, 2) := by decide +kernel
theorem dX9_makesOf_126 : decode cX9_makesOf 126 = .ok (.iinc 7 1, 3) := by decide +kernel
theorem dX9_makesOf_129 : decode cX9_makesOf 129 = .ok (.goto (-117), 3) := by decide +kernel
theorem dX9_makesOf_132 : decode cX9_makesOf 132 = .ok (.iload 5, 2) := by decide +kernel
theorem dX9_makesOf_134 : decode cX9_makesOf 134 = .ok (.ireturn, 1) := by decide +kernel
theorem dX9_findComes_0 : decode cX9_findComes 0 = .ok (.aload_n 0, 1) := by decide +kernel
theorem dX9_findComes_1 : decode cX9_findComes 1 = .ok (.invokevirtual 149, 3) := by decide +kernel
theorem dX9_findComes_4 : decode cX9_findComes 4 = .ok (.aload_n 0, 1) := by decide +kernel
theorem dX9_findComes_5 : decode cX9_findComes 5 = .ok (.getfield 29, 3) := by decide +kernel
theorem dX9_findComes_8 : decode cX9_findComes 8 = .ok (.iconst 2, 1) := by decide +kernel
theorem dX9_findComes_9 : decode cX9_findComes 9 = .ok (.iaload, 1) := by decide +kernel
theorem dX9_findComes_10 : decode cX9_findComes 10 = .ok (.iconst 1, 1) := by decide +kernel
theorem dX9_findComes_11 : decode cX9_findComes 11 = .ok (.isub, 1) := by decide +kernel
theorem dX9_findComes_12 : decode cX9_findComes 12 = .ok (.istore_n 1, 1) := by decide +kernel
theorem dX9_findComes_13 : decode cX9_findComes 13 = .ok (.iload_n 1, 1) := by decide +kernel
theorem dX9_findComes_14 : decode cX9_findComes 14 = .ok (.ifCond .lt 80, 3) := by decide +kernel
theorem dX9_findComes_17 : decode cX9_findComes 17 = .ok (.aload_n 0, 1) := by decide +kernel
theorem dX9_findComes_18 : decode cX9_findComes 18 = .ok (.getfield 29, 3) := by decide +kernel
theorem dX9_findComes_21 : decode cX9_findComes 21 = .ok (.iconst 3, 1) := by decide +kernel
theorem dX9_findComes_22 : decode cX9_findComes 22 = .ok (.iload_n 1, 1) := by decide +kernel
theorem dX9_findComes_23 : decode cX9_findComes 23 = .ok (.iadd, 1) := by decide +kernel
theorem dX9_findComes_24 : decode cX9_findComes 24 = .ok (.iaload, 1) := by decide +kernel
theorem dX9_findComes_25 : decode cX9_findComes 25 = .ok (.invokestatic 125, 3) := by decide +kernel
theorem dX9_findComes_28 : decode cX9_findComes 28 = .ok (.istore_n 2, 1) := by decide +kernel
theorem dX9_findComes_29 : decode cX9_findComes 29 = .ok (.aload_n 0, 1) := by decide +kernel
theorem dX9_findComes_30 : decode cX9_findComes 30 = .ok (.getfield 42, 3) := by decide +kernel
theorem dX9_findComes_33 : decode cX9_findComes 33 = .ok (.iload_n 1, 1) := by decide +kernel
theorem dX9_findComes_34 : decode cX9_findComes 34 = .ok (.aload_n 0, 1) := by decide +kernel
theorem dX9_findComes_35 : decode cX9_findComes 35 = .ok (.aload_n 0, 1) := by decide +kernel
theorem dX9_findComes_36 : decode cX9_findComes 36 = .ok (.getfield 29, 3) := by decide +kernel
theorem dX9_findComes_39 : decode cX9_findComes 39 = .ok (.iconst 0, 1) := by decide +kernel
theorem dX9_findComes_40 : decode cX9_findComes 40 = .ok (.iaload, 1) := by decide +kernel
theorem dX9_findComes_41 : decode cX9_findComes 41 = .ok (.aload_n 0, 1) := by decide +kernel
theorem dX9_findComes_42 : decode cX9_findComes 42 = .ok (.getfield 29, 3) := by decide +kernel
theorem dX9_findComes_45 : decode cX9_findComes 45 = .ok (.iconst 3, 1) := by decide +kernel
theorem dX9_findComes_46 : decode cX9_findComes 46 = .ok (.iload_n 1, 1) := by decide +kernel
theorem dX9_findComes_47 : decode cX9_findComes 47 = .ok (.iadd, 1) := by decide +kernel
theorem dX9_findComes_48 : decode cX9_findComes 48 = .ok (.iaload, 1) := by decide +kernel
theorem dX9_findComes_49 : decode cX9_findComes 49 = .ok (.iload_n 2, 1) := by decide +kernel
theorem dX9_findComes_50 : decode cX9_findComes 50 = .ok (.ifCond .le 14, 3) := by decide +kernel
theorem dX9_findComes_53 : decode cX9_findComes 53 = .ok (.aload_n 0, 1) := by decide +kernel
theorem dX9_findComes_54 : decode cX9_findComes 54 = .ok (.getfield 42, 3) := by decide +kernel
theorem dX9_findComes_57 : decode cX9_findComes 57 = .ok (.iload_n 1, 1) := by decide +kernel
theorem dX9_findComes_58 : decode cX9_findComes 58 = .ok (.iconst 1, 1) := by decide +kernel
theorem dX9_findComes_59 : decode cX9_findComes 59 = .ok (.iadd, 1) := by decide +kernel
theorem dX9_findComes_60 : decode cX9_findComes 60 = .ok (.iaload, 1) := by decide +kernel
theorem dX9_findComes_61 : decode cX9_findComes 61 = .ok (.goto 4, 3) := by decide +kernel
theorem dX9_findComes_64 : decode cX9_findComes 64 = .ok (.iconst 0, 1) := by decide +kernel
theorem dX9_findComes_65 : decode cX9_findComes 65 = .ok (.iload_n 2, 1) := by decide +kernel
theorem dX9_findComes_66 : decode cX9_findComes 66 = .ok (.iconst 1, 1) := by decide +kernel
theorem dX9_findComes_67 : decode cX9_findComes 67 = .ok (.if_icmp .le 16, 3) := by decide +kernel
theorem dX9_findComes_70 : decode cX9_findComes 70 = .ok (.aload_n 0, 1) := by decide +kernel
theorem dX9_findComes_71 : decode cX9_findComes 71 = .ok (.getfield 42, 3) := by decide +kernel
theorem dX9_findComes_74 : decode cX9_findComes 74 = .ok (.aload_n 0, 1) := by decide +kernel
theorem dX9_findComes_75 : decode cX9_findComes 75 = .ok (.iload_n 1, 1) := by decide +kernel
theorem dX9_findComes_76 : decode cX9_findComes 76 = .ok (.invokevirtual 142, 3) := by decide +kernel
theorem dX9_findComes_79 : decode cX9_findComes 79 = .ok (.iaload, 1) := by decide +kernel
theorem dX9_findComes_80 : decode cX9_findComes 80 = .ok (.goto 4, 3) := by decide +kernel
theorem dX9_findComes_83 : decode cX9_findComes 83 = .ok (.iconst 0, 1) := by decide +kernel
theorem dX9_findComes_84 : decode cX9_findComes 84 = .ok (.invokevirtual 152, 3) := by decide +kernel
theorem dX9_findComes_87 : decode cX9_findComes 87 = .ok (.iastore, 1) := by decide +kernel
theorem dX9_findComes_88 : decode cX9_findComes 88 = .ok (.iinc 1 (-1), 3) := by decide +kernel
theorem dX9_findComes_91 : decode cX9_findComes 91 = .ok (.goto (-78), 3) := by decide +kernel
theorem dX9_findComes_94 : decode cX9_findComes 94 = .ok (.return_, 1) := by decide +kernel
theorem dX9_isNode_0 : decode cX9_isNode 0 = .ok (.iload_n 1, 1) := by decide +kernel
theorem dX9_isNode_1 : decode cX9_isNode 1 = .ok (.iconst 0, 1) := by decide +kernel
theorem dX9_isNode_2 : decode cX9_isNode 2 = .ok (.aload_n 0, 1) := by decide +kernel
theorem dX9_isNode_3 : decode cX9_isNode 3 = .ok (.getfield 29, 3) := by decide +kernel
theorem dX9_isNode_6 : decode cX9_isNode 6 = .ok (.iconst 2, 1) := by decide +kernel
theorem dX9_isNode_7 : decode cX9_isNode 7 = .ok (.iaload, 1) := by decide +kernel
theorem dX9_isNode_8 : decode cX9_isNode 8 = .ok (.iconst 1, 1) := by decide +kernel
theorem dX9_isNode_9 : decode cX9_isNode 9 = .ok (.isub, 1) := by decide +kernel
theorem dX9_isNode_10 : decode cX9_isNode 10 = .ok (.invokestatic 88, 3) := by decide +kernel
theorem dX9_isNode_13 : decode cX9_isNode 13 = .ok (.ireturn, 1) := by decide +kernel
theorem dX9_over_0 : decode cX9_over 0 = .ok (.bipush (-9), 2) := by decide +kernel
theorem dX9_over_2 : decode cX9_over 2 = .ok (.istore_n 2, 1) := by decide +kernel
theorem dX9_over_3 : decode cX9_over 3 = .ok (.iconst 0, 1) := by decide +kernel
theorem dX9_over_4 : decode cX9_over 4 = .ok (.istore_n 3, 1) := by decide +kernel
theorem dX9_over_5 : decode cX9_over 5 = .ok (.iload_n 3, 1) := by decide +kernel
theorem dX9_over_6 : decode cX9_over 6 = .ok (.iload_n 1, 1) := by decide +kernel
theorem dX9_over_7 : decode cX9_over 7 = .ok (.if_icmp .ge 55, 3) := by decide +kernel
theorem dX9_over_10 : decode cX9_over 10 = .ok (.aload_n 0, 1) := by decide +kernel
theorem dX9_over_11 : decode cX9_over 11 = .ok (.getfield 29, 3) := by decide +kernel
theorem dX9_over_14 : decode cX9_over 14 = .ok (.iconst 3, 1) := by decide +kernel
theorem dX9_over_15 : decode cX9_over 15 = .ok (.iload_n 3, 1) := by decide +kernel
theorem dX9_over_16 : decode cX9_over 16 = .ok (.iadd, 1) := by decide +kernel
theorem dX9_over_17 : decode cX9_over 17 = .ok (.iaload, 1) := by decide +kernel
theorem dX9_over_18 : decode cX9_over 18 = .ok (.invokestatic 125, 3) := by decide +kernel
theorem dX9_over_21 : decode cX9_over 21 = .ok (.istore 4, 2) := by decide +kernel
theorem dX9_over_23 : decode cX9_over 23 = .ok (.iload 4, 2) := by decide +kernel
theorem dX9_over_25 : decode cX9_over 25 = .ok (.ifCond .le 10, 3) := by decide +kernel
theorem dX9_over_28 : decode cX9_over 28 = .ok (.iload_n 3, 1) := by decide +kernel
theorem dX9_over_29 : decode cX9_over 29 = .ok (.iconst 1, 1) := by decide +kernel
theorem dX9_over_30 : decode cX9_over 30 = .ok (.iadd, 1) := by decide +kernel
theorem dX9_over_31 : decode cX9_over 31 = .ok (.iload_n 1, 1) := by decide +kernel
theorem dX9_over_32 : decode cX9_over 32 = .ok (.if_icmp .eq 18, 3) := by decide +kernel
theorem dX9_over_35 : decode cX9_over 35 = .ok (.iload 4, 2) := by decide +kernel
theorem dX9_over_37 : decode cX9_over 37 = .ok (.iconst 1, 1) := by decide +kernel
theorem dX9_over_38 : decode cX9_over 38 = .ok (.if_icmp .le 16, 3) := by decide +kernel
theorem dX9_over_41 : decode cX9_over 41 = .ok (.aload_n 0, 1) := by decide +kernel
theorem dX9_over_42 : decode cX9_over 42 = .ok (.iload_n 3, 1) := by decide +kernel
theorem dX9_over_43 : decode cX9_over 43 = .ok (.invokevirtual 142, 3) := by decide +kernel
theorem dX9_over_46 : decode cX9_over 46 = .ok (.iload_n 1, 1) := by decide +kernel
theorem dX9_over_47 : decode cX9_over 47 = .ok (.if_icmp .ne 7, 3) := by decide +kernel
theorem dX9_over_50 : decode cX9_over 50 = .ok (.iload_n 3, 1) := by decide +kernel
theorem dX9_over_51 : decode cX9_over 51 = .ok (.goto 4, 3) := by decide +kernel
theorem dX9_over_54 : decode cX9_over 54 = .ok (.iload_n 2, 1) := by decide +kernel
theorem dX9_over_55 : decode cX9_over 55 = .ok (.istore_n 2, 1) := by decide +kernel
theorem dX9_over_56 : decode cX9_over 56 = .ok (.iinc 3 1, 3) := by decide +kernel
theorem dX9_over_59 : decode cX9_over 59 = .ok (.goto (-54), 3) := by decide +kernel
theorem dX9_over_62 : decode cX9_over 62 = .ok (.iload_n 2, 1) := by decide +kernel
theorem dX9_over_63 : decode cX9_over 63 = .ok (.ireturn, 1) := by decide +kernel
theorem dX9_node_0 : decode cX9_node 0 = .ok (.aload_n 0, 1) := by decide +kernel
theorem dX9_node_1 : decode cX9_node 1 = .ok (.iload_n 1, 1) := by decide +kernel
theorem dX9_node_2 : decode cX9_node 2 = .ok (.invokevirtual 156, 3) := by decide +kernel
theorem dX9_node_5 : decode cX9_node 5 = .ok (.ifCond .eq 12, 3) := by decide +kernel
theorem dX9_node_8 : decode cX9_node 8 = .ok (.iload_n 2, 1) := by decide +kernel
theorem dX9_node_9 : decode cX9_node 9 = .ok (.iconst 0, 1) := by decide +kernel
theorem dX9_node_10 : decode cX9_node 10 = .ok (.iconst 3, 1) := by decide +kernel
theorem dX9_node_11 : decode cX9_node 11 = .ok (.invokestatic 88, 3) := by decide +kernel
theorem dX9_node_14 : decode cX9_node 14 = .ok (.ifCond .ne 5, 3) := by decide +kernel
theorem dX9_node_17 : decode cX9_node 17 = .ok (.iconst (-1), 1) := by decide +kernel
theorem dX9_node_18 : decode cX9_node 18 = .ok (.ireturn, 1) := by decide +kernel
theorem dX9_node_19 : decode cX9_node 19 = .ok (.aload_n 0, 1) := by decide +kernel
theorem dX9_node_20 : decode cX9_node 20 = .ok (.invokevirtual 159, 3) := by decide +kernel
theorem dX9_node_23 : decode cX9_node 23 = .ok (.iload_n 2, 1) := by decide +kernel
theorem dX9_node_24 : decode cX9_node 24 = .ok (.ifCond .ne 14, 3) := by decide +kernel
theorem dX9_node_27 : decode cX9_node 27 = .ok (.aload_n 0, 1) := by decide +kernel
theorem dX9_node_28 : decode cX9_node 28 = .ok (.getfield 29, 3) := by decide +kernel
theorem dX9_node_31 : decode cX9_node 31 = .ok (.iconst 3, 1) := by decide +kernel
theorem dX9_node_32 : decode cX9_node 32 = .ok (.iload_n 1, 1) := by decide +kernel
theorem dX9_node_33 : decode cX9_node 33 = .ok (.iadd, 1) := by decide +kernel
theorem dX9_node_34 : decode cX9_node 34 = .ok (.iaload, 1) := by decide +kernel
theorem dX9_node_35 : decode cX9_node 35 = .ok (.goto 36, 3) := by decide +kernel
theorem dX9_node_38 : decode cX9_node 38 = .ok (.iload_n 2, 1) := by decide +kernel
theorem dX9_node_39 : decode cX9_node 39 = .ok (.iconst 1, 1) := by decide +kernel
theorem dX9_node_40 : decode cX9_node 40 = .ok (.if_icmp .ne 12, 3) := by decide +kernel
theorem dX9_node_43 : decode cX9_node 43 = .ok (.aload_n 0, 1) := by decide +kernel
theorem dX9_node_44 : decode cX9_node 44 = .ok (.getfield 39, 3) := by decide +kernel
theorem dX9_node_47 : decode cX9_node 47 = .ok (.iload_n 1, 1) := by decide +kernel
theorem dX9_node_48 : decode cX9_node 48 = .ok (.iaload, 1) := by decide +kernel
theorem dX9_node_49 : decode cX9_node 49 = .ok (.goto 22, 3) := by decide +kernel
theorem dX9_node_52 : decode cX9_node 52 = .ok (.iload_n 2, 1) := by decide +kernel
theorem dX9_node_53 : decode cX9_node 53 = .ok (.iconst 2, 1) := by decide +kernel
theorem dX9_node_54 : decode cX9_node 54 = .ok (.if_icmp .ne 11, 3) := by decide +kernel
theorem dX9_node_57 : decode cX9_node 57 = .ok (.aload_n 0, 1) := by decide +kernel
theorem dX9_node_58 : decode cX9_node 58 = .ok (.iload_n 1, 1) := by decide +kernel
theorem dX9_node_59 : decode cX9_node 59 = .ok (.invokevirtual 162, 3) := by decide +kernel
theorem dX9_node_62 : decode cX9_node 62 = .ok (.goto 9, 3) := by decide +kernel
theorem dX9_node_65 : decode cX9_node 65 = .ok (.aload_n 0, 1) := by decide +kernel
theorem dX9_node_66 : decode cX9_node 66 = .ok (.getfield 42, 3) := by decide +kernel
theorem dX9_node_69 : decode cX9_node 69 = .ok (.iload_n 1, 1) := by decide +kernel
theorem dX9_node_70 : decode cX9_node 70 = .ok (.iaload, 1) := by decide +kernel
theorem dX9_node_71 : decode cX9_node 71 = .ok (.ireturn, 1) := by decide +kernel
theorem dX9_sign_0 : decode cX9_sign 0 = .ok (.aload_n 0, 1) := by decide +kernel
theorem dX9_sign_1 : decode cX9_sign 1 = .ok (.iload_n 1, 1) := by decide +kernel
theorem dX9_sign_2 : decode cX9_sign 2 = .ok (.invokevirtual 156, 3) := by decide +kernel
theorem dX9_sign_5 : decode cX9_sign 5 = .ok (.ifCond .eq 31, 3) := by decide +kernel
theorem dX9_sign_8 : decode cX9_sign 8 = .ok (.iload_n 2, 1) := by decide +kernel
theorem dX9_sign_9 : decode cX9_sign 9 = .ok (.iconst 0, 1) := by decide +kernel
theorem dX9_sign_10 : decode cX9_sign 10 = .ok (.bipush 7, 2) := by decide +kernel
theorem dX9_sign_12 : decode cX9_sign 12 = .ok (.invokestatic 88, 3) := by decide +kernel
theorem dX9_sign_15 : decode cX9_sign 15 = .ok (.ifCond .eq 21, 3) := by decide +kernel
theorem dX9_sign_18 : decode cX9_sign 18 = .ok (.iload_n 2, 1) := by decide +kernel
theorem dX9_sign_19 : decode cX9_sign 19 = .ok (.invokestatic 125, 3) := by decide +kernel
theorem dX9_sign_22 : decode cX9_sign 22 = .ok (.aload_n 0, 1) := by decide +kernel
theorem dX9_sign_23 : decode cX9_sign 23 = .ok (.getfield 29, 3) := by decide +kernel
theorem dX9_sign_26 : decode cX9_sign 26 = .ok (.iconst 3, 1) := by decide +kernel
theorem dX9_sign_27 : decode cX9_sign 27 = .ok (.iload_n 1, 1) := by decide +kernel
theorem dX9_sign_28 : decode cX9_sign 28 = .ok (.iadd, 1) := by decide +kernel
theorem dX9_sign_29 : decode cX9_sign 29 = .ok (.iaload, 1) := by decide +kernel
theorem dX9_sign_30 : decode cX9_sign 30 = .ok (.invokestatic 125, 3) := by decide +kernel
theorem dX9_sign_33 : decode cX9_sign 33 = .ok (.if_icmp .eq 5, 3) := by decide +kernel
theorem dX9_sign_36 : decode cX9_sign 36 = .ok (.iconst (-1), 1) := by decide +kernel
theorem dX9_sign_37 : decode cX9_sign 37 = .ok (.ireturn, 1) := by decide +kernel
theorem dX9_sign_38 : decode cX9_sign 38 = .ok (.aload_n 0, 1) := by decide +kernel
theorem dX9_sign_39 : decode cX9_sign 39 = .ok (.getfield 29, 3) := by decide +kernel
theorem dX9_sign_42 : decode cX9_sign 42 = .ok (.iconst 3, 1) := by decide +kernel
theorem dX9_sign_43 : decode cX9_sign 43 = .ok (.iload_n 1, 1) := by decide +kernel
theorem dX9_sign_44 : decode cX9_sign 44 = .ok (.iadd, 1) := by decide +kernel
theorem dX9_sign_45 : decode cX9_sign 45 = .ok (.iaload, 1) := by decide +kernel
theorem dX9_sign_46 : decode cX9_sign 46 = .ok (.istore_n 3, 1) := by decide +kernel
theorem dX9_sign_47 : decode cX9_sign 47 = .ok (.aload_n 0, 1) := by decide +kernel
theorem dX9_sign_48 : decode cX9_sign 48 = .ok (.getfield 29, 3) := by decide +kernel
theorem dX9_sign_51 : decode cX9_sign 51 = .ok (.iconst 3, 1) := by decide +kernel
theorem dX9_sign_52 : decode cX9_sign 52 = .ok (.iload_n 1, 1) := by decide +kernel
theorem dX9_sign_53 : decode cX9_sign 53 = .ok (.iadd, 1) := by decide +kernel
theorem dX9_sign_54 : decode cX9_sign 54 = .ok (.iload_n 2, 1) := by decide +kernel
theorem dX9_sign_55 : decode cX9_sign 55 = .ok (.iastore, 1) := by decide +kernel
theorem dX9_sign_56 : decode cX9_sign 56 = .ok (.iload_n 3, 1) := by decide +kernel
theorem dX9_sign_57 : decode cX9_sign 57 = .ok (.ireturn, 1) := by decide +kernel
theorem dX9_exchange_0 : decode cX9_exchange 0 = .ok (.aload_n 0, 1) := by decide +kernel
theorem dX9_exchange_1 : decode cX9_exchange 1 = .ok (.iload_n 1, 1) := by decide +kernel
theorem dX9_exchange_2 : decode cX9_exchange 2 = .ok (.invokevirtual 156, 3) := by decide +kernel
theorem dX9_exchange_5 : decode cX9_exchange 5 = .ok (.ifCond .ne 5, 3) := by decide +kernel
theorem dX9_exchange_8 : decode cX9_exchange 8 = .ok (.iconst (-1), 1) := by decide +kernel
theorem dX9_exchange_9 : decode cX9_exchange 9 = .ok (.ireturn, 1) := by decide +kernel
theorem dX9_exchange_10 : decode cX9_exchange 10 = .ok (.aload_n 0, 1) := by decide +kernel
theorem dX9_exchange_11 : decode cX9_exchange 11 = .ok (.getfield 29, 3) := by decide +kernel
theorem dX9_exchange_14 : decode cX9_exchange 14 = .ok (.iconst 3, 1) := by decide +kernel
theorem dX9_exchange_15 : decode cX9_exchange 15 = .ok (.iload_n 1, 1) := by decide +kernel
theorem dX9_exchange_16 : decode cX9_exchange 16 = .ok (.iadd, 1) := by decide +kernel
theorem dX9_exchange_17 : decode cX9_exchange 17 = .ok (.iaload, 1) := by decide +kernel
theorem dX9_exchange_18 : decode cX9_exchange 18 = .ok (.invokestatic 125, 3) := by decide +kernel
theorem dX9_exchange_21 : decode cX9_exchange 21 = .ok (.iconst 2, 1) := by decide +kernel
theorem dX9_exchange_22 : decode cX9_exchange 22 = .ok (.if_icmp .eq 6, 3) := by decide +kernel
theorem dX9_exchange_25 : decode cX9_exchange 25 = .ok (.bipush (-2), 2) := by decide +kernel
theorem dX9_exchange_27 : decode cX9_exchange 27 = .ok (.ireturn, 1) := by decide +kernel
theorem dX9_exchange_28 : decode cX9_exchange 28 = .ok (.aload_n 0, 1) := by decide +kernel
theorem dX9_exchange_29 : decode cX9_exchange 29 = .ok (.invokevirtual 149, 3) := by decide +kernel
theorem dX9_exchange_32 : decode cX9_exchange 32 = .ok (.iload_n 1, 1) := by decide +kernel
theorem dX9_exchange_33 : decode cX9_exchange 33 = .ok (.iconst 1, 1) := by decide +kernel
theorem dX9_exchange_34 : decode cX9_exchange 34 = .ok (.iadd, 1) := by decide +kernel
theorem dX9_exchange_35 : decode cX9_exchange 35 = .ok (.istore_n 2, 1) := by decide +kernel
theorem dX9_exchange_36 : decode cX9_exchange 36 = .ok (.aload_n 0, 1) := by decide +kernel
theorem dX9_exchange_37 : decode cX9_exchange 37 = .ok (.iload_n 1, 1) := by decide +kernel
theorem dX9_exchange_38 : decode cX9_exchange 38 = .ok (.invokevirtual 142, 3) := by decide +kernel
theorem dX9_exchange_41 : decode cX9_exchange 41 = .ok (.istore_n 3, 1) := by decide +kernel
theorem dX9_exchange_42 : decode cX9_exchange 42 = .ok (.iconst 0, 1) := by decide +kernel
theorem dX9_exchange_43 : decode cX9_exchange 43 = .ok (.istore 4, 2) := by decide +kernel
theorem dX9_exchange_45 : decode cX9_exchange 45 = .ok (.iload_n 3, 1) := by decide +kernel
theorem dX9_exchange_46 : decode cX9_exchange 46 = .ok (.istore 5, 2) := by decide +kernel
theorem dX9_exchange_48 : decode cX9_exchange 48 = .ok (.iload 5, 2) := by decide +kernel
theorem dX9_exchange_50 : decode cX9_exchange 50 = .ok (.iload_n 3, 1) := by decide +kernel
theorem dX9_exchange_51 : decode cX9_exchange 51 = .ok (.aload_n 0, 1) := by decide +kernel
theorem dX9_exchange_52 : decode cX9_exchange 52 = .ok (.getfield 39, 3) := by decide +kernel
theorem dX9_exchange_55 : decode cX9_exchange 55 = .ok (.iload_n 3, 1) := by decide +kernel
theorem dX9_exchange_56 : decode cX9_exchange 56 = .ok (.iaload, 1) := by decide +kernel
theorem dX9_exchange_57 : decode cX9_exchange 57 = .ok (.iadd, 1) := by decide +kernel
theorem dX9_exchange_58 : decode cX9_exchange 58 = .ok (.if_icmp .ge 28, 3) := by decide +kernel
theorem dX9_exchange_61 : decode cX9_exchange 61 = .ok (.aload_n 0, 1) := by decide +kernel
theorem dX9_exchange_62 : decode cX9_exchange 62 = .ok (.getfield 36, 3) := by decide +kernel
theorem dX9_exchange_65 : decode cX9_exchange 65 = .ok (.iload 4, 2) := by decide +kernel
theorem dX9_exchange_67 : decode cX9_exchange 67 = .ok (.aload_n 0, 1) := by decide +kernel
theorem dX9_exchange_68 : decode cX9_exchange 68 = .ok (.getfield 29, 3) := by decide +kernel
theorem dX9_exchange_71 : decode cX9_exchange 71 = .ok (.iconst 3, 1) := by decide +kernel
theorem dX9_exchange_72 : decode cX9_exchange 72 = .ok (.iload 5, 2) := by decide +kernel
theorem dX9_exchange_74 : decode cX9_exchange 74 = .ok (.iadd, 1) := by decide +kernel
theorem dX9_exchange_75 : decode cX9_exchange 75 = .ok (.iaload, 1) := by decide +kernel
theorem dX9_exchange_76 : decode cX9_exchange 76 = .ok (.iastore, 1) := by decide +kernel
theorem dX9_exchange_77 : decode cX9_exchange 77 = .ok (.iinc 4 1, 3) := by decide +kernel
theorem dX9_exchange_80 : decode cX9_exchange 80 = .ok (.iinc 5 1, 3) := by decide +kernel
theorem dX9_exchange_83 : decode cX9_exchange 83 = .ok (.goto (-35), 3) := by decide +kernel
theorem dX9_exchange_86 : decode cX9_exchange 86 = .ok (.iload_n 2, 1) := by decide +kernel
theorem dX9_exchange_87 : decode cX9_exchange 87 = .ok (.istore 5, 2) := by decide +kernel
theorem dX9_exchange_89 : decode cX9_exchange 89 = .ok (.iload 5, 2) := by decide +kernel
theorem dX9_exchange_91 : decode cX9_exchange 91 = .ok (.iload_n 3, 1) := by decide +kernel
theorem dX9_exchange_92 : decode cX9_exchange 92 = .ok (.if_icmp .ge 28, 3) := by decide +kernel
theorem dX9_exchange_95 : decode cX9_exchange 95 = .ok (.aload_n 0, 1) := by decide +kernel
theorem dX9_exchange_96 : decode cX9_exchange 96 = .ok (.getfield 36, 3) := by decide +kernel
theorem dX9_exchange_99 : decode cX9_exchange 99 = .ok (.iload 4, 2) := by decide +kernel
theorem dX9_exchange_101 : decode cX9_exchange 101 = .ok (.aload_n 0, 1) := by decide +kernel
theorem dX9_exchange_102 : decode cX9_exchange 102 = .ok (.getfield 29, 3) := by decide +kernel
theorem dX9_exchange_105 : decode cX9_exchange 105 = .ok (.iconst 3, 1) := by decide +kernel
theorem dX9_exchange_106 : decode cX9_exchange 106 = .ok (.iload 5, 2) := by decide +kernel
theorem dX9_exchange_108 : decode cX9_exchange 108 = .ok (.iadd, 1) := by decide +kernel
theorem dX9_exchange_109 : decode cX9_exchange 109 = .ok (.iaload, 1) := by decide +kernel
theorem dX9_exchange_110 : decode cX9_exchange 110 = .ok (.iastore, 1) := by decide +kernel
theorem dX9_exchange_111 : decode cX9_exchange 111 = .ok (.iinc 4 1, 3) := by decide +kernel
theorem dX9_exchange_114 : decode cX9_exchange 114 = .ok (.iinc 5 1, 3) := by decide +kernel
theorem dX9_exchange_117 : decode cX9_exchange 117 = .ok (.goto (-28), 3) := by decide +kernel
theorem dX9_exchange_120 : decode cX9_exchange 120 = .ok (.iconst 0, 1) := by decide +kernel
theorem dX9_exchange_121 : decode cX9_exchange 121 = .ok (.istore 5, 2) := by decide +kernel
theorem dX9_exchange_123 : decode cX9_exchange 123 = .ok (.iload 5, 2) := by decide +kernel
theorem dX9_exchange_125 : decode cX9_exchange 125 = .ok (.iload 4, 2) := by decide +kernel
theorem dX9_exchange_127 : decode cX9_exchange 127 = .ok (.if_icmp .ge 27, 3) := by decide +kernel
theorem dX9_exchange_130 : decode cX9_exchange 130 = .ok (.aload_n 0, 1) := by decide +kernel
theorem dX9_exchange_131 : decode cX9_exchange 131 = .ok (.getfield 29, 3) := by decide +kernel
theorem dX9_exchange_134 : decode cX9_exchange 134 = .ok (.iconst 3, 1) := by decide +kernel
theorem dX9_exchange_135 : decode cX9_exchange 135 = .ok (.iload_n 2, 1) := by decide +kernel
theorem dX9_exchange_136 : decode cX9_exchange 136 = .ok (.iadd, 1) := by decide +kernel
theorem dX9_exchange_137 : decode cX9_exchange 137 = .ok (.iload 5, 2) := by decide +kernel
theorem dX9_exchange_139 : decode cX9_exchange 139 = .ok (.iadd, 1) := by decide +kernel
theorem dX9_exchange_140 : decode cX9_exchange 140 = .ok (.aload_n 0, 1) := by decide +kernel
theorem dX9_exchange_141 : decode cX9_exchange 141 = .ok (.getfield 36, 3) := by decide +kernel
theorem dX9_exchange_144 : decode cX9_exchange 144 = .ok (.iload 5, 2) := by decide +kernel
theorem dX9_exchange_146 : decode cX9_exchange 146 = .ok (.iaload, 1) := by decide +kernel
theorem dX9_exchange_147 : decode cX9_exchange 147 = .ok (.iastore, 1) := by decide +kernel
theorem dX9_exchange_148 : decode cX9_exchange 148 = .ok (.iinc 5 1, 3) := by decide +kernel
theorem dX9_exchange_151 : decode cX9_exchange 151 = .ok (.goto (-28), 3) := by decide +kernel
theorem dX9_exchange_154 : decode cX9_exchange 154 = .ok (.iconst 1, 1) := by decide +kernel
theorem dX9_exchange_155 : decode cX9_exchange 155 = .ok (.ireturn, 1) := by decide +kernel
theorem dX9_isGood_0 : decode cX9_isGood 0 = .ok (.aload_n 0, 1) := by decide +kernel
theorem dX9_isGood_1 : decode cX9_isGood 1 = .ok (.getfield 29, 3) := by decide +kernel
theorem dX9_isGood_4 : decode cX9_isGood 4 = .ok (.iconst 2, 1) := by decide +kernel
theorem dX9_isGood_5 : decode cX9_isGood 5 = .ok (.iaload, 1) := by decide +kernel
theorem dX9_isGood_6 : decode cX9_isGood 6 = .ok (.ifCond .ne 6, 3) := by decide +kernel
theorem dX9_isGood_9 : decode cX9_isGood 9 = .ok (.bipush (-2), 2) := by decide +kernel
theorem dX9_isGood_11 : decode cX9_isGood 11 = .ok (.ireturn, 1) := by decide +kernel
theorem dX9_isGood_12 : decode cX9_isGood 12 = .ok (.aload_n 0, 1) := by decide +kernel
theorem dX9_isGood_13 : decode cX9_isGood 13 = .ok (.invokevirtual 159, 3) := by decide +kernel
theorem dX9_isGood_16 : decode cX9_isGood 16 = .ok (.aload_n 0, 1) := by decide +kernel
theorem dX9_isGood_17 : decode cX9_isGood 17 = .ok (.getfield 42, 3) := by decide +kernel
theorem dX9_isGood_20 : decode cX9_isGood 20 = .ok (.iconst 0, 1) := by decide +kernel
theorem dX9_isGood_21 : decode cX9_isGood 21 = .ok (.iaload, 1) := by decide +kernel
theorem dX9_isGood_22 : decode cX9_isGood 22 = .ok (.aload_n 0, 1) := by decide +kernel
theorem dX9_isGood_23 : decode cX9_isGood 23 = .ok (.getfield 29, 3) := by decide +kernel
theorem dX9_isGood_26 : decode cX9_isGood 26 = .ok (.iconst 1, 1) := by decide +kernel
theorem dX9_isGood_27 : decode cX9_isGood 27 = .ok (.iaload, 1) := by decide +kernel
theorem dX9_isGood_28 : decode cX9_isGood 28 = .ok (.iand, 1) := by decide +kernel
theorem dX9_isGood_29 : decode cX9_isGood 29 = .ok (.ifCond .eq 7, 3) := by decide +kernel
theorem dX9_isGood_32 : decode cX9_isGood 32 = .ok (.iconst 1, 1) := by decide +kernel
theorem dX9_isGood_33 : decode cX9_isGood 33 = .ok (.goto 4, 3) := by decide +kernel
theorem dX9_isGood_36 : decode cX9_isGood 36 = .ok (.iconst 0, 1) := by decide +kernel
theorem dX9_isGood_37 : decode cX9_isGood 37 = .ok (.ireturn, 1) := by decide +kernel
theorem dX9_runs_0 : decode cX9_runs 0 = .ok (.aload_n 0, 1) := by decide +kernel
theorem dX9_runs_1 : decode cX9_runs 1 = .ok (.getfield 29, 3) := by decide +kernel
theorem dX9_runs_4 : decode cX9_runs 4 = .ok (.iconst 2, 1) := by decide +kernel
theorem dX9_runs_5 : decode cX9_runs 5 = .ok (.iaload, 1) := by decide +kernel
theorem dX9_runs_6 : decode cX9_runs 6 = .ok (.ifCond .ne 6, 3) := by decide +kernel
theorem dX9_runs_9 : decode cX9_runs 9 = .ok (.bipush (-2), 2) := by decide +kernel
theorem dX9_runs_11 : decode cX9_runs 11 = .ok (.ireturn, 1) := by decide +kernel
theorem dX9_runs_12 : decode cX9_runs 12 = .ok (.aload_n 0, 1) := by decide +kernel
theorem dX9_runs_13 : decode cX9_runs 13 = .ok (.invokevirtual 149, 3) := by decide +kernel
theorem dX9_runs_16 : decode cX9_runs 16 = .ok (.aload_n 0, 1) := by decide +kernel
theorem dX9_runs_17 : decode cX9_runs 17 = .ok (.getfield 29, 3) := by decide +kernel
theorem dX9_runs_20 : decode cX9_runs 20 = .ok (.iconst 2, 1) := by decide +kernel
theorem dX9_runs_21 : decode cX9_runs 21 = .ok (.iaload, 1) := by decide +kernel
theorem dX9_runs_22 : decode cX9_runs 22 = .ok (.iconst 1, 1) := by decide +kernel
theorem dX9_runs_23 : decode cX9_runs 23 = .ok (.isub, 1) := by decide +kernel
theorem dX9_runs_24 : decode cX9_runs 24 = .ok (.istore_n 1, 1) := by decide +kernel
theorem dX9_runs_25 : decode cX9_runs 25 = .ok (.iload_n 1, 1) := by decide +kernel
theorem dX9_runs_26 : decode cX9_runs 26 = .ok (.ifCond .lt 207, 3) := by decide +kernel
theorem dX9_runs_29 : decode cX9_runs 29 = .ok (.aload_n 0, 1) := by decide +kernel
theorem dX9_runs_30 : decode cX9_runs 30 = .ok (.getfield 29, 3) := by decide +kernel
theorem dX9_runs_33 : decode cX9_runs 33 = .ok (.iconst 3, 1) := by decide +kernel
theorem dX9_runs_34 : decode cX9_runs 34 = .ok (.iload_n 1, 1) := by decide +kernel
theorem dX9_runs_35 : decode cX9_runs 35 = .ok (.iadd, 1) := by decide +kernel
theorem dX9_runs_36 : decode cX9_runs 36 = .ok (.iaload, 1) := by decide +kernel
theorem dX9_runs_37 : decode cX9_runs 37 = .ok (.istore_n 2, 1) := by decide +kernel
theorem dX9_runs_38 : decode cX9_runs 38 = .ok (.iload_n 2, 1) := by decide +kernel
theorem dX9_runs_39 : decode cX9_runs 39 = .ok (.invokestatic 125, 3) := by decide +kernel
theorem dX9_runs_42 : decode cX9_runs 42 = .ok (.istore_n 3, 1) := by decide +kernel
theorem dX9_runs_43 : decode cX9_runs 43 = .ok (.iconst 0, 1) := by decide +kernel
theorem dX9_runs_44 : decode cX9_runs 44 = .ok (.istore 4, 2) := by decide +kernel
theorem dX9_runs_46 : decode cX9_runs 46 = .ok (.iload 4, 2) := by decide +kernel
theorem dX9_runs_48 : decode cX9_runs 48 = .ok (.bipush 6, 2) := by decide +kernel
theorem dX9_runs_50 : decode cX9_runs 50 = .ok (.if_icmp .ge 22, 3) := by decide +kernel
theorem dX9_runs_53 : decode cX9_runs 53 = .ok (.aload_n 0, 1) := by decide +kernel
theorem dX9_runs_54 : decode cX9_runs 54 = .ok (.getfield 45, 3) := by decide +kernel
theorem dX9_runs_57 : decode cX9_runs 57 = .ok (.bipush 6, 2) := by decide +kernel
theorem dX9_runs_59 : decode cX9_runs 59 = .ok (.iload_n 1, 1) := by decide +kernel
theorem dX9_runs_60 : decode cX9_runs 60 = .ok (.imul, 1) := by decide +kernel
theorem dX9_runs_61 : decode cX9_runs 61 = .ok (.iload 4, 2) := by decide +kernel
theorem dX9_runs_63 : decode cX9_runs 63 = .ok (.iadd, 1) := by decide +kernel
theorem dX9_runs_64 : decode cX9_runs 64 = .ok (.lconst 0, 1) := by decide +kernel
theorem dX9_runs_65 : decode cX9_runs 65 = .ok (.lastore, 1) := by decide +kernel
theorem dX9_runs_66 : decode cX9_runs 66 = .ok (.iinc 4 1, 3) := by decide +kernel
theorem dX9_runs_69 : decode cX9_runs 69 = .ok (.goto (-23), 3) := by decide +kernel
theorem dX9_runs_72 : decode cX9_runs 72 = .ok (.iconst 0, 1) := by decide +kernel
theorem dX9_runs_73 : decode cX9_runs 73 = .ok (.istore 4, 2) := by decide +kernel
theorem dX9_runs_75 : decode cX9_runs 75 = .ok (.iload 4, 2) := by decide +kernel
theorem dX9_runs_77 : decode cX9_runs 77 = .ok (.aload_n 0, 1) := by decide +kernel
theorem dX9_runs_78 : decode cX9_runs 78 = .ok (.getfield 13, 3) := by decide +kernel
theorem dX9_runs_81 : decode cX9_runs 81 = .ok (.iconst 0, 1) := by decide +kernel
theorem dX9_runs_82 : decode cX9_runs 82 = .ok (.iaload, 1) := by decide +kernel
theorem dX9_runs_83 : decode cX9_runs 83 = .ok (.if_icmp .ge 144, 3) := by decide +kernel
theorem dX9_runs_86 : decode cX9_runs 86 = .ok (.aload_n 0, 1) := by decide +kernel
theorem dX9_runs_87 : decode cX9_runs 87 = .ok (.getfield 29, 3) := by decide +kernel
theorem dX9_runs_90 : decode cX9_runs 90 = .ok (.iconst 0, 1) := by decide +kernel
theorem dX9_runs_91 : decode cX9_runs 91 = .ok (.iaload, 1) := by decide +kernel
theorem dX9_runs_92 : decode cX9_runs 92 = .ok (.iload 4, 2) := by decide +kernel
theorem dX9_runs_94 : decode cX9_runs 94 = .ok (.invokestatic 145, 3) := by decide +kernel
theorem dX9_runs_97 : decode cX9_runs 97 = .ok (.ifCond .eq 124, 3) := by decide +kernel
theorem dX9_runs_100 : decode cX9_runs 100 = .ok (.aload_n 0, 1) := by decide +kernel
theorem dX9_runs_101 : decode cX9_runs 101 = .ok (.getfield 17, 3) := by decide +kernel
theorem dX9_runs_104 : decode cX9_runs 104 = .ok (.iload 4, 2) := by decide +kernel
theorem dX9_runs_106 : decode cX9_runs 106 = .ok (.iaload, 1) := by decide +kernel
theorem dX9_runs_107 : decode cX9_runs 107 = .ok (.iload_n 2, 1) := by decide +kernel
theorem dX9_runs_108 : decode cX9_runs 108 = .ok (.if_icmp .ne 113, 3) := by decide +kernel
theorem dX9_runs_111 : decode cX9_runs 111 = .ok (.iload_n 3, 1) := by decide +kernel
theorem dX9_runs_112 : decode cX9_runs 112 = .ok (.ifCond .le 25, 3) := by decide +kernel
theorem dX9_runs_115 : decode cX9_runs 115 = .ok (.aload_n 0, 1) := by decide +kernel
theorem dX9_runs_116 : decode cX9_runs 116 = .ok (.getfield 45, 3) := by decide +kernel
theorem dX9_runs_119 : decode cX9_runs 119 = .ok (.bipush 6, 2) := by decide +kernel
theorem dX9_runs_121 : decode cX9_runs 121 = .ok (.iload_n 1, 1) := by decide +kernel
theorem dX9_runs_122 : decode cX9_runs 122 = .ok (.iconst 1, 1) := by decide +kernel
theorem dX9_runs_123 : decode cX9_runs 123 = .ok (.iadd, 1) := by decide +kernel
theorem dX9_runs_124 : decode cX9_runs 124 = .ok (.imul, 1) := by decide +kernel
theorem dX9_runs_125 : decode cX9_runs 125 = .ok (.aload_n 0, 1) := by decide +kernel
theorem dX9_runs_126 : decode cX9_runs 126 = .ok (.getfield 20, 3) := by decide +kernel
theorem dX9_runs_129 : decode cX9_runs 129 = .ok (.iload 4, 2) := by decide +kernel
theorem dX9_runs_131 : decode cX9_runs 131 = .ok (.iaload, 1) := by decide +kernel
theorem dX9_runs_132 : decode cX9_runs 132 = .ok (.iadd, 1) := by decide +kernel
theorem dX9_runs_133 : decode cX9_runs 133 = .ok (.laload, 1) := by decide +kernel
theorem dX9_runs_134 : decode cX9_runs 134 = .ok (.goto 4, 3) := by decide +kernel
theorem dX9_runs_137 : decode cX9_runs 137 = .ok (.lconst 1, 1) := by decide +kernel
theorem dX9_runs_138 : decode cX9_runs 138 = .ok (.lstore 5, 2) := by decide +kernel
theorem dX9_runs_140 : decode cX9_runs 140 = .ok (.iload_n 3, 1) := by decide +kernel
theorem dX9_runs_141 : decode cX9_runs 141 = .ok (.iconst 1, 1) := by decide +kernel
theorem dX9_runs_142 : decode cX9_runs 142 = .ok (.if_icmp .le 34, 3) := by decide +kernel
theorem dX9_runs_145 : decode cX9_runs 145 = .ok (.lload 5, 2) := by decide +kernel
theorem dX9_runs_147 : decode cX9_runs 147 = .ok (.aload_n 0, 1) := by decide +kernel
theorem dX9_runs_148 : decode cX9_runs 148 = .ok (.getfield 45, 3) := by decide +kernel
theorem dX9_runs_151 : decode cX9_runs 151 = .ok (.bipush 6, 2) := by decide +kernel
theorem dX9_runs_153 : decode cX9_runs 153 = .ok (.aload_n 0, 1) := by decide +kernel
theorem dX9_runs_154 : decode cX9_runs 154 = .ok (.iload_n 1, 1) := by decide +kernel
theorem dX9_runs_155 : decode cX9_runs 155 = .ok (.invokevirtual 142, 3) := by decide +kernel
theorem dX9_runs_158 : decode cX9_runs 158 = .ok (.imul, 1) := by decide +kernel
theorem dX9_runs_159 : decode cX9_runs 159 = .ok (.aload_n 0, 1) := by decide +kernel
theorem dX9_runs_160 : decode cX9_runs 160 = .ok (.getfield 23, 3) := by decide +kernel
theorem dX9_runs_163 : decode cX9_runs 163 = .ok (.iload 4, 2) := by decide +kernel
theorem dX9_runs_165 : decode cX9_runs 165 = .ok (.iaload, 1) := by decide +kernel
theorem dX9_runs_166 : decode cX9_runs 166 = .ok (.iadd, 1) := by decide +kernel
theorem dX9_runs_167 : decode cX9_runs 167 = .ok (.laload, 1) := by decide +kernel
theorem dX9_runs_168 : decode cX9_runs 168 = .ok (.lmul, 1) := by decide +kernel
theorem dX9_runs_169 : decode cX9_runs 169 = .ok (.ldc2_w 165, 3) := by decide +kernel
theorem dX9_runs_172 : decode cX9_runs 172 = .ok (.lrem, 1) := by decide +kernel
theorem dX9_runs_173 : decode cX9_runs 173 = .ok (.goto 5, 3) := by decide +kernel
theorem dX9_runs_176 : decode cX9_runs 176 = .ok (.lload 5, 2) := by decide +kernel
theorem dX9_runs_178 : decode cX9_runs 178 = .ok (.lstore 5, 2) := by decide +kernel
theorem dX9_runs_180 : decode cX9_runs 180 = .ok (.aload_n 0, 1) := by decide +kernel
theorem dX9_runs_181 : decode cX9_runs 181 = .ok (.getfield 45, 3) := by decide +kernel
theorem dX9_runs_184 : decode cX9_runs 184 = .ok (.bipush 6, 2) := by decide +kernel
theorem dX9_runs_186 : decode cX9_runs 186 = .ok (.iload_n 1, 1) := by decide +kernel
theorem dX9_runs_187 : decode cX9_runs 187 = .ok (.imul, 1) := by decide +kernel
theorem dX9_runs_188 : decode cX9_runs 188 = .ok (.aload_n 0, 1) := by decide +kernel
theorem dX9_runs_189 : decode cX9_runs 189 = .ok (.getfield 26, 3) := by decide +kernel
theorem dX9_runs_192 : decode cX9_runs 192 = .ok (.iload 4, 2) := by decide +kernel
theorem dX9_runs_194 : decode cX9_runs 194 = .ok (.iaload, 1) := by decide +kernel
theorem dX9_runs_195 : decode cX9_runs 195 = .ok (.iadd, 1) := by decide +kernel
theorem dX9_runs_196 : decode cX9_runs 196 = .ok (.aload_n 0, 1) := by decide +kernel
theorem dX9_runs_197 : decode cX9_runs 197 = .ok (.getfield 45, 3) := by decide +kernel
theorem dX9_runs_200 : decode cX9_runs 200 = .ok (.bipush 6, 2) := by decide +kernel
theorem dX9_runs_202 : decode cX9_runs 202 = .ok (.iload_n 1, 1) := by decide +kernel
theorem dX9_runs_203 : decode cX9_runs 203 = .ok (.imul, 1) := by decide +kernel
theorem dX9_runs_204 : decode cX9_runs 204 = .ok (.aload_n 0, 1) := by decide +kernel
theorem dX9_runs_205 : decode cX9_runs 205 = .ok (.getfield 26, 3) := by decide +kernel
theorem dX9_runs_208 : decode cX9_runs 208 = .ok (.iload 4, 2) := by decide +kernel
theorem dX9_runs_210 : decode cX9_runs 210 = .ok (.iaload, 1) := by decide +kernel
theorem dX9_runs_211 : decode cX9_runs 211 = .ok (.iadd, 1) := by decide +kernel
theorem dX9_runs_212 : decode cX9_runs 212 = .ok (.laload, 1) := by decide +kernel
theorem dX9_runs_213 : decode cX9_runs 213 = .ok (.lload 5, 2) := by decide +kernel
theorem dX9_runs_215 : decode cX9_runs 215 = .ok (.ladd, 1) := by decide +kernel
theorem dX9_runs_216 : decode cX9_runs 216 = .ok (.ldc2_w 165, 3) := by decide +kernel
theorem dX9_runs_219 : decode cX9_runs 219 = .ok (.lrem, 1) := by decide +kernel
theorem dX9_runs_220 : decode cX9_runs 220 = .ok (.lastore, 1) := by decide +kernel
theorem dX9_runs_221 : decode cX9_runs 221 = .ok (.iinc 4 1, 3) := by decide +kernel
theorem dX9_runs_224 : decode cX9_runs 224 = .ok (.goto (-149), 3) := by decide +kernel
theorem dX9_runs_227 : decode cX9_runs 227 = .ok (.iinc 1 (-1), 3) := by decide +kernel
theorem dX9_runs_230 : decode cX9_runs 230 = .ok (.goto (-205), 3) := by decide +kernel
theorem dX9_runs_233 : decode cX9_runs 233 = .ok (.lconst 0, 1) := by decide +kernel
theorem dX9_runs_234 : decode cX9_runs 234 = .ok (.lstore_n 1, 1) := by decide +kernel
theorem dX9_runs_235 : decode cX9_runs 235 = .ok (.iconst 0, 1) := by decide +kernel
theorem dX9_runs_236 : decode cX9_runs 236 = .ok (.istore_n 3, 1) := by decide +kernel
theorem dX9_runs_237 : decode cX9_runs 237 = .ok (.iload_n 3, 1) := by decide +kernel
theorem dX9_runs_238 : decode cX9_runs 238 = .ok (.bipush 6, 2) := by decide +kernel
theorem dX9_runs_240 : decode cX9_runs 240 = .ok (.if_icmp .ge 35, 3) := by decide +kernel
theorem dX9_runs_243 : decode cX9_runs 243 = .ok (.lload_n 1, 1) := by decide +kernel
theorem dX9_runs_244 : decode cX9_runs 244 = .ok (.aload_n 0, 1) := by decide +kernel
theorem dX9_runs_245 : decode cX9_runs 245 = .ok (.getfield 29, 3) := by decide +kernel
theorem dX9_runs_248 : decode cX9_runs 248 = .ok (.iconst 1, 1) := by decide +kernel
theorem dX9_runs_249 : decode cX9_runs 249 = .ok (.iaload, 1) := by decide +kernel
theorem dX9_runs_250 : decode cX9_runs 250 = .ok (.iload_n 3, 1) := by decide +kernel
theorem dX9_runs_251 : decode cX9_runs 251 = .ok (.invokestatic 145, 3) := by decide +kernel
theorem dX9_runs_254 : decode cX9_runs 254 = .ok (.ifCond .eq 12, 3) := by decide +kernel
theorem dX9_runs_257 : decode cX9_runs 257 = .ok (.aload_n 0, 1) := by decide +kernel
theorem dX9_runs_258 : decode cX9_runs 258 = .ok (.getfield 45, 3) := by decide +kernel
theorem dX9_runs_261 : decode cX9_runs 261 = .ok (.iload_n 3, 1) := by decide +kernel
theorem dX9_runs_262 : decode cX9_runs 262 = .ok (.laload, 1) := by decide +kernel
theorem dX9_runs_263 : decode cX9_runs 263 = .ok (.goto 4, 3) := by decide +kernel
theorem dX9_runs_266 : decode cX9_runs 266 = .ok (.lconst 0, 1) := by decide +kernel
theorem dX9_runs_267 : decode cX9_runs 267 = .ok (.ladd, 1) := by decide +kernel
theorem dX9_runs_268 : decode cX9_runs 268 = .ok (.lstore_n 1, 1) := by decide +kernel
theorem dX9_runs_269 : decode cX9_runs 269 = .ok (.iinc 3 1, 3) := by decide +kernel
theorem dX9_runs_272 : decode cX9_runs 272 = .ok (.goto (-35), 3) := by decide +kernel
theorem dX9_runs_275 : decode cX9_runs 275 = .ok (.lload_n 1, 1) := by decide +kernel
theorem dX9_runs_276 : decode cX9_runs 276 = .ok (.ldc2_w 165, 3) := by decide +kernel
theorem dX9_runs_279 : decode cX9_runs 279 = .ok (.lrem, 1) := by decide +kernel
theorem dX9_runs_280 : decode cX9_runs 280 = .ok (.l2i, 1) := by decide +kernel
theorem dX9_runs_281 : decode cX9_runs 281 = .ok (.ireturn, 1) := by decide +kernel
theorem dX9_places_0 : decode cX9_places 0 = .ok (.iload_n 1, 1) := by decide +kernel
theorem dX9_places_1 : decode cX9_places 1 = .ok (.iconst 0, 1) := by decide +kernel
theorem dX9_places_2 : decode cX9_places 2 = .ok (.iconst 5, 1) := by decide +kernel
theorem dX9_places_3 : decode cX9_places 3 = .ok (.invokestatic 88, 3) := by decide +kernel
theorem dX9_places_6 : decode cX9_places 6 = .ok (.ifCond .ne 5, 3) := by decide +kernel
theorem dX9_places_9 : decode cX9_places 9 = .ok (.iconst (-1), 1) := by decide +kernel
theorem dX9_places_10 : decode cX9_places 10 = .ok (.ireturn, 1) := by decide +kernel
theorem dX9_places_11 : decode cX9_places 11 = .ok (.aload_n 0, 1) := by decide +kernel
theorem dX9_places_12 : decode cX9_places 12 = .ok (.invokevirtual 159, 3) := by decide +kernel
theorem dX9_places_15 : decode cX9_places 15 = .ok (.iconst 0, 1) := by decide +kernel
theorem dX9_places_16 : decode cX9_places 16 = .ok (.istore_n 2, 1) := by decide +kernel
theorem dX9_places_17 : decode cX9_places 17 = .ok (.iconst 0, 1) := by decide +kernel
theorem dX9_places_18 : decode cX9_places 18 = .ok (.istore_n 3, 1) := by decide +kernel
theorem dX9_places_19 : decode cX9_places 19 = .ok (.iload_n 3, 1) := by decide +kernel
theorem dX9_places_20 : decode cX9_places 20 = .ok (.aload_n 0, 1) := by decide +kernel
theorem dX9_places_21 : decode cX9_places 21 = .ok (.getfield 29, 3) := by decide +kernel
theorem dX9_places_24 : decode cX9_places 24 = .ok (.iconst 2, 1) := by decide +kernel
theorem dX9_places_25 : decode cX9_places 25 = .ok (.iaload, 1) := by decide +kernel
theorem dX9_places_26 : decode cX9_places 26 = .ok (.if_icmp .ge 32, 3) := by decide +kernel
theorem dX9_places_29 : decode cX9_places 29 = .ok (.iload_n 2, 1) := by decide +kernel
theorem dX9_places_30 : decode cX9_places 30 = .ok (.aload_n 0, 1) := by decide +kernel
theorem dX9_places_31 : decode cX9_places 31 = .ok (.getfield 42, 3) := by decide +kernel
theorem dX9_places_34 : decode cX9_places 34 = .ok (.iload_n 3, 1) := by decide +kernel
theorem dX9_places_35 : decode cX9_places 35 = .ok (.iaload, 1) := by decide +kernel
theorem dX9_places_36 : decode cX9_places 36 = .ok (.iload_n 1, 1) := by decide +kernel
theorem dX9_places_37 : decode cX9_places 37 = .ok (.invokestatic 145, 3) := by decide +kernel
theorem dX9_places_40 : decode cX9_places 40 = .ok (.ifCond .eq 9, 3) := by decide +kernel
theorem dX9_places_43 : decode cX9_places 43 = .ok (.iconst 1, 1) := by decide +kernel
theorem dX9_places_44 : decode cX9_places 44 = .ok (.iload_n 3, 1) := by decide +kernel
theorem dX9_places_45 : decode cX9_places 45 = .ok (.ishl, 1) := by decide +kernel
theorem dX9_places_46 : decode cX9_places 46 = .ok (.goto 4, 3) := by decide +kernel
theorem dX9_places_49 : decode cX9_places 49 = .ok (.iconst 0, 1) := by decide +kernel
theorem dX9_places_50 : decode cX9_places 50 = .ok (.ior, 1) := by decide +kernel
theorem dX9_places_51 : decode cX9_places 51 = .ok (.istore_n 2, 1) := by decide +kernel
theorem dX9_places_52 : decode cX9_places 52 = .ok (.iinc 3 1, 3) := by decide +kernel
theorem dX9_places_55 : decode cX9_places 55 = .ok (.goto (-36), 3) := by decide +kernel
theorem dX9_places_58 : decode cX9_places 58 = .ok (.iload_n 2, 1) := by decide +kernel
theorem dX9_places_59 : decode cX9_places 59 = .ok (.ireturn, 1) := by decide +kernel
theorem dX9_costAll_0 : decode cX9_costAll 0 = .ok (.aload_n 0, 1) := by decide +kernel
theorem dX9_costAll_1 : decode cX9_costAll 1 = .ok (.getfield 29, 3) := by decide +kernel
theorem dX9_costAll_4 : decode cX9_costAll 4 = .ok (.iconst 2, 1) := by decide +kernel
theorem dX9_costAll_5 : decode cX9_costAll 5 = .ok (.iaload, 1) := by decide +kernel
theorem dX9_costAll_6 : decode cX9_costAll 6 = .ok (.iconst 1, 1) := by decide +kernel
theorem dX9_costAll_7 : decode cX9_costAll 7 = .ok (.isub, 1) := by decide +kernel
theorem dX9_costAll_8 : decode cX9_costAll 8 = .ok (.istore_n 1, 1) := by decide +kernel
theorem dX9_costAll_9 : decode cX9_costAll 9 = .ok (.iload_n 1, 1) := by decide +kernel
theorem dX9_costAll_10 : decode cX9_costAll 10 = .ok (.ifCond .lt 264, 3) := by decide +kernel
theorem dX9_costAll_13 : decode cX9_costAll 13 = .ok (.aload_n 0, 1) := by decide +kernel
theorem dX9_costAll_14 : decode cX9_costAll 14 = .ok (.getfield 29, 3) := by decide +kernel
theorem dX9_costAll_17 : decode cX9_costAll 17 = .ok (.iconst 3, 1) := by decide +kernel
theorem dX9_costAll_18 : decode cX9_costAll 18 = .ok (.iload_n 1, 1) := by decide +kernel
theorem dX9_costAll_19 : decode cX9_costAll 19 = .ok (.iadd, 1) := by decide +kernel
theorem dX9_costAll_20 : decode cX9_costAll 20 = .ok (.iaload, 1) := by decide +kernel
theorem dX9_costAll_21 : decode cX9_costAll 21 = .ok (.invokestatic 125, 3) := by decide +kernel
theorem dX9_costAll_24 : decode cX9_costAll 24 = .ok (.istore_n 2, 1) := by decide +kernel
theorem dX9_costAll_25 : decode cX9_costAll 25 = .ok (.iconst 0, 1) := by decide +kernel
theorem dX9_costAll_26 : decode cX9_costAll 26 = .ok (.istore_n 3, 1) := by decide +kernel
theorem dX9_costAll_27 : decode cX9_costAll 27 = .ok (.iload_n 3, 1) := by decide +kernel
theorem dX9_costAll_28 : decode cX9_costAll 28 = .ok (.bipush 6, 2) := by decide +kernel
theorem dX9_costAll_30 : decode cX9_costAll 30 = .ok (.if_icmp .ge 23, 3) := by decide +kernel
theorem dX9_costAll_33 : decode cX9_costAll 33 = .ok (.aload_n 0, 1) := by decide +kernel
theorem dX9_costAll_34 : decode cX9_costAll 34 = .ok (.getfield 49, 3) := by decide +kernel
theorem dX9_costAll_37 : decode cX9_costAll 37 = .ok (.bipush 6, 2) := by decide +kernel
theorem dX9_costAll_39 : decode cX9_costAll 39 = .ok (.iload_n 1, 1) := by decide +kernel
theorem dX9_costAll_40 : decode cX9_costAll 40 = .ok (.imul, 1) := by decide +kernel
theorem dX9_costAll_41 : decode cX9_costAll 41 = .ok (.iload_n 3, 1) := by decide +kernel
theorem dX9_costAll_42 : decode cX9_costAll 42 = .ok (.iadd, 1) := by decide +kernel
theorem dX9_costAll_43 : decode cX9_costAll 43 = .ok (.sipush 999, 3) := by decide +kernel
theorem dX9_costAll_46 : decode cX9_costAll 46 = .ok (.iastore, 1) := by decide +kernel
theorem dX9_costAll_47 : decode cX9_costAll 47 = .ok (.iinc 3 1, 3) := by decide +kernel
theorem dX9_costAll_50 : decode cX9_costAll 50 = .ok (.goto (-23), 3) := by decide +kernel
theorem dX9_costAll_53 : decode cX9_costAll 53 = .ok (.iconst 0, 1) := by decide +kernel
theorem dX9_costAll_54 : decode cX9_costAll 54 = .ok (.istore_n 3, 1) := by decide +kernel
theorem dX9_costAll_55 : decode cX9_costAll 55 = .ok (.iload_n 3, 1) := by decide +kernel
theorem dX9_costAll_56 : decode cX9_costAll 56 = .ok (.aload_n 0, 1) := by decide +kernel
theorem dX9_costAll_57 : decode cX9_costAll 57 = .ok (.getfield 13, 3) := by decide +kernel
theorem dX9_costAll_60 : decode cX9_costAll 60 = .ok (.iconst 0, 1) := by decide +kernel
theorem dX9_costAll_61 : decode cX9_costAll 61 = .ok (.iaload, 1) := by decide +kernel
theorem dX9_costAll_62 : decode cX9_costAll 62 = .ok (.if_icmp .ge 206, 3) := by decide +kernel
theorem dX9_costAll_65 : decode cX9_costAll 65 = .ok (.aload_n 0, 1) := by decide +kernel
theorem dX9_costAll_66 : decode cX9_costAll 66 = .ok (.getfield 29, 3) := by decide +kernel
theorem dX9_costAll_69 : decode cX9_costAll 69 = .ok (.iconst 0, 1) := by decide +kernel
theorem dX9_costAll_70 : decode cX9_costAll 70 = .ok (.iaload, 1) := by decide +kernel
theorem dX9_costAll_71 : decode cX9_costAll 71 = .ok (.iload_n 3, 1) := by decide +kernel
theorem dX9_costAll_72 : decode cX9_costAll 72 = .ok (.invokestatic 145, 3) := by decide +kernel
theorem dX9_costAll_75 : decode cX9_costAll 75 = .ok (.ifCond .eq 46, 3) := by decide +kernel
theorem dX9_costAll_78 : decode cX9_costAll 78 = .ok (.aload_n 0, 1) := by decide +kernel
theorem dX9_costAll_79 : decode cX9_costAll 79 = .ok (.getfield 17, 3) := by decide +kernel
theorem dX9_costAll_82 : decode cX9_costAll 82 = .ok (.iload_n 3, 1) := by decide +kernel
theorem dX9_costAll_83 : decode cX9_costAll 83 = .ok (.iaload, 1) := by decide +kernel
theorem dX9_costAll_84 : decode cX9_costAll 84 = .ok (.invokestatic 125, 3) := by decide +kernel
theorem dX9_costAll_87 : decode cX9_costAll 87 = .ok (.iload_n 2, 1) := by decide +kernel
theorem dX9_costAll_88 : decode cX9_costAll 88 = .ok (.if_icmp .ne 33, 3) := by decide +kernel
theorem dX9_costAll_91 : decode cX9_costAll 91 = .ok (.aload_n 0, 1) := by decide +kernel
theorem dX9_costAll_92 : decode cX9_costAll 92 = .ok (.getfield 52, 3) := by decide +kernel
theorem dX9_costAll_95 : decode cX9_costAll 95 = .ok (.iload_n 1, 1) := by decide +kernel
theorem dX9_costAll_96 : decode cX9_costAll 96 = .ok (.iaload, 1) := by decide +kernel
theorem dX9_costAll_97 : decode cX9_costAll 97 = .ok (.bipush (-9), 2) := by decide +kernel
theorem dX9_costAll_99 : decode cX9_costAll 99 = .ok (.if_icmp .eq 18, 3) := by decide +kernel
theorem dX9_costAll_102 : decode cX9_costAll 102 = .ok (.aload_n 0, 1) := by decide +kernel
theorem dX9_costAll_103 : decode cX9_costAll 103 = .ok (.getfield 52, 3) := by decide +kernel
theorem dX9_costAll_106 : decode cX9_costAll 106 = .ok (.iload_n 1, 1) := by decide +kernel
theorem dX9_costAll_107 : decode cX9_costAll 107 = .ok (.iaload, 1) := by decide +kernel
theorem dX9_costAll_108 : decode cX9_costAll 108 = .ok (.aload_n 0, 1) := by decide +kernel
theorem dX9_costAll_109 : decode cX9_costAll 109 = .ok (.getfield 17, 3) := by decide +kernel
theorem dX9_costAll_112 : decode cX9_costAll 112 = .ok (.iload_n 3, 1) := by decide +kernel
theorem dX9_costAll_113 : decode cX9_costAll 113 = .ok (.iaload, 1) := by decide +kernel
theorem dX9_costAll_114 : decode cX9_costAll 114 = .ok (.if_icmp .ne 7, 3) := by decide +kernel
theorem dX9_costAll_117 : decode cX9_costAll 117 = .ok (.iconst 1, 1) := by decide +kernel
theorem dX9_costAll_118 : decode cX9_costAll 118 = .ok (.goto 4, 3) := by decide +kernel
theorem dX9_costAll_121 : decode cX9_costAll 121 = .ok (.iconst 0, 1) := by decide +kernel
theorem dX9_costAll_122 : decode cX9_costAll 122 = .ok (.istore 4, 2) := by decide +kernel
theorem dX9_costAll_124 : decode cX9_costAll 124 = .ok (.iload 4, 2) := by decide +kernel
theorem dX9_costAll_126 : decode cX9_costAll 126 = .ok (.ifCond .eq 136, 3) := by decide +kernel
theorem dX9_costAll_129 : decode cX9_costAll 129 = .ok (.aload_n 0, 1) := by decide +kernel
theorem dX9_costAll_130 : decode cX9_costAll 130 = .ok (.getfield 17, 3) := by decide +kernel
theorem dX9_costAll_133 : decode cX9_costAll 133 = .ok (.iload_n 3, 1) := by decide +kernel
theorem dX9_costAll_134 : decode cX9_costAll 134 = .ok (.iaload, 1) := by decide +kernel
theorem dX9_costAll_135 : decode cX9_costAll 135 = .ok (.aload_n 0, 1) := by decide +kernel
theorem dX9_costAll_136 : decode cX9_costAll 136 = .ok (.getfield 29, 3) := by decide +kernel
theorem dX9_costAll_139 : decode cX9_costAll 139 = .ok (.iconst 3, 1) := by decide +kernel
theorem dX9_costAll_140 : decode cX9_costAll 140 = .ok (.iload_n 1, 1) := by decide +kernel
