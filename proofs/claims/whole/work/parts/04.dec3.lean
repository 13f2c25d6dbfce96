theorem d_Rd_keep_9 : decode b_Rd_keep 9 = .ok (.lload_n 2, 1) := by decide +kernel
theorem d_Rd_keep_10 : decode b_Rd_keep 10 = .ok (.invokevirtual 172, 3) := by decide +kernel
theorem d_Rd_keep_13 : decode b_Rd_keep 13 = .ok (.return_, 1) := by decide +kernel
theorem d_Rd_takeNumbers_0 : decode b_Rd_takeNumbers 0 = .ok (.aload_n 0, 1) := by decide +kernel
theorem d_Rd_takeNumbers_1 : decode b_Rd_takeNumbers 1 = .ok (.iconst 0, 1) := by decide +kernel
theorem d_Rd_takeNumbers_2 : decode b_Rd_takeNumbers 2 = .ok (.aload_n 0, 1) := by decide +kernel
theorem d_Rd_takeNumbers_3 : decode b_Rd_takeNumbers 3 = .ok (.getfield 40, 3) := by decide +kernel
theorem d_Rd_takeNumbers_6 : decode b_Rd_takeNumbers 6 = .ok (.sipush 256, 3) := by decide +kernel
theorem d_Rd_takeNumbers_9 : decode b_Rd_takeNumbers 9 = .ok (.iconst 0, 1) := by decide +kernel
theorem d_Rd_takeNumbers_10 : decode b_Rd_takeNumbers 10 = .ok (.aload_n 0, 1) := by decide +kernel
theorem d_Rd_takeNumbers_11 : decode b_Rd_takeNumbers 11 = .ok (.getfield 80, 3) := by decide +kernel
theorem d_Rd_takeNumbers_14 : decode b_Rd_takeNumbers 14 = .ok (.lconst 0, 1) := by decide +kernel
theorem d_Rd_takeNumbers_15 : decode b_Rd_takeNumbers 15 = .ok (.invokevirtual 150, 3) := by decide +kernel
theorem d_Rd_takeNumbers_18 : decode b_Rd_takeNumbers 18 = .ok (.invokevirtual 153, 3) := by decide +kernel
theorem d_Rd_takeNumbers_21 : decode b_Rd_takeNumbers 21 = .ok (.aload_n 0, 1) := by decide +kernel
theorem d_Rd_takeNumbers_22 : decode b_Rd_takeNumbers 22 = .ok (.iconst 1, 1) := by decide +kernel
theorem d_Rd_takeNumbers_23 : decode b_Rd_takeNumbers 23 = .ok (.aload_n 0, 1) := by decide +kernel
theorem d_Rd_takeNumbers_24 : decode b_Rd_takeNumbers 24 = .ok (.getfield 40, 3) := by decide +kernel
theorem d_Rd_takeNumbers_27 : decode b_Rd_takeNumbers 27 = .ok (.sipush 257, 3) := by decide +kernel
theorem d_Rd_takeNumbers_30 : decode b_Rd_takeNumbers 30 = .ok (.iconst 0, 1) := by decide +kernel
theorem d_Rd_takeNumbers_31 : decode b_Rd_takeNumbers 31 = .ok (.aload_n 0, 1) := by decide +kernel
theorem d_Rd_takeNumbers_32 : decode b_Rd_takeNumbers 32 = .ok (.getfield 80, 3) := by decide +kernel
theorem d_Rd_takeNumbers_35 : decode b_Rd_takeNumbers 35 = .ok (.lconst 0, 1) := by decide +kernel
theorem d_Rd_takeNumbers_36 : decode b_Rd_takeNumbers 36 = .ok (.invokevirtual 150, 3) := by decide +kernel
theorem d_Rd_takeNumbers_39 : decode b_Rd_takeNumbers 39 = .ok (.invokevirtual 153, 3) := by decide +kernel
theorem d_Rd_takeNumbers_42 : decode b_Rd_takeNumbers 42 = .ok (.aload_n 0, 1) := by decide +kernel
theorem d_Rd_takeNumbers_43 : decode b_Rd_takeNumbers 43 = .ok (.iconst 2, 1) := by decide +kernel
theorem d_Rd_takeNumbers_44 : decode b_Rd_takeNumbers 44 = .ok (.aload_n 0, 1) := by decide +kernel
theorem d_Rd_takeNumbers_45 : decode b_Rd_takeNumbers 45 = .ok (.getfield 40, 3) := by decide +kernel
theorem d_Rd_takeNumbers_48 : decode b_Rd_takeNumbers 48 = .ok (.sipush 259, 3) := by decide +kernel
theorem d_Rd_takeNumbers_51 : decode b_Rd_takeNumbers 51 = .ok (.iconst 0, 1) := by decide +kernel
theorem d_Rd_takeNumbers_52 : decode b_Rd_takeNumbers 52 = .ok (.aload_n 0, 1) := by decide +kernel
theorem d_Rd_takeNumbers_53 : decode b_Rd_takeNumbers 53 = .ok (.getfield 80, 3) := by decide +kernel
theorem d_Rd_takeNumbers_56 : decode b_Rd_takeNumbers 56 = .ok (.lconst 1, 1) := by decide +kernel
theorem d_Rd_takeNumbers_57 : decode b_Rd_takeNumbers 57 = .ok (.invokevirtual 150, 3) := by decide +kernel
theorem d_Rd_takeNumbers_60 : decode b_Rd_takeNumbers 60 = .ok (.invokevirtual 153, 3) := by decide +kernel
theorem d_Rd_takeNumbers_63 : decode b_Rd_takeNumbers 63 = .ok (.aload_n 0, 1) := by decide +kernel
theorem d_Rd_takeNumbers_64 : decode b_Rd_takeNumbers 64 = .ok (.iconst 3, 1) := by decide +kernel
theorem d_Rd_takeNumbers_65 : decode b_Rd_takeNumbers 65 = .ok (.aload_n 0, 1) := by decide +kernel
theorem d_Rd_takeNumbers_66 : decode b_Rd_takeNumbers 66 = .ok (.getfield 40, 3) := by decide +kernel
theorem d_Rd_takeNumbers_69 : decode b_Rd_takeNumbers 69 = .ok (.sipush 262, 3) := by decide +kernel
theorem d_Rd_takeNumbers_72 : decode b_Rd_takeNumbers 72 = .ok (.iconst 0, 1) := by decide +kernel
theorem d_Rd_takeNumbers_73 : decode b_Rd_takeNumbers 73 = .ok (.aload_n 0, 1) := by decide +kernel
theorem d_Rd_takeNumbers_74 : decode b_Rd_takeNumbers 74 = .ok (.getfield 80, 3) := by decide +kernel
theorem d_Rd_takeNumbers_77 : decode b_Rd_takeNumbers 77 = .ok (.lconst 0, 1) := by decide +kernel
theorem d_Rd_takeNumbers_78 : decode b_Rd_takeNumbers 78 = .ok (.invokevirtual 150, 3) := by decide +kernel
theorem d_Rd_takeNumbers_81 : decode b_Rd_takeNumbers 81 = .ok (.invokevirtual 153, 3) := by decide +kernel
theorem d_Rd_takeNumbers_84 : decode b_Rd_takeNumbers 84 = .ok (.aload_n 0, 1) := by decide +kernel
theorem d_Rd_takeNumbers_85 : decode b_Rd_takeNumbers 85 = .ok (.iconst 4, 1) := by decide +kernel
theorem d_Rd_takeNumbers_86 : decode b_Rd_takeNumbers 86 = .ok (.aload_n 0, 1) := by decide +kernel
theorem d_Rd_takeNumbers_87 : decode b_Rd_takeNumbers 87 = .ok (.getfield 40, 3) := by decide +kernel
theorem d_Rd_takeNumbers_90 : decode b_Rd_takeNumbers 90 = .ok (.sipush 266, 3) := by decide +kernel
theorem d_Rd_takeNumbers_93 : decode b_Rd_takeNumbers 93 = .ok (.iconst 0, 1) := by decide +kernel
theorem d_Rd_takeNumbers_94 : decode b_Rd_takeNumbers 94 = .ok (.aload_n 0, 1) := by decide +kernel
theorem d_Rd_takeNumbers_95 : decode b_Rd_takeNumbers 95 = .ok (.getfield 80, 3) := by decide +kernel
theorem d_Rd_takeNumbers_98 : decode b_Rd_takeNumbers 98 = .ok (.lconst 1, 1) := by decide +kernel
theorem d_Rd_takeNumbers_99 : decode b_Rd_takeNumbers 99 = .ok (.invokevirtual 150, 3) := by decide +kernel
theorem d_Rd_takeNumbers_102 : decode b_Rd_takeNumbers 102 = .ok (.invokevirtual 153, 3) := by decide +kernel
theorem d_Rd_takeNumbers_105 : decode b_Rd_takeNumbers 105 = .ok (.aload_n 0, 1) := by decide +kernel
theorem d_Rd_takeNumbers_106 : decode b_Rd_takeNumbers 106 = .ok (.bipush 7, 2) := by decide +kernel
theorem d_Rd_takeNumbers_108 : decode b_Rd_takeNumbers 108 = .ok (.aload_n 0, 1) := by decide +kernel
theorem d_Rd_takeNumbers_109 : decode b_Rd_takeNumbers 109 = .ok (.getfield 40, 3) := by decide +kernel
theorem d_Rd_takeNumbers_112 : decode b_Rd_takeNumbers 112 = .ok (.sipush 296, 3) := by decide +kernel
theorem d_Rd_takeNumbers_115 : decode b_Rd_takeNumbers 115 = .ok (.iconst 0, 1) := by decide +kernel
theorem d_Rd_takeNumbers_116 : decode b_Rd_takeNumbers 116 = .ok (.aload_n 0, 1) := by decide +kernel
theorem d_Rd_takeNumbers_117 : decode b_Rd_takeNumbers 117 = .ok (.getfield 80, 3) := by decide +kernel
theorem d_Rd_takeNumbers_120 : decode b_Rd_takeNumbers 120 = .ok (.ldc2_w 113, 3) := by decide +kernel
theorem d_Rd_takeNumbers_123 : decode b_Rd_takeNumbers 123 = .ok (.invokevirtual 150, 3) := by decide +kernel
theorem d_Rd_takeNumbers_126 : decode b_Rd_takeNumbers 126 = .ok (.invokevirtual 153, 3) := by decide +kernel
theorem d_Rd_takeNumbers_129 : decode b_Rd_takeNumbers 129 = .ok (.aload_n 0, 1) := by decide +kernel
theorem d_Rd_takeNumbers_130 : decode b_Rd_takeNumbers 130 = .ok (.bipush 8, 2) := by decide +kernel
theorem d_Rd_takeNumbers_132 : decode b_Rd_takeNumbers 132 = .ok (.aload_n 0, 1) := by decide +kernel
theorem d_Rd_takeNumbers_133 : decode b_Rd_takeNumbers 133 = .ok (.getfield 40, 3) := by decide +kernel
theorem d_Rd_takeNumbers_136 : decode b_Rd_takeNumbers 136 = .ok (.sipush 282, 3) := by decide +kernel
theorem d_Rd_takeNumbers_139 : decode b_Rd_takeNumbers 139 = .ok (.iconst 0, 1) := by decide +kernel
theorem d_Rd_takeNumbers_140 : decode b_Rd_takeNumbers 140 = .ok (.aload_n 0, 1) := by decide +kernel
theorem d_Rd_takeNumbers_141 : decode b_Rd_takeNumbers 141 = .ok (.getfield 80, 3) := by decide +kernel
theorem d_Rd_takeNumbers_144 : decode b_Rd_takeNumbers 144 = .ok (.ldc2_w 157, 3) := by decide +kernel
theorem d_Rd_takeNumbers_147 : decode b_Rd_takeNumbers 147 = .ok (.invokevirtual 150, 3) := by decide +kernel
theorem d_Rd_takeNumbers_150 : decode b_Rd_takeNumbers 150 = .ok (.invokevirtual 153, 3) := by decide +kernel
theorem d_Rd_takeNumbers_153 : decode b_Rd_takeNumbers 153 = .ok (.aload_n 0, 1) := by decide +kernel
theorem d_Rd_takeNumbers_154 : decode b_Rd_takeNumbers 154 = .ok (.bipush 9, 2) := by decide +kernel
theorem d_Rd_takeNumbers_156 : decode b_Rd_takeNumbers 156 = .ok (.aload_n 0, 1) := by decide +kernel
theorem d_Rd_takeNumbers_157 : decode b_Rd_takeNumbers 157 = .ok (.getfield 40, 3) := by decide +kernel
theorem d_Rd_takeNumbers_160 : decode b_Rd_takeNumbers 160 = .ok (.sipush 282, 3) := by decide +kernel
theorem d_Rd_takeNumbers_163 : decode b_Rd_takeNumbers 163 = .ok (.iconst 1, 1) := by decide +kernel
theorem d_Rd_takeNumbers_164 : decode b_Rd_takeNumbers 164 = .ok (.aload_n 0, 1) := by decide +kernel
theorem d_Rd_takeNumbers_165 : decode b_Rd_takeNumbers 165 = .ok (.getfield 80, 3) := by decide +kernel
theorem d_Rd_takeNumbers_168 : decode b_Rd_takeNumbers 168 = .ok (.lconst 1, 1) := by decide +kernel
theorem d_Rd_takeNumbers_169 : decode b_Rd_takeNumbers 169 = .ok (.invokevirtual 150, 3) := by decide +kernel
theorem d_Rd_takeNumbers_172 : decode b_Rd_takeNumbers 172 = .ok (.invokevirtual 153, 3) := by decide +kernel
theorem d_Rd_takeNumbers_175 : decode b_Rd_takeNumbers 175 = .ok (.aload_n 0, 1) := by decide +kernel
theorem d_Rd_takeNumbers_176 : decode b_Rd_takeNumbers 176 = .ok (.bipush 10, 2) := by decide +kernel
theorem d_Rd_takeNumbers_178 : decode b_Rd_takeNumbers 178 = .ok (.aload_n 0, 1) := by decide +kernel
theorem d_Rd_takeNumbers_179 : decode b_Rd_takeNumbers 179 = .ok (.getfield 40, 3) := by decide +kernel
theorem d_Rd_takeNumbers_182 : decode b_Rd_takeNumbers 182 = .ok (.sipush 283, 3) := by decide +kernel
theorem d_Rd_takeNumbers_185 : decode b_Rd_takeNumbers 185 = .ok (.iconst 0, 1) := by decide +kernel
theorem d_Rd_takeNumbers_186 : decode b_Rd_takeNumbers 186 = .ok (.aload_n 0, 1) := by decide +kernel
theorem d_Rd_takeNumbers_187 : decode b_Rd_takeNumbers 187 = .ok (.getfield 80, 3) := by decide +kernel
theorem d_Rd_takeNumbers_190 : decode b_Rd_takeNumbers 190 = .ok (.ldc2_w 157, 3) := by decide +kernel
theorem d_Rd_takeNumbers_193 : decode b_Rd_takeNumbers 193 = .ok (.invokevirtual 150, 3) := by decide +kernel
theorem d_Rd_takeNumbers_196 : decode b_Rd_takeNumbers 196 = .ok (.invokevirtual 153, 3) := by decide +kernel
theorem d_Rd_takeNumbers_199 : decode b_Rd_takeNumbers 199 = .ok (.aload_n 0, 1) := by decide +kernel
theorem d_Rd_takeNumbers_200 : decode b_Rd_takeNumbers 200 = .ok (.bipush 11, 2) := by decide +kernel
theorem d_Rd_takeNumbers_202 : decode b_Rd_takeNumbers 202 = .ok (.aload_n 0, 1) := by decide +kernel
theorem d_Rd_takeNumbers_203 : decode b_Rd_takeNumbers 203 = .ok (.getfield 40, 3) := by decide +kernel
theorem d_Rd_takeNumbers_206 : decode b_Rd_takeNumbers 206 = .ok (.sipush 283, 3) := by decide +kernel
theorem d_Rd_takeNumbers_209 : decode b_Rd_takeNumbers 209 = .ok (.iconst 1, 1) := by decide +kernel
theorem d_Rd_takeNumbers_210 : decode b_Rd_takeNumbers 210 = .ok (.aload_n 0, 1) := by decide +kernel
theorem d_Rd_takeNumbers_211 : decode b_Rd_takeNumbers 211 = .ok (.getfield 80, 3) := by decide +kernel
theorem d_Rd_takeNumbers_214 : decode b_Rd_takeNumbers 214 = .ok (.lconst 1, 1) := by decide +kernel
theorem d_Rd_takeNumbers_215 : decode b_Rd_takeNumbers 215 = .ok (.invokevirtual 150, 3) := by decide +kernel
theorem d_Rd_takeNumbers_218 : decode b_Rd_takeNumbers 218 = .ok (.invokevirtual 153, 3) := by decide +kernel
theorem d_Rd_takeNumbers_221 : decode b_Rd_takeNumbers 221 = .ok (.aload_n 0, 1) := by decide +kernel
theorem d_Rd_takeNumbers_222 : decode b_Rd_takeNumbers 222 = .ok (.getfield 12, 3) := by decide +kernel
theorem d_Rd_takeNumbers_225 : decode b_Rd_takeNumbers 225 = .ok (.aload_n 0, 1) := by decide +kernel
theorem d_Rd_takeNumbers_226 : decode b_Rd_takeNumbers 226 = .ok (.getfield 89, 3) := by decide +kernel
theorem d_Rd_takeNumbers_229 : decode b_Rd_takeNumbers 229 = .ok (.iconst 1, 1) := by decide +kernel
theorem d_Rd_takeNumbers_230 : decode b_Rd_takeNumbers 230 = .ok (.invokevirtual 52, 3) := by decide +kernel
theorem d_Rd_takeNumbers_233 : decode b_Rd_takeNumbers 233 = .ok (.lstore_n 3, 1) := by decide +kernel
theorem d_Rd_takeNumbers_234 : decode b_Rd_takeNumbers 234 = .ok (.aload_n 0, 1) := by decide +kernel
theorem d_Rd_takeNumbers_235 : decode b_Rd_takeNumbers 235 = .ok (.getfield 40, 3) := by decide +kernel
theorem d_Rd_takeNumbers_238 : decode b_Rd_takeNumbers 238 = .ok (.sipush 278, 3) := by decide +kernel
theorem d_Rd_takeNumbers_241 : decode b_Rd_takeNumbers 241 = .ok (.iconst 0, 1) := by decide +kernel
theorem d_Rd_takeNumbers_242 : decode b_Rd_takeNumbers 242 = .ok (.aload_n 0, 1) := by decide +kernel
theorem d_Rd_takeNumbers_243 : decode b_Rd_takeNumbers 243 = .ok (.getfield 80, 3) := by decide +kernel
theorem d_Rd_takeNumbers_246 : decode b_Rd_takeNumbers 246 = .ok (.lload_n 3, 1) := by decide +kernel
theorem d_Rd_takeNumbers_247 : decode b_Rd_takeNumbers 247 = .ok (.invokevirtual 150, 3) := by decide +kernel
theorem d_Rd_takeNumbers_250 : decode b_Rd_takeNumbers 250 = .ok (.lload_n 3, 1) := by decide +kernel
theorem d_Rd_takeNumbers_251 : decode b_Rd_takeNumbers 251 = .ok (.invokestatic 159, 3) := by decide +kernel
theorem d_Rd_takeNumbers_254 : decode b_Rd_takeNumbers 254 = .ok (.lstore 5, 2) := by decide +kernel
theorem d_Rd_takeNumbers_256 : decode b_Rd_takeNumbers 256 = .ok (.aload_n 0, 1) := by decide +kernel
theorem d_Rd_takeNumbers_257 : decode b_Rd_takeNumbers 257 = .ok (.iconst 5, 1) := by decide +kernel
theorem d_Rd_takeNumbers_258 : decode b_Rd_takeNumbers 258 = .ok (.lload 5, 2) := by decide +kernel
theorem d_Rd_takeNumbers_260 : decode b_Rd_takeNumbers 260 = .ok (.invokevirtual 153, 3) := by decide +kernel
theorem d_Rd_takeNumbers_263 : decode b_Rd_takeNumbers 263 = .ok (.aload_n 0, 1) := by decide +kernel
theorem d_Rd_takeNumbers_264 : decode b_Rd_takeNumbers 264 = .ok (.bipush 6, 2) := by decide +kernel
theorem d_Rd_takeNumbers_266 : decode b_Rd_takeNumbers 266 = .ok (.lload_n 3, 1) := by decide +kernel
theorem d_Rd_takeNumbers_267 : decode b_Rd_takeNumbers 267 = .ok (.lload 5, 2) := by decide +kernel
theorem d_Rd_takeNumbers_269 : decode b_Rd_takeNumbers 269 = .ok (.invokestatic 165, 3) := by decide +kernel
theorem d_Rd_takeNumbers_272 : decode b_Rd_takeNumbers 272 = .ok (.invokevirtual 153, 3) := by decide +kernel
theorem d_Rd_takeNumbers_275 : decode b_Rd_takeNumbers 275 = .ok (.aload_n 0, 1) := by decide +kernel
theorem d_Rd_takeNumbers_276 : decode b_Rd_takeNumbers 276 = .ok (.bipush 12, 2) := by decide +kernel
theorem d_Rd_takeNumbers_278 : decode b_Rd_takeNumbers 278 = .ok (.lload_n 1, 1) := by decide +kernel
theorem d_Rd_takeNumbers_279 : decode b_Rd_takeNumbers 279 = .ok (.invokevirtual 153, 3) := by decide +kernel
theorem d_Rd_takeNumbers_282 : decode b_Rd_takeNumbers 282 = .ok (.aload_n 0, 1) := by decide +kernel
theorem d_Rd_takeNumbers_283 : decode b_Rd_takeNumbers 283 = .ok (.getfield 12, 3) := by decide +kernel
theorem d_Rd_takeNumbers_286 : decode b_Rd_takeNumbers 286 = .ok (.aload_n 0, 1) := by decide +kernel
theorem d_Rd_takeNumbers_287 : decode b_Rd_takeNumbers 287 = .ok (.getfield 89, 3) := by decide +kernel
theorem d_Rd_takeNumbers_290 : decode b_Rd_takeNumbers 290 = .ok (.invokevirtual 168, 3) := by decide +kernel
theorem d_Rd_takeNumbers_293 : decode b_Rd_takeNumbers 293 = .ok (.istore 7, 2) := by decide +kernel
theorem d_Rd_takeNumbers_295 : decode b_Rd_takeNumbers 295 = .ok (.iload 7, 2) := by decide +kernel
theorem d_Rd_takeNumbers_297 : decode b_Rd_takeNumbers 297 = .ok (.ifCond .eq 15, 3) := by decide +kernel
theorem d_Rd_takeNumbers_300 : decode b_Rd_takeNumbers 300 = .ok (.aload_n 0, 1) := by decide +kernel
theorem d_Rd_takeNumbers_301 : decode b_Rd_takeNumbers 301 = .ok (.bipush 7, 2) := by decide +kernel
theorem d_Rd_takeNumbers_303 : decode b_Rd_takeNumbers 303 = .ok (.iload 7, 2) := by decide +kernel
theorem d_Rd_takeNumbers_305 : decode b_Rd_takeNumbers 305 = .ok (.iconst 0, 1) := by decide +kernel
theorem d_Rd_takeNumbers_306 : decode b_Rd_takeNumbers 306 = .ok (.invokevirtual 117, 3) := by decide +kernel
theorem d_Rd_takeNumbers_309 : decode b_Rd_takeNumbers 309 = .ok (.ifCond .eq 7, 3) := by decide +kernel
theorem d_Rd_takeNumbers_312 : decode b_Rd_takeNumbers 312 = .ok (.iconst 1, 1) := by decide +kernel
theorem d_Rd_takeNumbers_313 : decode b_Rd_takeNumbers 313 = .ok (.goto 4, 3) := by decide +kernel
theorem d_Rd_takeNumbers_316 : decode b_Rd_takeNumbers 316 = .ok (.iconst 0, 1) := by decide +kernel
theorem d_Rd_takeNumbers_317 : decode b_Rd_takeNumbers 317 = .ok (.ireturn, 1) := by decide +kernel
theorem d_Rd_wrongCount_0 : decode b_Rd_wrongCount 0 = .ok (.aload_n 0, 1) := by decide +kernel
theorem d_Rd_wrongCount_1 : decode b_Rd_wrongCount 1 = .ok (.getfield 40, 3) := by decide +kernel
theorem d_Rd_wrongCount_4 : decode b_Rd_wrongCount 4 = .ok (.sipush 273, 3) := by decide +kernel
theorem d_Rd_wrongCount_7 : decode b_Rd_wrongCount 7 = .ok (.invokevirtual 183, 3) := by decide +kernel
theorem d_Rd_wrongCount_10 : decode b_Rd_wrongCount 10 = .ok (.iload_n 1, 1) := by decide +kernel
theorem d_Rd_wrongCount_11 : decode b_Rd_wrongCount 11 = .ok (.if_icmp .eq 7, 3) := by decide +kernel
theorem d_Rd_wrongCount_14 : decode b_Rd_wrongCount 14 = .ok (.sipush 273, 3) := by decide +kernel
theorem d_Rd_wrongCount_17 : decode b_Rd_wrongCount 17 = .ok (.ireturn, 1) := by decide +kernel
theorem d_Rd_wrongCount_18 : decode b_Rd_wrongCount 18 = .ok (.aload_n 0, 1) := by decide +kernel
theorem d_Rd_wrongCount_19 : decode b_Rd_wrongCount 19 = .ok (.getfield 40, 3) := by decide +kernel
theorem d_Rd_wrongCount_22 : decode b_Rd_wrongCount 22 = .ok (.sipush 279, 3) := by decide +kernel
theorem d_Rd_wrongCount_25 : decode b_Rd_wrongCount 25 = .ok (.invokevirtual 183, 3) := by decide +kernel
theorem d_Rd_wrongCount_28 : decode b_Rd_wrongCount 28 = .ok (.iload_n 1, 1) := by decide +kernel
theorem d_Rd_wrongCount_29 : decode b_Rd_wrongCount 29 = .ok (.if_icmp .eq 7, 3) := by decide +kernel
theorem d_Rd_wrongCount_32 : decode b_Rd_wrongCount 32 = .ok (.sipush 279, 3) := by decide +kernel
theorem d_Rd_wrongCount_35 : decode b_Rd_wrongCount 35 = .ok (.ireturn, 1) := by decide +kernel
theorem d_Rd_wrongCount_36 : decode b_Rd_wrongCount 36 = .ok (.aload_n 0, 1) := by decide +kernel
theorem d_Rd_wrongCount_37 : decode b_Rd_wrongCount 37 = .ok (.getfield 23, 3) := by decide +kernel
theorem d_Rd_wrongCount_40 : decode b_Rd_wrongCount 40 = .ok (.getfield 100, 3) := by decide +kernel
theorem d_Rd_wrongCount_43 : decode b_Rd_wrongCount 43 = .ok (.iload_n 1, 1) := by decide +kernel
theorem d_Rd_wrongCount_44 : decode b_Rd_wrongCount 44 = .ok (.iadd, 1) := by decide +kernel
theorem d_Rd_wrongCount_45 : decode b_Rd_wrongCount 45 = .ok (.sipush 8192, 3) := by decide +kernel
theorem d_Rd_wrongCount_48 : decode b_Rd_wrongCount 48 = .ok (.if_icmp .le 9, 3) := by decide +kernel
theorem d_Rd_wrongCount_51 : decode b_Rd_wrongCount 51 = .ok (.sipush 278, 3) := by decide +kernel
theorem d_Rd_wrongCount_54 : decode b_Rd_wrongCount 54 = .ok (.goto 4, 3) := by decide +kernel
theorem d_Rd_wrongCount_57 : decode b_Rd_wrongCount 57 = .ok (.iconst 0, 1) := by decide +kernel
theorem d_Rd_wrongCount_58 : decode b_Rd_wrongCount 58 = .ok (.ireturn, 1) := by decide +kernel
theorem d_Rd_takeStrips_0 : decode b_Rd_takeStrips 0 = .ok (.aload_n 0, 1) := by decide +kernel
theorem d_Rd_takeStrips_1 : decode b_Rd_takeStrips 1 = .ok (.getfield 12, 3) := by decide +kernel
theorem d_Rd_takeStrips_4 : decode b_Rd_takeStrips 4 = .ok (.aload_n 0, 1) := by decide +kernel
theorem d_Rd_takeStrips_5 : decode b_Rd_takeStrips 5 = .ok (.getfield 89, 3) := by decide +kernel
theorem d_Rd_takeStrips_8 : decode b_Rd_takeStrips 8 = .ok (.bipush 6, 2) := by decide +kernel
theorem d_Rd_takeStrips_10 : decode b_Rd_takeStrips 10 = .ok (.invokevirtual 52, 3) := by decide +kernel
theorem d_Rd_takeStrips_13 : decode b_Rd_takeStrips 13 = .ok (.l2i, 1) := by decide +kernel
theorem d_Rd_takeStrips_14 : decode b_Rd_takeStrips 14 = .ok (.istore_n 1, 1) := by decide +kernel
theorem d_Rd_takeStrips_15 : decode b_Rd_takeStrips 15 = .ok (.aload_n 0, 1) := by decide +kernel
theorem d_Rd_takeStrips_16 : decode b_Rd_takeStrips 16 = .ok (.iload_n 1, 1) := by decide +kernel
theorem d_Rd_takeStrips_17 : decode b_Rd_takeStrips 17 = .ok (.invokevirtual 176, 3) := by decide +kernel
theorem d_Rd_takeStrips_20 : decode b_Rd_takeStrips 20 = .ok (.istore_n 2, 1) := by decide +kernel
theorem d_Rd_takeStrips_21 : decode b_Rd_takeStrips 21 = .ok (.iload_n 2, 1) := by decide +kernel
theorem d_Rd_takeStrips_22 : decode b_Rd_takeStrips 22 = .ok (.ifCond .eq 12, 3) := by decide +kernel
theorem d_Rd_takeStrips_25 : decode b_Rd_takeStrips 25 = .ok (.aload_n 0, 1) := by decide +kernel
theorem d_Rd_takeStrips_26 : decode b_Rd_takeStrips 26 = .ok (.bipush 8, 2) := by decide +kernel
theorem d_Rd_takeStrips_28 : decode b_Rd_takeStrips 28 = .ok (.iload_n 2, 1) := by decide +kernel
theorem d_Rd_takeStrips_29 : decode b_Rd_takeStrips 29 = .ok (.iconst 0, 1) := by decide +kernel
theorem d_Rd_takeStrips_30 : decode b_Rd_takeStrips 30 = .ok (.invokevirtual 117, 3) := by decide +kernel
theorem d_Rd_takeStrips_33 : decode b_Rd_takeStrips 33 = .ok (.ireturn, 1) := by decide +kernel
theorem d_Rd_takeStrips_34 : decode b_Rd_takeStrips 34 = .ok (.aload_n 0, 1) := by decide +kernel
theorem d_Rd_takeStrips_35 : decode b_Rd_takeStrips 35 = .ok (.getfield 89, 3) := by decide +kernel
theorem d_Rd_takeStrips_38 : decode b_Rd_takeStrips 38 = .ok (.ifCond .lt 31, 3) := by decide +kernel
theorem d_Rd_takeStrips_41 : decode b_Rd_takeStrips 41 = .ok (.aload_n 0, 1) := by decide +kernel
theorem d_Rd_takeStrips_42 : decode b_Rd_takeStrips 42 = .ok (.getfield 89, 3) := by decide +kernel
theorem d_Rd_takeStrips_45 : decode b_Rd_takeStrips 45 = .ok (.aload_n 0, 1) := by decide +kernel
theorem d_Rd_takeStrips_46 : decode b_Rd_takeStrips 46 = .ok (.getfield 27, 3) := by decide +kernel
theorem d_Rd_takeStrips_49 : decode b_Rd_takeStrips 49 = .ok (.arraylength, 1) := by decide +kernel
theorem d_Rd_takeStrips_50 : decode b_Rd_takeStrips 50 = .ok (.if_icmp .ge 19, 3) := by decide +kernel
theorem d_Rd_takeStrips_53 : decode b_Rd_takeStrips 53 = .ok (.aload_n 0, 1) := by decide +kernel
theorem d_Rd_takeStrips_54 : decode b_Rd_takeStrips 54 = .ok (.getfield 27, 3) := by decide +kernel
theorem d_Rd_takeStrips_57 : decode b_Rd_takeStrips 57 = .ok (.aload_n 0, 1) := by decide +kernel
theorem d_Rd_takeStrips_58 : decode b_Rd_takeStrips 58 = .ok (.getfield 89, 3) := by decide +kernel
theorem d_Rd_takeStrips_61 : decode b_Rd_takeStrips 61 = .ok (.aload_n 0, 1) := by decide +kernel
theorem d_Rd_takeStrips_62 : decode b_Rd_takeStrips 62 = .ok (.getfield 23, 3) := by decide +kernel
theorem d_Rd_takeStrips_65 : decode b_Rd_takeStrips 65 = .ok (.getfield 100, 3) := by decide +kernel
theorem d_Rd_takeStrips_68 : decode b_Rd_takeStrips 68 = .ok (.iastore, 1) := by decide +kernel
theorem d_Rd_takeStrips_69 : decode b_Rd_takeStrips 69 = .ok (.iconst 0, 1) := by decide +kernel
theorem d_Rd_takeStrips_70 : decode b_Rd_takeStrips 70 = .ok (.istore_n 3, 1) := by decide +kernel
theorem d_Rd_takeStrips_71 : decode b_Rd_takeStrips 71 = .ok (.iload_n 3, 1) := by decide +kernel
theorem d_Rd_takeStrips_72 : decode b_Rd_takeStrips 72 = .ok (.iload_n 1, 1) := by decide +kernel
theorem d_Rd_takeStrips_73 : decode b_Rd_takeStrips 73 = .ok (.if_icmp .ge 95, 3) := by decide +kernel
theorem d_Rd_takeStrips_76 : decode b_Rd_takeStrips 76 = .ok (.aload_n 0, 1) := by decide +kernel
theorem d_Rd_takeStrips_77 : decode b_Rd_takeStrips 77 = .ok (.getfield 40, 3) := by decide +kernel
theorem d_Rd_takeStrips_80 : decode b_Rd_takeStrips 80 = .ok (.sipush 273, 3) := by decide +kernel
theorem d_Rd_takeStrips_83 : decode b_Rd_takeStrips 83 = .ok (.iload_n 3, 1) := by decide +kernel
theorem d_Rd_takeStrips_84 : decode b_Rd_takeStrips 84 = .ok (.aload_n 0, 1) := by decide +kernel
theorem d_Rd_takeStrips_85 : decode b_Rd_takeStrips 85 = .ok (.getfield 80, 3) := by decide +kernel
theorem d_Rd_takeStrips_88 : decode b_Rd_takeStrips 88 = .ok (.lconst 0, 1) := by decide +kernel
theorem d_Rd_takeStrips_89 : decode b_Rd_takeStrips 89 = .ok (.invokevirtual 150, 3) := by decide +kernel
theorem d_Rd_takeStrips_92 : decode b_Rd_takeStrips 92 = .ok (.lstore 4, 2) := by decide +kernel
theorem d_Rd_takeStrips_94 : decode b_Rd_takeStrips 94 = .ok (.aload_n 0, 1) := by decide +kernel
theorem d_Rd_takeStrips_95 : decode b_Rd_takeStrips 95 = .ok (.getfield 40, 3) := by decide +kernel
theorem d_Rd_takeStrips_98 : decode b_Rd_takeStrips 98 = .ok (.sipush 279, 3) := by decide +kernel
theorem d_Rd_takeStrips_101 : decode b_Rd_takeStrips 101 = .ok (.iload_n 3, 1) := by decide +kernel
theorem d_Rd_takeStrips_102 : decode b_Rd_takeStrips 102 = .ok (.aload_n 0, 1) := by decide +kernel
theorem d_Rd_takeStrips_103 : decode b_Rd_takeStrips 103 = .ok (.getfield 80, 3) := by decide +kernel
theorem d_Rd_takeStrips_106 : decode b_Rd_takeStrips 106 = .ok (.lconst 0, 1) := by decide +kernel
theorem d_Rd_takeStrips_107 : decode b_Rd_takeStrips 107 = .ok (.invokevirtual 150, 3) := by decide +kernel
theorem d_Rd_takeStrips_110 : decode b_Rd_takeStrips 110 = .ok (.lstore 6, 2) := by decide +kernel
theorem d_Rd_takeStrips_112 : decode b_Rd_takeStrips 112 = .ok (.lload 4, 2) := by decide +kernel
theorem d_Rd_takeStrips_114 : decode b_Rd_takeStrips 114 = .ok (.ldc2_w 139, 3) := by decide +kernel
theorem d_Rd_takeStrips_117 : decode b_Rd_takeStrips 117 = .ok (.lcmp, 1) := by decide +kernel
theorem d_Rd_takeStrips_118 : decode b_Rd_takeStrips 118 = .ok (.ifCond .lt 20, 3) := by decide +kernel
theorem d_Rd_takeStrips_121 : decode b_Rd_takeStrips 121 = .ok (.lload 4, 2) := by decide +kernel
theorem d_Rd_takeStrips_123 : decode b_Rd_takeStrips 123 = .ok (.lload 6, 2) := by decide +kernel
theorem d_Rd_takeStrips_125 : decode b_Rd_takeStrips 125 = .ok (.ladd, 1) := by decide +kernel
theorem d_Rd_takeStrips_126 : decode b_Rd_takeStrips 126 = .ok (.aload_n 0, 1) := by decide +kernel
theorem d_Rd_takeStrips_127 : decode b_Rd_takeStrips 127 = .ok (.getfield 31, 3) := by decide +kernel
theorem d_Rd_takeStrips_130 : decode b_Rd_takeStrips 130 = .ok (.getfield 107, 3) := by decide +kernel
theorem d_Rd_takeStrips_133 : decode b_Rd_takeStrips 133 = .ok (.i2l, 1) := by decide +kernel
theorem d_Rd_takeStrips_134 : decode b_Rd_takeStrips 134 = .ok (.lcmp, 1) := by decide +kernel
theorem d_Rd_takeStrips_135 : decode b_Rd_takeStrips 135 = .ok (.ifCond .le 14, 3) := by decide +kernel
theorem d_Rd_takeStrips_138 : decode b_Rd_takeStrips 138 = .ok (.aload_n 0, 1) := by decide +kernel
theorem d_Rd_takeStrips_139 : decode b_Rd_takeStrips 139 = .ok (.bipush 9, 2) := by decide +kernel
theorem d_Rd_takeStrips_141 : decode b_Rd_takeStrips 141 = .ok (.sipush 273, 3) := by decide +kernel
theorem d_Rd_takeStrips_144 : decode b_Rd_takeStrips 144 = .ok (.iload_n 3, 1) := by decide +kernel
theorem d_Rd_takeStrips_145 : decode b_Rd_takeStrips 145 = .ok (.invokevirtual 117, 3) := by decide +kernel
theorem d_Rd_takeStrips_148 : decode b_Rd_takeStrips 148 = .ok (.ireturn, 1) := by decide +kernel
theorem d_Rd_takeStrips_149 : decode b_Rd_takeStrips 149 = .ok (.aload_n 0, 1) := by decide +kernel
theorem d_Rd_takeStrips_150 : decode b_Rd_takeStrips 150 = .ok (.getfield 23, 3) := by decide +kernel
theorem d_Rd_takeStrips_153 : decode b_Rd_takeStrips 153 = .ok (.lload 4, 2) := by decide +kernel
theorem d_Rd_takeStrips_155 : decode b_Rd_takeStrips 155 = .ok (.l2i, 1) := by decide +kernel
theorem d_Rd_takeStrips_156 : decode b_Rd_takeStrips 156 = .ok (.lload 6, 2) := by decide +kernel
theorem d_Rd_takeStrips_158 : decode b_Rd_takeStrips 158 = .ok (.l2i, 1) := by decide +kernel
theorem d_Rd_takeStrips_159 : decode b_Rd_takeStrips 159 = .ok (.invokevirtual 179, 3) := by decide +kernel
theorem d_Rd_takeStrips_162 : decode b_Rd_takeStrips 162 = .ok (.iinc 3 1, 3) := by decide +kernel
theorem d_Rd_takeStrips_165 : decode b_Rd_takeStrips 165 = .ok (.goto (-94), 3) := by decide +kernel
theorem d_Rd_takeStrips_168 : decode b_Rd_takeStrips 168 = .ok (.iconst 1, 1) := by decide +kernel
theorem d_Rd_takeStrips_169 : decode b_Rd_takeStrips 169 = .ok (.ireturn, 1) := by decide +kernel
theorem d_Rd_takePage_0 : decode b_Rd_takePage 0 = .ok (.aload_n 0, 1) := by decide +kernel
theorem d_Rd_takePage_1 : decode b_Rd_takePage 1 = .ok (.getfield 89, 3) := by decide +kernel
theorem d_Rd_takePage_4 : decode b_Rd_takePage 4 = .ok (.bipush 40, 2) := by decide +kernel
theorem d_Rd_takePage_6 : decode b_Rd_takePage 6 = .ok (.if_icmp .ge 11, 3) := by decide +kernel
theorem d_Rd_takePage_9 : decode b_Rd_takePage 9 = .ok (.aload_n 0, 1) := by decide +kernel
theorem d_Rd_takePage_10 : decode b_Rd_takePage 10 = .ok (.lload_n 1, 1) := by decide +kernel
theorem d_Rd_takePage_11 : decode b_Rd_takePage 11 = .ok (.invokevirtual 121, 3) := by decide +kernel
theorem d_Rd_takePage_14 : decode b_Rd_takePage 14 = .ok (.ifCond .ne 11, 3) := by decide +kernel
theorem d_Rd_takePage_17 : decode b_Rd_takePage 17 = .ok (.aload_n 0, 1) := by decide +kernel
theorem d_Rd_takePage_18 : decode b_Rd_takePage 18 = .ok (.iconst 2, 1) := by decide +kernel
theorem d_Rd_takePage_19 : decode b_Rd_takePage 19 = .ok (.iconst 0, 1) := by decide +kernel
theorem d_Rd_takePage_20 : decode b_Rd_takePage 20 = .ok (.iconst 0, 1) := by decide +kernel
theorem d_Rd_takePage_21 : decode b_Rd_takePage 21 = .ok (.invokevirtual 117, 3) := by decide +kernel
theorem d_Rd_takePage_24 : decode b_Rd_takePage 24 = .ok (.ireturn, 1) := by decide +kernel
theorem d_Rd_takePage_25 : decode b_Rd_takePage 25 = .ok (.aload_n 0, 1) := by decide +kernel
theorem d_Rd_takePage_26 : decode b_Rd_takePage 26 = .ok (.lload_n 1, 1) := by decide +kernel
theorem d_Rd_takePage_27 : decode b_Rd_takePage 27 = .ok (.l2i, 1) := by decide +kernel
theorem d_Rd_takePage_28 : decode b_Rd_takePage 28 = .ok (.invokevirtual 124, 3) := by decide +kernel
theorem d_Rd_takePage_31 : decode b_Rd_takePage 31 = .ok (.ifCond .eq 29, 3) := by decide +kernel
theorem d_Rd_takePage_34 : decode b_Rd_takePage 34 = .ok (.aload_n 0, 1) := by decide +kernel
theorem d_Rd_takePage_35 : decode b_Rd_takePage 35 = .ok (.invokevirtual 127, 3) := by decide +kernel
theorem d_Rd_takePage_38 : decode b_Rd_takePage 38 = .ok (.ifCond .eq 22, 3) := by decide +kernel
theorem d_Rd_takePage_41 : decode b_Rd_takePage 41 = .ok (.aload_n 0, 1) := by decide +kernel
theorem d_Rd_takePage_42 : decode b_Rd_takePage 42 = .ok (.lload_n 1, 1) := by decide +kernel
theorem d_Rd_takePage_43 : decode b_Rd_takePage 43 = .ok (.invokevirtual 130, 3) := by decide +kernel
theorem d_Rd_takePage_46 : decode b_Rd_takePage 46 = .ok (.ifCond .eq 14, 3) := by decide +kernel
theorem d_Rd_takePage_49 : decode b_Rd_takePage 49 = .ok (.aload_n 0, 1) := by decide +kernel
theorem d_Rd_takePage_50 : decode b_Rd_takePage 50 = .ok (.invokevirtual 133, 3) := by decide +kernel
theorem d_Rd_takePage_53 : decode b_Rd_takePage 53 = .ok (.ifCond .eq 7, 3) := by decide +kernel
theorem d_Rd_takePage_56 : decode b_Rd_takePage 56 = .ok (.iconst 1, 1) := by decide +kernel
theorem d_Rd_takePage_57 : decode b_Rd_takePage 57 = .ok (.goto 4, 3) := by decide +kernel
theorem d_Rd_takePage_60 : decode b_Rd_takePage 60 = .ok (.iconst 0, 1) := by decide +kernel
theorem d_Rd_takePage_61 : decode b_Rd_takePage 61 = .ok (.ireturn, 1) := by decide +kernel
theorem d_Rd_goThrough_0 : decode b_Rd_goThrough 0 = .ok (.aload_n 0, 1) := by decide +kernel
theorem d_Rd_goThrough_1 : decode b_Rd_goThrough 1 = .ok (.invokevirtual 71, 3) := by decide +kernel
theorem d_Rd_goThrough_4 : decode b_Rd_goThrough 4 = .ok (.aload_n 0, 1) := by decide +kernel
theorem d_Rd_goThrough_5 : decode b_Rd_goThrough 5 = .ok (.invokevirtual 74, 3) := by decide +kernel
theorem d_Rd_goThrough_8 : decode b_Rd_goThrough 8 = .ok (.ifCond .ne 4, 3) := by decide +kernel
theorem d_Rd_goThrough_11 : decode b_Rd_goThrough 11 = .ok (.return_, 1) := by decide +kernel
theorem d_Rd_goThrough_12 : decode b_Rd_goThrough 12 = .ok (.aload_n 0, 1) := by decide +kernel
theorem d_Rd_goThrough_13 : decode b_Rd_goThrough 13 = .ok (.getfield 31, 3) := by decide +kernel
theorem d_Rd_goThrough_16 : decode b_Rd_goThrough 16 = .ok (.ldc2_w 78, 3) := by decide +kernel
theorem d_Rd_goThrough_19 : decode b_Rd_goThrough 19 = .ok (.iconst 4, 1) := by decide +kernel
theorem d_Rd_goThrough_20 : decode b_Rd_goThrough 20 = .ok (.aload_n 0, 1) := by decide +kernel
theorem d_Rd_goThrough_21 : decode b_Rd_goThrough 21 = .ok (.getfield 80, 3) := by decide +kernel
theorem d_Rd_goThrough_24 : decode b_Rd_goThrough 24 = .ok (.invokevirtual 83, 3) := by decide +kernel
theorem d_Rd_goThrough_27 : decode b_Rd_goThrough 27 = .ok (.lstore_n 1, 1) := by decide +kernel
theorem d_Rd_goThrough_28 : decode b_Rd_goThrough 28 = .ok (.iconst 0, 1) := by decide +kernel
theorem d_Rd_goThrough_29 : decode b_Rd_goThrough 29 = .ok (.istore_n 3, 1) := by decide +kernel
theorem d_Rd_goThrough_30 : decode b_Rd_goThrough 30 = .ok (.iload_n 3, 1) := by decide +kernel
theorem d_Rd_goThrough_31 : decode b_Rd_goThrough 31 = .ok (.bipush 40, 2) := by decide +kernel
theorem d_Rd_goThrough_33 : decode b_Rd_goThrough 33 = .ok (.if_icmp .gt 51, 3) := by decide +kernel
theorem d_Rd_goThrough_36 : decode b_Rd_goThrough 36 = .ok (.iload_n 3, 1) := by decide +kernel
theorem d_Rd_goThrough_37 : decode b_Rd_goThrough 37 = .ok (.ifCond .eq 9, 3) := by decide +kernel
theorem d_Rd_goThrough_40 : decode b_Rd_goThrough 40 = .ok (.lload_n 1, 1) := by decide +kernel
theorem d_Rd_goThrough_41 : decode b_Rd_goThrough 41 = .ok (.lconst 0, 1) := by decide +kernel
theorem d_Rd_goThrough_42 : decode b_Rd_goThrough 42 = .ok (.lcmp, 1) := by decide +kernel
theorem d_Rd_goThrough_43 : decode b_Rd_goThrough 43 = .ok (.ifCond .eq 41, 3) := by decide +kernel
theorem d_Rd_goThrough_46 : decode b_Rd_goThrough 46 = .ok (.aload_n 0, 1) := by decide +kernel
theorem d_Rd_goThrough_47 : decode b_Rd_goThrough 47 = .ok (.iload_n 3, 1) := by decide +kernel
theorem d_Rd_goThrough_48 : decode b_Rd_goThrough 48 = .ok (.putfield 89, 3) := by decide +kernel
theorem d_Rd_goThrough_51 : decode b_Rd_goThrough 51 = .ok (.aload_n 0, 1) := by decide +kernel
theorem d_Rd_goThrough_52 : decode b_Rd_goThrough 52 = .ok (.lload_n 1, 1) := by decide +kernel
theorem d_Rd_goThrough_53 : decode b_Rd_goThrough 53 = .ok (.invokevirtual 92, 3) := by decide +kernel
theorem d_Rd_goThrough_56 : decode b_Rd_goThrough 56 = .ok (.ifCond .ne 4, 3) := by decide +kernel
theorem d_Rd_goThrough_59 : decode b_Rd_goThrough 59 = .ok (.return_, 1) := by decide +kernel
theorem d_Rd_goThrough_60 : decode b_Rd_goThrough 60 = .ok (.aload_n 0, 1) := by decide +kernel
theorem d_Rd_goThrough_61 : decode b_Rd_goThrough 61 = .ok (.getfield 31, 3) := by decide +kernel
theorem d_Rd_goThrough_64 : decode b_Rd_goThrough 64 = .ok (.aload_n 0, 1) := by decide +kernel
theorem d_Rd_goThrough_65 : decode b_Rd_goThrough 65 = .ok (.lload_n 1, 1) := by decide +kernel
theorem d_Rd_goThrough_66 : decode b_Rd_goThrough 66 = .ok (.invokevirtual 96, 3) := by decide +kernel
theorem d_Rd_goThrough_69 : decode b_Rd_goThrough 69 = .ok (.iconst 4, 1) := by decide +kernel
theorem d_Rd_goThrough_70 : decode b_Rd_goThrough 70 = .ok (.aload_n 0, 1) := by decide +kernel
theorem d_Rd_goThrough_71 : decode b_Rd_goThrough 71 = .ok (.getfield 80, 3) := by decide +kernel
theorem d_Rd_goThrough_74 : decode b_Rd_goThrough 74 = .ok (.invokevirtual 83, 3) := by decide +kernel
theorem d_Rd_goThrough_77 : decode b_Rd_goThrough 77 = .ok (.lstore_n 1, 1) := by decide +kernel
theorem d_Rd_goThrough_78 : decode b_Rd_goThrough 78 = .ok (.iinc 3 1, 3) := by decide +kernel
theorem d_Rd_goThrough_81 : decode b_Rd_goThrough 81 = .ok (.goto (-51), 3) := by decide +kernel
theorem d_Rd_goThrough_84 : decode b_Rd_goThrough 84 = .ok (.aload_n 0, 1) := by decide +kernel
theorem d_Rd_goThrough_85 : decode b_Rd_goThrough 85 = .ok (.aload_n 0, 1) := by decide +kernel
theorem d_Rd_goThrough_86 : decode b_Rd_goThrough 86 = .ok (.getfield 89, 3) := by decide +kernel
theorem d_Rd_goThrough_89 : decode b_Rd_goThrough 89 = .ok (.iconst 1, 1) := by decide +kernel
theorem d_Rd_goThrough_90 : decode b_Rd_goThrough 90 = .ok (.iadd, 1) := by decide +kernel
theorem d_Rd_goThrough_91 : decode b_Rd_goThrough 91 = .ok (.putfield 44, 3) := by decide +kernel
theorem d_Rd_goThrough_94 : decode b_Rd_goThrough 94 = .ok (.return_, 1) := by decide +kernel
theorem d_PF_give_0 : decode b_PF_give 0 = .ok (.aload_n 0, 1) := by decide +kernel
theorem d_PF_give_1 : decode b_PF_give 1 = .ok (.getfield 21, 3) := by decide +kernel
theorem d_PF_give_4 : decode b_PF_give 4 = .ok (.getfield 32, 3) := by decide +kernel
theorem d_PF_give_7 : decode b_PF_give 7 = .ok (.ifCond .ne 24, 3) := by decide +kernel
theorem d_PF_give_10 : decode b_PF_give 10 = .ok (.iload_n 3, 1) := by decide +kernel
theorem d_PF_give_11 : decode b_PF_give 11 = .ok (.invokestatic 36, 3) := by decide +kernel
theorem d_PF_give_14 : decode b_PF_give 14 = .ok (.ifCond .eq 17, 3) := by decide +kernel
theorem d_PF_give_17 : decode b_PF_give 17 = .ok (.aload_n 0, 1) := by decide +kernel
theorem d_PF_give_18 : decode b_PF_give 18 = .ok (.getfield 10, 3) := by decide +kernel
theorem d_PF_give_21 : decode b_PF_give 21 = .ok (.getfield 40, 3) := by decide +kernel
theorem d_PF_give_24 : decode b_PF_give 24 = .ok (.iload_n 3, 1) := by decide +kernel
theorem d_PF_give_25 : decode b_PF_give 25 = .ok (.iadd, 1) := by decide +kernel
theorem d_PF_give_26 : decode b_PF_give 26 = .ok (.ldc 44, 2) := by decide +kernel
theorem d_PF_give_28 : decode b_PF_give 28 = .ok (.if_icmp .le 5, 3) := by decide +kernel
theorem d_PF_give_31 : decode b_PF_give 31 = .ok (.iconst 0, 1) := by decide +kernel
theorem d_PF_give_32 : decode b_PF_give 32 = .ok (.ireturn, 1) := by decide +kernel
theorem d_PF_give_33 : decode b_PF_give 33 = .ok (.aload_n 0, 1) := by decide +kernel
theorem d_PF_give_34 : decode b_PF_give 34 = .ok (.getfield 10, 3) := by decide +kernel
theorem d_PF_give_37 : decode b_PF_give 37 = .ok (.lload_n 1, 1) := by decide +kernel
theorem d_PF_give_38 : decode b_PF_give 38 = .ok (.iload_n 3, 1) := by decide +kernel
theorem d_PF_give_39 : decode b_PF_give 39 = .ok (.bipush 77, 2) := by decide +kernel
theorem d_PF_give_41 : decode b_PF_give 41 = .ok (.invokevirtual 45, 3) := by decide +kernel
theorem d_PF_give_44 : decode b_PF_give 44 = .ok (.iconst 1, 1) := by decide +kernel
theorem d_PF_give_45 : decode b_PF_give 45 = .ok (.ireturn, 1) := by decide +kernel
theorem d_PF_poke_0 : decode b_PF_poke 0 = .ok (.aload_n 0, 1) := by decide +kernel
theorem d_PF_poke_1 : decode b_PF_poke 1 = .ok (.getfield 21, 3) := by decide +kernel
theorem d_PF_poke_4 : decode b_PF_poke 4 = .ok (.getfield 32, 3) := by decide +kernel
theorem d_PF_poke_7 : decode b_PF_poke 7 = .ok (.ifCond .ne 18, 3) := by decide +kernel
theorem d_PF_poke_10 : decode b_PF_poke 10 = .ok (.iload_n 1, 1) := by decide +kernel
theorem d_PF_poke_11 : decode b_PF_poke 11 = .ok (.ifCond .lt 14, 3) := by decide +kernel
theorem d_PF_poke_14 : decode b_PF_poke 14 = .ok (.iload_n 1, 1) := by decide +kernel
theorem d_PF_poke_15 : decode b_PF_poke 15 = .ok (.aload_n 0, 1) := by decide +kernel
theorem d_PF_poke_16 : decode b_PF_poke 16 = .ok (.getfield 10, 3) := by decide +kernel
theorem d_PF_poke_19 : decode b_PF_poke 19 = .ok (.getfield 40, 3) := by decide +kernel
theorem d_PF_poke_22 : decode b_PF_poke 22 = .ok (.if_icmp .lt 5, 3) := by decide +kernel
theorem d_PF_poke_25 : decode b_PF_poke 25 = .ok (.iconst 0, 1) := by decide +kernel
theorem d_PF_poke_26 : decode b_PF_poke 26 = .ok (.ireturn, 1) := by decide +kernel
theorem d_PF_poke_27 : decode b_PF_poke 27 = .ok (.aload_n 0, 1) := by decide +kernel
theorem d_PF_poke_28 : decode b_PF_poke 28 = .ok (.getfield 10, 3) := by decide +kernel
theorem d_PF_poke_31 : decode b_PF_poke 31 = .ok (.iload_n 1, 1) := by decide +kernel
theorem d_PF_poke_32 : decode b_PF_poke 32 = .ok (.iload_n 2, 1) := by decide +kernel
theorem d_PF_poke_33 : decode b_PF_poke 33 = .ok (.invokevirtual 49, 3) := by decide +kernel
theorem d_PF_poke_36 : decode b_PF_poke 36 = .ok (.iconst 1, 1) := by decide +kernel
theorem d_PF_poke_37 : decode b_PF_poke 37 = .ok (.ireturn, 1) := by decide +kernel
theorem d_PF_cut_0 : decode b_PF_cut 0 = .ok (.aload_n 0, 1) := by decide +kernel
theorem d_PF_cut_1 : decode b_PF_cut 1 = .ok (.getfield 21, 3) := by decide +kernel
theorem d_PF_cut_4 : decode b_PF_cut 4 = .ok (.getfield 32, 3) := by decide +kernel
theorem d_PF_cut_7 : decode b_PF_cut 7 = .ok (.ifCond .ne 18, 3) := by decide +kernel
theorem d_PF_cut_10 : decode b_PF_cut 10 = .ok (.iload_n 1, 1) := by decide +kernel
theorem d_PF_cut_11 : decode b_PF_cut 11 = .ok (.ifCond .lt 14, 3) := by decide +kernel
theorem d_PF_cut_14 : decode b_PF_cut 14 = .ok (.iload_n 1, 1) := by decide +kernel
theorem d_PF_cut_15 : decode b_PF_cut 15 = .ok (.aload_n 0, 1) := by decide +kernel
theorem d_PF_cut_16 : decode b_PF_cut 16 = .ok (.getfield 10, 3) := by decide +kernel
theorem d_PF_cut_19 : decode b_PF_cut 19 = .ok (.getfield 40, 3) := by decide +kernel
theorem d_PF_cut_22 : decode b_PF_cut 22 = .ok (.if_icmp .le 5, 3) := by decide +kernel
theorem d_PF_cut_25 : decode b_PF_cut 25 = .ok (.iconst 0, 1) := by decide +kernel
theorem d_PF_cut_26 : decode b_PF_cut 26 = .ok (.ireturn, 1) := by decide +kernel
theorem d_PF_cut_27 : decode b_PF_cut 27 = .ok (.aload_n 0, 1) := by decide +kernel
theorem d_PF_cut_28 : decode b_PF_cut 28 = .ok (.getfield 10, 3) := by decide +kernel
theorem d_PF_cut_31 : decode b_PF_cut 31 = .ok (.iload_n 1, 1) := by decide +kernel
theorem d_PF_cut_32 : decode b_PF_cut 32 = .ok (.putfield 40, 3) := by decide +kernel
theorem d_PF_cut_35 : decode b_PF_cut 35 = .ok (.iconst 1, 1) := by decide +kernel
theorem d_PF_cut_36 : decode b_PF_cut 36 = .ok (.ireturn, 1) := by decide +kernel
theorem d_PF_bytes_0 : decode b_PF_bytes 0 = .ok (.aload_n 0, 1) := by decide +kernel
theorem d_PF_bytes_1 : decode b_PF_bytes 1 = .ok (.getfield 10, 3) := by decide +kernel
theorem d_PF_bytes_4 : decode b_PF_bytes 4 = .ok (.ldc2_w 53, 3) := by decide +kernel
theorem d_PF_bytes_7 : decode b_PF_bytes 7 = .ok (.iload_n 1, 1) := by decide +kernel
theorem d_PF_bytes_8 : decode b_PF_bytes 8 = .ok (.i2l, 1) := by decide +kernel
theorem d_PF_bytes_9 : decode b_PF_bytes 9 = .ok (.lmul, 1) := by decide +kernel
theorem d_PF_bytes_10 : decode b_PF_bytes 10 = .ok (.bipush 8, 2) := by decide +kernel
theorem d_PF_bytes_12 : decode b_PF_bytes 12 = .ok (.bipush 77, 2) := by decide +kernel
theorem d_PF_bytes_14 : decode b_PF_bytes 14 = .ok (.invokevirtual 55, 3) := by decide +kernel
theorem d_PF_bytes_17 : decode b_PF_bytes 17 = .ok (.lreturn, 1) := by decide +kernel
theorem d_PF_put_0 : decode b_PF_put 0 = .ok (.iload_n 3, 1) := by decide +kernel
theorem d_PF_put_1 : decode b_PF_put 1 = .ok (.invokestatic 36, 3) := by decide +kernel
theorem d_PF_put_4 : decode b_PF_put 4 = .ok (.ifCond .eq 24, 3) := by decide +kernel
theorem d_PF_put_7 : decode b_PF_put 7 = .ok (.aload_n 0, 1) := by decide +kernel
theorem d_PF_put_8 : decode b_PF_put 8 = .ok (.getfield 21, 3) := by decide +kernel
theorem d_PF_put_11 : decode b_PF_put 11 = .ok (.invokevirtual 97, 3) := by decide +kernel
theorem d_PF_put_14 : decode b_PF_put 14 = .ok (.ifCond .eq 14, 3) := by decide +kernel
theorem d_PF_put_17 : decode b_PF_put 17 = .ok (.aload_n 0, 1) := by decide +kernel
theorem d_PF_put_18 : decode b_PF_put 18 = .ok (.getfield 21, 3) := by decide +kernel
theorem d_PF_put_21 : decode b_PF_put 21 = .ok (.iload_n 3, 1) := by decide +kernel
theorem d_PF_put_22 : decode b_PF_put 22 = .ok (.invokevirtual 101, 3) := by decide +kernel
theorem d_PF_put_25 : decode b_PF_put 25 = .ok (.ifCond .ne 5, 3) := by decide +kernel
theorem d_PF_put_28 : decode b_PF_put 28 = .ok (.iconst 0, 1) := by decide +kernel
theorem d_PF_put_29 : decode b_PF_put 29 = .ok (.ireturn, 1) := by decide +kernel
theorem d_PF_put_30 : decode b_PF_put 30 = .ok (.aload_n 0, 1) := by decide +kernel
theorem d_PF_put_31 : decode b_PF_put 31 = .ok (.getfield 21, 3) := by decide +kernel
theorem d_PF_put_34 : decode b_PF_put 34 = .ok (.lload_n 1, 1) := by decide +kernel
theorem d_PF_put_35 : decode b_PF_put 35 = .ok (.iload_n 3, 1) := by decide +kernel
theorem d_PF_put_36 : decode b_PF_put 36 = .ok (.invokevirtual 104, 3) := by decide +kernel
theorem d_PF_put_39 : decode b_PF_put 39 = .ok (.iconst 1, 1) := by decide +kernel
theorem d_PF_put_40 : decode b_PF_put 40 = .ok (.ireturn, 1) := by decide +kernel
theorem d_PF_fault_0 : decode b_PF_fault 0 = .ok (.aload_n 0, 1) := by decide +kernel
theorem d_PF_fault_1 : decode b_PF_fault 1 = .ok (.getfield 28, 3) := by decide +kernel
theorem d_PF_fault_4 : decode b_PF_fault 4 = .ok (.iload_n 1, 1) := by decide +kernel
theorem d_PF_fault_5 : decode b_PF_fault 5 = .ok (.invokevirtual 132, 3) := by decide +kernel
theorem d_PF_fault_8 : decode b_PF_fault 8 = .ok (.ireturn, 1) := by decide +kernel
theorem d_PF_look_0 : decode b_PF_look 0 = .ok (.iload_n 1, 1) := by decide +kernel
theorem d_PF_look_1 : decode b_PF_look 1 = .ok (.tableswitch 127 0 7 #[47, 55, 71, 87, 95, 103, 111, 119], 47) := by decide +kernel
theorem d_PF_look_48 : decode b_PF_look 48 = .ok (.aload_n 0, 1) := by decide +kernel
theorem d_PF_look_49 : decode b_PF_look 49 = .ok (.getfield 10, 3) := by decide +kernel
theorem d_PF_look_52 : decode b_PF_look 52 = .ok (.getfield 40, 3) := by decide +kernel
theorem d_PF_look_55 : decode b_PF_look 55 = .ok (.ireturn, 1) := by decide +kernel
theorem d_PF_look_56 : decode b_PF_look 56 = .ok (.aload_n 0, 1) := by decide +kernel
theorem d_PF_look_57 : decode b_PF_look 57 = .ok (.getfield 21, 3) := by decide +kernel
theorem d_PF_look_60 : decode b_PF_look 60 = .ok (.getfield 32, 3) := by decide +kernel
theorem d_PF_look_63 : decode b_PF_look 63 = .ok (.ifCond .eq 7, 3) := by decide +kernel
theorem d_PF_look_66 : decode b_PF_look 66 = .ok (.iconst 1, 1) := by decide +kernel
theorem d_PF_look_67 : decode b_PF_look 67 = .ok (.goto 4, 3) := by decide +kernel
theorem d_PF_look_70 : decode b_PF_look 70 = .ok (.iconst 0, 1) := by decide +kernel
theorem d_PF_look_71 : decode b_PF_look 71 = .ok (.ireturn, 1) := by decide +kernel
theorem d_PF_look_72 : decode b_PF_look 72 = .ok (.aload_n 0, 1) := by decide +kernel
theorem d_PF_look_73 : decode b_PF_look 73 = .ok (.getfield 21, 3) := by decide +kernel
theorem d_PF_look_76 : decode b_PF_look 76 = .ok (.getfield 73, 3) := by decide +kernel
theorem d_PF_look_79 : decode b_PF_look 79 = .ok (.ifCond .eq 7, 3) := by decide +kernel
theorem d_PF_look_82 : decode b_PF_look 82 = .ok (.iconst 1, 1) := by decide +kernel
theorem d_PF_look_83 : decode b_PF_look 83 = .ok (.goto 4, 3) := by decide +kernel
theorem d_PF_look_86 : decode b_PF_look 86 = .ok (.iconst 0, 1) := by decide +kernel
theorem d_PF_look_87 : decode b_PF_look 87 = .ok (.ireturn, 1) := by decide +kernel
theorem d_PF_look_88 : decode b_PF_look 88 = .ok (.aload_n 0, 1) := by decide +kernel
theorem d_PF_look_89 : decode b_PF_look 89 = .ok (.getfield 21, 3) := by decide +kernel
theorem d_PF_look_92 : decode b_PF_look 92 = .ok (.getfield 76, 3) := by decide +kernel
theorem d_PF_look_95 : decode b_PF_look 95 = .ok (.ireturn, 1) := by decide +kernel
theorem d_PF_look_96 : decode b_PF_look 96 = .ok (.aload_n 0, 1) := by decide +kernel
theorem d_PF_look_97 : decode b_PF_look 97 = .ok (.getfield 21, 3) := by decide +kernel
theorem d_PF_look_100 : decode b_PF_look 100 = .ok (.invokevirtual 97, 3) := by decide +kernel
theorem d_PF_look_103 : decode b_PF_look 103 = .ok (.ireturn, 1) := by decide +kernel
theorem d_PF_look_104 : decode b_PF_look 104 = .ok (.aload_n 0, 1) := by decide +kernel
theorem d_PF_look_105 : decode b_PF_look 105 = .ok (.getfield 21, 3) := by decide +kernel
theorem d_PF_look_108 : decode b_PF_look 108 = .ok (.getfield 174, 3) := by decide +kernel
theorem d_PF_look_111 : decode b_PF_look 111 = .ok (.ireturn, 1) := by decide +kernel
theorem d_PF_look_112 : decode b_PF_look 112 = .ok (.aload_n 0, 1) := by decide +kernel
theorem d_PF_look_113 : decode b_PF_look 113 = .ok (.getfield 28, 3) := by decide +kernel
theorem d_PF_look_116 : decode b_PF_look 116 = .ok (.getfield 131, 3) := by decide +kernel
theorem d_PF_look_119 : decode b_PF_look 119 = .ok (.ireturn, 1) := by decide +kernel
theorem d_PF_look_120 : decode b_PF_look 120 = .ok (.aload_n 0, 1) := by decide +kernel
theorem d_PF_look_121 : decode b_PF_look 121 = .ok (.getfield 28, 3) := by decide +kernel
theorem d_PF_look_124 : decode b_PF_look 124 = .ok (.getfield 177, 3) := by decide +kernel
theorem d_PF_look_127 : decode b_PF_look 127 = .ok (.ireturn, 1) := by decide +kernel
theorem d_PF_look_128 : decode b_PF_look 128 = .ok (.iconst (-1), 1) := by decide +kernel
theorem d_PF_look_129 : decode b_PF_look 129 = .ok (.ireturn, 1) := by decide +kernel
theorem d_Md_thrown_0 : decode b_Md_thrown 0 = .ok (.aload_n 0, 1) := by decide +kernel
theorem d_Md_thrown_1 : decode b_Md_thrown 1 = .ok (.getfield 37, 3) := by decide +kernel
theorem d_Md_thrown_4 : decode b_Md_thrown 4 = .ok (.ireturn, 1) := by decide +kernel
theorem d_Md_at_0 : decode b_Md_at 0 = .ok (.aload_n 0, 1) := by decide +kernel
theorem d_Md_at_1 : decode b_Md_at 1 = .ok (.getfield 8, 3) := by decide +kernel
theorem d_Md_at_4 : decode b_Md_at 4 = .ok (.iload_n 1, 1) := by decide +kernel
theorem d_Md_at_5 : decode b_Md_at 5 = .ok (.baload, 1) := by decide +kernel
theorem d_Md_at_6 : decode b_Md_at 6 = .ok (.sipush 255, 3) := by decide +kernel
theorem d_Md_at_9 : decode b_Md_at 9 = .ok (.iand, 1) := by decide +kernel
theorem d_Md_at_10 : decode b_Md_at 10 = .ok (.ireturn, 1) := by decide +kernel
theorem d_Md_one_0 : decode b_Md_one 0 = .ok (.aload_n 0, 1) := by decide +kernel
theorem d_Md_one_1 : decode b_Md_one 1 = .ok (.getfield 8, 3) := by decide +kernel
theorem d_Md_one_4 : decode b_Md_one 4 = .ok (.aload_n 0, 1) := by decide +kernel
theorem d_Md_one_5 : decode b_Md_one 5 = .ok (.getfield 41, 3) := by decide +kernel
theorem d_Md_one_8 : decode b_Md_one 8 = .ok (.iload_n 1, 1) := by decide +kernel
theorem d_Md_one_9 : decode b_Md_one 9 = .ok (.i2b, 1) := by decide +kernel
theorem d_Md_one_10 : decode b_Md_one 10 = .ok (.bastore, 1) := by decide +kernel
theorem d_Md_one_11 : decode b_Md_one 11 = .ok (.aload_n 0, 1) := by decide +kernel
theorem d_Md_one_12 : decode b_Md_one 12 = .ok (.dup, 1) := by decide +kernel
theorem d_Md_one_13 : decode b_Md_one 13 = .ok (.getfield 41, 3) := by decide +kernel
theorem d_Md_one_16 : decode b_Md_one 16 = .ok (.iconst 1, 1) := by decide +kernel
theorem d_Md_one_17 : decode b_Md_one 17 = .ok (.iadd, 1) := by decide +kernel
theorem d_Md_one_18 : decode b_Md_one 18 = .ok (.putfield 41, 3) := by decide +kernel
theorem d_Md_one_21 : decode b_Md_one 21 = .ok (.return_, 1) := by decide +kernel
theorem d_Md_two_0 : decode b_Md_two 0 = .ok (.aload_n 0, 1) := by decide +kernel
theorem d_Md_two_1 : decode b_Md_two 1 = .ok (.aload_n 0, 1) := by decide +kernel
theorem d_Md_two_2 : decode b_Md_two 2 = .ok (.getfield 58, 3) := by decide +kernel
theorem d_Md_two_5 : decode b_Md_two 5 = .ok (.bipush 77, 2) := by decide +kernel
theorem d_Md_two_7 : decode b_Md_two 7 = .ok (.if_icmp .ne 10, 3) := by decide +kernel
theorem d_Md_two_10 : decode b_Md_two 10 = .ok (.iload_n 1, 1) := by decide +kernel
theorem d_Md_two_11 : decode b_Md_two 11 = .ok (.bipush 8, 2) := by decide +kernel
theorem d_Md_two_13 : decode b_Md_two 13 = .ok (.ishr, 1) := by decide +kernel
theorem d_Md_two_14 : decode b_Md_two 14 = .ok (.goto 4, 3) := by decide +kernel
theorem d_Md_two_17 : decode b_Md_two 17 = .ok (.iload_n 1, 1) := by decide +kernel
theorem d_Md_two_18 : decode b_Md_two 18 = .ok (.invokevirtual 50, 3) := by decide +kernel
theorem d_Md_two_21 : decode b_Md_two 21 = .ok (.aload_n 0, 1) := by decide +kernel
theorem d_Md_two_22 : decode b_Md_two 22 = .ok (.aload_n 0, 1) := by decide +kernel
theorem d_Md_two_23 : decode b_Md_two 23 = .ok (.getfield 58, 3) := by decide +kernel
theorem d_Md_two_26 : decode b_Md_two 26 = .ok (.bipush 77, 2) := by decide +kernel
theorem d_Md_two_28 : decode b_Md_two 28 = .ok (.if_icmp .ne 7, 3) := by decide +kernel
theorem d_Md_two_31 : decode b_Md_two 31 = .ok (.iload_n 1, 1) := by decide +kernel
theorem d_Md_two_32 : decode b_Md_two 32 = .ok (.goto 7, 3) := by decide +kernel
theorem d_Md_two_35 : decode b_Md_two 35 = .ok (.iload_n 1, 1) := by decide +kernel
theorem d_Md_two_36 : decode b_Md_two 36 = .ok (.bipush 8, 2) := by decide +kernel
theorem d_Md_two_38 : decode b_Md_two 38 = .ok (.ishr, 1) := by decide +kernel
theorem d_Md_two_39 : decode b_Md_two 39 = .ok (.invokevirtual 50, 3) := by decide +kernel
theorem d_Md_two_42 : decode b_Md_two 42 = .ok (.return_, 1) := by decide +kernel
theorem d_Md_four_0 : decode b_Md_four 0 = .ok (.aload_n 0, 1) := by decide +kernel
theorem d_Md_four_1 : decode b_Md_four 1 = .ok (.aload_n 0, 1) := by decide +kernel
theorem d_Md_four_2 : decode b_Md_four 2 = .ok (.getfield 58, 3) := by decide +kernel
theorem d_Md_four_5 : decode b_Md_four 5 = .ok (.bipush 77, 2) := by decide +kernel
theorem d_Md_four_7 : decode b_Md_four 7 = .ok (.if_icmp .ne 10, 3) := by decide +kernel
theorem d_Md_four_10 : decode b_Md_four 10 = .ok (.iload_n 1, 1) := by decide +kernel
theorem d_Md_four_11 : decode b_Md_four 11 = .ok (.bipush 16, 2) := by decide +kernel
theorem d_Md_four_13 : decode b_Md_four 13 = .ok (.ishr, 1) := by decide +kernel
theorem d_Md_four_14 : decode b_Md_four 14 = .ok (.goto 4, 3) := by decide +kernel
theorem d_Md_four_17 : decode b_Md_four 17 = .ok (.iload_n 1, 1) := by decide +kernel
theorem d_Md_four_18 : decode b_Md_four 18 = .ok (.invokevirtual 61, 3) := by decide +kernel
theorem d_Md_four_21 : decode b_Md_four 21 = .ok (.aload_n 0, 1) := by decide +kernel
theorem d_Md_four_22 : decode b_Md_four 22 = .ok (.aload_n 0, 1) := by decide +kernel
theorem d_Md_four_23 : decode b_Md_four 23 = .ok (.getfield 58, 3) := by decide +kernel
theorem d_Md_four_26 : decode b_Md_four 26 = .ok (.bipush 77, 2) := by decide +kernel
theorem d_Md_four_28 : decode b_Md_four 28 = .ok (.if_icmp .ne 7, 3) := by decide +kernel
theorem d_Md_four_31 : decode b_Md_four 31 = .ok (.iload_n 1, 1) := by decide +kernel
theorem d_Md_four_32 : decode b_Md_four 32 = .ok (.goto 7, 3) := by decide +kernel
theorem d_Md_four_35 : decode b_Md_four 35 = .ok (.iload_n 1, 1) := by decide +kernel
theorem d_Md_four_36 : decode b_Md_four 36 = .ok (.bipush 16, 2) := by decide +kernel
theorem d_Md_four_38 : decode b_Md_four 38 = .ok (.ishr, 1) := by decide +kernel
theorem d_Md_four_39 : decode b_Md_four 39 = .ok (.invokevirtual 61, 3) := by decide +kernel
theorem d_Md_four_42 : decode b_Md_four 42 = .ok (.return_, 1) := by decide +kernel
theorem d_Md_fourAt_0 : decode b_Md_fourAt 0 = .ok (.aload_n 0, 1) := by decide +kernel
theorem d_Md_fourAt_1 : decode b_Md_fourAt 1 = .ok (.getfield 41, 3) := by decide +kernel
theorem d_Md_fourAt_4 : decode b_Md_fourAt 4 = .ok (.istore_n 3, 1) := by decide +kernel
theorem d_Md_fourAt_5 : decode b_Md_fourAt 5 = .ok (.aload_n 0, 1) := by decide +kernel
theorem d_Md_fourAt_6 : decode b_Md_fourAt 6 = .ok (.iload_n 1, 1) := by decide +kernel
theorem d_Md_fourAt_7 : decode b_Md_fourAt 7 = .ok (.putfield 41, 3) := by decide +kernel
theorem d_Md_fourAt_10 : decode b_Md_fourAt 10 = .ok (.aload_n 0, 1) := by decide +kernel
theorem d_Md_fourAt_11 : decode b_Md_fourAt 11 = .ok (.iload_n 2, 1) := by decide +kernel
theorem d_Md_fourAt_12 : decode b_Md_fourAt 12 = .ok (.invokevirtual 64, 3) := by decide +kernel
theorem d_Md_fourAt_15 : decode b_Md_fourAt 15 = .ok (.aload_n 0, 1) := by decide +kernel
theorem d_Md_fourAt_16 : decode b_Md_fourAt 16 = .ok (.iload_n 3, 1) := by decide +kernel
theorem d_Md_fourAt_17 : decode b_Md_fourAt 17 = .ok (.putfield 41, 3) := by decide +kernel
theorem d_Md_fourAt_20 : decode b_Md_fourAt 20 = .ok (.return_, 1) := by decide +kernel
theorem d_Md_begin_0 : decode b_Md_begin 0 = .ok (.aload_n 0, 1) := by decide +kernel
theorem d_Md_begin_1 : decode b_Md_begin 1 = .ok (.iload_n 1, 1) := by decide +kernel
theorem d_Md_begin_2 : decode b_Md_begin 2 = .ok (.bipush 73, 2) := by decide +kernel
theorem d_Md_begin_4 : decode b_Md_begin 4 = .ok (.if_icmp .eq 9, 3) := by decide +kernel
theorem d_Md_begin_7 : decode b_Md_begin 7 = .ok (.iload_n 1, 1) := by decide +kernel
theorem d_Md_begin_8 : decode b_Md_begin 8 = .ok (.bipush 77, 2) := by decide +kernel
theorem d_Md_begin_10 : decode b_Md_begin 10 = .ok (.if_icmp .ne 7, 3) := by decide +kernel
theorem d_Md_begin_13 : decode b_Md_begin 13 = .ok (.iconst 0, 1) := by decide +kernel
theorem d_Md_begin_14 : decode b_Md_begin 14 = .ok (.goto 4, 3) := by decide +kernel
theorem d_Md_begin_17 : decode b_Md_begin 17 = .ok (.iconst 1, 1) := by decide +kernel
theorem d_Md_begin_18 : decode b_Md_begin 18 = .ok (.putfield 37, 3) := by decide +kernel
theorem d_Md_begin_21 : decode b_Md_begin 21 = .ok (.aload_n 0, 1) := by decide +kernel
theorem d_Md_begin_22 : decode b_Md_begin 22 = .ok (.getfield 37, 3) := by decide +kernel
theorem d_Md_begin_25 : decode b_Md_begin 25 = .ok (.ifCond .le 4, 3) := by decide +kernel
theorem d_Md_begin_28 : decode b_Md_begin 28 = .ok (.return_, 1) := by decide +kernel
theorem d_Md_begin_29 : decode b_Md_begin 29 = .ok (.aload_n 0, 1) := by decide +kernel
theorem d_Md_begin_30 : decode b_Md_begin 30 = .ok (.iconst 0, 1) := by decide +kernel
theorem d_Md_begin_31 : decode b_Md_begin 31 = .ok (.putfield 41, 3) := by decide +kernel
theorem d_Md_begin_34 : decode b_Md_begin 34 = .ok (.aload_n 0, 1) := by decide +kernel
theorem d_Md_begin_35 : decode b_Md_begin 35 = .ok (.iload_n 1, 1) := by decide +kernel
theorem d_Md_begin_36 : decode b_Md_begin 36 = .ok (.putfield 58, 3) := by decide +kernel
theorem d_Md_begin_39 : decode b_Md_begin 39 = .ok (.aload_n 0, 1) := by decide +kernel
theorem d_Md_begin_40 : decode b_Md_begin 40 = .ok (.iload_n 1, 1) := by decide +kernel
theorem d_Md_begin_41 : decode b_Md_begin 41 = .ok (.invokevirtual 50, 3) := by decide +kernel
theorem d_Md_begin_44 : decode b_Md_begin 44 = .ok (.aload_n 0, 1) := by decide +kernel
theorem d_Md_begin_45 : decode b_Md_begin 45 = .ok (.iload_n 1, 1) := by decide +kernel
theorem d_Md_begin_46 : decode b_Md_begin 46 = .ok (.invokevirtual 50, 3) := by decide +kernel
theorem d_Md_begin_49 : decode b_Md_begin 49 = .ok (.aload_n 0, 1) := by decide +kernel
theorem d_Md_begin_50 : decode b_Md_begin 50 = .ok (.bipush 42, 2) := by decide +kernel
theorem d_Md_begin_52 : decode b_Md_begin 52 = .ok (.invokevirtual 61, 3) := by decide +kernel
theorem d_Md_begin_55 : decode b_Md_begin 55 = .ok (.aload_n 0, 1) := by decide +kernel
theorem d_Md_begin_56 : decode b_Md_begin 56 = .ok (.iconst 0, 1) := by decide +kernel
theorem d_Md_begin_57 : decode b_Md_begin 57 = .ok (.invokevirtual 64, 3) := by decide +kernel
theorem d_Md_begin_60 : decode b_Md_begin 60 = .ok (.aload_n 0, 1) := by decide +kernel
theorem d_Md_begin_61 : decode b_Md_begin 61 = .ok (.iconst 1, 1) := by decide +kernel
theorem d_Md_begin_62 : decode b_Md_begin 62 = .ok (.putfield 44, 3) := by decide +kernel
theorem d_Md_begin_65 : decode b_Md_begin 65 = .ok (.aload_n 0, 1) := by decide +kernel
theorem d_Md_begin_66 : decode b_Md_begin 66 = .ok (.iconst 0, 1) := by decide +kernel
theorem d_Md_begin_67 : decode b_Md_begin 67 = .ok (.putfield 67, 3) := by decide +kernel
theorem d_Md_begin_70 : decode b_Md_begin 70 = .ok (.aload_n 0, 1) := by decide +kernel
theorem d_Md_begin_71 : decode b_Md_begin 71 = .ok (.iconst 0, 1) := by decide +kernel
theorem d_Md_begin_72 : decode b_Md_begin 72 = .ok (.putfield 70, 3) := by decide +kernel
theorem d_Md_begin_75 : decode b_Md_begin 75 = .ok (.aload_n 0, 1) := by decide +kernel
theorem d_Md_begin_76 : decode b_Md_begin 76 = .ok (.iconst 4, 1) := by decide +kernel
theorem d_Md_begin_77 : decode b_Md_begin 77 = .ok (.putfield 73, 3) := by decide +kernel
theorem d_Md_begin_80 : decode b_Md_begin 80 = .ok (.return_, 1) := by decide +kernel
theorem d_Md_page_0 : decode b_Md_page 0 = .ok (.aload_n 0, 1) := by decide +kernel
theorem d_Md_page_1 : decode b_Md_page 1 = .ok (.aload_n 0, 1) := by decide +kernel
theorem d_Md_page_2 : decode b_Md_page 2 = .ok (.getfield 44, 3) := by decide +kernel
theorem d_Md_page_5 : decode b_Md_page 5 = .ok (.ifCond .eq 19, 3) := by decide +kernel
theorem d_Md_page_8 : decode b_Md_page 8 = .ok (.aload_n 0, 1) := by decide +kernel
theorem d_Md_page_9 : decode b_Md_page 9 = .ok (.getfield 67, 3) := by decide +kernel
theorem d_Md_page_12 : decode b_Md_page 12 = .ok (.ifCond .ne 12, 3) := by decide +kernel
theorem d_Md_page_15 : decode b_Md_page 15 = .ok (.aload_n 0, 1) := by decide +kernel
theorem d_Md_page_16 : decode b_Md_page 16 = .ok (.getfield 70, 3) := by decide +kernel
theorem d_Md_page_19 : decode b_Md_page 19 = .ok (.bipush 40, 2) := by decide +kernel
theorem d_Md_page_21 : decode b_Md_page 21 = .ok (.if_icmp .ne 7, 3) := by decide +kernel
theorem d_Md_page_24 : decode b_Md_page 24 = .ok (.iconst 1, 1) := by decide +kernel
theorem d_Md_page_25 : decode b_Md_page 25 = .ok (.goto 4, 3) := by decide +kernel
theorem d_Md_page_28 : decode b_Md_page 28 = .ok (.iconst 0, 1) := by decide +kernel
theorem d_Md_page_29 : decode b_Md_page 29 = .ok (.putfield 37, 3) := by decide +kernel
theorem d_Md_page_32 : decode b_Md_page 32 = .ok (.aload_n 0, 1) := by decide +kernel
theorem d_Md_page_33 : decode b_Md_page 33 = .ok (.getfield 37, 3) := by decide +kernel
theorem d_Md_page_36 : decode b_Md_page 36 = .ok (.ifCond .le 5, 3) := by decide +kernel
theorem d_Md_page_39 : decode b_Md_page 39 = .ok (.iconst 0, 1) := by decide +kernel
theorem d_Md_page_40 : decode b_Md_page 40 = .ok (.ireturn, 1) := by decide +kernel
theorem d_Md_page_41 : decode b_Md_page 41 = .ok (.iload_n 1, 1) := by decide +kernel
theorem d_Md_page_42 : decode b_Md_page 42 = .ok (.iconst 1, 1) := by decide +kernel
theorem d_Md_page_43 : decode b_Md_page 43 = .ok (.if_icmp .lt 64, 3) := by decide +kernel
theorem d_Md_page_46 : decode b_Md_page 46 = .ok (.iload_n 1, 1) := by decide +kernel
theorem d_Md_page_47 : decode b_Md_page 47 = .ok (.sipush 20000, 3) := by decide +kernel
theorem d_Md_page_50 : decode b_Md_page 50 = .ok (.if_icmp .gt 57, 3) := by decide +kernel
theorem d_Md_page_53 : decode b_Md_page 53 = .ok (.iload_n 2, 1) := by decide +kernel
theorem d_Md_page_54 : decode b_Md_page 54 = .ok (.iconst 1, 1) := by decide +kernel
theorem d_Md_page_55 : decode b_Md_page 55 = .ok (.if_icmp .lt 52, 3) := by decide +kernel
theorem d_Md_page_58 : decode b_Md_page 58 = .ok (.iload_n 2, 1) := by decide +kernel
theorem d_Md_page_59 : decode b_Md_page 59 = .ok (.sipush 20000, 3) := by decide +kernel
theorem d_Md_page_62 : decode b_Md_page 62 = .ok (.if_icmp .gt 45, 3) := by decide +kernel
theorem d_Md_page_65 : decode b_Md_page 65 = .ok (.iload_n 3, 1) := by decide +kernel
theorem d_Md_page_66 : decode b_Md_page 66 = .ok (.iconst 1, 1) := by decide +kernel
theorem d_Md_page_67 : decode b_Md_page 67 = .ok (.if_icmp .lt 40, 3) := by decide +kernel
theorem d_Md_page_70 : decode b_Md_page 70 = .ok (.iload_n 3, 1) := by decide +kernel
theorem d_Md_page_71 : decode b_Md_page 71 = .ok (.iload_n 2, 1) := by decide +kernel
theorem d_Md_page_72 : decode b_Md_page 72 = .ok (.if_icmp .gt 35, 3) := by decide +kernel
theorem d_Md_page_75 : decode b_Md_page 75 = .ok (.iload 4, 2) := by decide +kernel
theorem d_Md_page_77 : decode b_Md_page 77 = .ok (.iconst 1, 1) := by decide +kernel
theorem d_Md_page_78 : decode b_Md_page 78 = .ok (.if_icmp .lt 29, 3) := by decide +kernel
theorem d_Md_page_81 : decode b_Md_page 81 = .ok (.iload 4, 2) := by decide +kernel
theorem d_Md_page_83 : decode b_Md_page 83 = .ok (.sipush 10000, 3) := by decide +kernel
theorem d_Md_page_86 : decode b_Md_page 86 = .ok (.if_icmp .gt 21, 3) := by decide +kernel
theorem d_Md_page_89 : decode b_Md_page 89 = .ok (.iload 5, 2) := by decide +kernel
theorem d_Md_page_91 : decode b_Md_page 91 = .ok (.iconst 1, 1) := by decide +kernel
theorem d_Md_page_92 : decode b_Md_page 92 = .ok (.if_icmp .lt 15, 3) := by decide +kernel
theorem d_Md_page_95 : decode b_Md_page 95 = .ok (.iload 5, 2) := by decide +kernel
theorem d_Md_page_97 : decode b_Md_page 97 = .ok (.sipush 10000, 3) := by decide +kernel
theorem d_Md_page_100 : decode b_Md_page 100 = .ok (.if_icmp .gt 7, 3) := by decide +kernel
theorem d_Md_page_103 : decode b_Md_page 103 = .ok (.iconst 1, 1) := by decide +kernel
theorem d_Md_page_104 : decode b_Md_page 104 = .ok (.goto 4, 3) := by decide +kernel
theorem d_Md_page_107 : decode b_Md_page 107 = .ok (.iconst 0, 1) := by decide +kernel
theorem d_Md_page_108 : decode b_Md_page 108 = .ok (.istore 6, 2) := by decide +kernel
theorem d_Md_page_110 : decode b_Md_page 110 = .ok (.aload_n 0, 1) := by decide +kernel
theorem d_Md_page_111 : decode b_Md_page 111 = .ok (.iload 6, 2) := by decide +kernel
theorem d_Md_page_113 : decode b_Md_page 113 = .ok (.ifCond .eq 7, 3) := by decide +kernel
theorem d_Md_page_116 : decode b_Md_page 116 = .ok (.iconst 0, 1) := by decide +kernel
theorem d_Md_page_117 : decode b_Md_page 117 = .ok (.goto 4, 3) := by decide +kernel
theorem d_Md_page_120 : decode b_Md_page 120 = .ok (.iconst 2, 1) := by decide +kernel
theorem d_Md_page_121 : decode b_Md_page 121 = .ok (.putfield 37, 3) := by decide +kernel
theorem d_Md_page_124 : decode b_Md_page 124 = .ok (.aload_n 0, 1) := by decide +kernel
theorem d_Md_page_125 : decode b_Md_page 125 = .ok (.getfield 37, 3) := by decide +kernel
