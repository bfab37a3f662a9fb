theorem dX9_mend_0 : decode cX9_mend 0 = .ok (.aload_n 0, 1) := by decide +kernel
theorem dX9_mend_1 : decode cX9_mend 1 = .ok (.iconst 0, 1) := by decide +kernel
theorem dX9_mend_2 : decode cX9_mend 2 = .ok (.putfield 153, 3) := by decide +kernel
theorem dX9_mend_5 : decode cX9_mend 5 = .ok (.aload_n 0, 1) := by decide +kernel
theorem dX9_mend_6 : decode cX9_mend 6 = .ok (.iload_n 1, 1) := by decide +kernel
theorem dX9_mend_7 : decode cX9_mend 7 = .ok (.invokevirtual 208, 3) := by decide +kernel
theorem dX9_mend_10 : decode cX9_mend 10 = .ok (.ifCond .ne 7, 3) := by decide +kernel
theorem dX9_mend_13 : decode cX9_mend 13 = .ok (.ldc2_w 189, 3) := by decide +kernel
theorem dX9_mend_16 : decode cX9_mend 16 = .ok (.lreturn, 1) := by decide +kernel
theorem dX9_mend_17 : decode cX9_mend 17 = .ok (.aload_n 0, 1) := by decide +kernel
theorem dX9_mend_18 : decode cX9_mend 18 = .ok (.iconst 0, 1) := by decide +kernel
theorem dX9_mend_19 : decode cX9_mend 19 = .ok (.putfield 264, 3) := by decide +kernel
theorem dX9_mend_22 : decode cX9_mend 22 = .ok (.iconst 0, 1) := by decide +kernel
theorem dX9_mend_23 : decode cX9_mend 23 = .ok (.istore_n 2, 1) := by decide +kernel
theorem dX9_mend_24 : decode cX9_mend 24 = .ok (.iload_n 2, 1) := by decide +kernel
theorem dX9_mend_25 : decode cX9_mend 25 = .ok (.bipush 21, 2) := by decide +kernel
theorem dX9_mend_27 : decode cX9_mend 27 = .ok (.if_icmp .ge 16, 3) := by decide +kernel
theorem dX9_mend_30 : decode cX9_mend 30 = .ok (.aload_n 0, 1) := by decide +kernel
theorem dX9_mend_31 : decode cX9_mend 31 = .ok (.getfield 144, 3) := by decide +kernel
theorem dX9_mend_34 : decode cX9_mend 34 = .ok (.iload_n 2, 1) := by decide +kernel
theorem dX9_mend_35 : decode cX9_mend 35 = .ok (.lconst 0, 1) := by decide +kernel
theorem dX9_mend_36 : decode cX9_mend 36 = .ok (.lastore, 1) := by decide +kernel
theorem dX9_mend_37 : decode cX9_mend 37 = .ok (.iinc 2 1, 3) := by decide +kernel
theorem dX9_mend_40 : decode cX9_mend 40 = .ok (.goto (-16), 3) := by decide +kernel
theorem dX9_mend_43 : decode cX9_mend 43 = .ok (.bipush 40, 2) := by decide +kernel
theorem dX9_mend_45 : decode cX9_mend 45 = .ok (.iload_n 1, 1) := by decide +kernel
theorem dX9_mend_46 : decode cX9_mend 46 = .ok (.imul, 1) := by decide +kernel
theorem dX9_mend_47 : decode cX9_mend 47 = .ok (.istore_n 2, 1) := by decide +kernel
theorem dX9_mend_48 : decode cX9_mend 48 = .ok (.iload_n 2, 1) := by decide +kernel
theorem dX9_mend_49 : decode cX9_mend 49 = .ok (.bipush 40, 2) := by decide +kernel
theorem dX9_mend_51 : decode cX9_mend 51 = .ok (.iload_n 1, 1) := by decide +kernel
theorem dX9_mend_52 : decode cX9_mend 52 = .ok (.imul, 1) := by decide +kernel
theorem dX9_mend_53 : decode cX9_mend 53 = .ok (.aload_n 0, 1) := by decide +kernel
theorem dX9_mend_54 : decode cX9_mend 54 = .ok (.getfield 13, 3) := by decide +kernel
theorem dX9_mend_57 : decode cX9_mend 57 = .ok (.iload_n 1, 1) := by decide +kernel
theorem dX9_mend_58 : decode cX9_mend 58 = .ok (.iaload, 1) := by decide +kernel
theorem dX9_mend_59 : decode cX9_mend 59 = .ok (.iadd, 1) := by decide +kernel
theorem dX9_mend_60 : decode cX9_mend 60 = .ok (.if_icmp .ge 113, 3) := by decide +kernel
theorem dX9_mend_63 : decode cX9_mend 63 = .ok (.aload_n 0, 1) := by decide +kernel
theorem dX9_mend_64 : decode cX9_mend 64 = .ok (.getfield 26, 3) := by decide +kernel
theorem dX9_mend_67 : decode cX9_mend 67 = .ok (.iload_n 2, 1) := by decide +kernel
theorem dX9_mend_68 : decode cX9_mend 68 = .ok (.iaload, 1) := by decide +kernel
theorem dX9_mend_69 : decode cX9_mend 69 = .ok (.aload_n 0, 1) := by decide +kernel
theorem dX9_mend_70 : decode cX9_mend 70 = .ok (.getfield 29, 3) := by decide +kernel
theorem dX9_mend_73 : decode cX9_mend 73 = .ok (.iload_n 2, 1) := by decide +kernel
theorem dX9_mend_74 : decode cX9_mend 74 = .ok (.iaload, 1) := by decide +kernel
theorem dX9_mend_75 : decode cX9_mend 75 = .ok (.if_icmp .ne 6, 3) := by decide +kernel
theorem dX9_mend_78 : decode cX9_mend 78 = .ok (.goto 89, 3) := by decide +kernel
theorem dX9_mend_81 : decode cX9_mend 81 = .ok (.aload_n 0, 1) := by decide +kernel
theorem dX9_mend_82 : decode cX9_mend 82 = .ok (.getfield 144, 3) := by decide +kernel
theorem dX9_mend_85 : decode cX9_mend 85 = .ok (.aload_n 0, 1) := by decide +kernel
theorem dX9_mend_86 : decode cX9_mend 86 = .ok (.getfield 29, 3) := by decide +kernel
theorem dX9_mend_89 : decode cX9_mend 89 = .ok (.iload_n 2, 1) := by decide +kernel
theorem dX9_mend_90 : decode cX9_mend 90 = .ok (.iaload, 1) := by decide +kernel
theorem dX9_mend_91 : decode cX9_mend 91 = .ok (.dup2, 1) := by decide +kernel
theorem dX9_mend_92 : decode cX9_mend 92 = .ok (.laload, 1) := by decide +kernel
theorem dX9_mend_93 : decode cX9_mend 93 = .ok (.aload_n 0, 1) := by decide +kernel
theorem dX9_mend_94 : decode cX9_mend 94 = .ok (.getfield 38, 3) := by decide +kernel
theorem dX9_mend_97 : decode cX9_mend 97 = .ok (.iload_n 2, 1) := by decide +kernel
theorem dX9_mend_98 : decode cX9_mend 98 = .ok (.iaload, 1) := by decide +kernel
theorem dX9_mend_99 : decode cX9_mend 99 = .ok (.i2l, 1) := by decide +kernel
theorem dX9_mend_100 : decode cX9_mend 100 = .ok (.ladd, 1) := by decide +kernel
theorem dX9_mend_101 : decode cX9_mend 101 = .ok (.lastore, 1) := by decide +kernel
theorem dX9_mend_102 : decode cX9_mend 102 = .ok (.aload_n 0, 1) := by decide +kernel
theorem dX9_mend_103 : decode cX9_mend 103 = .ok (.getfield 144, 3) := by decide +kernel
theorem dX9_mend_106 : decode cX9_mend 106 = .ok (.aload_n 0, 1) := by decide +kernel
theorem dX9_mend_107 : decode cX9_mend 107 = .ok (.getfield 26, 3) := by decide +kernel
theorem dX9_mend_110 : decode cX9_mend 110 = .ok (.iload_n 2, 1) := by decide +kernel
theorem dX9_mend_111 : decode cX9_mend 111 = .ok (.iaload, 1) := by decide +kernel
theorem dX9_mend_112 : decode cX9_mend 112 = .ok (.dup2, 1) := by decide +kernel
theorem dX9_mend_113 : decode cX9_mend 113 = .ok (.laload, 1) := by decide +kernel
theorem dX9_mend_114 : decode cX9_mend 114 = .ok (.aload_n 0, 1) := by decide +kernel
theorem dX9_mend_115 : decode cX9_mend 115 = .ok (.getfield 38, 3) := by decide +kernel
theorem dX9_mend_118 : decode cX9_mend 118 = .ok (.iload_n 2, 1) := by decide +kernel
theorem dX9_mend_119 : decode cX9_mend 119 = .ok (.iaload, 1) := by decide +kernel
theorem dX9_mend_120 : decode cX9_mend 120 = .ok (.i2l, 1) := by decide +kernel
theorem dX9_mend_121 : decode cX9_mend 121 = .ok (.lsub, 1) := by decide +kernel
theorem dX9_mend_122 : decode cX9_mend 122 = .ok (.lastore, 1) := by decide +kernel
theorem dX9_mend_123 : decode cX9_mend 123 = .ok (.aload_n 0, 1) := by decide +kernel
theorem dX9_mend_124 : decode cX9_mend 124 = .ok (.aload_n 0, 1) := by decide +kernel
theorem dX9_mend_125 : decode cX9_mend 125 = .ok (.getfield 26, 3) := by decide +kernel
theorem dX9_mend_128 : decode cX9_mend 128 = .ok (.iload_n 2, 1) := by decide +kernel
theorem dX9_mend_129 : decode cX9_mend 129 = .ok (.iaload, 1) := by decide +kernel
theorem dX9_mend_130 : decode cX9_mend 130 = .ok (.aload_n 0, 1) := by decide +kernel
theorem dX9_mend_131 : decode cX9_mend 131 = .ok (.getfield 29, 3) := by decide +kernel
theorem dX9_mend_134 : decode cX9_mend 134 = .ok (.iload_n 2, 1) := by decide +kernel
theorem dX9_mend_135 : decode cX9_mend 135 = .ok (.iaload, 1) := by decide +kernel
theorem dX9_mend_136 : decode cX9_mend 136 = .ok (.ldc2_w 267, 3) := by decide +kernel
theorem dX9_mend_139 : decode cX9_mend 139 = .ok (.iconst 1, 1) := by decide +kernel
theorem dX9_mend_140 : decode cX9_mend 140 = .ok (.invokevirtual 269, 3) := by decide +kernel
theorem dX9_mend_143 : decode cX9_mend 143 = .ok (.aload_n 0, 1) := by decide +kernel
theorem dX9_mend_144 : decode cX9_mend 144 = .ok (.aload_n 0, 1) := by decide +kernel
theorem dX9_mend_145 : decode cX9_mend 145 = .ok (.getfield 29, 3) := by decide +kernel
theorem dX9_mend_148 : decode cX9_mend 148 = .ok (.iload_n 2, 1) := by decide +kernel
theorem dX9_mend_149 : decode cX9_mend 149 = .ok (.iaload, 1) := by decide +kernel
theorem dX9_mend_150 : decode cX9_mend 150 = .ok (.aload_n 0, 1) := by decide +kernel
theorem dX9_mend_151 : decode cX9_mend 151 = .ok (.getfield 26, 3) := by decide +kernel
theorem dX9_mend_154 : decode cX9_mend 154 = .ok (.iload_n 2, 1) := by decide +kernel
theorem dX9_mend_155 : decode cX9_mend 155 = .ok (.iaload, 1) := by decide +kernel
theorem dX9_mend_156 : decode cX9_mend 156 = .ok (.aload_n 0, 1) := by decide +kernel
theorem dX9_mend_157 : decode cX9_mend 157 = .ok (.getfield 38, 3) := by decide +kernel
theorem dX9_mend_160 : decode cX9_mend 160 = .ok (.iload_n 2, 1) := by decide +kernel
theorem dX9_mend_161 : decode cX9_mend 161 = .ok (.iaload, 1) := by decide +kernel
theorem dX9_mend_162 : decode cX9_mend 162 = .ok (.i2l, 1) := by decide +kernel
theorem dX9_mend_163 : decode cX9_mend 163 = .ok (.iconst 1, 1) := by decide +kernel
theorem dX9_mend_164 : decode cX9_mend 164 = .ok (.invokevirtual 269, 3) := by decide +kernel
theorem dX9_mend_167 : decode cX9_mend 167 = .ok (.iinc 2 1, 3) := by decide +kernel
theorem dX9_mend_170 : decode cX9_mend 170 = .ok (.goto (-122), 3) := by decide +kernel
theorem dX9_mend_173 : decode cX9_mend 173 = .ok (.iconst 0, 1) := by decide +kernel
theorem dX9_mend_174 : decode cX9_mend 174 = .ok (.istore_n 2, 1) := by decide +kernel
theorem dX9_mend_175 : decode cX9_mend 175 = .ok (.iload_n 2, 1) := by decide +kernel
theorem dX9_mend_176 : decode cX9_mend 176 = .ok (.aload_n 0, 1) := by decide +kernel
theorem dX9_mend_177 : decode cX9_mend 177 = .ok (.getfield 7, 3) := by decide +kernel
theorem dX9_mend_180 : decode cX9_mend 180 = .ok (.iload_n 1, 1) := by decide +kernel
theorem dX9_mend_181 : decode cX9_mend 181 = .ok (.iaload, 1) := by decide +kernel
theorem dX9_mend_182 : decode cX9_mend 182 = .ok (.if_icmp .ge 35, 3) := by decide +kernel
theorem dX9_mend_185 : decode cX9_mend 185 = .ok (.aload_n 0, 1) := by decide +kernel
theorem dX9_mend_186 : decode cX9_mend 186 = .ok (.getfield 20, 3) := by decide +kernel
theorem dX9_mend_189 : decode cX9_mend 189 = .ok (.bipush 20, 2) := by decide +kernel
theorem dX9_mend_191 : decode cX9_mend 191 = .ok (.iload_n 1, 1) := by decide +kernel
theorem dX9_mend_192 : decode cX9_mend 192 = .ok (.imul, 1) := by decide +kernel
theorem dX9_mend_193 : decode cX9_mend 193 = .ok (.iload_n 2, 1) := by decide +kernel
theorem dX9_mend_194 : decode cX9_mend 194 = .ok (.iadd, 1) := by decide +kernel
theorem dX9_mend_195 : decode cX9_mend 195 = .ok (.iaload, 1) := by decide +kernel
theorem dX9_mend_196 : decode cX9_mend 196 = .ok (.iconst 3, 1) := by decide +kernel
theorem dX9_mend_197 : decode cX9_mend 197 = .ok (.if_icmp .ne 14, 3) := by decide +kernel
theorem dX9_mend_200 : decode cX9_mend 200 = .ok (.aload_n 0, 1) := by decide +kernel
theorem dX9_mend_201 : decode cX9_mend 201 = .ok (.iload_n 2, 1) := by decide +kernel
theorem dX9_mend_202 : decode cX9_mend 202 = .ok (.bipush 20, 2) := by decide +kernel
theorem dX9_mend_204 : decode cX9_mend 204 = .ok (.ldc2_w 267, 3) := by decide +kernel
theorem dX9_mend_207 : decode cX9_mend 207 = .ok (.iconst 0, 1) := by decide +kernel
theorem dX9_mend_208 : decode cX9_mend 208 = .ok (.invokevirtual 269, 3) := by decide +kernel
theorem dX9_mend_211 : decode cX9_mend 211 = .ok (.iinc 2 1, 3) := by decide +kernel
theorem dX9_mend_214 : decode cX9_mend 214 = .ok (.goto (-39), 3) := by decide +kernel
theorem dX9_mend_217 : decode cX9_mend 217 = .ok (.aload_n 0, 1) := by decide +kernel
theorem dX9_mend_218 : decode cX9_mend 218 = .ok (.bipush 20, 2) := by decide +kernel
theorem dX9_mend_220 : decode cX9_mend 220 = .ok (.iconst 0, 1) := by decide +kernel
theorem dX9_mend_221 : decode cX9_mend 221 = .ok (.ldc2_w 267, 3) := by decide +kernel
theorem dX9_mend_224 : decode cX9_mend 224 = .ok (.iconst 0, 1) := by decide +kernel
theorem dX9_mend_225 : decode cX9_mend 225 = .ok (.invokevirtual 269, 3) := by decide +kernel
theorem dX9_mend_228 : decode cX9_mend 228 = .ok (.lconst 0, 1) := by decide +kernel
theorem dX9_mend_229 : decode cX9_mend 229 = .ok (.lstore_n 2, 1) := by decide +kernel
theorem dX9_mend_230 : decode cX9_mend 230 = .ok (.iconst 1, 1) := by decide +kernel
theorem dX9_mend_231 : decode cX9_mend 231 = .ok (.istore 4, 2) := by decide +kernel
theorem dX9_mend_233 : decode cX9_mend 233 = .ok (.iload 4, 2) := by decide +kernel
theorem dX9_mend_235 : decode cX9_mend 235 = .ok (.ifCond .eq 510, 3) := by decide +kernel
theorem dX9_mend_238 : decode cX9_mend 238 = .ok (.iconst 0, 1) := by decide +kernel
theorem dX9_mend_239 : decode cX9_mend 239 = .ok (.istore 5, 2) := by decide +kernel
theorem dX9_mend_241 : decode cX9_mend 241 = .ok (.iload 5, 2) := by decide +kernel
theorem dX9_mend_243 : decode cX9_mend 243 = .ok (.bipush 21, 2) := by decide +kernel
theorem dX9_mend_245 : decode cX9_mend 245 = .ok (.if_icmp .ge 42, 3) := by decide +kernel
theorem dX9_mend_248 : decode cX9_mend 248 = .ok (.aload_n 0, 1) := by decide +kernel
theorem dX9_mend_249 : decode cX9_mend 249 = .ok (.getfield 147, 3) := by decide +kernel
theorem dX9_mend_252 : decode cX9_mend 252 = .ok (.iload 5, 2) := by decide +kernel
theorem dX9_mend_254 : decode cX9_mend 254 = .ok (.aload_n 0, 1) := by decide +kernel
theorem dX9_mend_255 : decode cX9_mend 255 = .ok (.getfield 144, 3) := by decide +kernel
theorem dX9_mend_258 : decode cX9_mend 258 = .ok (.iload 5, 2) := by decide +kernel
theorem dX9_mend_260 : decode cX9_mend 260 = .ok (.laload, 1) := by decide +kernel
theorem dX9_mend_261 : decode cX9_mend 261 = .ok (.lconst 0, 1) := by decide +kernel
theorem dX9_mend_262 : decode cX9_mend 262 = .ok (.lcmp, 1) := by decide +kernel
theorem dX9_mend_263 : decode cX9_mend 263 = .ok (.ifCond .le 7, 3) := by decide +kernel
theorem dX9_mend_266 : decode cX9_mend 266 = .ok (.iconst 0, 1) := by decide +kernel
theorem dX9_mend_267 : decode cX9_mend 267 = .ok (.goto 5, 3) := by decide +kernel
theorem dX9_mend_270 : decode cX9_mend 270 = .ok (.ldc 164, 2) := by decide +kernel
theorem dX9_mend_272 : decode cX9_mend 272 = .ok (.iastore, 1) := by decide +kernel
theorem dX9_mend_273 : decode cX9_mend 273 = .ok (.aload_n 0, 1) := by decide +kernel
theorem dX9_mend_274 : decode cX9_mend 274 = .ok (.getfield 150, 3) := by decide +kernel
theorem dX9_mend_277 : decode cX9_mend 277 = .ok (.iload 5, 2) := by decide +kernel
theorem dX9_mend_279 : decode cX9_mend 279 = .ok (.iconst (-1), 1) := by decide +kernel
theorem dX9_mend_280 : decode cX9_mend 280 = .ok (.iastore, 1) := by decide +kernel
theorem dX9_mend_281 : decode cX9_mend 281 = .ok (.iinc 5 1, 3) := by decide +kernel
theorem dX9_mend_284 : decode cX9_mend 284 = .ok (.goto (-43), 3) := by decide +kernel
theorem dX9_mend_287 : decode cX9_mend 287 = .ok (.iconst 1, 1) := by decide +kernel
theorem dX9_mend_288 : decode cX9_mend 288 = .ok (.istore 5, 2) := by decide +kernel
theorem dX9_mend_290 : decode cX9_mend 290 = .ok (.iload 5, 2) := by decide +kernel
theorem dX9_mend_292 : decode cX9_mend 292 = .ok (.ifCond .eq 143, 3) := by decide +kernel
theorem dX9_mend_295 : decode cX9_mend 295 = .ok (.iconst 0, 1) := by decide +kernel
theorem dX9_mend_296 : decode cX9_mend 296 = .ok (.istore 5, 2) := by decide +kernel
theorem dX9_mend_298 : decode cX9_mend 298 = .ok (.iconst 0, 1) := by decide +kernel
theorem dX9_mend_299 : decode cX9_mend 299 = .ok (.istore 6, 2) := by decide +kernel
theorem dX9_mend_301 : decode cX9_mend 301 = .ok (.iload 6, 2) := by decide +kernel
theorem dX9_mend_303 : decode cX9_mend 303 = .ok (.aload_n 0, 1) := by decide +kernel
theorem dX9_mend_304 : decode cX9_mend 304 = .ok (.getfield 264, 3) := by decide +kernel
theorem dX9_mend_307 : decode cX9_mend 307 = .ok (.if_icmp .ge 125, 3) := by decide +kernel
theorem dX9_mend_310 : decode cX9_mend 310 = .ok (.aload_n 0, 1) := by decide +kernel
theorem dX9_mend_311 : decode cX9_mend 311 = .ok (.getfield 138, 3) := by decide +kernel
theorem dX9_mend_314 : decode cX9_mend 314 = .ok (.iload 6, 2) := by decide +kernel
theorem dX9_mend_316 : decode cX9_mend 316 = .ok (.laload, 1) := by decide +kernel
theorem dX9_mend_317 : decode cX9_mend 317 = .ok (.lconst 0, 1) := by decide +kernel
theorem dX9_mend_318 : decode cX9_mend 318 = .ok (.lcmp, 1) := by decide +kernel
theorem dX9_mend_319 : decode cX9_mend 319 = .ok (.ifCond .eq 107, 3) := by decide +kernel
theorem dX9_mend_322 : decode cX9_mend 322 = .ok (.aload_n 0, 1) := by decide +kernel
theorem dX9_mend_323 : decode cX9_mend 323 = .ok (.getfield 147, 3) := by decide +kernel
theorem dX9_mend_326 : decode cX9_mend 326 = .ok (.aload_n 0, 1) := by decide +kernel
theorem dX9_mend_327 : decode cX9_mend 327 = .ok (.getfield 132, 3) := by decide +kernel
theorem dX9_mend_330 : decode cX9_mend 330 = .ok (.iload 6, 2) := by decide +kernel
theorem dX9_mend_332 : decode cX9_mend 332 = .ok (.iaload, 1) := by decide +kernel
theorem dX9_mend_333 : decode cX9_mend 333 = .ok (.iaload, 1) := by decide +kernel
theorem dX9_mend_334 : decode cX9_mend 334 = .ok (.ldc 164, 2) := by decide +kernel
theorem dX9_mend_336 : decode cX9_mend 336 = .ok (.if_icmp .eq 90, 3) := by decide +kernel
theorem dX9_mend_339 : decode cX9_mend 339 = .ok (.aload_n 0, 1) := by decide +kernel
theorem dX9_mend_340 : decode cX9_mend 340 = .ok (.getfield 147, 3) := by decide +kernel
theorem dX9_mend_343 : decode cX9_mend 343 = .ok (.aload_n 0, 1) := by decide +kernel
theorem dX9_mend_344 : decode cX9_mend 344 = .ok (.getfield 132, 3) := by decide +kernel
theorem dX9_mend_347 : decode cX9_mend 347 = .ok (.iload 6, 2) := by decide +kernel
theorem dX9_mend_349 : decode cX9_mend 349 = .ok (.iaload, 1) := by decide +kernel
theorem dX9_mend_350 : decode cX9_mend 350 = .ok (.iaload, 1) := by decide +kernel
theorem dX9_mend_351 : decode cX9_mend 351 = .ok (.aload_n 0, 1) := by decide +kernel
theorem dX9_mend_352 : decode cX9_mend 352 = .ok (.getfield 141, 3) := by decide +kernel
theorem dX9_mend_355 : decode cX9_mend 355 = .ok (.iload 6, 2) := by decide +kernel
theorem dX9_mend_357 : decode cX9_mend 357 = .ok (.iaload, 1) := by decide +kernel
theorem dX9_mend_358 : decode cX9_mend 358 = .ok (.iadd, 1) := by decide +kernel
theorem dX9_mend_359 : decode cX9_mend 359 = .ok (.aload_n 0, 1) := by decide +kernel
theorem dX9_mend_360 : decode cX9_mend 360 = .ok (.getfield 147, 3) := by decide +kernel
theorem dX9_mend_363 : decode cX9_mend 363 = .ok (.aload_n 0, 1) := by decide +kernel
theorem dX9_mend_364 : decode cX9_mend 364 = .ok (.getfield 135, 3) := by decide +kernel
theorem dX9_mend_367 : decode cX9_mend 367 = .ok (.iload 6, 2) := by decide +kernel
theorem dX9_mend_369 : decode cX9_mend 369 = .ok (.iaload, 1) := by decide +kernel
theorem dX9_mend_370 : decode cX9_mend 370 = .ok (.iaload, 1) := by decide +kernel
theorem dX9_mend_371 : decode cX9_mend 371 = .ok (.if_icmp .lt 6, 3) := by decide +kernel
theorem dX9_mend_374 : decode cX9_mend 374 = .ok (.goto 52, 3) := by decide +kernel
theorem dX9_mend_377 : decode cX9_mend 377 = .ok (.aload_n 0, 1) := by decide +kernel
theorem dX9_mend_378 : decode cX9_mend 378 = .ok (.getfield 147, 3) := by decide +kernel
theorem dX9_mend_381 : decode cX9_mend 381 = .ok (.aload_n 0, 1) := by decide +kernel
theorem dX9_mend_382 : decode cX9_mend 382 = .ok (.getfield 135, 3) := by decide +kernel
theorem dX9_mend_385 : decode cX9_mend 385 = .ok (.iload 6, 2) := by decide +kernel
theorem dX9_mend_387 : decode cX9_mend 387 = .ok (.iaload, 1) := by decide +kernel
theorem dX9_mend_388 : decode cX9_mend 388 = .ok (.aload_n 0, 1) := by decide +kernel
theorem dX9_mend_389 : decode cX9_mend 389 = .ok (.getfield 147, 3) := by decide +kernel
theorem dX9_mend_392 : decode cX9_mend 392 = .ok (.aload_n 0, 1) := by decide +kernel
theorem dX9_mend_393 : decode cX9_mend 393 = .ok (.getfield 132, 3) := by decide +kernel
theorem dX9_mend_396 : decode cX9_mend 396 = .ok (.iload 6, 2) := by decide +kernel
theorem dX9_mend_398 : decode cX9_mend 398 = .ok (.iaload, 1) := by decide +kernel
theorem dX9_mend_399 : decode cX9_mend 399 = .ok (.iaload, 1) := by decide +kernel
theorem dX9_mend_400 : decode cX9_mend 400 = .ok (.aload_n 0, 1) := by decide +kernel
theorem dX9_mend_401 : decode cX9_mend 401 = .ok (.getfield 141, 3) := by decide +kernel
theorem dX9_mend_404 : decode cX9_mend 404 = .ok (.iload 6, 2) := by decide +kernel
theorem dX9_mend_406 : decode cX9_mend 406 = .ok (.iaload, 1) := by decide +kernel
theorem dX9_mend_407 : decode cX9_mend 407 = .ok (.iadd, 1) := by decide +kernel
theorem dX9_mend_408 : decode cX9_mend 408 = .ok (.iastore, 1) := by decide +kernel
theorem dX9_mend_409 : decode cX9_mend 409 = .ok (.aload_n 0, 1) := by decide +kernel
theorem dX9_mend_410 : decode cX9_mend 410 = .ok (.getfield 150, 3) := by decide +kernel
theorem dX9_mend_413 : decode cX9_mend 413 = .ok (.aload_n 0, 1) := by decide +kernel
theorem dX9_mend_414 : decode cX9_mend 414 = .ok (.getfield 135, 3) := by decide +kernel
theorem dX9_mend_417 : decode cX9_mend 417 = .ok (.iload 6, 2) := by decide +kernel
theorem dX9_mend_419 : decode cX9_mend 419 = .ok (.iaload, 1) := by decide +kernel
theorem dX9_mend_420 : decode cX9_mend 420 = .ok (.iload 6, 2) := by decide +kernel
theorem dX9_mend_422 : decode cX9_mend 422 = .ok (.iastore, 1) := by decide +kernel
theorem dX9_mend_423 : decode cX9_mend 423 = .ok (.iconst 1, 1) := by decide +kernel
theorem dX9_mend_424 : decode cX9_mend 424 = .ok (.istore 5, 2) := by decide +kernel
theorem dX9_mend_426 : decode cX9_mend 426 = .ok (.iinc 6 1, 3) := by decide +kernel
theorem dX9_mend_429 : decode cX9_mend 429 = .ok (.goto (-128), 3) := by decide +kernel
theorem dX9_mend_432 : decode cX9_mend 432 = .ok (.goto (-142), 3) := by decide +kernel
theorem dX9_mend_435 : decode cX9_mend 435 = .ok (.iconst (-1), 1) := by decide +kernel
theorem dX9_mend_436 : decode cX9_mend 436 = .ok (.istore 6, 2) := by decide +kernel
theorem dX9_mend_438 : decode cX9_mend 438 = .ok (.iconst 0, 1) := by decide +kernel
theorem dX9_mend_439 : decode cX9_mend 439 = .ok (.istore 7, 2) := by decide +kernel
theorem dX9_mend_441 : decode cX9_mend 441 = .ok (.iload 7, 2) := by decide +kernel
theorem dX9_mend_443 : decode cX9_mend 443 = .ok (.bipush 21, 2) := by decide +kernel
theorem dX9_mend_445 : decode cX9_mend 445 = .ok (.if_icmp .ge 59, 3) := by decide +kernel
theorem dX9_mend_448 : decode cX9_mend 448 = .ok (.aload_n 0, 1) := by decide +kernel
theorem dX9_mend_449 : decode cX9_mend 449 = .ok (.getfield 144, 3) := by decide +kernel
theorem dX9_mend_452 : decode cX9_mend 452 = .ok (.iload 7, 2) := by decide +kernel
theorem dX9_mend_454 : decode cX9_mend 454 = .ok (.laload, 1) := by decide +kernel
theorem dX9_mend_455 : decode cX9_mend 455 = .ok (.lconst 0, 1) := by decide +kernel
theorem dX9_mend_456 : decode cX9_mend 456 = .ok (.lcmp, 1) := by decide +kernel
theorem dX9_mend_457 : decode cX9_mend 457 = .ok (.ifCond .ge 41, 3) := by decide +kernel
theorem dX9_mend_460 : decode cX9_mend 460 = .ok (.aload_n 0, 1) := by decide +kernel
theorem dX9_mend_461 : decode cX9_mend 461 = .ok (.getfield 147, 3) := by decide +kernel
theorem dX9_mend_464 : decode cX9_mend 464 = .ok (.iload 7, 2) := by decide +kernel
theorem dX9_mend_466 : decode cX9_mend 466 = .ok (.iaload, 1) := by decide +kernel
theorem dX9_mend_467 : decode cX9_mend 467 = .ok (.ldc 164, 2) := by decide +kernel
theorem dX9_mend_469 : decode cX9_mend 469 = .ok (.if_icmp .ge 29, 3) := by decide +kernel
theorem dX9_mend_472 : decode cX9_mend 472 = .ok (.iload 6, 2) := by decide +kernel
theorem dX9_mend_474 : decode cX9_mend 474 = .ok (.ifCond .lt 20, 3) := by decide +kernel
theorem dX9_mend_477 : decode cX9_mend 477 = .ok (.aload_n 0, 1) := by decide +kernel
theorem dX9_mend_478 : decode cX9_mend 478 = .ok (.getfield 147, 3) := by decide +kernel
theorem dX9_mend_481 : decode cX9_mend 481 = .ok (.iload 7, 2) := by decide +kernel
theorem dX9_mend_483 : decode cX9_mend 483 = .ok (.iaload, 1) := by decide +kernel
theorem dX9_mend_484 : decode cX9_mend 484 = .ok (.aload_n 0, 1) := by decide +kernel
theorem dX9_mend_485 : decode cX9_mend 485 = .ok (.getfield 147, 3) := by decide +kernel
theorem dX9_mend_488 : decode cX9_mend 488 = .ok (.iload 6, 2) := by decide +kernel
theorem dX9_mend_490 : decode cX9_mend 490 = .ok (.iaload, 1) := by decide +kernel
theorem dX9_mend_491 : decode cX9_mend 491 = .ok (.if_icmp .ge 7, 3) := by decide +kernel
theorem dX9_mend_494 : decode cX9_mend 494 = .ok (.iload 7, 2) := by decide +kernel
theorem dX9_mend_496 : decode cX9_mend 496 = .ok (.istore 6, 2) := by decide +kernel
theorem dX9_mend_498 : decode cX9_mend 498 = .ok (.iinc 7 1, 3) := by decide +kernel
theorem dX9_mend_501 : decode cX9_mend 501 = .ok (.goto (-60), 3) := by decide +kernel
theorem dX9_mend_504 : decode cX9_mend 504 = .ok (.iload 6, 2) := by decide +kernel
theorem dX9_mend_506 : decode cX9_mend 506 = .ok (.ifCond .lt 7, 3) := by decide +kernel
theorem dX9_mend_509 : decode cX9_mend 509 = .ok (.iconst 1, 1) := by decide +kernel
theorem dX9_mend_510 : decode cX9_mend 510 = .ok (.goto 4, 3) := by decide +kernel
theorem dX9_mend_513 : decode cX9_mend 513 = .ok (.iconst 0, 1) := by decide +kernel
theorem dX9_mend_514 : decode cX9_mend 514 = .ok (.istore 4, 2) := by decide +kernel
theorem dX9_mend_516 : decode cX9_mend 516 = .ok (.iload 4, 2) := by decide +kernel
theorem dX9_mend_518 : decode cX9_mend 518 = .ok (.ifCond .ne 6, 3) := by decide +kernel
theorem dX9_mend_521 : decode cX9_mend 521 = .ok (.goto (-288), 3) := by decide +kernel
theorem dX9_mend_524 : decode cX9_mend 524 = .ok (.aload_n 0, 1) := by decide +kernel
theorem dX9_mend_525 : decode cX9_mend 525 = .ok (.getfield 144, 3) := by decide +kernel
theorem dX9_mend_528 : decode cX9_mend 528 = .ok (.iload 6, 2) := by decide +kernel
theorem dX9_mend_530 : decode cX9_mend 530 = .ok (.laload, 1) := by decide +kernel
theorem dX9_mend_531 : decode cX9_mend 531 = .ok (.lneg, 1) := by decide +kernel
theorem dX9_mend_532 : decode cX9_mend 532 = .ok (.lstore 7, 2) := by decide +kernel
theorem dX9_mend_534 : decode cX9_mend 534 = .ok (.iload 6, 2) := by decide +kernel
theorem dX9_mend_536 : decode cX9_mend 536 = .ok (.istore 9, 2) := by decide +kernel
theorem dX9_mend_538 : decode cX9_mend 538 = .ok (.aload_n 0, 1) := by decide +kernel
theorem dX9_mend_539 : decode cX9_mend 539 = .ok (.getfield 150, 3) := by decide +kernel
theorem dX9_mend_542 : decode cX9_mend 542 = .ok (.iload 9, 2) := by decide +kernel
theorem dX9_mend_544 : decode cX9_mend 544 = .ok (.iaload, 1) := by decide +kernel
theorem dX9_mend_545 : decode cX9_mend 545 = .ok (.ifCond .lt 57, 3) := by decide +kernel
theorem dX9_mend_548 : decode cX9_mend 548 = .ok (.aload_n 0, 1) := by decide +kernel
theorem dX9_mend_549 : decode cX9_mend 549 = .ok (.getfield 138, 3) := by decide +kernel
theorem dX9_mend_552 : decode cX9_mend 552 = .ok (.aload_n 0, 1) := by decide +kernel
theorem dX9_mend_553 : decode cX9_mend 553 = .ok (.getfield 150, 3) := by decide +kernel
theorem dX9_mend_556 : decode cX9_mend 556 = .ok (.iload 9, 2) := by decide +kernel
theorem dX9_mend_558 : decode cX9_mend 558 = .ok (.iaload, 1) := by decide +kernel
theorem dX9_mend_559 : decode cX9_mend 559 = .ok (.laload, 1) := by decide +kernel
theorem dX9_mend_560 : decode cX9_mend 560 = .ok (.lload 7, 2) := by decide +kernel
theorem dX9_mend_562 : decode cX9_mend 562 = .ok (.lcmp, 1) := by decide +kernel
theorem dX9_mend_563 : decode cX9_mend 563 = .ok (.ifCond .ge 18, 3) := by decide +kernel
theorem dX9_mend_566 : decode cX9_mend 566 = .ok (.aload_n 0, 1) := by decide +kernel
theorem dX9_mend_567 : decode cX9_mend 567 = .ok (.getfield 138, 3) := by decide +kernel
theorem dX9_mend_570 : decode cX9_mend 570 = .ok (.aload_n 0, 1) := by decide +kernel
theorem dX9_mend_571 : decode cX9_mend 571 = .ok (.getfield 150, 3) := by decide +kernel
theorem dX9_mend_574 : decode cX9_mend 574 = .ok (.iload 9, 2) := by decide +kernel
theorem dX9_mend_576 : decode cX9_mend 576 = .ok (.iaload, 1) := by decide +kernel
theorem dX9_mend_577 : decode cX9_mend 577 = .ok (.laload, 1) := by decide +kernel
theorem dX9_mend_578 : decode cX9_mend 578 = .ok (.goto 5, 3) := by decide +kernel
theorem dX9_mend_581 : decode cX9_mend 581 = .ok (.lload 7, 2) := by decide +kernel
theorem dX9_mend_583 : decode cX9_mend 583 = .ok (.lstore 7, 2) := by decide +kernel
theorem dX9_mend_585 : decode cX9_mend 585 = .ok (.aload_n 0, 1) := by decide +kernel
theorem dX9_mend_586 : decode cX9_mend 586 = .ok (.getfield 132, 3) := by decide +kernel
theorem dX9_mend_589 : decode cX9_mend 589 = .ok (.aload_n 0, 1) := by decide +kernel
theorem dX9_mend_590 : decode cX9_mend 590 = .ok (.getfield 150, 3) := by decide +kernel
theorem dX9_mend_593 : decode cX9_mend 593 = .ok (.iload 9, 2) := by decide +kernel
theorem dX9_mend_595 : decode cX9_mend 595 = .ok (.iaload, 1) := by decide +kernel
theorem dX9_mend_596 : decode cX9_mend 596 = .ok (.iaload, 1) := by decide +kernel
theorem dX9_mend_597 : decode cX9_mend 597 = .ok (.istore 9, 2) := by decide +kernel
theorem dX9_mend_599 : decode cX9_mend 599 = .ok (.goto (-61), 3) := by decide +kernel
theorem dX9_mend_602 : decode cX9_mend 602 = .ok (.aload_n 0, 1) := by decide +kernel
theorem dX9_mend_603 : decode cX9_mend 603 = .ok (.getfield 144, 3) := by decide +kernel
theorem dX9_mend_606 : decode cX9_mend 606 = .ok (.iload 9, 2) := by decide +kernel
theorem dX9_mend_608 : decode cX9_mend 608 = .ok (.laload, 1) := by decide +kernel
theorem dX9_mend_609 : decode cX9_mend 609 = .ok (.lload 7, 2) := by decide +kernel
theorem dX9_mend_611 : decode cX9_mend 611 = .ok (.lcmp, 1) := by decide +kernel
theorem dX9_mend_612 : decode cX9_mend 612 = .ok (.ifCond .ge 13, 3) := by decide +kernel
theorem dX9_mend_615 : decode cX9_mend 615 = .ok (.aload_n 0, 1) := by decide +kernel
theorem dX9_mend_616 : decode cX9_mend 616 = .ok (.getfield 144, 3) := by decide +kernel
theorem dX9_mend_619 : decode cX9_mend 619 = .ok (.iload 9, 2) := by decide +kernel
theorem dX9_mend_621 : decode cX9_mend 621 = .ok (.laload, 1) := by decide +kernel
theorem dX9_mend_622 : decode cX9_mend 622 = .ok (.goto 5, 3) := by decide +kernel
theorem dX9_mend_625 : decode cX9_mend 625 = .ok (.lload 7, 2) := by decide +kernel
theorem dX9_mend_627 : decode cX9_mend 627 = .ok (.lstore 7, 2) := by decide +kernel
theorem dX9_mend_629 : decode cX9_mend 629 = .ok (.lload_n 2, 1) := by decide +kernel
theorem dX9_mend_630 : decode cX9_mend 630 = .ok (.lload 7, 2) := by decide +kernel
theorem dX9_mend_632 : decode cX9_mend 632 = .ok (.aload_n 0, 1) := by decide +kernel
theorem dX9_mend_633 : decode cX9_mend 633 = .ok (.getfield 147, 3) := by decide +kernel
theorem dX9_mend_636 : decode cX9_mend 636 = .ok (.iload 6, 2) := by decide +kernel
theorem dX9_mend_638 : decode cX9_mend 638 = .ok (.iaload, 1) := by decide +kernel
theorem dX9_mend_639 : decode cX9_mend 639 = .ok (.i2l, 1) := by decide +kernel
theorem dX9_mend_640 : decode cX9_mend 640 = .ok (.lmul, 1) := by decide +kernel
theorem dX9_mend_641 : decode cX9_mend 641 = .ok (.ladd, 1) := by decide +kernel
theorem dX9_mend_642 : decode cX9_mend 642 = .ok (.lstore_n 2, 1) := by decide +kernel
theorem dX9_mend_643 : decode cX9_mend 643 = .ok (.aload_n 0, 1) := by decide +kernel
theorem dX9_mend_644 : decode cX9_mend 644 = .ok (.getfield 144, 3) := by decide +kernel
theorem dX9_mend_647 : decode cX9_mend 647 = .ok (.iload 9, 2) := by decide +kernel
theorem dX9_mend_649 : decode cX9_mend 649 = .ok (.dup2, 1) := by decide +kernel
theorem dX9_mend_650 : decode cX9_mend 650 = .ok (.laload, 1) := by decide +kernel
theorem dX9_mend_651 : decode cX9_mend 651 = .ok (.lload 7, 2) := by decide +kernel
theorem dX9_mend_653 : decode cX9_mend 653 = .ok (.lsub, 1) := by decide +kernel
theorem dX9_mend_654 : decode cX9_mend 654 = .ok (.lastore, 1) := by decide +kernel
theorem dX9_mend_655 : decode cX9_mend 655 = .ok (.aload_n 0, 1) := by decide +kernel
theorem dX9_mend_656 : decode cX9_mend 656 = .ok (.getfield 144, 3) := by decide +kernel
theorem dX9_mend_659 : decode cX9_mend 659 = .ok (.iload 6, 2) := by decide +kernel
theorem dX9_mend_661 : decode cX9_mend 661 = .ok (.dup2, 1) := by decide +kernel
theorem dX9_mend_662 : decode cX9_mend 662 = .ok (.laload, 1) := by decide +kernel
theorem dX9_mend_663 : decode cX9_mend 663 = .ok (.lload 7, 2) := by decide +kernel
theorem dX9_mend_665 : decode cX9_mend 665 = .ok (.ladd, 1) := by decide +kernel
theorem dX9_mend_666 : decode cX9_mend 666 = .ok (.lastore, 1) := by decide +kernel
theorem dX9_mend_667 : decode cX9_mend 667 = .ok (.iload 6, 2) := by decide +kernel
theorem dX9_mend_669 : decode cX9_mend 669 = .ok (.istore 9, 2) := by decide +kernel
theorem dX9_mend_671 : decode cX9_mend 671 = .ok (.aload_n 0, 1) := by decide +kernel
theorem dX9_mend_672 : decode cX9_mend 672 = .ok (.getfield 150, 3) := by decide +kernel
theorem dX9_mend_675 : decode cX9_mend 675 = .ok (.iload 9, 2) := by decide +kernel
theorem dX9_mend_677 : decode cX9_mend 677 = .ok (.iaload, 1) := by decide +kernel
theorem dX9_mend_678 : decode cX9_mend 678 = .ok (.ifCond .lt 64, 3) := by decide +kernel
theorem dX9_mend_681 : decode cX9_mend 681 = .ok (.aload_n 0, 1) := by decide +kernel
theorem dX9_mend_682 : decode cX9_mend 682 = .ok (.getfield 150, 3) := by decide +kernel
theorem dX9_mend_685 : decode cX9_mend 685 = .ok (.iload 9, 2) := by decide +kernel
theorem dX9_mend_687 : decode cX9_mend 687 = .ok (.iaload, 1) := by decide +kernel
theorem dX9_mend_688 : decode cX9_mend 688 = .ok (.istore 10, 2) := by decide +kernel
theorem dX9_mend_690 : decode cX9_mend 690 = .ok (.aload_n 0, 1) := by decide +kernel
theorem dX9_mend_691 : decode cX9_mend 691 = .ok (.getfield 138, 3) := by decide +kernel
theorem dX9_mend_694 : decode cX9_mend 694 = .ok (.iload 10, 2) := by decide +kernel
theorem dX9_mend_696 : decode cX9_mend 696 = .ok (.dup2, 1) := by decide +kernel
theorem dX9_mend_697 : decode cX9_mend 697 = .ok (.laload, 1) := by decide +kernel
theorem dX9_mend_698 : decode cX9_mend 698 = .ok (.lload 7, 2) := by decide +kernel
theorem dX9_mend_700 : decode cX9_mend 700 = .ok (.lsub, 1) := by decide +kernel
theorem dX9_mend_701 : decode cX9_mend 701 = .ok (.lastore, 1) := by decide +kernel
theorem dX9_mend_702 : decode cX9_mend 702 = .ok (.aload_n 0, 1) := by decide +kernel
theorem dX9_mend_703 : decode cX9_mend 703 = .ok (.getfield 138, 3) := by decide +kernel
theorem dX9_mend_706 : decode cX9_mend 706 = .ok (.iload 10, 2) := by decide +kernel
theorem dX9_mend_708 : decode cX9_mend 708 = .ok (.iconst 2, 1) := by decide +kernel
theorem dX9_mend_709 : decode cX9_mend 709 = .ok (.irem, 1) := by decide +kernel
theorem dX9_mend_710 : decode cX9_mend 710 = .ok (.ifCond .ne 10, 3) := by decide +kernel
theorem dX9_mend_713 : decode cX9_mend 713 = .ok (.iload 10, 2) := by decide +kernel
theorem dX9_mend_715 : decode cX9_mend 715 = .ok (.iconst 1, 1) := by decide +kernel
theorem dX9_mend_716 : decode cX9_mend 716 = .ok (.iadd, 1) := by decide +kernel
theorem dX9_mend_717 : decode cX9_mend 717 = .ok (.goto 7, 3) := by decide +kernel
theorem dX9_mend_720 : decode cX9_mend 720 = .ok (.iload 10, 2) := by decide +kernel
theorem dX9_mend_722 : decode cX9_mend 722 = .ok (.iconst 1, 1) := by decide +kernel
theorem dX9_mend_723 : decode cX9_mend 723 = .ok (.isub, 1) := by decide +kernel
theorem dX9_mend_724 : decode cX9_mend 724 = .ok (.dup2, 1) := by decide +kernel
theorem dX9_mend_725 : decode cX9_mend 725 = .ok (.laload, 1) := by decide +kernel
theorem dX9_mend_726 : decode cX9_mend 726 = .ok (.lload 7, 2) := by decide +kernel
theorem dX9_mend_728 : decode cX9_mend 728 = .ok (.ladd, 1) := by decide +kernel
theorem dX9_mend_729 : decode cX9_mend 729 = .ok (.lastore, 1) := by decide +kernel
theorem dX9_mend_730 : decode cX9_mend 730 = .ok (.aload_n 0, 1) := by decide +kernel
theorem dX9_mend_731 : decode cX9_mend 731 = .ok (.getfield 132, 3) := by decide +kernel
theorem dX9_mend_734 : decode cX9_mend 734 = .ok (.iload 10, 2) := by decide +kernel
theorem dX9_mend_736 : decode cX9_mend 736 = .ok (.iaload, 1) := by decide +kernel
theorem dX9_mend_737 : decode cX9_mend 737 = .ok (.istore 9, 2) := by decide +kernel
theorem dX9_mend_739 : decode cX9_mend 739 = .ok (.goto (-68), 3) := by decide +kernel
theorem dX9_mend_742 : decode cX9_mend 742 = .ok (.goto (-509), 3) := by decide +kernel
theorem dX9_mend_745 : decode cX9_mend 745 = .ok (.lload_n 2, 1) := by decide +kernel
theorem dX9_mend_746 : decode cX9_mend 746 = .ok (.lreturn, 1) := by decide +kernel
def L_X9_mend_24 (b1 : Int32) (k : Hp → Option (Int64 × Hp)) : Nat → Int32 → Hp → Option (Int64 × Hp)
  | 0, _, _ => none
  | n + 1, x2, H => if 21 ≤ x2 then k H else gd x2 21 (hl (sJ H 0 53 (Int32.toNatClampNeg x2) 0) (fun (H7 : Hp) => vl (x2 + (1 : Int32)) (fun (v8 : Int32) => L_X9_mend_24 b1 k n v8 H7)))
set_option maxRecDepth 100000 in
set_option maxHeartbeats 4000000 in
theorem sL_X9_mend_24 {p : Program} {l : Launch} {e : Env} {s : State} {m : MethodId} {args : Array Value} {below : List Frame} {meth : Method} {c : Code} {A : Nat → Prop} {D : va_G} {K4 : kQ} {ad : Nat → Nat → Nat} {nr : Nat} {b1 : Int32} {k : Hp → Option (Int64 × Hp)} {res : Int64 × Hp} (hC : Cx p s m args c A s.heap D K4 11 RX9 cX9_mend) (hret : meth.sig.returnType = (some .long) ∧ meth.locks = false) (hk : ∀ (H : Hp), k H = some res → V p l e ({ frames := 2, cells := 0, slots := 0, locals := 42 }) s m args below meth c A s.heap (QJ below args s A D K4 ad nr res) D K4 ad nr 11 43 [(0, .ref (ad 0 0)), (1, .int b1)] [] H) : ∀ (n : Nat) (x2 : Int32) (H : Hp), L_X9_mend_24 b1 k n x2 H = some res → V p l e ({ frames := 2, cells := 0, slots := 0, locals := 42 }) s m args below meth c A s.heap (QJ below args s A D K4 ad nr res) D K4 ad nr 11 24 [(0, .ref (ad 0 0)), (1, .int b1), (2, .int x2)] [] H := by
  intro n
  induction n with
  | zero => intro x2 H h; exact nomatch (show (none : Option (Int64 × Hp)) = some res from h)
  | succ n ih =>
    intro x2 H h
    rw [L_X9_mend_24] at h
    refine V_iload_n hC 2 dX9_mend_24 rfl ?_
    refine V_bipush (v := 21) hC dX9_mend_25 (by decide) ?_
    refine V_icmp_ge (tgt := 43) hC dX9_mend_27 (by decide) (fun c6 => ?_) (fun c6 => ?_)
    · have h := it_pos c6 h
      refine V_lv (lv' := [(0, .ref (ad 0 0)), (1, .int b1)]) [0, 1] rfl ?_
      exact hk H h
    · have h := it_neg c6 h
      refine V_aload_n hC 0 dX9_mend_30 rfl ?_
      refine V_getR (g := 0) (k := 0) (g' := 0) (k' := 53) hC 9 53 fl_X9_144 rfl rfl rfl rfl dX9_mend_31 ?_
      refine V_iload_n hC 2 dX9_mend_34 rfl ?_
      refine V_lconst (v := 0) hC dX9_mend_35 (by decide) ?_
      obtain ⟨hi, h⟩ := gd_some h
      refine V_last (g := 0) (k := 53) hC rfl rfl hi dX9_mend_36 ?_
      refine V_hl h (fun H7 h => ?_)
      refine V_vi h (fun v8 hvv8 h => ?_)
      refine V_iinc (v := v8) (lv' := [(2, .int v8), (0, .ref (ad 0 0)), (1, .int b1)]) hC 2 dX9_mend_37 rfl hvv8.symm (Nat.le_of_ble_eq_true rfl) rfl ?_
      refine V_goto (tgt := 24) hC dX9_mend_40 (by decide) ?_
      refine V_lv (lv' := [(0, .ref (ad 0 0)), (1, .int b1), (2, .int v8)]) [1, 2, 0] rfl ?_
      exact ih v8 H7 h
def L_X9_mend_48 (b1 : Int32) (k : Hp → Option (Int64 × Hp)) : Nat → Int32 → Hp → Option (Int64 × Hp)
  | 0, _, _ => none
  | n + 1, x2, H => gd b1 8 (if ((40 * b1) + (gI H 0 2 (Int32.toNatClampNeg b1))) ≤ x2 then k H else gd x2 320 (gd x2 320 (if (gI H 0 6 (Int32.toNatClampNeg x2)) = (gI H 0 7 (Int32.toNatClampNeg x2)) then vl (x2 + (1 : Int32)) (fun (v20 : Int32) => L_X9_mend_48 b1 k n v20 H) else gd x2 320 (gd (gI H 0 7 (Int32.toNatClampNeg x2)) 21 (gd x2 320 (gd (gI H 0 7 (Int32.toNatClampNeg x2)) 21 (hl (sJ H 0 53 (Int32.toNatClampNeg (gI H 0 7 (Int32.toNatClampNeg x2))) ((gJ H 0 53 (Int32.toNatClampNeg (gI H 0 7 (Int32.toNatClampNeg x2)))) + (Int32.toInt64 (gI H 0 10 (Int32.toNatClampNeg x2))))) (fun (H13 : Hp) => gd x2 320 (gd (gI H13 0 6 (Int32.toNatClampNeg x2)) 21 (gd x2 320 (gd (gI H13 0 6 (Int32.toNatClampNeg x2)) 21 (hl (sJ H13 0 53 (Int32.toNatClampNeg (gI H13 0 6 (Int32.toNatClampNeg x2))) ((gJ H13 0 53 (Int32.toNatClampNeg (gI H13 0 6 (Int32.toNatClampNeg x2)))) - (Int32.toInt64 (gI H13 0 10 (Int32.toNatClampNeg x2))))) (fun (H14 : Hp) => gd x2 320 (gd x2 320 (bnd (f_X9_push (gI H14 0 6 (Int32.toNatClampNeg x2)) (gI H14 0 7 (Int32.toNatClampNeg x2)) 1000000000000000 1 H14) (fun w16 H15 => gd x2 320 (gd x2 320 (gd x2 320 (bnd (f_X9_push (gI H15 0 7 (Int32.toNatClampNeg x2)) (gI H15 0 6 (Int32.toNatClampNeg x2)) (Int32.toInt64 (gI H15 0 10 (Int32.toNatClampNeg x2))) 1 H15) (fun w18 H17 => vl (x2 + (1 : Int32)) (fun (v19 : Int32) => L_X9_mend_48 b1 k n v19 H17)))))))))))))))))))))
set_option maxRecDepth 100000 in
set_option maxHeartbeats 4000000 in
theorem sL_X9_mend_48 {p : Program} {l : Launch} {e : Env} {s : State} {m : MethodId} {args : Array Value} {below : List Frame} {meth : Method} {c : Code} {A : Nat → Prop} {D : va_G} {K4 : kQ} {ad : Nat → Nat → Nat} {nr : Nat} {b1 : Int32} {k : Hp → Option (Int64 × Hp)} {res : Int64 × Hp} (hC : Cx p s m args c A s.heap D K4 11 RX9 cX9_mend) (hret : meth.sig.returnType = (some .long) ∧ meth.locks = false) (hk : ∀ (H : Hp), k H = some res → V p l e ({ frames := 2, cells := 0, slots := 0, locals := 42 }) s m args below meth c A s.heap (QJ below args s A D K4 ad nr res) D K4 ad nr 11 173 [(0, .ref (ad 0 0)), (1, .int b1)] [] H) : ∀ (n : Nat) (x2 : Int32) (H : Hp), L_X9_mend_48 b1 k n x2 H = some res → V p l e ({ frames := 2, cells := 0, slots := 0, locals := 42 }) s m args below meth c A s.heap (QJ below args s A D K4 ad nr res) D K4 ad nr 11 48 [(0, .ref (ad 0 0)), (1, .int b1), (2, .int x2)] [] H := by
  intro n
  induction n with
  | zero => intro x2 H h; exact nomatch (show (none : Option (Int64 × Hp)) = some res from h)
  | succ n ih =>
    intro x2 H h
    rw [L_X9_mend_48] at h
    refine V_iload_n hC 2 dX9_mend_48 rfl ?_
    refine V_bipush (v := 40) hC dX9_mend_49 (by decide) ?_
    refine V_iload_n hC 1 dX9_mend_51 rfl ?_
    refine V_imul hC dX9_mend_52 ?_
    refine V_aload_n hC 0 dX9_mend_53 rfl ?_
    refine V_getR (g := 0) (k := 0) (g' := 0) (k' := 2) hC 9 2 fl_X9_13 rfl rfl rfl rfl dX9_mend_54 ?_
    refine V_iload_n hC 1 dX9_mend_57 rfl ?_
    obtain ⟨hi, h⟩ := gd_some h
    refine V_iald (g := 0) (k := 2) hC rfl rfl hi dX9_mend_58 ?_
    refine V_iadd hC dX9_mend_59 ?_
    refine V_icmp_ge (tgt := 173) hC dX9_mend_60 (by decide) (fun c11 => ?_) (fun c11 => ?_)
    · have h := it_pos c11 h
      refine V_lv (lv' := [(0, .ref (ad 0 0)), (1, .int b1)]) [0, 1] rfl ?_
      exact hk H h
    · have h := it_neg c11 h
      refine V_aload_n hC 0 dX9_mend_63 rfl ?_
      refine V_getR (g := 0) (k := 0) (g' := 0) (k' := 6) hC 9 6 fl_X9_26 rfl rfl rfl rfl dX9_mend_64 ?_
      refine V_iload_n hC 2 dX9_mend_67 rfl ?_
      obtain ⟨hi, h⟩ := gd_some h
      refine V_iald (g := 0) (k := 6) hC rfl rfl hi dX9_mend_68 ?_
      refine V_aload_n hC 0 dX9_mend_69 rfl ?_
      refine V_getR (g := 0) (k := 0) (g' := 0) (k' := 7) hC 9 7 fl_X9_29 rfl rfl rfl rfl dX9_mend_70 ?_
      refine V_iload_n hC 2 dX9_mend_73 rfl ?_
      obtain ⟨hi, h⟩ := gd_some h
      refine V_iald (g := 0) (k := 7) hC rfl rfl hi dX9_mend_74 ?_
      refine V_icmp_ne (tgt := 81) hC dX9_mend_75 (by decide) (fun c12 => ?_) (fun c12 => ?_)
      · have h := it_neg c12 h
        refine V_aload_n hC 0 dX9_mend_81 rfl ?_
        refine V_getR (g := 0) (k := 0) (g' := 0) (k' := 53) hC 9 53 fl_X9_144 rfl rfl rfl rfl dX9_mend_82 ?_
        refine V_aload_n hC 0 dX9_mend_85 rfl ?_
        refine V_getR (g := 0) (k := 0) (g' := 0) (k' := 7) hC 9 7 fl_X9_29 rfl rfl rfl rfl dX9_mend_86 ?_
        refine V_iload_n hC 2 dX9_mend_89 rfl ?_
        obtain ⟨hi, h⟩ := gd_some h
        refine V_iald (g := 0) (k := 7) hC rfl rfl hi dX9_mend_90 ?_
        refine V_dup2 hC dX9_mend_91 rfl rfl ?_
        obtain ⟨hi, h⟩ := gd_some h
        refine V_lald (g := 0) (k := 53) hC rfl rfl hi dX9_mend_92 ?_
        refine V_aload_n hC 0 dX9_mend_93 rfl ?_
        refine V_getR (g := 0) (k := 0) (g' := 0) (k' := 10) hC 9 10 fl_X9_38 rfl rfl rfl rfl dX9_mend_94 ?_
        refine V_iload_n hC 2 dX9_mend_97 rfl ?_
        obtain ⟨hi, h⟩ := gd_some h
        refine V_iald (g := 0) (k := 10) hC rfl rfl hi dX9_mend_98 ?_
        refine V_i2l hC dX9_mend_99 ?_
        refine V_ladd hC dX9_mend_100 ?_
        obtain ⟨hi, h⟩ := gd_some h
        refine V_last (g := 0) (k := 53) hC rfl rfl hi dX9_mend_101 ?_
        refine V_hl h (fun H13 h => ?_)
        refine V_aload_n hC 0 dX9_mend_102 rfl ?_
        refine V_getR (g := 0) (k := 0) (g' := 0) (k' := 53) hC 9 53 fl_X9_144 rfl rfl rfl rfl dX9_mend_103 ?_
        refine V_aload_n hC 0 dX9_mend_106 rfl ?_
        refine V_getR (g := 0) (k := 0) (g' := 0) (k' := 6) hC 9 6 fl_X9_26 rfl rfl rfl rfl dX9_mend_107 ?_
        refine V_iload_n hC 2 dX9_mend_110 rfl ?_
        obtain ⟨hi, h⟩ := gd_some h
        refine V_iald (g := 0) (k := 6) hC rfl rfl hi dX9_mend_111 ?_
        refine V_dup2 hC dX9_mend_112 rfl rfl ?_
        obtain ⟨hi, h⟩ := gd_some h
        refine V_lald (g := 0) (k := 53) hC rfl rfl hi dX9_mend_113 ?_
        refine V_aload_n hC 0 dX9_mend_114 rfl ?_
        refine V_getR (g := 0) (k := 0) (g' := 0) (k' := 10) hC 9 10 fl_X9_38 rfl rfl rfl rfl dX9_mend_115 ?_
        refine V_iload_n hC 2 dX9_mend_118 rfl ?_
        obtain ⟨hi, h⟩ := gd_some h
        refine V_iald (g := 0) (k := 10) hC rfl rfl hi dX9_mend_119 ?_
        refine V_i2l hC dX9_mend_120 ?_
        refine V_lsub hC dX9_mend_121 ?_
        obtain ⟨hi, h⟩ := gd_some h
        refine V_last (g := 0) (k := 53) hC rfl rfl hi dX9_mend_122 ?_
        refine V_hl h (fun H14 h => ?_)
        refine V_aload_n hC 0 dX9_mend_123 rfl ?_
        refine V_aload_n hC 0 dX9_mend_124 rfl ?_
        refine V_getR (g := 0) (k := 0) (g' := 0) (k' := 6) hC 9 6 fl_X9_26 rfl rfl rfl rfl dX9_mend_125 ?_
        refine V_iload_n hC 2 dX9_mend_128 rfl ?_
        obtain ⟨hi, h⟩ := gd_some h
        refine V_iald (g := 0) (k := 6) hC rfl rfl hi dX9_mend_129 ?_
        refine V_aload_n hC 0 dX9_mend_130 rfl ?_
        refine V_getR (g := 0) (k := 0) (g' := 0) (k' := 7) hC 9 7 fl_X9_29 rfl rfl rfl rfl dX9_mend_131 ?_
        refine V_iload_n hC 2 dX9_mend_134 rfl ?_
        obtain ⟨hi, h⟩ := gd_some h
        refine V_iald (g := 0) (k := 7) hC rfl rfl hi dX9_mend_135 ?_
        refine V_ldc2 hC dX9_mend_136 cl_X9_267 ?_
        refine V_iconst (v := 1) hC dX9_mend_139 (by decide) ?_
        obtain ⟨w16, H15, hc, h⟩ := bnd_some h
        refine V_callu (g := 0) (k := 0) (As := [.int (gI H14 0 6 (Int32.toNatClampNeg x2)), .int (gI H14 0 7 (Int32.toNatClampNeg x2)), .long 1000000000000000, .int 1]) (st := []) hC (c_X9_push l hc) rfl ml_X9_269 ⟨Nat.le_of_ble_eq_true rfl, Nat.le_of_ble_eq_true rfl⟩ rfl rfl rfl (Nat.le_of_ble_eq_true rfl) dX9_mend_140 ?_
        refine V_aload_n hC 0 dX9_mend_143 rfl ?_
        refine V_aload_n hC 0 dX9_mend_144 rfl ?_
        refine V_getR (g := 0) (k := 0) (g' := 0) (k' := 7) hC 9 7 fl_X9_29 rfl rfl rfl rfl dX9_mend_145 ?_
        refine V_iload_n hC 2 dX9_mend_148 rfl ?_
        obtain ⟨hi, h⟩ := gd_some h
        refine V_iald (g := 0) (k := 7) hC rfl rfl hi dX9_mend_149 ?_
        refine V_aload_n hC 0 dX9_mend_150 rfl ?_
        refine V_getR (g := 0) (k := 0) (g' := 0) (k' := 6) hC 9 6 fl_X9_26 rfl rfl rfl rfl dX9_mend_151 ?_
        refine V_iload_n hC 2 dX9_mend_154 rfl ?_
        obtain ⟨hi, h⟩ := gd_some h
        refine V_iald (g := 0) (k := 6) hC rfl rfl hi dX9_mend_155 ?_
        refine V_aload_n hC 0 dX9_mend_156 rfl ?_
        refine V_getR (g := 0) (k := 0) (g' := 0) (k' := 10) hC 9 10 fl_X9_38 rfl rfl rfl rfl dX9_mend_157 ?_
        refine V_iload_n hC 2 dX9_mend_160 rfl ?_
        obtain ⟨hi, h⟩ := gd_some h
        refine V_iald (g := 0) (k := 10) hC rfl rfl hi dX9_mend_161 ?_
        refine V_i2l hC dX9_mend_162 ?_
        refine V_iconst (v := 1) hC dX9_mend_163 (by decide) ?_
        obtain ⟨w18, H17, hc, h⟩ := bnd_some h
        refine V_callu (g := 0) (k := 0) (As := [.int (gI H15 0 7 (Int32.toNatClampNeg x2)), .int (gI H15 0 6 (Int32.toNatClampNeg x2)), .long (Int32.toInt64 (gI H15 0 10 (Int32.toNatClampNeg x2))), .int 1]) (st := []) hC (c_X9_push l hc) rfl ml_X9_269 ⟨Nat.le_of_ble_eq_true rfl, Nat.le_of_ble_eq_true rfl⟩ rfl rfl rfl (Nat.le_of_ble_eq_true rfl) dX9_mend_164 ?_
        refine V_vi h (fun v19 hvv19 h => ?_)
        refine V_iinc (v := v19) (lv' := [(2, .int v19), (0, .ref (ad 0 0)), (1, .int b1)]) hC 2 dX9_mend_167 rfl hvv19.symm (Nat.le_of_ble_eq_true rfl) rfl ?_
        refine V_goto (tgt := 48) hC dX9_mend_170 (by decide) ?_
        refine V_lv (lv' := [(0, .ref (ad 0 0)), (1, .int b1), (2, .int v19)]) [1, 2, 0] rfl ?_
        exact ih v19 H17 h
      · have h := it_pos c12 h
        refine V_goto (tgt := 167) hC dX9_mend_78 (by decide) ?_
        refine V_vi h (fun v20 hvv20 h => ?_)
        refine V_iinc (v := v20) (lv' := [(2, .int v20), (0, .ref (ad 0 0)), (1, .int b1)]) hC 2 dX9_mend_167 rfl hvv20.symm (Nat.le_of_ble_eq_true rfl) rfl ?_
        refine V_goto (tgt := 48) hC dX9_mend_170 (by decide) ?_
        refine V_lv (lv' := [(0, .ref (ad 0 0)), (1, .int b1), (2, .int v20)]) [1, 2, 0] rfl ?_
        exact ih v20 H h
def L_X9_mend_175 (b1 : Int32) (k : Hp → Option (Int64 × Hp)) : Nat → Int32 → Hp → Option (Int64 × Hp)
  | 0, _, _ => none
  | n + 1, x2, H => gd b1 8 (if (gI H 0 1 (Int32.toNatClampNeg b1)) ≤ x2 then k H else gd ((20 * b1) + x2) 160 (if (gI H 0 4 (Int32.toNatClampNeg ((20 * b1) + x2))) = 3 then bnd (f_X9_push x2 20 1000000000000000 0 H) (fun w26 H25 => vl (x2 + (1 : Int32)) (fun (v27 : Int32) => L_X9_mend_175 b1 k n v27 H25)) else vl (x2 + (1 : Int32)) (fun (v24 : Int32) => L_X9_mend_175 b1 k n v24 H)))
set_option maxRecDepth 100000 in
set_option maxHeartbeats 4000000 in
theorem sL_X9_mend_175 {p : Program} {l : Launch} {e : Env} {s : State} {m : MethodId} {args : Array Value} {below : List Frame} {meth : Method} {c : Code} {A : Nat → Prop} {D : va_G} {K4 : kQ} {ad : Nat → Nat → Nat} {nr : Nat} {b1 : Int32} {k : Hp → Option (Int64 × Hp)} {res : Int64 × Hp} (hC : Cx p s m args c A s.heap D K4 11 RX9 cX9_mend) (hret : meth.sig.returnType = (some .long) ∧ meth.locks = false) (hk : ∀ (H : Hp), k H = some res → V p l e ({ frames := 2, cells := 0, slots := 0, locals := 42 }) s m args below meth c A s.heap (QJ below args s A D K4 ad nr res) D K4 ad nr 11 217 [(0, .ref (ad 0 0))] [] H) : ∀ (n : Nat) (x2 : Int32) (H : Hp), L_X9_mend_175 b1 k n x2 H = some res → V p l e ({ frames := 2, cells := 0, slots := 0, locals := 42 }) s m args below meth c A s.heap (QJ below args s A D K4 ad nr res) D K4 ad nr 11 175 [(0, .ref (ad 0 0)), (1, .int b1), (2, .int x2)] [] H := by
  intro n
  induction n with
  | zero => intro x2 H h; exact nomatch (show (none : Option (Int64 × Hp)) = some res from h)
  | succ n ih =>
    intro x2 H h
    rw [L_X9_mend_175] at h
    refine V_iload_n hC 2 dX9_mend_175 rfl ?_
    refine V_aload_n hC 0 dX9_mend_176 rfl ?_
    refine V_getR (g := 0) (k := 0) (g' := 0) (k' := 1) hC 9 1 fl_X9_7 rfl rfl rfl rfl dX9_mend_177 ?_
    refine V_iload_n hC 1 dX9_mend_180 rfl ?_
    obtain ⟨hi, h⟩ := gd_some h
    refine V_iald (g := 0) (k := 1) hC rfl rfl hi dX9_mend_181 ?_
    refine V_icmp_ge (tgt := 217) hC dX9_mend_182 (by decide) (fun c22 => ?_) (fun c22 => ?_)
    · have h := it_pos c22 h
      refine V_lv (lv' := [(0, .ref (ad 0 0))]) [0] rfl ?_
      exact hk H h
    · have h := it_neg c22 h
      refine V_aload_n hC 0 dX9_mend_185 rfl ?_
      refine V_getR (g := 0) (k := 0) (g' := 0) (k' := 4) hC 9 4 fl_X9_20 rfl rfl rfl rfl dX9_mend_186 ?_
      refine V_bipush (v := 20) hC dX9_mend_189 (by decide) ?_
      refine V_iload_n hC 1 dX9_mend_191 rfl ?_
      refine V_imul hC dX9_mend_192 ?_
      refine V_iload_n hC 2 dX9_mend_193 rfl ?_
      refine V_iadd hC dX9_mend_194 ?_
      obtain ⟨hi, h⟩ := gd_some h
      refine V_iald (g := 0) (k := 4) hC rfl rfl hi dX9_mend_195 ?_
      refine V_iconst (v := 3) hC dX9_mend_196 (by decide) ?_
      refine V_icmp_ne (tgt := 211) hC dX9_mend_197 (by decide) (fun c23 => ?_) (fun c23 => ?_)
      · have h := it_neg c23 h
        refine V_vi h (fun v24 hvv24 h => ?_)
        refine V_iinc (v := v24) (lv' := [(2, .int v24), (0, .ref (ad 0 0)), (1, .int b1)]) hC 2 dX9_mend_211 rfl hvv24.symm (Nat.le_of_ble_eq_true rfl) rfl ?_
        refine V_goto (tgt := 175) hC dX9_mend_214 (by decide) ?_
        refine V_lv (lv' := [(0, .ref (ad 0 0)), (1, .int b1), (2, .int v24)]) [1, 2, 0] rfl ?_
        exact ih v24 H h
      · have h := it_pos c23 h
        refine V_aload_n hC 0 dX9_mend_200 rfl ?_
        refine V_iload_n hC 2 dX9_mend_201 rfl ?_
        refine V_bipush (v := 20) hC dX9_mend_202 (by decide) ?_
        refine V_ldc2 hC dX9_mend_204 cl_X9_267 ?_
        refine V_iconst (v := 0) hC dX9_mend_207 (by decide) ?_
        obtain ⟨w26, H25, hc, h⟩ := bnd_some h
        refine V_callu (g := 0) (k := 0) (As := [.int x2, .int 20, .long 1000000000000000, .int 0]) (st := []) hC (c_X9_push l hc) rfl ml_X9_269 ⟨Nat.le_of_ble_eq_true rfl, Nat.le_of_ble_eq_true rfl⟩ rfl rfl rfl (Nat.le_of_ble_eq_true rfl) dX9_mend_208 ?_
        refine V_vi h (fun v27 hvv27 h => ?_)
        refine V_iinc (v := v27) (lv' := [(2, .int v27), (0, .ref (ad 0 0)), (1, .int b1)]) hC 2 dX9_mend_211 rfl hvv27.symm (Nat.le_of_ble_eq_true rfl) rfl ?_
        refine V_goto (tgt := 175) hC dX9_mend_214 (by decide) ?_
        refine V_lv (lv' := [(0, .ref (ad 0 0)), (1, .int b1), (2, .int v27)]) [1, 2, 0] rfl ?_
        exact ih v27 H25 h
def L_X9_mend_241 (b2 : Int64) (k : Hp → Option (Int64 × Hp)) : Nat → Int32 → Hp → Option (Int64 × Hp)
  | 0, _, _ => none
  | n + 1, x5, H => if 21 ≤ x5 then k H else gd x5 21 (if (lg_cmp (gJ H 0 53 (Int32.toNatClampNeg x5)) 0) ≤ 0 then gd x5 21 (hl (sI H 0 54 (Int32.toNatClampNeg x5) 1000000) (fun (H34 : Hp) => gd x5 21 (hl (sI H34 0 55 (Int32.toNatClampNeg x5) (-1)) (fun (H35 : Hp) => vl (x5 + (1 : Int32)) (fun (v36 : Int32) => L_X9_mend_241 b2 k n v36 H35))))) else gd x5 21 (hl (sI H 0 54 (Int32.toNatClampNeg x5) 0) (fun (H37 : Hp) => gd x5 21 (hl (sI H37 0 55 (Int32.toNatClampNeg x5) (-1)) (fun (H38 : Hp) => vl (x5 + (1 : Int32)) (fun (v39 : Int32) => L_X9_mend_241 b2 k n v39 H38))))))
set_option maxRecDepth 100000 in
set_option maxHeartbeats 4000000 in
theorem sL_X9_mend_241 {p : Program} {l : Launch} {e : Env} {s : State} {m : MethodId} {args : Array Value} {below : List Frame} {meth : Method} {c : Code} {A : Nat → Prop} {D : va_G} {K4 : kQ} {ad : Nat → Nat → Nat} {nr : Nat} {b2 : Int64} {k : Hp → Option (Int64 × Hp)} {res : Int64 × Hp} (hC : Cx p s m args c A s.heap D K4 11 RX9 cX9_mend) (hret : meth.sig.returnType = (some .long) ∧ meth.locks = false) (hk : ∀ (H : Hp), k H = some res → V p l e ({ frames := 2, cells := 0, slots := 0, locals := 42 }) s m args below meth c A s.heap (QJ below args s A D K4 ad nr res) D K4 ad nr 11 287 [(0, .ref (ad 0 0)), (2, .long b2)] [] H) : ∀ (n : Nat) (x5 : Int32) (H : Hp), L_X9_mend_241 b2 k n x5 H = some res → V p l e ({ frames := 2, cells := 0, slots := 0, locals := 42 }) s m args below meth c A s.heap (QJ below args s A D K4 ad nr res) D K4 ad nr 11 241 [(0, .ref (ad 0 0)), (2, .long b2), (5, .int x5)] [] H := by
  intro n
  induction n with
  | zero => intro x5 H h; exact nomatch (show (none : Option (Int64 × Hp)) = some res from h)
  | succ n ih =>
    intro x5 H h
    rw [L_X9_mend_241] at h
    refine V_iload hC 2 dX9_mend_241 rfl ?_
    refine V_bipush (v := 21) hC dX9_mend_243 (by decide) ?_
    refine V_icmp_ge (tgt := 287) hC dX9_mend_245 (by decide) (fun c32 => ?_) (fun c32 => ?_)
    · have h := it_pos c32 h
      refine V_lv (lv' := [(0, .ref (ad 0 0)), (2, .long b2)]) [0, 1] rfl ?_
      exact hk H h
    · have h := it_neg c32 h
      refine V_aload_n hC 0 dX9_mend_248 rfl ?_
      refine V_getR (g := 0) (k := 0) (g' := 0) (k' := 54) hC 9 54 fl_X9_147 rfl rfl rfl rfl dX9_mend_249 ?_
      refine V_iload hC 2 dX9_mend_252 rfl ?_
      refine V_aload_n hC 0 dX9_mend_254 rfl ?_
      refine V_getR (g := 0) (k := 0) (g' := 0) (k' := 53) hC 9 53 fl_X9_144 rfl rfl rfl rfl dX9_mend_255 ?_
      refine V_iload hC 2 dX9_mend_258 rfl ?_
      obtain ⟨hi, h⟩ := gd_some h
      refine V_lald (g := 0) (k := 53) hC rfl rfl hi dX9_mend_260 ?_
      refine V_lconst (v := 0) hC dX9_mend_261 (by decide) ?_
      refine V_lcmp hC dX9_mend_262 ?_
      refine V_if_le (tgt := 270) hC dX9_mend_263 (by decide) (fun c33 => ?_) (fun c33 => ?_)
      · have h := it_pos c33 h
        refine V_ldc hC dX9_mend_270 cl_X9_164 ?_
        obtain ⟨hi, h⟩ := gd_some h
        refine V_iast (g := 0) (k := 54) hC rfl rfl hi dX9_mend_272 ?_
        refine V_hl h (fun H34 h => ?_)
        refine V_aload_n hC 0 dX9_mend_273 rfl ?_
        refine V_getR (g := 0) (k := 0) (g' := 0) (k' := 55) hC 9 55 fl_X9_150 rfl rfl rfl rfl dX9_mend_274 ?_
        refine V_iload hC 2 dX9_mend_277 rfl ?_
        refine V_iconst (v := -1) hC dX9_mend_279 (by decide) ?_
        obtain ⟨hi, h⟩ := gd_some h
        refine V_iast (g := 0) (k := 55) hC rfl rfl hi dX9_mend_280 ?_
        refine V_hl h (fun H35 h => ?_)
        refine V_vi h (fun v36 hvv36 h => ?_)
        refine V_iinc (v := v36) (lv' := [(5, .int v36), (0, .ref (ad 0 0)), (2, .long b2)]) hC 2 dX9_mend_281 rfl hvv36.symm (Nat.le_of_ble_eq_true rfl) rfl ?_
        refine V_goto (tgt := 241) hC dX9_mend_284 (by decide) ?_
        refine V_lv (lv' := [(0, .ref (ad 0 0)), (2, .long b2), (5, .int v36)]) [1, 2, 0] rfl ?_
        exact ih v36 H35 h
      · have h := it_neg c33 h
        refine V_iconst (v := 0) hC dX9_mend_266 (by decide) ?_
        refine V_goto (tgt := 272) hC dX9_mend_267 (by decide) ?_
        obtain ⟨hi, h⟩ := gd_some h
        refine V_iast (g := 0) (k := 54) hC rfl rfl hi dX9_mend_272 ?_
        refine V_hl h (fun H37 h => ?_)
        refine V_aload_n hC 0 dX9_mend_273 rfl ?_
        refine V_getR (g := 0) (k := 0) (g' := 0) (k' := 55) hC 9 55 fl_X9_150 rfl rfl rfl rfl dX9_mend_274 ?_
        refine V_iload hC 2 dX9_mend_277 rfl ?_
        refine V_iconst (v := -1) hC dX9_mend_279 (by decide) ?_
        obtain ⟨hi, h⟩ := gd_some h
        refine V_iast (g := 0) (k := 55) hC rfl rfl hi dX9_mend_280 ?_
        refine V_hl h (fun H38 h => ?_)
        refine V_vi h (fun v39 hvv39 h => ?_)
        refine V_iinc (v := v39) (lv' := [(5, .int v39), (0, .ref (ad 0 0)), (2, .long b2)]) hC 2 dX9_mend_281 rfl hvv39.symm (Nat.le_of_ble_eq_true rfl) rfl ?_
        refine V_goto (tgt := 241) hC dX9_mend_284 (by decide) ?_
        refine V_lv (lv' := [(0, .ref (ad 0 0)), (2, .long b2), (5, .int v39)]) [1, 2, 0] rfl ?_
        exact ih v39 H38 h
def L_X9_mend_301 (b2 : Int64) (k : Int32 → Hp → Option (Int64 × Hp)) : Nat → Int32 → Int32 → Hp → Option (Int64 × Hp)
  | 0, _, _, _ => none
  | n + 1, x5, x6, H => if (gI H 0 0 52) ≤ x6 then k x5 H else gd x6 320 (if (lg_cmp (gJ H 0 50 (Int32.toNatClampNeg x6)) 0) = 0 then vl (x6 + (1 : Int32)) (fun (v44 : Int32) => L_X9_mend_301 b2 k n x5 v44 H) else gd x6 320 (gd (gI H 0 48 (Int32.toNatClampNeg x6)) 21 (if (gI H 0 54 (Int32.toNatClampNeg (gI H 0 48 (Int32.toNatClampNeg x6)))) = 1000000 then vl (x6 + (1 : Int32)) (fun (v46 : Int32) => L_X9_mend_301 b2 k n x5 v46 H) else gd x6 320 (gd (gI H 0 48 (Int32.toNatClampNeg x6)) 21 (gd x6 320 (gd x6 320 (gd (gI H 0 49 (Int32.toNatClampNeg x6)) 21 (if ((gI H 0 54 (Int32.toNatClampNeg (gI H 0 48 (Int32.toNatClampNeg x6)))) + (gI H 0 51 (Int32.toNatClampNeg x6))) < (gI H 0 54 (Int32.toNatClampNeg (gI H 0 49 (Int32.toNatClampNeg x6)))) then gd x6 320 (gd x6 320 (gd (gI H 0 48 (Int32.toNatClampNeg x6)) 21 (gd x6 320 (gd (gI H 0 49 (Int32.toNatClampNeg x6)) 21 (hl (sI H 0 54 (Int32.toNatClampNeg (gI H 0 49 (Int32.toNatClampNeg x6))) ((gI H 0 54 (Int32.toNatClampNeg (gI H 0 48 (Int32.toNatClampNeg x6)))) + (gI H 0 51 (Int32.toNatClampNeg x6)))) (fun (H48 : Hp) => gd x6 320 (gd (gI H48 0 49 (Int32.toNatClampNeg x6)) 21 (hl (sI H48 0 55 (Int32.toNatClampNeg (gI H48 0 49 (Int32.toNatClampNeg x6))) x6) (fun (H49 : Hp) => vl (x6 + (1 : Int32)) (fun (v50 : Int32) => L_X9_mend_301 b2 k n 1 v50 H49)))))))))) else vl (x6 + (1 : Int32)) (fun (v51 : Int32) => L_X9_mend_301 b2 k n x5 v51 H)))))))))
set_option maxRecDepth 100000 in
set_option maxHeartbeats 4000000 in
theorem sL_X9_mend_301 {p : Program} {l : Launch} {e : Env} {s : State} {m : MethodId} {args : Array Value} {below : List Frame} {meth : Method} {c : Code} {A : Nat → Prop} {D : va_G} {K4 : kQ} {ad : Nat → Nat → Nat} {nr : Nat} {b2 : Int64} {k : Int32 → Hp → Option (Int64 × Hp)} {res : Int64 × Hp} (hC : Cx p s m args c A s.heap D K4 11 RX9 cX9_mend) (hret : meth.sig.returnType = (some .long) ∧ meth.locks = false) (hk : ∀ (z5 : Int32) (H : Hp), k z5 H = some res → V p l e ({ frames := 2, cells := 0, slots := 0, locals := 42 }) s m args below meth c A s.heap (QJ below args s A D K4 ad nr res) D K4 ad nr 11 432 [(0, .ref (ad 0 0)), (2, .long b2), (5, .int z5)] [] H) : ∀ (n : Nat) (x5 : Int32) (x6 : Int32) (H : Hp), L_X9_mend_301 b2 k n x5 x6 H = some res → V p l e ({ frames := 2, cells := 0, slots := 0, locals := 42 }) s m args below meth c A s.heap (QJ below args s A D K4 ad nr res) D K4 ad nr 11 301 [(0, .ref (ad 0 0)), (2, .long b2), (5, .int x5), (6, .int x6)] [] H := by
  intro n
  induction n with
  | zero => intro x5 x6 H h; exact nomatch (show (none : Option (Int64 × Hp)) = some res from h)
  | succ n ih =>
    intro x5 x6 H h
    rw [L_X9_mend_301] at h
    refine V_iload hC 3 dX9_mend_301 rfl ?_
    refine V_aload_n hC 0 dX9_mend_303 rfl ?_
    refine V_getI (g := 0) (k := 0) hC 9 52 fl_X9_264 rfl rfl rfl dX9_mend_304 ?_
    refine V_icmp_ge (tgt := 432) hC dX9_mend_307 (by decide) (fun c42 => ?_) (fun c42 => ?_)
    · have h := it_pos c42 h
      refine V_lv (lv' := [(0, .ref (ad 0 0)), (2, .long b2), (5, .int x5)]) [0, 1, 2] rfl ?_
      exact hk x5 H h
    · have h := it_neg c42 h
      refine V_aload_n hC 0 dX9_mend_310 rfl ?_
      refine V_getR (g := 0) (k := 0) (g' := 0) (k' := 50) hC 9 50 fl_X9_138 rfl rfl rfl rfl dX9_mend_311 ?_
      refine V_iload hC 3 dX9_mend_314 rfl ?_
      obtain ⟨hi, h⟩ := gd_some h
      refine V_lald (g := 0) (k := 50) hC rfl rfl hi dX9_mend_316 ?_
      refine V_lconst (v := 0) hC dX9_mend_317 (by decide) ?_
      refine V_lcmp hC dX9_mend_318 ?_
      refine V_if_eq (tgt := 426) hC dX9_mend_319 (by decide) (fun c43 => ?_) (fun c43 => ?_)
      · have h := it_pos c43 h
        refine V_vi h (fun v44 hvv44 h => ?_)
        refine V_iinc (v := v44) (lv' := [(6, .int v44), (0, .ref (ad 0 0)), (2, .long b2), (5, .int x5)]) hC 3 dX9_mend_426 rfl hvv44.symm (Nat.le_of_ble_eq_true rfl) rfl ?_
        refine V_goto (tgt := 301) hC dX9_mend_429 (by decide) ?_
        refine V_lv (lv' := [(0, .ref (ad 0 0)), (2, .long b2), (5, .int x5), (6, .int v44)]) [1, 2, 3, 0] rfl ?_
        exact ih x5 v44 H h
      · have h := it_neg c43 h
        refine V_aload_n hC 0 dX9_mend_322 rfl ?_
        refine V_getR (g := 0) (k := 0) (g' := 0) (k' := 54) hC 9 54 fl_X9_147 rfl rfl rfl rfl dX9_mend_323 ?_
        refine V_aload_n hC 0 dX9_mend_326 rfl ?_
        refine V_getR (g := 0) (k := 0) (g' := 0) (k' := 48) hC 9 48 fl_X9_132 rfl rfl rfl rfl dX9_mend_327 ?_
        refine V_iload hC 3 dX9_mend_330 rfl ?_
        obtain ⟨hi, h⟩ := gd_some h
        refine V_iald (g := 0) (k := 48) hC rfl rfl hi dX9_mend_332 ?_
        obtain ⟨hi, h⟩ := gd_some h
        refine V_iald (g := 0) (k := 54) hC rfl rfl hi dX9_mend_333 ?_
        refine V_ldc hC dX9_mend_334 cl_X9_164 ?_
        refine V_icmp_eq (tgt := 426) hC dX9_mend_336 (by decide) (fun c45 => ?_) (fun c45 => ?_)
        · have h := it_pos c45 h
          refine V_vi h (fun v46 hvv46 h => ?_)
          refine V_iinc (v := v46) (lv' := [(6, .int v46), (0, .ref (ad 0 0)), (2, .long b2), (5, .int x5)]) hC 3 dX9_mend_426 rfl hvv46.symm (Nat.le_of_ble_eq_true rfl) rfl ?_
          refine V_goto (tgt := 301) hC dX9_mend_429 (by decide) ?_
          refine V_lv (lv' := [(0, .ref (ad 0 0)), (2, .long b2), (5, .int x5), (6, .int v46)]) [1, 2, 3, 0] rfl ?_
          exact ih x5 v46 H h
        · have h := it_neg c45 h
          refine V_aload_n hC 0 dX9_mend_339 rfl ?_
          refine V_getR (g := 0) (k := 0) (g' := 0) (k' := 54) hC 9 54 fl_X9_147 rfl rfl rfl rfl dX9_mend_340 ?_
          refine V_aload_n hC 0 dX9_mend_343 rfl ?_
          refine V_getR (g := 0) (k := 0) (g' := 0) (k' := 48) hC 9 48 fl_X9_132 rfl rfl rfl rfl dX9_mend_344 ?_
          refine V_iload hC 3 dX9_mend_347 rfl ?_
          obtain ⟨hi, h⟩ := gd_some h
          refine V_iald (g := 0) (k := 48) hC rfl rfl hi dX9_mend_349 ?_
          obtain ⟨hi, h⟩ := gd_some h
          refine V_iald (g := 0) (k := 54) hC rfl rfl hi dX9_mend_350 ?_
          refine V_aload_n hC 0 dX9_mend_351 rfl ?_
          refine V_getR (g := 0) (k := 0) (g' := 0) (k' := 51) hC 9 51 fl_X9_141 rfl rfl rfl rfl dX9_mend_352 ?_
          refine V_iload hC 3 dX9_mend_355 rfl ?_
          obtain ⟨hi, h⟩ := gd_some h
          refine V_iald (g := 0) (k := 51) hC rfl rfl hi dX9_mend_357 ?_
          refine V_iadd hC dX9_mend_358 ?_
          refine V_aload_n hC 0 dX9_mend_359 rfl ?_
          refine V_getR (g := 0) (k := 0) (g' := 0) (k' := 54) hC 9 54 fl_X9_147 rfl rfl rfl rfl dX9_mend_360 ?_
          refine V_aload_n hC 0 dX9_mend_363 rfl ?_
          refine V_getR (g := 0) (k := 0) (g' := 0) (k' := 49) hC 9 49 fl_X9_135 rfl rfl rfl rfl dX9_mend_364 ?_
          refine V_iload hC 3 dX9_mend_367 rfl ?_
          obtain ⟨hi, h⟩ := gd_some h
          refine V_iald (g := 0) (k := 49) hC rfl rfl hi dX9_mend_369 ?_
          obtain ⟨hi, h⟩ := gd_some h
          refine V_iald (g := 0) (k := 54) hC rfl rfl hi dX9_mend_370 ?_
          refine V_icmp_lt (tgt := 377) hC dX9_mend_371 (by decide) (fun c47 => ?_) (fun c47 => ?_)
          · have h := it_pos c47 h
            refine V_aload_n hC 0 dX9_mend_377 rfl ?_
            refine V_getR (g := 0) (k := 0) (g' := 0) (k' := 54) hC 9 54 fl_X9_147 rfl rfl rfl rfl dX9_mend_378 ?_
            refine V_aload_n hC 0 dX9_mend_381 rfl ?_
            refine V_getR (g := 0) (k := 0) (g' := 0) (k' := 49) hC 9 49 fl_X9_135 rfl rfl rfl rfl dX9_mend_382 ?_
            refine V_iload hC 3 dX9_mend_385 rfl ?_
            obtain ⟨hi, h⟩ := gd_some h
            refine V_iald (g := 0) (k := 49) hC rfl rfl hi dX9_mend_387 ?_
            refine V_aload_n hC 0 dX9_mend_388 rfl ?_
            refine V_getR (g := 0) (k := 0) (g' := 0) (k' := 54) hC 9 54 fl_X9_147 rfl rfl rfl rfl dX9_mend_389 ?_
            refine V_aload_n hC 0 dX9_mend_392 rfl ?_
            refine V_getR (g := 0) (k := 0) (g' := 0) (k' := 48) hC 9 48 fl_X9_132 rfl rfl rfl rfl dX9_mend_393 ?_
            refine V_iload hC 3 dX9_mend_396 rfl ?_
            obtain ⟨hi, h⟩ := gd_some h
            refine V_iald (g := 0) (k := 48) hC rfl rfl hi dX9_mend_398 ?_
            obtain ⟨hi, h⟩ := gd_some h
            refine V_iald (g := 0) (k := 54) hC rfl rfl hi dX9_mend_399 ?_
            refine V_aload_n hC 0 dX9_mend_400 rfl ?_
            refine V_getR (g := 0) (k := 0) (g' := 0) (k' := 51) hC 9 51 fl_X9_141 rfl rfl rfl rfl dX9_mend_401 ?_
            refine V_iload hC 3 dX9_mend_404 rfl ?_
            obtain ⟨hi, h⟩ := gd_some h
            refine V_iald (g := 0) (k := 51) hC rfl rfl hi dX9_mend_406 ?_
            refine V_iadd hC dX9_mend_407 ?_
            obtain ⟨hi, h⟩ := gd_some h
            refine V_iast (g := 0) (k := 54) hC rfl rfl hi dX9_mend_408 ?_
            refine V_hl h (fun H48 h => ?_)
            refine V_aload_n hC 0 dX9_mend_409 rfl ?_
            refine V_getR (g := 0) (k := 0) (g' := 0) (k' := 55) hC 9 55 fl_X9_150 rfl rfl rfl rfl dX9_mend_410 ?_
            refine V_aload_n hC 0 dX9_mend_413 rfl ?_
            refine V_getR (g := 0) (k := 0) (g' := 0) (k' := 49) hC 9 49 fl_X9_135 rfl rfl rfl rfl dX9_mend_414 ?_
            refine V_iload hC 3 dX9_mend_417 rfl ?_
            obtain ⟨hi, h⟩ := gd_some h
            refine V_iald (g := 0) (k := 49) hC rfl rfl hi dX9_mend_419 ?_
            refine V_iload hC 3 dX9_mend_420 rfl ?_
            obtain ⟨hi, h⟩ := gd_some h
            refine V_iast (g := 0) (k := 55) hC rfl rfl hi dX9_mend_422 ?_
            refine V_hl h (fun H49 h => ?_)
            refine V_iconst (v := 1) hC dX9_mend_423 (by decide) ?_
            refine V_istore (lv' := [(5, .int 1), (0, .ref (ad 0 0)), (2, .long b2), (6, .int x6)]) hC dX9_mend_424 (Nat.le_of_ble_eq_true rfl) rfl ?_
            refine V_vi h (fun v50 hvv50 h => ?_)
            refine V_iinc (v := v50) (lv' := [(6, .int v50), (5, .int 1), (0, .ref (ad 0 0)), (2, .long b2)]) hC 3 dX9_mend_426 rfl hvv50.symm (Nat.le_of_ble_eq_true rfl) rfl ?_
            refine V_goto (tgt := 301) hC dX9_mend_429 (by decide) ?_
            refine V_lv (lv' := [(0, .ref (ad 0 0)), (2, .long b2), (5, .int 1), (6, .int v50)]) [2, 3, 1, 0] rfl ?_
            exact ih 1 v50 H49 h
          · have h := it_neg c47 h
            refine V_goto (tgt := 426) hC dX9_mend_374 (by decide) ?_
            refine V_vi h (fun v51 hvv51 h => ?_)
            refine V_iinc (v := v51) (lv' := [(6, .int v51), (0, .ref (ad 0 0)), (2, .long b2), (5, .int x5)]) hC 3 dX9_mend_426 rfl hvv51.symm (Nat.le_of_ble_eq_true rfl) rfl ?_
            refine V_goto (tgt := 301) hC dX9_mend_429 (by decide) ?_
            refine V_lv (lv' := [(0, .ref (ad 0 0)), (2, .long b2), (5, .int x5), (6, .int v51)]) [1, 2, 3, 0] rfl ?_
            exact ih x5 v51 H h
def L_X9_mend_290 (b2 : Int64) (k : Hp → Option (Int64 × Hp)) : Nat → Int32 → Hp → Option (Int64 × Hp)
  | 0, _, _ => none
  | n + 1, x5, H => if x5 = 0 then k H else L_X9_mend_301 b2 (fun (z52 : Int32) (H53 : Hp) => L_X9_mend_290 b2 k n z52 H53) FU 0 0 H
set_option maxRecDepth 100000 in
set_option maxHeartbeats 4000000 in
theorem sL_X9_mend_290 {p : Program} {l : Launch} {e : Env} {s : State} {m : MethodId} {args : Array Value} {below : List Frame} {meth : Method} {c : Code} {A : Nat → Prop} {D : va_G} {K4 : kQ} {ad : Nat → Nat → Nat} {nr : Nat} {b2 : Int64} {k : Hp → Option (Int64 × Hp)} {res : Int64 × Hp} (hC : Cx p s m args c A s.heap D K4 11 RX9 cX9_mend) (hret : meth.sig.returnType = (some .long) ∧ meth.locks = false) (hk : ∀ (H : Hp), k H = some res → V p l e ({ frames := 2, cells := 0, slots := 0, locals := 42 }) s m args below meth c A s.heap (QJ below args s A D K4 ad nr res) D K4 ad nr 11 435 [(0, .ref (ad 0 0)), (2, .long b2)] [] H) : ∀ (n : Nat) (x5 : Int32) (H : Hp), L_X9_mend_290 b2 k n x5 H = some res → V p l e ({ frames := 2, cells := 0, slots := 0, locals := 42 }) s m args below meth c A s.heap (QJ below args s A D K4 ad nr res) D K4 ad nr 11 290 [(0, .ref (ad 0 0)), (2, .long b2), (5, .int x5)] [] H := by
  intro n
  induction n with
  | zero => intro x5 H h; exact nomatch (show (none : Option (Int64 × Hp)) = some res from h)
  | succ n ih =>
    intro x5 H h
    rw [L_X9_mend_290] at h
    refine V_iload hC 2 dX9_mend_290 rfl ?_
    refine V_if_eq (tgt := 435) hC dX9_mend_292 (by decide) (fun c41 => ?_) (fun c41 => ?_)
    · have h := it_pos c41 h
      refine V_lv (lv' := [(0, .ref (ad 0 0)), (2, .long b2)]) [0, 1] rfl ?_
      exact hk H h
    · have h := it_neg c41 h
      refine V_iconst (v := 0) hC dX9_mend_295 (by decide) ?_
      refine V_istore (lv' := [(5, .int 0), (0, .ref (ad 0 0)), (2, .long b2)]) hC dX9_mend_296 (Nat.le_of_ble_eq_true rfl) rfl ?_
      refine V_iconst (v := 0) hC dX9_mend_298 (by decide) ?_
      refine V_istore (lv' := [(6, .int 0), (5, .int 0), (0, .ref (ad 0 0)), (2, .long b2)]) hC dX9_mend_299 (Nat.le_of_ble_eq_true rfl) rfl ?_
      refine V_lv (lv' := [(0, .ref (ad 0 0)), (2, .long b2), (5, .int 0), (6, .int 0)]) [2, 3, 1, 0] rfl ?_
      refine sL_X9_mend_301 hC hret (fun z52 H53 h => ?_) _ 0 0 H h
      refine V_goto (tgt := 290) hC dX9_mend_432 (by decide) ?_
      refine V_lv (lv' := [(0, .ref (ad 0 0)), (2, .long b2), (5, .int z52)]) [0, 1, 2] rfl ?_
      exact ih z52 H53 h
def L_X9_mend_441 (b2 : Int64) (k : Int32 → Hp → Option (Int64 × Hp)) : Nat → Int32 → Int32 → Hp → Option (Int64 × Hp)
  | 0, _, _, _ => none
  | n + 1, x6, x7, H => if 21 ≤ x7 then k x6 H else gd x7 21 (if 0 ≤ (lg_cmp (gJ H 0 53 (Int32.toNatClampNeg x7)) 0) then vl (x7 + (1 : Int32)) (fun (v57 : Int32) => L_X9_mend_441 b2 k n x6 v57 H) else gd x7 21 (if 1000000 ≤ (gI H 0 54 (Int32.toNatClampNeg x7)) then vl (x7 + (1 : Int32)) (fun (v59 : Int32) => L_X9_mend_441 b2 k n x6 v59 H) else if x6 < 0 then vl (x7 + (1 : Int32)) (fun (v61 : Int32) => L_X9_mend_441 b2 k n x7 v61 H) else gd x7 21 (gd x6 21 (if (gI H 0 54 (Int32.toNatClampNeg x6)) ≤ (gI H 0 54 (Int32.toNatClampNeg x7)) then vl (x7 + (1 : Int32)) (fun (v63 : Int32) => L_X9_mend_441 b2 k n x6 v63 H) else vl (x7 + (1 : Int32)) (fun (v64 : Int32) => L_X9_mend_441 b2 k n x7 v64 H)))))
set_option maxRecDepth 100000 in
set_option maxHeartbeats 4000000 in
theorem sL_X9_mend_441 {p : Program} {l : Launch} {e : Env} {s : State} {m : MethodId} {args : Array Value} {below : List Frame} {meth : Method} {c : Code} {A : Nat → Prop} {D : va_G} {K4 : kQ} {ad : Nat → Nat → Nat} {nr : Nat} {b2 : Int64} {k : Int32 → Hp → Option (Int64 × Hp)} {res : Int64 × Hp} (hC : Cx p s m args c A s.heap D K4 11 RX9 cX9_mend) (hret : meth.sig.returnType = (some .long) ∧ meth.locks = false) (hk : ∀ (z6 : Int32) (H : Hp), k z6 H = some res → V p l e ({ frames := 2, cells := 0, slots := 0, locals := 42 }) s m args below meth c A s.heap (QJ below args s A D K4 ad nr res) D K4 ad nr 11 504 [(0, .ref (ad 0 0)), (2, .long b2), (6, .int z6)] [] H) : ∀ (n : Nat) (x6 : Int32) (x7 : Int32) (H : Hp), L_X9_mend_441 b2 k n x6 x7 H = some res → V p l e ({ frames := 2, cells := 0, slots := 0, locals := 42 }) s m args below meth c A s.heap (QJ below args s A D K4 ad nr res) D K4 ad nr 11 441 [(0, .ref (ad 0 0)), (2, .long b2), (6, .int x6), (7, .int x7)] [] H := by
  intro n
  induction n with
  | zero => intro x6 x7 H h; exact nomatch (show (none : Option (Int64 × Hp)) = some res from h)
  | succ n ih =>
    intro x6 x7 H h
    rw [L_X9_mend_441] at h
    refine V_iload hC 3 dX9_mend_441 rfl ?_
    refine V_bipush (v := 21) hC dX9_mend_443 (by decide) ?_
    refine V_icmp_ge (tgt := 504) hC dX9_mend_445 (by decide) (fun c55 => ?_) (fun c55 => ?_)
    · have h := it_pos c55 h
      refine V_lv (lv' := [(0, .ref (ad 0 0)), (2, .long b2), (6, .int x6)]) [0, 1, 2] rfl ?_
      exact hk x6 H h
    · have h := it_neg c55 h
      refine V_aload_n hC 0 dX9_mend_448 rfl ?_
      refine V_getR (g := 0) (k := 0) (g' := 0) (k' := 53) hC 9 53 fl_X9_144 rfl rfl rfl rfl dX9_mend_449 ?_
      refine V_iload hC 3 dX9_mend_452 rfl ?_
      obtain ⟨hi, h⟩ := gd_some h
      refine V_lald (g := 0) (k := 53) hC rfl rfl hi dX9_mend_454 ?_
      refine V_lconst (v := 0) hC dX9_mend_455 (by decide) ?_
      refine V_lcmp hC dX9_mend_456 ?_
      refine V_if_ge (tgt := 498) hC dX9_mend_457 (by decide) (fun c56 => ?_) (fun c56 => ?_)
      · have h := it_pos c56 h
        refine V_vi h (fun v57 hvv57 h => ?_)
        refine V_iinc (v := v57) (lv' := [(7, .int v57), (0, .ref (ad 0 0)), (2, .long b2), (6, .int x6)]) hC 3 dX9_mend_498 rfl hvv57.symm (Nat.le_of_ble_eq_true rfl) rfl ?_
        refine V_goto (tgt := 441) hC dX9_mend_501 (by decide) ?_
        refine V_lv (lv' := [(0, .ref (ad 0 0)), (2, .long b2), (6, .int x6), (7, .int v57)]) [1, 2, 3, 0] rfl ?_
        exact ih x6 v57 H h
      · have h := it_neg c56 h
        refine V_aload_n hC 0 dX9_mend_460 rfl ?_
        refine V_getR (g := 0) (k := 0) (g' := 0) (k' := 54) hC 9 54 fl_X9_147 rfl rfl rfl rfl dX9_mend_461 ?_
        refine V_iload hC 3 dX9_mend_464 rfl ?_
        obtain ⟨hi, h⟩ := gd_some h
        refine V_iald (g := 0) (k := 54) hC rfl rfl hi dX9_mend_466 ?_
        refine V_ldc hC dX9_mend_467 cl_X9_164 ?_
        refine V_icmp_ge (tgt := 498) hC dX9_mend_469 (by decide) (fun c58 => ?_) (fun c58 => ?_)
        · have h := it_pos c58 h
          refine V_vi h (fun v59 hvv59 h => ?_)
          refine V_iinc (v := v59) (lv' := [(7, .int v59), (0, .ref (ad 0 0)), (2, .long b2), (6, .int x6)]) hC 3 dX9_mend_498 rfl hvv59.symm (Nat.le_of_ble_eq_true rfl) rfl ?_
          refine V_goto (tgt := 441) hC dX9_mend_501 (by decide) ?_
          refine V_lv (lv' := [(0, .ref (ad 0 0)), (2, .long b2), (6, .int x6), (7, .int v59)]) [1, 2, 3, 0] rfl ?_
          exact ih x6 v59 H h
        · have h := it_neg c58 h
          refine V_iload hC 2 dX9_mend_472 rfl ?_
          refine V_if_lt (tgt := 494) hC dX9_mend_474 (by decide) (fun c60 => ?_) (fun c60 => ?_)
          · have h := it_pos c60 h
            refine V_iload hC 3 dX9_mend_494 rfl ?_
            refine V_istore (lv' := [(6, .int x7), (0, .ref (ad 0 0)), (2, .long b2), (7, .int x7)]) hC dX9_mend_496 (Nat.le_of_ble_eq_true rfl) rfl ?_
            refine V_vi h (fun v61 hvv61 h => ?_)
            refine V_iinc (v := v61) (lv' := [(7, .int v61), (6, .int x7), (0, .ref (ad 0 0)), (2, .long b2)]) hC 3 dX9_mend_498 rfl hvv61.symm (Nat.le_of_ble_eq_true rfl) rfl ?_
            refine V_goto (tgt := 441) hC dX9_mend_501 (by decide) ?_
            refine V_lv (lv' := [(0, .ref (ad 0 0)), (2, .long b2), (6, .int x7), (7, .int v61)]) [2, 3, 1, 0] rfl ?_
            exact ih x7 v61 H h
          · have h := it_neg c60 h
            refine V_aload_n hC 0 dX9_mend_477 rfl ?_
            refine V_getR (g := 0) (k := 0) (g' := 0) (k' := 54) hC 9 54 fl_X9_147 rfl rfl rfl rfl dX9_mend_478 ?_
            refine V_iload hC 3 dX9_mend_481 rfl ?_
            obtain ⟨hi, h⟩ := gd_some h
            refine V_iald (g := 0) (k := 54) hC rfl rfl hi dX9_mend_483 ?_
            refine V_aload_n hC 0 dX9_mend_484 rfl ?_
            refine V_getR (g := 0) (k := 0) (g' := 0) (k' := 54) hC 9 54 fl_X9_147 rfl rfl rfl rfl dX9_mend_485 ?_
            refine V_iload hC 2 dX9_mend_488 rfl ?_
            obtain ⟨hi, h⟩ := gd_some h
            refine V_iald (g := 0) (k := 54) hC rfl rfl hi dX9_mend_490 ?_
            refine V_icmp_ge (tgt := 498) hC dX9_mend_491 (by decide) (fun c62 => ?_) (fun c62 => ?_)
            · have h := it_pos c62 h
              refine V_vi h (fun v63 hvv63 h => ?_)
              refine V_iinc (v := v63) (lv' := [(7, .int v63), (0, .ref (ad 0 0)), (2, .long b2), (6, .int x6)]) hC 3 dX9_mend_498 rfl hvv63.symm (Nat.le_of_ble_eq_true rfl) rfl ?_
              refine V_goto (tgt := 441) hC dX9_mend_501 (by decide) ?_
              refine V_lv (lv' := [(0, .ref (ad 0 0)), (2, .long b2), (6, .int x6), (7, .int v63)]) [1, 2, 3, 0] rfl ?_
              exact ih x6 v63 H h
            · have h := it_neg c62 h
              refine V_iload hC 3 dX9_mend_494 rfl ?_
              refine V_istore (lv' := [(6, .int x7), (0, .ref (ad 0 0)), (2, .long b2), (7, .int x7)]) hC dX9_mend_496 (Nat.le_of_ble_eq_true rfl) rfl ?_
              refine V_vi h (fun v64 hvv64 h => ?_)
              refine V_iinc (v := v64) (lv' := [(7, .int v64), (6, .int x7), (0, .ref (ad 0 0)), (2, .long b2)]) hC 3 dX9_mend_498 rfl hvv64.symm (Nat.le_of_ble_eq_true rfl) rfl ?_
              refine V_goto (tgt := 441) hC dX9_mend_501 (by decide) ?_
              refine V_lv (lv' := [(0, .ref (ad 0 0)), (2, .long b2), (6, .int x7), (7, .int v64)]) [2, 3, 1, 0] rfl ?_
              exact ih x7 v64 H h
def L_X9_mend_538 (b2 : Int64) (b4 : Int32) (b6 : Int32) (k : Int64 → Int32 → Hp → Option (Int64 × Hp)) : Nat → Int64 → Int32 → Hp → Option (Int64 × Hp)
  | 0, _, _, _ => none
  | n + 1, x7, x9, H => gd x9 21 (if (gI H 0 55 (Int32.toNatClampNeg x9)) < 0 then k x7 x9 H else gd x9 21 (gd (gI H 0 55 (Int32.toNatClampNeg x9)) 320 (jn (fun (y74 : Int64) (H75 : Hp) => gd x9 21 (gd (gI H75 0 55 (Int32.toNatClampNeg x9)) 320 (vl ((gI H75 0 48 (Int32.toNatClampNeg (gI H75 0 55 (Int32.toNatClampNeg x9))))) (fun (v76 : Int32) => L_X9_mend_538 b2 b4 b6 k n y74 v76 H75)))) (fun j73 => if 0 ≤ (lg_cmp (gJ H 0 50 (Int32.toNatClampNeg (gI H 0 55 (Int32.toNatClampNeg x9)))) x7) then j73 x7 H else gd x9 21 (gd (gI H 0 55 (Int32.toNatClampNeg x9)) 320 (j73 ((gJ H 0 50 (Int32.toNatClampNeg (gI H 0 55 (Int32.toNatClampNeg x9))))) H))))))
set_option maxRecDepth 100000 in
set_option maxHeartbeats 4000000 in
theorem sL_X9_mend_538 {p : Program} {l : Launch} {e : Env} {s : State} {m : MethodId} {args : Array Value} {below : List Frame} {meth : Method} {c : Code} {A : Nat → Prop} {D : va_G} {K4 : kQ} {ad : Nat → Nat → Nat} {nr : Nat} {b2 : Int64} {b4 : Int32} {b6 : Int32} {k : Int64 → Int32 → Hp → Option (Int64 × Hp)} {res : Int64 × Hp} (hC : Cx p s m args c A s.heap D K4 11 RX9 cX9_mend) (hret : meth.sig.returnType = (some .long) ∧ meth.locks = false) (hk : ∀ (z7 : Int64) (z9 : Int32) (H : Hp), k z7 z9 H = some res → V p l e ({ frames := 2, cells := 0, slots := 0, locals := 42 }) s m args below meth c A s.heap (QJ below args s A D K4 ad nr res) D K4 ad nr 11 602 [(0, .ref (ad 0 0)), (2, .long b2), (4, .int b4), (6, .int b6), (7, .long z7), (9, .int z9)] [] H) : ∀ (n : Nat) (x7 : Int64) (x9 : Int32) (H : Hp), L_X9_mend_538 b2 b4 b6 k n x7 x9 H = some res → V p l e ({ frames := 2, cells := 0, slots := 0, locals := 42 }) s m args below meth c A s.heap (QJ below args s A D K4 ad nr res) D K4 ad nr 11 538 [(0, .ref (ad 0 0)), (2, .long b2), (4, .int b4), (6, .int b6), (7, .long x7), (9, .int x9)] [] H := by
  intro n
  induction n with
  | zero => intro x7 x9 H h; exact nomatch (show (none : Option (Int64 × Hp)) = some res from h)
  | succ n ih =>
    intro x7 x9 H h
    rw [L_X9_mend_538] at h
    refine V_aload_n hC 0 dX9_mend_538 rfl ?_
    refine V_getR (g := 0) (k := 0) (g' := 0) (k' := 55) hC 9 55 fl_X9_150 rfl rfl rfl rfl dX9_mend_539 ?_
    refine V_iload hC 5 dX9_mend_542 rfl ?_
    obtain ⟨hi, h⟩ := gd_some h
    refine V_iald (g := 0) (k := 55) hC rfl rfl hi dX9_mend_544 ?_
    refine V_if_lt (tgt := 602) hC dX9_mend_545 (by decide) (fun c72 => ?_) (fun c72 => ?_)
    · have h := it_pos c72 h
      refine V_lv (lv' := [(0, .ref (ad 0 0)), (2, .long b2), (4, .int b4), (6, .int b6), (7, .long x7), (9, .int x9)]) [0, 1, 2, 3, 4, 5] rfl ?_
      exact hk x7 x9 H h
    · have h := it_neg c72 h
      refine V_aload_n hC 0 dX9_mend_548 rfl ?_
      refine V_getR (g := 0) (k := 0) (g' := 0) (k' := 50) hC 9 50 fl_X9_138 rfl rfl rfl rfl dX9_mend_549 ?_
      refine V_aload_n hC 0 dX9_mend_552 rfl ?_
      refine V_getR (g := 0) (k := 0) (g' := 0) (k' := 55) hC 9 55 fl_X9_150 rfl rfl rfl rfl dX9_mend_553 ?_
      refine V_iload hC 5 dX9_mend_556 rfl ?_
      obtain ⟨hi, h⟩ := gd_some h
      refine V_iald (g := 0) (k := 55) hC rfl rfl hi dX9_mend_558 ?_
      obtain ⟨hi, h⟩ := gd_some h
      refine V_lald (g := 0) (k := 50) hC rfl rfl hi dX9_mend_559 ?_
      refine V_lload hC 4 dX9_mend_560 rfl ?_
      refine V_lcmp hC dX9_mend_562 ?_
      refine V_jn1 (pj := 583) (lj := fun y74 => [(0, .ref (ad 0 0)), (2, .long b2), (4, .int b4), (6, .int b6), (9, .int x9)]) (sj := fun y74 => [.long y74]) h (fun y74 H75 h => ?_) (fun hj73 h => ?_)
      · refine V_lstore (lv' := [(7, .long y74), (0, .ref (ad 0 0)), (2, .long b2), (4, .int b4), (6, .int b6), (9, .int x9)]) hC dX9_mend_583 (Nat.le_of_ble_eq_true rfl) rfl ?_
        refine V_aload_n hC 1 dX9_mend_585 rfl ?_
        refine V_getR (g := 0) (k := 0) (g' := 0) (k' := 48) hC 9 48 fl_X9_132 rfl rfl rfl rfl dX9_mend_586 ?_
        refine V_aload_n hC 1 dX9_mend_589 rfl ?_
        refine V_getR (g := 0) (k := 0) (g' := 0) (k' := 55) hC 9 55 fl_X9_150 rfl rfl rfl rfl dX9_mend_590 ?_
        refine V_iload hC 5 dX9_mend_593 rfl ?_
        obtain ⟨hi, h⟩ := gd_some h
        refine V_iald (g := 0) (k := 55) hC rfl rfl hi dX9_mend_595 ?_
        obtain ⟨hi, h⟩ := gd_some h
        refine V_iald (g := 0) (k := 48) hC rfl rfl hi dX9_mend_596 ?_
        refine V_vlI h (fun v76 h => ?_)
        refine V_istore (lv' := [(9, .int v76), (7, .long y74), (0, .ref (ad 0 0)), (2, .long b2), (4, .int b4), (6, .int b6)]) hC dX9_mend_597 (Nat.le_of_ble_eq_true rfl) rfl ?_
        refine V_goto (tgt := 538) hC dX9_mend_599 (by decide) ?_
        refine V_lv (lv' := [(0, .ref (ad 0 0)), (2, .long b2), (4, .int b4), (6, .int b6), (7, .long y74), (9, .int v76)]) [2, 3, 4, 5, 1, 0] rfl ?_
        exact ih y74 v76 H75 h
      · refine V_if_ge (tgt := 581) hC dX9_mend_563 (by decide) (fun c77 => ?_) (fun c77 => ?_)
        · have h := it_pos c77 h
          refine V_lload hC 4 dX9_mend_581 rfl ?_
          refine V_lv (lv' := [(0, .ref (ad 0 0)), (2, .long b2), (4, .int b4), (6, .int b6), (9, .int x9)]) [0, 1, 2, 3, 5] rfl ?_
          exact hj73 x7 H h
        · have h := it_neg c77 h
          refine V_aload_n hC 0 dX9_mend_566 rfl ?_
          refine V_getR (g := 0) (k := 0) (g' := 0) (k' := 50) hC 9 50 fl_X9_138 rfl rfl rfl rfl dX9_mend_567 ?_
          refine V_aload_n hC 0 dX9_mend_570 rfl ?_
          refine V_getR (g := 0) (k := 0) (g' := 0) (k' := 55) hC 9 55 fl_X9_150 rfl rfl rfl rfl dX9_mend_571 ?_
          refine V_iload hC 5 dX9_mend_574 rfl ?_
          obtain ⟨hi, h⟩ := gd_some h
          refine V_iald (g := 0) (k := 55) hC rfl rfl hi dX9_mend_576 ?_
          obtain ⟨hi, h⟩ := gd_some h
          refine V_lald (g := 0) (k := 50) hC rfl rfl hi dX9_mend_577 ?_
          refine V_goto (tgt := 583) hC dX9_mend_578 (by decide) ?_
          refine V_lv (lv' := [(0, .ref (ad 0 0)), (2, .long b2), (4, .int b4), (6, .int b6), (9, .int x9)]) [0, 1, 2, 3, 5] rfl ?_
          exact hj73 ((gJ H 0 50 (Int32.toNatClampNeg (gI H 0 55 (Int32.toNatClampNeg x9))))) H h
def L_X9_mend_671 (b2 : Int64) (b4 : Int32) (b7 : Int64) (k : Hp → Option (Int64 × Hp)) : Nat → Int32 → Hp → Option (Int64 × Hp)
  | 0, _, _ => none
  | n + 1, x9, H => gd x9 21 (if (gI H 0 55 (Int32.toNatClampNeg x9)) < 0 then k H else gd x9 21 (vl ((gI H 0 55 (Int32.toNatClampNeg x9))) (fun (v88 : Int32) => gd v88 320 (gd v88 320 (hl (sJ H 0 50 (Int32.toNatClampNeg v88) ((gJ H 0 50 (Int32.toNatClampNeg v88)) - b7)) (fun (H89 : Hp) => gb (decide (¬ 2 = (0 : Int32))) (jn (fun (y91 : Int32) (H92 : Hp) => gd y91 320 (gd y91 320 (hl (sJ H92 0 50 (Int32.toNatClampNeg y91) ((gJ H92 0 50 (Int32.toNatClampNeg y91)) + b7)) (fun (H93 : Hp) => gd v88 320 (vl ((gI H93 0 48 (Int32.toNatClampNeg v88))) (fun (v94 : Int32) => L_X9_mend_671 b2 b4 b7 k n v94 H93)))))) (fun j90 => if (v88 - v88 / 2 * 2) = 0 then j90 ((v88 + 1)) H89 else j90 ((v88 - 1)) H89))))))))
set_option maxRecDepth 100000 in
set_option maxHeartbeats 4000000 in
theorem sL_X9_mend_671 {p : Program} {l : Launch} {e : Env} {s : State} {m : MethodId} {args : Array Value} {below : List Frame} {meth : Method} {c : Code} {A : Nat → Prop} {D : va_G} {K4 : kQ} {ad : Nat → Nat → Nat} {nr : Nat} {b2 : Int64} {b4 : Int32} {b7 : Int64} {k : Hp → Option (Int64 × Hp)} {res : Int64 × Hp} (hC : Cx p s m args c A s.heap D K4 11 RX9 cX9_mend) (hret : meth.sig.returnType = (some .long) ∧ meth.locks = false) (hk : ∀ (H : Hp), k H = some res → V p l e ({ frames := 2, cells := 0, slots := 0, locals := 42 }) s m args below meth c A s.heap (QJ below args s A D K4 ad nr res) D K4 ad nr 11 742 [(0, .ref (ad 0 0)), (2, .long b2), (4, .int b4)] [] H) : ∀ (n : Nat) (x9 : Int32) (H : Hp), L_X9_mend_671 b2 b4 b7 k n x9 H = some res → V p l e ({ frames := 2, cells := 0, slots := 0, locals := 42 }) s m args below meth c A s.heap (QJ below args s A D K4 ad nr res) D K4 ad nr 11 671 [(0, .ref (ad 0 0)), (2, .long b2), (4, .int b4), (7, .long b7), (9, .int x9)] [] H := by
  intro n
  induction n with
  | zero => intro x9 H h; exact nomatch (show (none : Option (Int64 × Hp)) = some res from h)
  | succ n ih =>
    intro x9 H h
    rw [L_X9_mend_671] at h
    refine V_aload_n hC 0 dX9_mend_671 rfl ?_
    refine V_getR (g := 0) (k := 0) (g' := 0) (k' := 55) hC 9 55 fl_X9_150 rfl rfl rfl rfl dX9_mend_672 ?_
    refine V_iload hC 4 dX9_mend_675 rfl ?_
    obtain ⟨hi, h⟩ := gd_some h
    refine V_iald (g := 0) (k := 55) hC rfl rfl hi dX9_mend_677 ?_
    refine V_if_lt (tgt := 742) hC dX9_mend_678 (by decide) (fun c87 => ?_) (fun c87 => ?_)
    · have h := it_pos c87 h
      refine V_lv (lv' := [(0, .ref (ad 0 0)), (2, .long b2), (4, .int b4)]) [0, 1, 2] rfl ?_
      exact hk H h
    · have h := it_neg c87 h
      refine V_aload_n hC 0 dX9_mend_681 rfl ?_
      refine V_getR (g := 0) (k := 0) (g' := 0) (k' := 55) hC 9 55 fl_X9_150 rfl rfl rfl rfl dX9_mend_682 ?_
      refine V_iload hC 4 dX9_mend_685 rfl ?_
      obtain ⟨hi, h⟩ := gd_some h
      refine V_iald (g := 0) (k := 55) hC rfl rfl hi dX9_mend_687 ?_
      refine V_vlI h (fun v88 h => ?_)
      refine V_istore (lv' := [(10, .int v88), (0, .ref (ad 0 0)), (2, .long b2), (4, .int b4), (7, .long b7), (9, .int x9)]) hC dX9_mend_688 (Nat.le_of_ble_eq_true rfl) rfl ?_
      refine V_aload_n hC 1 dX9_mend_690 rfl ?_
      refine V_getR (g := 0) (k := 0) (g' := 0) (k' := 50) hC 9 50 fl_X9_138 rfl rfl rfl rfl dX9_mend_691 ?_
      refine V_iload hC 0 dX9_mend_694 rfl ?_
      refine V_dup2 hC dX9_mend_696 rfl rfl ?_
      obtain ⟨hi, h⟩ := gd_some h
      refine V_lald (g := 0) (k := 50) hC rfl rfl hi dX9_mend_697 ?_
      refine V_lload hC 4 dX9_mend_698 rfl ?_
      refine V_lsub hC dX9_mend_700 ?_
      obtain ⟨hi, h⟩ := gd_some h
      refine V_last (g := 0) (k := 50) hC rfl rfl hi dX9_mend_701 ?_
      refine V_hl h (fun H89 h => ?_)
      refine V_aload_n hC 1 dX9_mend_702 rfl ?_
      refine V_getR (g := 0) (k := 0) (g' := 0) (k' := 50) hC 9 50 fl_X9_138 rfl rfl rfl rfl dX9_mend_703 ?_
      refine V_iload hC 0 dX9_mend_706 rfl ?_
      refine V_iconst (v := 2) hC dX9_mend_708 (by decide) ?_
      obtain ⟨hz, h⟩ := gb_some h
      refine V_irem hC dX9_mend_709 (of_decide_eq_true hz) ?_
      refine V_jn1 (pj := 724) (lj := fun y91 => [(0, .ref (ad 0 0)), (2, .long b2), (4, .int b4), (7, .long b7), (10, .int v88)]) (sj := fun y91 => [.int y91, .ref (ad 0 50)]) h (fun y91 H92 h => ?_) (fun hj90 h => ?_)
      · refine V_dup2 hC dX9_mend_724 rfl rfl ?_
        obtain ⟨hi, h⟩ := gd_some h
        refine V_lald (g := 0) (k := 50) hC rfl rfl hi dX9_mend_725 ?_
        refine V_lload hC 3 dX9_mend_726 rfl ?_
        refine V_ladd hC dX9_mend_728 ?_
        obtain ⟨hi, h⟩ := gd_some h
        refine V_last (g := 0) (k := 50) hC rfl rfl hi dX9_mend_729 ?_
        refine V_hl h (fun H93 h => ?_)
        refine V_aload_n hC 0 dX9_mend_730 rfl ?_
        refine V_getR (g := 0) (k := 0) (g' := 0) (k' := 48) hC 9 48 fl_X9_132 rfl rfl rfl rfl dX9_mend_731 ?_
        refine V_iload hC 4 dX9_mend_734 rfl ?_
        obtain ⟨hi, h⟩ := gd_some h
        refine V_iald (g := 0) (k := 48) hC rfl rfl hi dX9_mend_736 ?_
        refine V_vlI h (fun v94 h => ?_)
        refine V_istore (lv' := [(9, .int v94), (0, .ref (ad 0 0)), (2, .long b2), (4, .int b4), (7, .long b7), (10, .int v88)]) hC dX9_mend_737 (Nat.le_of_ble_eq_true rfl) rfl ?_
        refine V_goto (tgt := 671) hC dX9_mend_739 (by decide) ?_
        refine V_lv (lv' := [(0, .ref (ad 0 0)), (2, .long b2), (4, .int b4), (7, .long b7), (9, .int v94)]) [1, 2, 3, 4, 0] rfl ?_
        exact ih v94 H93 h
      · refine V_if_ne (tgt := 720) hC dX9_mend_710 (by decide) (fun c95 => ?_) (fun c95 => ?_)
        · have h := it_neg c95 h
          refine V_iload hC 0 dX9_mend_720 rfl ?_
          refine V_iconst (v := 1) hC dX9_mend_722 (by decide) ?_
          refine V_isub hC dX9_mend_723 ?_
          refine V_lv (lv' := [(0, .ref (ad 0 0)), (2, .long b2), (4, .int b4), (7, .long b7), (10, .int v88)]) [1, 2, 3, 4, 0] rfl ?_
          exact hj90 ((v88 - 1)) H89 h
        · have h := it_pos c95 h
          refine V_iload hC 0 dX9_mend_713 rfl ?_
          refine V_iconst (v := 1) hC dX9_mend_715 (by decide) ?_
          refine V_iadd hC dX9_mend_716 ?_
          refine V_goto (tgt := 724) hC dX9_mend_717 (by decide) ?_
          refine V_lv (lv' := [(0, .ref (ad 0 0)), (2, .long b2), (4, .int b4), (7, .long b7), (10, .int v88)]) [1, 2, 3, 4, 0] rfl ?_
          exact hj90 ((v88 + 1)) H89 h
def L_X9_mend_233 (k : Int64 → Hp → Option (Int64 × Hp)) : Nat → Int64 → Int32 → Hp → Option (Int64 × Hp)
  | 0, _, _, _ => none
  | n + 1, x2, x4, H => if x4 = 0 then k x2 H else L_X9_mend_241 x2 (fun (H40 : Hp) => L_X9_mend_290 x2 (fun (H54 : Hp) => L_X9_mend_441 x2 (fun (z65 : Int32) (H66 : Hp) => jn (fun (y68 : Int32) (H69 : Hp) => if y68 = 0 then L_X9_mend_233 k n x2 y68 H69 else gd z65 21 (vl ((-(gJ H69 0 53 (Int32.toNatClampNeg z65)))) (fun (v71 : Int64) => L_X9_mend_538 x2 y68 z65 (fun (z78 : Int64) (z79 : Int32) (H80 : Hp) => gd z79 21 (jn (fun (y82 : Int64) (H83 : Hp) => gd z65 21 (vl ((x2 + (y82 * (Int32.toInt64 (gI H83 0 54 (Int32.toNatClampNeg z65)))))) (fun (v84 : Int64) => gd z79 21 (gd z79 21 (hl (sJ H83 0 53 (Int32.toNatClampNeg z79) ((gJ H83 0 53 (Int32.toNatClampNeg z79)) - y82)) (fun (H85 : Hp) => gd z65 21 (gd z65 21 (hl (sJ H85 0 53 (Int32.toNatClampNeg z65) ((gJ H85 0 53 (Int32.toNatClampNeg z65)) + y82)) (fun (H86 : Hp) => L_X9_mend_671 v84 y68 y82 (fun (H96 : Hp) => L_X9_mend_233 k n v84 y68 H96) FU z65 H86))))))))) (fun j81 => if 0 ≤ (lg_cmp (gJ H80 0 53 (Int32.toNatClampNeg z79)) z78) then j81 z78 H80 else gd z79 21 (j81 ((gJ H80 0 53 (Int32.toNatClampNeg z79))) H80)))) FU v71 z65 H69))) (fun j67 => if z65 < 0 then j67 0 H66 else j67 1 H66)) FU (-1) 0 H54) FU 1 H40) FU 0 H
set_option maxRecDepth 100000 in
set_option maxHeartbeats 4000000 in
theorem sL_X9_mend_233 {p : Program} {l : Launch} {e : Env} {s : State} {m : MethodId} {args : Array Value} {below : List Frame} {meth : Method} {c : Code} {A : Nat → Prop} {D : va_G} {K4 : kQ} {ad : Nat → Nat → Nat} {nr : Nat} {k : Int64 → Hp → Option (Int64 × Hp)} {res : Int64 × Hp} (hC : Cx p s m args c A s.heap D K4 11 RX9 cX9_mend) (hret : meth.sig.returnType = (some .long) ∧ meth.locks = false) (hk : ∀ (z2 : Int64) (H : Hp), k z2 H = some res → V p l e ({ frames := 2, cells := 0, slots := 0, locals := 42 }) s m args below meth c A s.heap (QJ below args s A D K4 ad nr res) D K4 ad nr 11 745 [(2, .long z2)] [] H) : ∀ (n : Nat) (x2 : Int64) (x4 : Int32) (H : Hp), L_X9_mend_233 k n x2 x4 H = some res → V p l e ({ frames := 2, cells := 0, slots := 0, locals := 42 }) s m args below meth c A s.heap (QJ below args s A D K4 ad nr res) D K4 ad nr 11 233 [(0, .ref (ad 0 0)), (2, .long x2), (4, .int x4)] [] H := by
  intro n
  induction n with
  | zero => intro x2 x4 H h; exact nomatch (show (none : Option (Int64 × Hp)) = some res from h)
  | succ n ih =>
    intro x2 x4 H h
    rw [L_X9_mend_233] at h
    refine V_iload hC 2 dX9_mend_233 rfl ?_
    refine V_if_eq (tgt := 745) hC dX9_mend_235 (by decide) (fun c31 => ?_) (fun c31 => ?_)
    · have h := it_pos c31 h
      refine V_lv (lv' := [(2, .long x2)]) [1] rfl ?_
      exact hk x2 H h
    · have h := it_neg c31 h
      refine V_iconst (v := 0) hC dX9_mend_238 (by decide) ?_
      refine V_istore (lv' := [(5, .int 0), (0, .ref (ad 0 0)), (2, .long x2), (4, .int x4)]) hC dX9_mend_239 (Nat.le_of_ble_eq_true rfl) rfl ?_
      refine V_lv (lv' := [(0, .ref (ad 0 0)), (2, .long x2), (5, .int 0)]) [1, 2, 0] rfl ?_
      refine sL_X9_mend_241 hC hret (fun H40 h => ?_) _ 0 H h
      refine V_iconst (v := 1) hC dX9_mend_287 (by decide) ?_
      refine V_istore (lv' := [(5, .int 1), (0, .ref (ad 0 0)), (2, .long x2)]) hC dX9_mend_288 (Nat.le_of_ble_eq_true rfl) rfl ?_
      refine V_lv (lv' := [(0, .ref (ad 0 0)), (2, .long x2), (5, .int 1)]) [1, 2, 0] rfl ?_
      refine sL_X9_mend_290 hC hret (fun H54 h => ?_) _ 1 H40 h
      refine V_iconst (v := -1) hC dX9_mend_435 (by decide) ?_
      refine V_istore (lv' := [(6, .int (-1)), (0, .ref (ad 0 0)), (2, .long x2)]) hC dX9_mend_436 (Nat.le_of_ble_eq_true rfl) rfl ?_
      refine V_iconst (v := 0) hC dX9_mend_438 (by decide) ?_
      refine V_istore (lv' := [(7, .int 0), (6, .int (-1)), (0, .ref (ad 0 0)), (2, .long x2)]) hC dX9_mend_439 (Nat.le_of_ble_eq_true rfl) rfl ?_
      refine V_lv (lv' := [(0, .ref (ad 0 0)), (2, .long x2), (6, .int (-1)), (7, .int 0)]) [2, 3, 1, 0] rfl ?_
      refine sL_X9_mend_441 hC hret (fun z65 H66 h => ?_) _ (-1) 0 H54 h
      refine V_iload hC 2 dX9_mend_504 rfl ?_
      refine V_jn1 (pj := 514) (lj := fun y68 => [(0, .ref (ad 0 0)), (2, .long x2), (6, .int z65)]) (sj := fun y68 => [.int y68]) h (fun y68 H69 h => ?_) (fun hj67 h => ?_)
      · refine V_istore (lv' := [(4, .int y68), (0, .ref (ad 0 0)), (2, .long x2), (6, .int z65)]) hC dX9_mend_514 (Nat.le_of_ble_eq_true rfl) rfl ?_
        refine V_iload hC 0 dX9_mend_516 rfl ?_
        refine V_if_ne (tgt := 524) hC dX9_mend_518 (by decide) (fun c70 => ?_) (fun c70 => ?_)
        · have h := it_neg c70 h
          refine V_aload_n hC 1 dX9_mend_524 rfl ?_
          refine V_getR (g := 0) (k := 0) (g' := 0) (k' := 53) hC 9 53 fl_X9_144 rfl rfl rfl rfl dX9_mend_525 ?_
          refine V_iload hC 3 dX9_mend_528 rfl ?_
          obtain ⟨hi, h⟩ := gd_some h
          refine V_lald (g := 0) (k := 53) hC rfl rfl hi dX9_mend_530 ?_
          refine V_lneg hC dX9_mend_531 ?_
          refine V_vlJ h (fun v71 h => ?_)
          refine V_lstore (lv' := [(7, .long v71), (4, .int y68), (0, .ref (ad 0 0)), (2, .long x2), (6, .int z65)]) hC dX9_mend_532 (Nat.le_of_ble_eq_true rfl) rfl ?_
          refine V_iload hC 4 dX9_mend_534 rfl ?_
          refine V_istore (lv' := [(9, .int z65), (7, .long v71), (4, .int y68), (0, .ref (ad 0 0)), (2, .long x2), (6, .int z65)]) hC dX9_mend_536 (Nat.le_of_ble_eq_true rfl) rfl ?_
          refine V_lv (lv' := [(0, .ref (ad 0 0)), (2, .long x2), (4, .int y68), (6, .int z65), (7, .long v71), (9, .int z65)]) [3, 4, 2, 5, 1, 0] rfl ?_
          refine sL_X9_mend_538 hC hret (fun z78 z79 H80 h => ?_) _ v71 z65 H69 h
          refine V_aload_n hC 0 dX9_mend_602 rfl ?_
          refine V_getR (g := 0) (k := 0) (g' := 0) (k' := 53) hC 9 53 fl_X9_144 rfl rfl rfl rfl dX9_mend_603 ?_
          refine V_iload hC 5 dX9_mend_606 rfl ?_
          obtain ⟨hi, h⟩ := gd_some h
          refine V_lald (g := 0) (k := 53) hC rfl rfl hi dX9_mend_608 ?_
          refine V_lload hC 4 dX9_mend_609 rfl ?_
          refine V_lcmp hC dX9_mend_611 ?_
          refine V_jn1 (pj := 627) (lj := fun y82 => [(0, .ref (ad 0 0)), (2, .long x2), (4, .int y68), (6, .int z65), (9, .int z79)]) (sj := fun y82 => [.long y82]) h (fun y82 H83 h => ?_) (fun hj81 h => ?_)
          · refine V_lstore (lv' := [(7, .long y82), (0, .ref (ad 0 0)), (2, .long x2), (4, .int y68), (6, .int z65), (9, .int z79)]) hC dX9_mend_627 (Nat.le_of_ble_eq_true rfl) rfl ?_
            refine V_lload_n hC 2 dX9_mend_629 rfl ?_
            refine V_lload hC 0 dX9_mend_630 rfl ?_
            refine V_aload_n hC 1 dX9_mend_632 rfl ?_
            refine V_getR (g := 0) (k := 0) (g' := 0) (k' := 54) hC 9 54 fl_X9_147 rfl rfl rfl rfl dX9_mend_633 ?_
            refine V_iload hC 4 dX9_mend_636 rfl ?_
            obtain ⟨hi, h⟩ := gd_some h
            refine V_iald (g := 0) (k := 54) hC rfl rfl hi dX9_mend_638 ?_
            refine V_i2l hC dX9_mend_639 ?_
            refine V_lmul hC dX9_mend_640 ?_
            refine V_ladd hC dX9_mend_641 ?_
            refine V_vlJ h (fun v84 h => ?_)
            refine V_lstore_n (lv' := [(2, .long v84), (7, .long y82), (0, .ref (ad 0 0)), (4, .int y68), (6, .int z65), (9, .int z79)]) hC dX9_mend_642 (Nat.le_of_ble_eq_true rfl) rfl ?_
            refine V_aload_n hC 2 dX9_mend_643 rfl ?_
            refine V_getR (g := 0) (k := 0) (g' := 0) (k' := 53) hC 9 53 fl_X9_144 rfl rfl rfl rfl dX9_mend_644 ?_
            refine V_iload hC 5 dX9_mend_647 rfl ?_
            refine V_dup2 hC dX9_mend_649 rfl rfl ?_
            obtain ⟨hi, h⟩ := gd_some h
            refine V_lald (g := 0) (k := 53) hC rfl rfl hi dX9_mend_650 ?_
            refine V_lload hC 1 dX9_mend_651 rfl ?_
            refine V_lsub hC dX9_mend_653 ?_
            obtain ⟨hi, h⟩ := gd_some h
            refine V_last (g := 0) (k := 53) hC rfl rfl hi dX9_mend_654 ?_
            refine V_hl h (fun H85 h => ?_)
            refine V_aload_n hC 2 dX9_mend_655 rfl ?_
            refine V_getR (g := 0) (k := 0) (g' := 0) (k' := 53) hC 9 53 fl_X9_144 rfl rfl rfl rfl dX9_mend_656 ?_
            refine V_iload hC 4 dX9_mend_659 rfl ?_
            refine V_dup2 hC dX9_mend_661 rfl rfl ?_
            obtain ⟨hi, h⟩ := gd_some h
            refine V_lald (g := 0) (k := 53) hC rfl rfl hi dX9_mend_662 ?_
            refine V_lload hC 1 dX9_mend_663 rfl ?_
            refine V_ladd hC dX9_mend_665 ?_
            obtain ⟨hi, h⟩ := gd_some h
            refine V_last (g := 0) (k := 53) hC rfl rfl hi dX9_mend_666 ?_
            refine V_hl h (fun H86 h => ?_)
            refine V_iload hC 4 dX9_mend_667 rfl ?_
            refine V_istore (lv' := [(9, .int z65), (2, .long v84), (7, .long y82), (0, .ref (ad 0 0)), (4, .int y68), (6, .int z65)]) hC dX9_mend_669 (Nat.le_of_ble_eq_true rfl) rfl ?_
            refine V_lv (lv' := [(0, .ref (ad 0 0)), (2, .long v84), (4, .int y68), (7, .long y82), (9, .int z65)]) [3, 1, 4, 2, 0] rfl ?_
            refine sL_X9_mend_671 hC hret (fun H96 h => ?_) _ z65 H86 h
            refine V_goto (tgt := 233) hC dX9_mend_742 (by decide) ?_
            refine V_lv (lv' := [(0, .ref (ad 0 0)), (2, .long v84), (4, .int y68)]) [0, 1, 2] rfl ?_
            exact ih v84 y68 H96 h
          · refine V_if_ge (tgt := 625) hC dX9_mend_612 (by decide) (fun c97 => ?_) (fun c97 => ?_)
            · have h := it_pos c97 h
              refine V_lload hC 4 dX9_mend_625 rfl ?_
              refine V_lv (lv' := [(0, .ref (ad 0 0)), (2, .long x2), (4, .int y68), (6, .int z65), (9, .int z79)]) [0, 1, 2, 3, 5] rfl ?_
              exact hj81 z78 H80 h
            · have h := it_neg c97 h
              refine V_aload_n hC 0 dX9_mend_615 rfl ?_
              refine V_getR (g := 0) (k := 0) (g' := 0) (k' := 53) hC 9 53 fl_X9_144 rfl rfl rfl rfl dX9_mend_616 ?_
              refine V_iload hC 5 dX9_mend_619 rfl ?_
              obtain ⟨hi, h⟩ := gd_some h
              refine V_lald (g := 0) (k := 53) hC rfl rfl hi dX9_mend_621 ?_
              refine V_goto (tgt := 627) hC dX9_mend_622 (by decide) ?_
              refine V_lv (lv' := [(0, .ref (ad 0 0)), (2, .long x2), (4, .int y68), (6, .int z65), (9, .int z79)]) [0, 1, 2, 3, 5] rfl ?_
              exact hj81 ((gJ H80 0 53 (Int32.toNatClampNeg z79))) H80 h
        · have h := it_pos c70 h
          refine V_goto (tgt := 233) hC dX9_mend_521 (by decide) ?_
          refine V_lv (lv' := [(0, .ref (ad 0 0)), (2, .long x2), (4, .int y68)]) [1, 2, 0] rfl ?_
          exact ih x2 y68 H69 h
      · refine V_if_lt (tgt := 513) hC dX9_mend_506 (by decide) (fun c98 => ?_) (fun c98 => ?_)
        · have h := it_pos c98 h
          refine V_iconst (v := 0) hC dX9_mend_513 (by decide) ?_
          refine V_lv (lv' := [(0, .ref (ad 0 0)), (2, .long x2), (6, .int z65)]) [0, 1, 2] rfl ?_
          exact hj67 0 H66 h
        · have h := it_neg c98 h
          refine V_iconst (v := 1) hC dX9_mend_509 (by decide) ?_
          refine V_goto (tgt := 514) hC dX9_mend_510 (by decide) ?_
          refine V_lv (lv' := [(0, .ref (ad 0 0)), (2, .long x2), (6, .int z65)]) [0, 1, 2] rfl ?_
          exact hj67 1 H66 h
def f_X9_mend (a1 : Int32) (H : Hp) : Option (Int64 × Hp) := hl (sI H 0 0 34 0) (fun (H1 : Hp) => bnd (f_X9_isDone a1 H1) (fun w3 H2 => if w3 = 0 then some ((-1), H2) else hl (sI H2 0 0 52 0) (fun (H5 : Hp) => L_X9_mend_24 a1 (fun (H9 : Hp) => vl ((40 * a1)) (fun (v10 : Int32) => L_X9_mend_48 a1 (fun (H21 : Hp) => L_X9_mend_175 a1 (fun (H28 : Hp) => bnd (f_X9_push 20 0 1000000000000000 0 H28) (fun w30 H29 => L_X9_mend_233 (fun (z99 : Int64) (H100 : Hp) => some (z99, H100)) FU 0 1 H29)) FU 0 H21) FU v10 H9)) FU 0 H5)))
set_option maxRecDepth 100000 in
set_option maxHeartbeats 4000000 in
theorem s_X9_mend {p : Program} {l : Launch} {e : Env} {s : State} {m : MethodId} {args : Array Value} {below : List Frame} {meth : Method} {c : Code} {A : Nat → Prop} {D : va_G} {K4 : kQ} {ad : Nat → Nat → Nat} {nr : Nat} {a1 : Int32} {H : Hp} {res : Int64 × Hp} (hC : Cx p s m args c A s.heap D K4 11 RX9 cX9_mend) (hret : meth.sig.returnType = (some .long) ∧ meth.locks = false) (h : f_X9_mend a1 H = some res) : V p l e ({ frames := 2, cells := 0, slots := 0, locals := 42 }) s m args below meth c A s.heap (QJ below args s A D K4 ad nr res) D K4 ad nr 11 0 [(0, .ref (ad 0 0)), (1, .int a1)] [] H := by
  unfold f_X9_mend at h
  refine V_aload_n hC 0 dX9_mend_0 rfl ?_
  refine V_iconst (v := 0) hC dX9_mend_1 (by decide) ?_
  refine V_putI (g := 0) (k := 0) hC 9 34 .int fw_X9_153 rfl rfl rfl rfl rfl dX9_mend_2 ?_
  refine V_hl h (fun H1 h => ?_)
  refine V_aload_n hC 0 dX9_mend_5 rfl ?_
  refine V_iload_n hC 1 dX9_mend_6 rfl ?_
  obtain ⟨w3, H2, hc, h⟩ := bnd_some h
  refine V_calli (g := 0) (k := 0) (As := [.int a1]) (st := []) hC (c_X9_isDone l hc) rfl ml_X9_208 ⟨Nat.le_of_ble_eq_true rfl, Nat.le_of_ble_eq_true rfl⟩ rfl rfl rfl (Nat.le_of_ble_eq_true rfl) dX9_mend_7 ?_
  refine V_if_ne (tgt := 17) hC dX9_mend_10 (by decide) (fun c4 => ?_) (fun c4 => ?_)
  · have h := it_neg c4 h
    refine V_aload_n hC 0 dX9_mend_17 rfl ?_
    refine V_iconst (v := 0) hC dX9_mend_18 (by decide) ?_
    refine V_putI (g := 0) (k := 0) hC 9 52 .int fw_X9_264 rfl rfl rfl rfl rfl dX9_mend_19 ?_
    refine V_hl h (fun H5 h => ?_)
    refine V_iconst (v := 0) hC dX9_mend_22 (by decide) ?_
    refine V_istore_n (lv' := [(2, .int 0), (0, .ref (ad 0 0)), (1, .int a1)]) hC dX9_mend_23 (Nat.le_of_ble_eq_true rfl) rfl ?_
    refine V_lv (lv' := [(0, .ref (ad 0 0)), (1, .int a1), (2, .int 0)]) [1, 2, 0] rfl ?_
    refine sL_X9_mend_24 hC hret (fun H9 h => ?_) _ 0 H5 h
    refine V_bipush (v := 40) hC dX9_mend_43 (by decide) ?_
    refine V_iload_n hC 1 dX9_mend_45 rfl ?_
    refine V_imul hC dX9_mend_46 ?_
    refine V_vlI h (fun v10 h => ?_)
    refine V_istore_n (lv' := [(2, .int v10), (0, .ref (ad 0 0)), (1, .int a1)]) hC dX9_mend_47 (Nat.le_of_ble_eq_true rfl) rfl ?_
    refine V_lv (lv' := [(0, .ref (ad 0 0)), (1, .int a1), (2, .int v10)]) [1, 2, 0] rfl ?_
    refine sL_X9_mend_48 hC hret (fun H21 h => ?_) _ v10 H9 h
    refine V_iconst (v := 0) hC dX9_mend_173 (by decide) ?_
    refine V_istore_n (lv' := [(2, .int 0), (0, .ref (ad 0 0)), (1, .int a1)]) hC dX9_mend_174 (Nat.le_of_ble_eq_true rfl) rfl ?_
    refine V_lv (lv' := [(0, .ref (ad 0 0)), (1, .int a1), (2, .int 0)]) [1, 2, 0] rfl ?_
    refine sL_X9_mend_175 hC hret (fun H28 h => ?_) _ 0 H21 h
    refine V_aload_n hC 0 dX9_mend_217 rfl ?_
    refine V_bipush (v := 20) hC dX9_mend_218 (by decide) ?_
    refine V_iconst (v := 0) hC dX9_mend_220 (by decide) ?_
    refine V_ldc2 hC dX9_mend_221 cl_X9_267 ?_
    refine V_iconst (v := 0) hC dX9_mend_224 (by decide) ?_
    obtain ⟨w30, H29, hc, h⟩ := bnd_some h
    refine V_callu (g := 0) (k := 0) (As := [.int 20, .int 0, .long 1000000000000000, .int 0]) (st := []) hC (c_X9_push l hc) rfl ml_X9_269 ⟨Nat.le_of_ble_eq_true rfl, Nat.le_of_ble_eq_true rfl⟩ rfl rfl rfl (Nat.le_of_ble_eq_true rfl) dX9_mend_225 ?_
    refine V_lconst (v := 0) hC dX9_mend_228 (by decide) ?_
    refine V_lstore_n (lv' := [(2, .long 0), (0, .ref (ad 0 0))]) hC dX9_mend_229 (Nat.le_of_ble_eq_true rfl) rfl ?_
    refine V_iconst (v := 1) hC dX9_mend_230 (by decide) ?_
    refine V_istore (lv' := [(4, .int 1), (2, .long 0), (0, .ref (ad 0 0))]) hC dX9_mend_231 (Nat.le_of_ble_eq_true rfl) rfl ?_
    refine V_lv (lv' := [(0, .ref (ad 0 0)), (2, .long 0), (4, .int 1)]) [2, 1, 0] rfl ?_
    refine sL_X9_mend_233 hC hret (fun z99 H100 h => ?_) _ 0 1 H29 h
    refine V_lload_n hC 0 dX9_mend_745 rfl ?_
    exact V_lret hC hret dX9_mend_746 h
  · have h := it_pos c4 h
    refine V_ldc2 hC dX9_mend_13 cl_X9_189 ?_
    exact V_lret hC hret dX9_mend_16 h
theorem c_X9_mend (l : Launch) {nr : Nat} {a1 : Int32} {H : Hp} {x : Int64} {H' : Hp} (h : f_X9_mend a1 H = some (x, H')) : CJ l nr yX9_mend cX9_mend 11 (some .long) 2 42 (fun ad => [.ref (ad 0 0), .int a1]) H x H' := by
  intro D K4 ad sz
  refine Met.ofV (by decide) (Nat.le_of_ble_eq_true rfl) ?_
  intro p e s m args below meth c hC hret hsz
  subst hsz
  exact s_X9_mend hC hret h
