theorem dX9_why_0 : decode cX9_why 0 = .ok (.aload_n 0, 1) := by decide +kernel
theorem dX9_why_1 : decode cX9_why 1 = .ok (.getfield 7, 3) := by decide +kernel
theorem dX9_why_4 : decode cX9_why 4 = .ok (.iload_n 1, 1) := by decide +kernel
theorem dX9_why_5 : decode cX9_why 5 = .ok (.iaload, 1) := by decide +kernel
theorem dX9_why_6 : decode cX9_why 6 = .ok (.ifCond .ne 5, 3) := by decide +kernel
theorem dX9_why_9 : decode cX9_why 9 = .ok (.iconst 1, 1) := by decide +kernel
theorem dX9_why_10 : decode cX9_why 10 = .ok (.ireturn, 1) := by decide +kernel
theorem dX9_why_11 : decode cX9_why 11 = .ok (.iconst 0, 1) := by decide +kernel
theorem dX9_why_12 : decode cX9_why 12 = .ok (.istore_n 2, 1) := by decide +kernel
theorem dX9_why_13 : decode cX9_why 13 = .ok (.iload_n 2, 1) := by decide +kernel
theorem dX9_why_14 : decode cX9_why 14 = .ok (.aload_n 0, 1) := by decide +kernel
theorem dX9_why_15 : decode cX9_why 15 = .ok (.getfield 7, 3) := by decide +kernel
theorem dX9_why_18 : decode cX9_why 18 = .ok (.iload_n 1, 1) := by decide +kernel
theorem dX9_why_19 : decode cX9_why 19 = .ok (.iaload, 1) := by decide +kernel
theorem dX9_why_20 : decode cX9_why 20 = .ok (.if_icmp .ge 90, 3) := by decide +kernel
theorem dX9_why_23 : decode cX9_why 23 = .ok (.aload_n 0, 1) := by decide +kernel
theorem dX9_why_24 : decode cX9_why 24 = .ok (.iload_n 1, 1) := by decide +kernel
theorem dX9_why_25 : decode cX9_why 25 = .ok (.iload_n 2, 1) := by decide +kernel
theorem dX9_why_26 : decode cX9_why 26 = .ok (.invokevirtual 172, 3) := by decide +kernel
theorem dX9_why_29 : decode cX9_why 29 = .ok (.istore_n 3, 1) := by decide +kernel
theorem dX9_why_30 : decode cX9_why 30 = .ok (.aload_n 0, 1) := by decide +kernel
theorem dX9_why_31 : decode cX9_why 31 = .ok (.getfield 20, 3) := by decide +kernel
theorem dX9_why_34 : decode cX9_why 34 = .ok (.bipush 20, 2) := by decide +kernel
theorem dX9_why_36 : decode cX9_why 36 = .ok (.iload_n 1, 1) := by decide +kernel
theorem dX9_why_37 : decode cX9_why 37 = .ok (.imul, 1) := by decide +kernel
theorem dX9_why_38 : decode cX9_why 38 = .ok (.iload_n 2, 1) := by decide +kernel
theorem dX9_why_39 : decode cX9_why 39 = .ok (.iadd, 1) := by decide +kernel
theorem dX9_why_40 : decode cX9_why 40 = .ok (.iaload, 1) := by decide +kernel
theorem dX9_why_41 : decode cX9_why 41 = .ok (.istore 4, 2) := by decide +kernel
theorem dX9_why_43 : decode cX9_why 43 = .ok (.iload 4, 2) := by decide +kernel
theorem dX9_why_45 : decode cX9_why 45 = .ok (.iconst 1, 1) := by decide +kernel
theorem dX9_why_46 : decode cX9_why 46 = .ok (.if_icmp .ne 16, 3) := by decide +kernel
theorem dX9_why_49 : decode cX9_why 49 = .ok (.iload_n 3, 1) := by decide +kernel
theorem dX9_why_50 : decode cX9_why 50 = .ok (.iconst 1, 1) := by decide +kernel
theorem dX9_why_51 : decode cX9_why 51 = .ok (.if_icmp .le 7, 3) := by decide +kernel
theorem dX9_why_54 : decode cX9_why 54 = .ok (.iconst 1, 1) := by decide +kernel
theorem dX9_why_55 : decode cX9_why 55 = .ok (.goto 40, 3) := by decide +kernel
theorem dX9_why_58 : decode cX9_why 58 = .ok (.iconst 0, 1) := by decide +kernel
theorem dX9_why_59 : decode cX9_why 59 = .ok (.goto 36, 3) := by decide +kernel
theorem dX9_why_62 : decode cX9_why 62 = .ok (.iload 4, 2) := by decide +kernel
theorem dX9_why_64 : decode cX9_why 64 = .ok (.ifCond .eq 9, 3) := by decide +kernel
theorem dX9_why_67 : decode cX9_why 67 = .ok (.iload 4, 2) := by decide +kernel
theorem dX9_why_69 : decode cX9_why 69 = .ok (.iconst 2, 1) := by decide +kernel
theorem dX9_why_70 : decode cX9_why 70 = .ok (.if_icmp .ne 16, 3) := by decide +kernel
theorem dX9_why_73 : decode cX9_why 73 = .ok (.iload_n 3, 1) := by decide +kernel
theorem dX9_why_74 : decode cX9_why 74 = .ok (.iconst 1, 1) := by decide +kernel
theorem dX9_why_75 : decode cX9_why 75 = .ok (.if_icmp .ne 7, 3) := by decide +kernel
theorem dX9_why_78 : decode cX9_why 78 = .ok (.iconst 1, 1) := by decide +kernel
theorem dX9_why_79 : decode cX9_why 79 = .ok (.goto 16, 3) := by decide +kernel
theorem dX9_why_82 : decode cX9_why 82 = .ok (.iconst 0, 1) := by decide +kernel
theorem dX9_why_83 : decode cX9_why 83 = .ok (.goto 12, 3) := by decide +kernel
theorem dX9_why_86 : decode cX9_why 86 = .ok (.iload_n 3, 1) := by decide +kernel
theorem dX9_why_87 : decode cX9_why 87 = .ok (.ifCond .ne 7, 3) := by decide +kernel
theorem dX9_why_90 : decode cX9_why 90 = .ok (.iconst 1, 1) := by decide +kernel
theorem dX9_why_91 : decode cX9_why 91 = .ok (.goto 4, 3) := by decide +kernel
theorem dX9_why_94 : decode cX9_why 94 = .ok (.iconst 0, 1) := by decide +kernel
theorem dX9_why_95 : decode cX9_why 95 = .ok (.istore 5, 2) := by decide +kernel
theorem dX9_why_97 : decode cX9_why 97 = .ok (.iload 5, 2) := by decide +kernel
theorem dX9_why_99 : decode cX9_why 99 = .ok (.ifCond .ne 5, 3) := by decide +kernel
theorem dX9_why_102 : decode cX9_why 102 = .ok (.iconst 2, 1) := by decide +kernel
theorem dX9_why_103 : decode cX9_why 103 = .ok (.ireturn, 1) := by decide +kernel
theorem dX9_why_104 : decode cX9_why 104 = .ok (.iinc 2 1, 3) := by decide +kernel
theorem dX9_why_107 : decode cX9_why 107 = .ok (.goto (-94), 3) := by decide +kernel
theorem dX9_why_110 : decode cX9_why 110 = .ok (.iconst 0, 1) := by decide +kernel
theorem dX9_why_111 : decode cX9_why 111 = .ok (.istore_n 2, 1) := by decide +kernel
theorem dX9_why_112 : decode cX9_why 112 = .ok (.iload_n 2, 1) := by decide +kernel
theorem dX9_why_113 : decode cX9_why 113 = .ok (.bipush 21, 2) := by decide +kernel
theorem dX9_why_115 : decode cX9_why 115 = .ok (.if_icmp .ge 24, 3) := by decide +kernel
theorem dX9_why_118 : decode cX9_why 118 = .ok (.aload_n 0, 1) := by decide +kernel
theorem dX9_why_119 : decode cX9_why 119 = .ok (.getfield 99, 3) := by decide +kernel
theorem dX9_why_122 : decode cX9_why 122 = .ok (.iload_n 2, 1) := by decide +kernel
theorem dX9_why_123 : decode cX9_why 123 = .ok (.iload_n 2, 1) := by decide +kernel
theorem dX9_why_124 : decode cX9_why 124 = .ok (.ifCond .ne 7, 3) := by decide +kernel
theorem dX9_why_127 : decode cX9_why 127 = .ok (.iconst 1, 1) := by decide +kernel
theorem dX9_why_128 : decode cX9_why 128 = .ok (.goto 4, 3) := by decide +kernel
theorem dX9_why_131 : decode cX9_why 131 = .ok (.iconst 0, 1) := by decide +kernel
theorem dX9_why_132 : decode cX9_why 132 = .ok (.bastore, 1) := by decide +kernel
theorem dX9_why_133 : decode cX9_why 133 = .ok (.iinc 2 1, 3) := by decide +kernel
theorem dX9_why_136 : decode cX9_why 136 = .ok (.goto (-24), 3) := by decide +kernel
theorem dX9_why_139 : decode cX9_why 139 = .ok (.aload_n 0, 1) := by decide +kernel
theorem dX9_why_140 : decode cX9_why 140 = .ok (.iload_n 1, 1) := by decide +kernel
theorem dX9_why_141 : decode cX9_why 141 = .ok (.iconst 1, 1) := by decide +kernel
theorem dX9_why_142 : decode cX9_why 142 = .ok (.invokevirtual 179, 3) := by decide +kernel
theorem dX9_why_145 : decode cX9_why 145 = .ok (.aload_n 0, 1) := by decide +kernel
theorem dX9_why_146 : decode cX9_why 146 = .ok (.iload_n 1, 1) := by decide +kernel
theorem dX9_why_147 : decode cX9_why 147 = .ok (.invokevirtual 183, 3) := by decide +kernel
theorem dX9_why_150 : decode cX9_why 150 = .ok (.ifCond .ne 5, 3) := by decide +kernel
theorem dX9_why_153 : decode cX9_why 153 = .ok (.iconst 3, 1) := by decide +kernel
theorem dX9_why_154 : decode cX9_why 154 = .ok (.ireturn, 1) := by decide +kernel
theorem dX9_why_155 : decode cX9_why 155 = .ok (.iconst 0, 1) := by decide +kernel
theorem dX9_why_156 : decode cX9_why 156 = .ok (.istore_n 2, 1) := by decide +kernel
theorem dX9_why_157 : decode cX9_why 157 = .ok (.iload_n 2, 1) := by decide +kernel
theorem dX9_why_158 : decode cX9_why 158 = .ok (.bipush 21, 2) := by decide +kernel
theorem dX9_why_160 : decode cX9_why 160 = .ok (.if_icmp .ge 45, 3) := by decide +kernel
theorem dX9_why_163 : decode cX9_why 163 = .ok (.aload_n 0, 1) := by decide +kernel
theorem dX9_why_164 : decode cX9_why 164 = .ok (.getfield 99, 3) := by decide +kernel
theorem dX9_why_167 : decode cX9_why 167 = .ok (.iload_n 2, 1) := by decide +kernel
theorem dX9_why_168 : decode cX9_why 168 = .ok (.iload_n 2, 1) := by decide +kernel
theorem dX9_why_169 : decode cX9_why 169 = .ok (.aload_n 0, 1) := by decide +kernel
theorem dX9_why_170 : decode cX9_why 170 = .ok (.getfield 7, 3) := by decide +kernel
theorem dX9_why_173 : decode cX9_why 173 = .ok (.iload_n 1, 1) := by decide +kernel
theorem dX9_why_174 : decode cX9_why 174 = .ok (.iaload, 1) := by decide +kernel
theorem dX9_why_175 : decode cX9_why 175 = .ok (.if_icmp .ge 22, 3) := by decide +kernel
theorem dX9_why_178 : decode cX9_why 178 = .ok (.aload_n 0, 1) := by decide +kernel
theorem dX9_why_179 : decode cX9_why 179 = .ok (.getfield 20, 3) := by decide +kernel
theorem dX9_why_182 : decode cX9_why 182 = .ok (.bipush 20, 2) := by decide +kernel
theorem dX9_why_184 : decode cX9_why 184 = .ok (.iload_n 1, 1) := by decide +kernel
theorem dX9_why_185 : decode cX9_why 185 = .ok (.imul, 1) := by decide +kernel
theorem dX9_why_186 : decode cX9_why 186 = .ok (.iload_n 2, 1) := by decide +kernel
theorem dX9_why_187 : decode cX9_why 187 = .ok (.iadd, 1) := by decide +kernel
theorem dX9_why_188 : decode cX9_why 188 = .ok (.iaload, 1) := by decide +kernel
theorem dX9_why_189 : decode cX9_why 189 = .ok (.iconst 3, 1) := by decide +kernel
theorem dX9_why_190 : decode cX9_why 190 = .ok (.if_icmp .lt 7, 3) := by decide +kernel
theorem dX9_why_193 : decode cX9_why 193 = .ok (.iconst 1, 1) := by decide +kernel
theorem dX9_why_194 : decode cX9_why 194 = .ok (.goto 4, 3) := by decide +kernel
theorem dX9_why_197 : decode cX9_why 197 = .ok (.iconst 0, 1) := by decide +kernel
theorem dX9_why_198 : decode cX9_why 198 = .ok (.bastore, 1) := by decide +kernel
theorem dX9_why_199 : decode cX9_why 199 = .ok (.iinc 2 1, 3) := by decide +kernel
theorem dX9_why_202 : decode cX9_why 202 = .ok (.goto (-45), 3) := by decide +kernel
theorem dX9_why_205 : decode cX9_why 205 = .ok (.aload_n 0, 1) := by decide +kernel
theorem dX9_why_206 : decode cX9_why 206 = .ok (.iload_n 1, 1) := by decide +kernel
theorem dX9_why_207 : decode cX9_why 207 = .ok (.iconst 0, 1) := by decide +kernel
theorem dX9_why_208 : decode cX9_why 208 = .ok (.invokevirtual 179, 3) := by decide +kernel
theorem dX9_why_211 : decode cX9_why 211 = .ok (.aload_n 0, 1) := by decide +kernel
theorem dX9_why_212 : decode cX9_why 212 = .ok (.iload_n 1, 1) := by decide +kernel
theorem dX9_why_213 : decode cX9_why 213 = .ok (.invokevirtual 183, 3) := by decide +kernel
theorem dX9_why_216 : decode cX9_why 216 = .ok (.ifCond .ne 5, 3) := by decide +kernel
theorem dX9_why_219 : decode cX9_why 219 = .ok (.iconst 4, 1) := by decide +kernel
theorem dX9_why_220 : decode cX9_why 220 = .ok (.ireturn, 1) := by decide +kernel
theorem dX9_why_221 : decode cX9_why 221 = .ok (.aload_n 0, 1) := by decide +kernel
theorem dX9_why_222 : decode cX9_why 222 = .ok (.iload_n 1, 1) := by decide +kernel
theorem dX9_why_223 : decode cX9_why 223 = .ok (.invokevirtual 186, 3) := by decide +kernel
theorem dX9_why_226 : decode cX9_why 226 = .ok (.ifCond .ne 5, 3) := by decide +kernel
theorem dX9_why_229 : decode cX9_why 229 = .ok (.iconst 5, 1) := by decide +kernel
theorem dX9_why_230 : decode cX9_why 230 = .ok (.ireturn, 1) := by decide +kernel
theorem dX9_why_231 : decode cX9_why 231 = .ok (.aload_n 0, 1) := by decide +kernel
theorem dX9_why_232 : decode cX9_why 232 = .ok (.getfield 54, 3) := by decide +kernel
theorem dX9_why_235 : decode cX9_why 235 = .ok (.bipush 20, 2) := by decide +kernel
theorem dX9_why_237 : decode cX9_why 237 = .ok (.iload_n 1, 1) := by decide +kernel
theorem dX9_why_238 : decode cX9_why 238 = .ok (.imul, 1) := by decide +kernel
theorem dX9_why_239 : decode cX9_why 239 = .ok (.laload, 1) := by decide +kernel
theorem dX9_why_240 : decode cX9_why 240 = .ok (.lstore_n 2, 1) := by decide +kernel
theorem dX9_why_241 : decode cX9_why 241 = .ok (.iconst 0, 1) := by decide +kernel
theorem dX9_why_242 : decode cX9_why 242 = .ok (.istore 4, 2) := by decide +kernel
theorem dX9_why_244 : decode cX9_why 244 = .ok (.iload 4, 2) := by decide +kernel
theorem dX9_why_246 : decode cX9_why 246 = .ok (.aload_n 0, 1) := by decide +kernel
theorem dX9_why_247 : decode cX9_why 247 = .ok (.getfield 7, 3) := by decide +kernel
theorem dX9_why_250 : decode cX9_why 250 = .ok (.iload_n 1, 1) := by decide +kernel
theorem dX9_why_251 : decode cX9_why 251 = .ok (.iaload, 1) := by decide +kernel
theorem dX9_why_252 : decode cX9_why 252 = .ok (.if_icmp .ge 119, 3) := by decide +kernel
theorem dX9_why_255 : decode cX9_why 255 = .ok (.aload_n 0, 1) := by decide +kernel
theorem dX9_why_256 : decode cX9_why 256 = .ok (.getfield 57, 3) := by decide +kernel
theorem dX9_why_259 : decode cX9_why 259 = .ok (.bipush 20, 2) := by decide +kernel
theorem dX9_why_261 : decode cX9_why 261 = .ok (.iload_n 1, 1) := by decide +kernel
theorem dX9_why_262 : decode cX9_why 262 = .ok (.imul, 1) := by decide +kernel
theorem dX9_why_263 : decode cX9_why 263 = .ok (.iload 4, 2) := by decide +kernel
theorem dX9_why_265 : decode cX9_why 265 = .ok (.iadd, 1) := by decide +kernel
theorem dX9_why_266 : decode cX9_why 266 = .ok (.ldc2_w 189, 3) := by decide +kernel
theorem dX9_why_269 : decode cX9_why 269 = .ok (.lastore, 1) := by decide +kernel
theorem dX9_why_270 : decode cX9_why 270 = .ok (.bipush 40, 2) := by decide +kernel
theorem dX9_why_272 : decode cX9_why 272 = .ok (.iload_n 1, 1) := by decide +kernel
theorem dX9_why_273 : decode cX9_why 273 = .ok (.imul, 1) := by decide +kernel
theorem dX9_why_274 : decode cX9_why 274 = .ok (.istore 5, 2) := by decide +kernel
theorem dX9_why_276 : decode cX9_why 276 = .ok (.iload 5, 2) := by decide +kernel
theorem dX9_why_278 : decode cX9_why 278 = .ok (.bipush 40, 2) := by decide +kernel
theorem dX9_why_280 : decode cX9_why 280 = .ok (.iload_n 1, 1) := by decide +kernel
theorem dX9_why_281 : decode cX9_why 281 = .ok (.imul, 1) := by decide +kernel
theorem dX9_why_282 : decode cX9_why 282 = .ok (.aload_n 0, 1) := by decide +kernel
theorem dX9_why_283 : decode cX9_why 283 = .ok (.getfield 13, 3) := by decide +kernel
theorem dX9_why_286 : decode cX9_why 286 = .ok (.iload_n 1, 1) := by decide +kernel
theorem dX9_why_287 : decode cX9_why 287 = .ok (.iaload, 1) := by decide +kernel
theorem dX9_why_288 : decode cX9_why 288 = .ok (.iadd, 1) := by decide +kernel
theorem dX9_why_289 : decode cX9_why 289 = .ok (.if_icmp .ge 76, 3) := by decide +kernel
theorem dX9_why_292 : decode cX9_why 292 = .ok (.aload_n 0, 1) := by decide +kernel
theorem dX9_why_293 : decode cX9_why 293 = .ok (.getfield 35, 3) := by decide +kernel
theorem dX9_why_296 : decode cX9_why 296 = .ok (.iload 5, 2) := by decide +kernel
theorem dX9_why_298 : decode cX9_why 298 = .ok (.baload, 1) := by decide +kernel
theorem dX9_why_299 : decode cX9_why 299 = .ok (.ifCond .eq 60, 3) := by decide +kernel
theorem dX9_why_302 : decode cX9_why 302 = .ok (.aload_n 0, 1) := by decide +kernel
theorem dX9_why_303 : decode cX9_why 303 = .ok (.getfield 29, 3) := by decide +kernel
theorem dX9_why_306 : decode cX9_why 306 = .ok (.iload 5, 2) := by decide +kernel
theorem dX9_why_308 : decode cX9_why 308 = .ok (.iaload, 1) := by decide +kernel
theorem dX9_why_309 : decode cX9_why 309 = .ok (.iload 4, 2) := by decide +kernel
theorem dX9_why_311 : decode cX9_why 311 = .ok (.if_icmp .ne 48, 3) := by decide +kernel
theorem dX9_why_314 : decode cX9_why 314 = .ok (.aload_n 0, 1) := by decide +kernel
theorem dX9_why_315 : decode cX9_why 315 = .ok (.getfield 57, 3) := by decide +kernel
theorem dX9_why_318 : decode cX9_why 318 = .ok (.bipush 20, 2) := by decide +kernel
theorem dX9_why_320 : decode cX9_why 320 = .ok (.iload_n 1, 1) := by decide +kernel
theorem dX9_why_321 : decode cX9_why 321 = .ok (.imul, 1) := by decide +kernel
theorem dX9_why_322 : decode cX9_why 322 = .ok (.iload 4, 2) := by decide +kernel
theorem dX9_why_324 : decode cX9_why 324 = .ok (.iadd, 1) := by decide +kernel
theorem dX9_why_325 : decode cX9_why 325 = .ok (.laload, 1) := by decide +kernel
theorem dX9_why_326 : decode cX9_why 326 = .ok (.lconst 0, 1) := by decide +kernel
theorem dX9_why_327 : decode cX9_why 327 = .ok (.lcmp, 1) := by decide +kernel
theorem dX9_why_328 : decode cX9_why 328 = .ok (.ifCond .ge 31, 3) := by decide +kernel
theorem dX9_why_331 : decode cX9_why 331 = .ok (.aload_n 0, 1) := by decide +kernel
theorem dX9_why_332 : decode cX9_why 332 = .ok (.getfield 57, 3) := by decide +kernel
theorem dX9_why_335 : decode cX9_why 335 = .ok (.bipush 20, 2) := by decide +kernel
theorem dX9_why_337 : decode cX9_why 337 = .ok (.iload_n 1, 1) := by decide +kernel
theorem dX9_why_338 : decode cX9_why 338 = .ok (.imul, 1) := by decide +kernel
theorem dX9_why_339 : decode cX9_why 339 = .ok (.iload 4, 2) := by decide +kernel
theorem dX9_why_341 : decode cX9_why 341 = .ok (.iadd, 1) := by decide +kernel
theorem dX9_why_342 : decode cX9_why 342 = .ok (.lload_n 2, 1) := by decide +kernel
theorem dX9_why_343 : decode cX9_why 343 = .ok (.lastore, 1) := by decide +kernel
theorem dX9_why_344 : decode cX9_why 344 = .ok (.lload_n 2, 1) := by decide +kernel
theorem dX9_why_345 : decode cX9_why 345 = .ok (.aload_n 0, 1) := by decide +kernel
theorem dX9_why_346 : decode cX9_why 346 = .ok (.getfield 54, 3) := by decide +kernel
theorem dX9_why_349 : decode cX9_why 349 = .ok (.bipush 20, 2) := by decide +kernel
theorem dX9_why_351 : decode cX9_why 351 = .ok (.iload_n 1, 1) := by decide +kernel
theorem dX9_why_352 : decode cX9_why 352 = .ok (.imul, 1) := by decide +kernel
theorem dX9_why_353 : decode cX9_why 353 = .ok (.iload 4, 2) := by decide +kernel
theorem dX9_why_355 : decode cX9_why 355 = .ok (.iadd, 1) := by decide +kernel
theorem dX9_why_356 : decode cX9_why 356 = .ok (.laload, 1) := by decide +kernel
theorem dX9_why_357 : decode cX9_why 357 = .ok (.ladd, 1) := by decide +kernel
theorem dX9_why_358 : decode cX9_why 358 = .ok (.lstore_n 2, 1) := by decide +kernel
theorem dX9_why_359 : decode cX9_why 359 = .ok (.iinc 5 1, 3) := by decide +kernel
theorem dX9_why_362 : decode cX9_why 362 = .ok (.goto (-86), 3) := by decide +kernel
theorem dX9_why_365 : decode cX9_why 365 = .ok (.iinc 4 1, 3) := by decide +kernel
theorem dX9_why_368 : decode cX9_why 368 = .ok (.goto (-124), 3) := by decide +kernel
theorem dX9_why_371 : decode cX9_why 371 = .ok (.aload_n 0, 1) := by decide +kernel
theorem dX9_why_372 : decode cX9_why 372 = .ok (.getfield 51, 3) := by decide +kernel
theorem dX9_why_375 : decode cX9_why 375 = .ok (.iload_n 1, 1) := by decide +kernel
theorem dX9_why_376 : decode cX9_why 376 = .ok (.lload_n 2, 1) := by decide +kernel
theorem dX9_why_377 : decode cX9_why 377 = .ok (.lastore, 1) := by decide +kernel
theorem dX9_why_378 : decode cX9_why 378 = .ok (.lload_n 2, 1) := by decide +kernel
theorem dX9_why_379 : decode cX9_why 379 = .ok (.ldc2_w 191, 3) := by decide +kernel
theorem dX9_why_382 : decode cX9_why 382 = .ok (.lcmp, 1) := by decide +kernel
theorem dX9_why_383 : decode cX9_why 383 = .ok (.ifCond .le 8, 3) := by decide +kernel
theorem dX9_why_386 : decode cX9_why 386 = .ok (.bipush 6, 2) := by decide +kernel
theorem dX9_why_388 : decode cX9_why 388 = .ok (.goto 4, 3) := by decide +kernel
theorem dX9_why_391 : decode cX9_why 391 = .ok (.iconst 0, 1) := by decide +kernel
theorem dX9_why_392 : decode cX9_why 392 = .ok (.ireturn, 1) := by decide +kernel
def L_X9_why_13 (b1 : Int32) (k : Hp → Option (Int32 × Hp)) : Nat → Int32 → Hp → Option (Int32 × Hp)
  | 0, _, _ => none
  | n + 1, x2, H => gd b1 8 (if (gI H 0 1 (Int32.toNatClampNeg b1)) ≤ x2 then k H else bnd (f_X9_outs b1 x2 H) (fun w4 H3 => gd ((20 * b1) + x2) 160 (vl ((gI H3 0 4 (Int32.toNatClampNeg ((20 * b1) + x2)))) (fun (v5 : Int32) => if v5 = 1 then if w4 ≤ 1 then if ((0 : Int32) = 0 : Prop) then some (2, H3) else vl (x2 + (1 : Int32)) (fun (v23 : Int32) => L_X9_why_13 b1 k n v23 H3) else if ((1 : Int32) = 0 : Prop) then some (2, H3) else vl (x2 + (1 : Int32)) (fun (v25 : Int32) => L_X9_why_13 b1 k n v25 H3) else jn (fun (H8 : Hp) => if w4 = 1 then if ((1 : Int32) = 0 : Prop) then some (2, H8) else vl (x2 + (1 : Int32)) (fun (v13 : Int32) => L_X9_why_13 b1 k n v13 H8) else if ((0 : Int32) = 0 : Prop) then some (2, H8) else vl (x2 + (1 : Int32)) (fun (v11 : Int32) => L_X9_why_13 b1 k n v11 H8)) (fun j7 => if v5 = 0 then j7 H3 else if v5 = 2 then j7 H3 else if w4 = 0 then if ((1 : Int32) = 0 : Prop) then some (2, H3) else vl (x2 + (1 : Int32)) (fun (v20 : Int32) => L_X9_why_13 b1 k n v20 H3) else if ((0 : Int32) = 0 : Prop) then some (2, H3) else vl (x2 + (1 : Int32)) (fun (v18 : Int32) => L_X9_why_13 b1 k n v18 H3))))))
set_option maxRecDepth 100000 in
set_option maxHeartbeats 4000000 in
theorem sL_X9_why_13 {p : Program} {l : Launch} {e : Env} {s : State} {m : MethodId} {args : Array Value} {below : List Frame} {meth : Method} {c : Code} {A : Nat → Prop} {D : va_G} {K4 : kQ} {ad : Nat → Nat → Nat} {nr : Nat} {b1 : Int32} {k : Hp → Option (Int32 × Hp)} {res : Int32 × Hp} (hC : Cx p s m args c A s.heap D K4 6 RX9 cX9_why) (hret : meth.sig.returnType = (some .int) ∧ meth.locks = false) (hk : ∀ (H : Hp), k H = some res → V p l e ({ frames := 1, cells := 0, slots := 0, locals := 28 }) s m args below meth c A s.heap (QI below args s A D K4 ad nr res) D K4 ad nr 6 110 [(0, .ref (ad 0 0)), (1, .int b1)] [] H) : ∀ (n : Nat) (x2 : Int32) (H : Hp), L_X9_why_13 b1 k n x2 H = some res → V p l e ({ frames := 1, cells := 0, slots := 0, locals := 28 }) s m args below meth c A s.heap (QI below args s A D K4 ad nr res) D K4 ad nr 6 13 [(0, .ref (ad 0 0)), (1, .int b1), (2, .int x2)] [] H := by
  intro n
  induction n with
  | zero => intro x2 H h; exact nomatch (show (none : Option (Int32 × Hp)) = some res from h)
  | succ n ih =>
    intro x2 H h
    rw [L_X9_why_13] at h
    refine V_iload_n hC 2 dX9_why_13 rfl ?_
    refine V_aload_n hC 0 dX9_why_14 rfl ?_
    refine V_getR (g := 0) (k := 0) (g' := 0) (k' := 1) hC 9 1 fl_X9_7 rfl rfl rfl rfl dX9_why_15 ?_
    refine V_iload_n hC 1 dX9_why_18 rfl ?_
    obtain ⟨hi, h⟩ := gd_some h
    refine V_iald (g := 0) (k := 1) hC rfl rfl hi dX9_why_19 ?_
    refine V_icmp_ge (tgt := 110) hC dX9_why_20 (by decide) (fun c2 => ?_) (fun c2 => ?_)
    · have h := it_pos c2 h
      refine V_lv (lv' := [(0, .ref (ad 0 0)), (1, .int b1)]) [0, 1] rfl ?_
      exact hk H h
    · have h := it_neg c2 h
      refine V_aload_n hC 0 dX9_why_23 rfl ?_
      refine V_iload_n hC 1 dX9_why_24 rfl ?_
      refine V_iload_n hC 2 dX9_why_25 rfl ?_
      obtain ⟨w4, H3, hc, h⟩ := bnd_some h
      refine V_calli (g := 0) (k := 0) (As := [.int b1, .int x2]) (st := []) hC (c_X9_outs l hc) rfl ml_X9_172 ⟨Nat.le_of_ble_eq_true rfl, Nat.le_of_ble_eq_true rfl⟩ rfl rfl rfl (Nat.le_of_ble_eq_true rfl) dX9_why_26 ?_
      refine V_istore_n (lv' := [(3, .int w4), (0, .ref (ad 0 0)), (1, .int b1), (2, .int x2)]) hC dX9_why_29 (Nat.le_of_ble_eq_true rfl) rfl ?_
      refine V_aload_n hC 1 dX9_why_30 rfl ?_
      refine V_getR (g := 0) (k := 0) (g' := 0) (k' := 4) hC 9 4 fl_X9_20 rfl rfl rfl rfl dX9_why_31 ?_
      refine V_bipush (v := 20) hC dX9_why_34 (by decide) ?_
      refine V_iload_n hC 2 dX9_why_36 rfl ?_
      refine V_imul hC dX9_why_37 ?_
      refine V_iload_n hC 3 dX9_why_38 rfl ?_
      refine V_iadd hC dX9_why_39 ?_
      obtain ⟨hi, h⟩ := gd_some h
      refine V_iald (g := 0) (k := 4) hC rfl rfl hi dX9_why_40 ?_
      refine V_vlI h (fun v5 h => ?_)
      refine V_istore (lv' := [(4, .int v5), (3, .int w4), (0, .ref (ad 0 0)), (1, .int b1), (2, .int x2)]) hC dX9_why_41 (Nat.le_of_ble_eq_true rfl) rfl ?_
      refine V_iload hC 0 dX9_why_43 rfl ?_
      refine V_iconst (v := 1) hC dX9_why_45 (by decide) ?_
      refine V_icmp_ne (tgt := 62) hC dX9_why_46 (by decide) (fun c6 => ?_) (fun c6 => ?_)
      · have h := it_neg c6 h
        refine V_iload hC 0 dX9_why_62 rfl ?_
        refine V_jn0 (pj := 73) (lj := [(0, .ref (ad 0 0)), (1, .int b1), (2, .int x2), (3, .int w4)]) (sj := []) h (fun H8 h => ?_) (fun hj7 h => ?_)
        · refine V_iload_n hC 3 dX9_why_73 rfl ?_
          refine V_iconst (v := 1) hC dX9_why_74 (by decide) ?_
          refine V_icmp_ne (tgt := 82) hC dX9_why_75 (by decide) (fun c9 => ?_) (fun c9 => ?_)
          · have h := it_neg c9 h
            refine V_iconst (v := 0) hC dX9_why_82 (by decide) ?_
            refine V_goto (tgt := 95) hC dX9_why_83 (by decide) ?_
            refine V_istore (lv' := [(5, .int 0), (0, .ref (ad 0 0)), (1, .int b1), (2, .int x2), (3, .int w4)]) hC dX9_why_95 (Nat.le_of_ble_eq_true rfl) rfl ?_
            refine V_iload hC 0 dX9_why_97 rfl ?_
            refine V_if_ne (tgt := 104) hC dX9_why_99 (by decide) (fun c10 => ?_) (fun c10 => ?_)
            · have h := it_neg c10 h
              refine V_vi h (fun v11 hvv11 h => ?_)
              refine V_iinc (v := v11) (lv' := [(2, .int v11), (5, .int 0), (0, .ref (ad 0 0)), (1, .int b1), (3, .int w4)]) hC 3 dX9_why_104 rfl hvv11.symm (Nat.le_of_ble_eq_true rfl) rfl ?_
              refine V_goto (tgt := 13) hC dX9_why_107 (by decide) ?_
              refine V_lv (lv' := [(0, .ref (ad 0 0)), (1, .int b1), (2, .int v11)]) [2, 3, 0] rfl ?_
              exact ih v11 H8 h
            · have h := it_pos c10 h
              refine V_iconst (v := 2) hC dX9_why_102 (by decide) ?_
              exact V_iret hC hret dX9_why_103 h
          · have h := it_pos c9 h
            refine V_iconst (v := 1) hC dX9_why_78 (by decide) ?_
            refine V_goto (tgt := 95) hC dX9_why_79 (by decide) ?_
            refine V_istore (lv' := [(5, .int 1), (0, .ref (ad 0 0)), (1, .int b1), (2, .int x2), (3, .int w4)]) hC dX9_why_95 (Nat.le_of_ble_eq_true rfl) rfl ?_
            refine V_iload hC 0 dX9_why_97 rfl ?_
            refine V_if_ne (tgt := 104) hC dX9_why_99 (by decide) (fun c12 => ?_) (fun c12 => ?_)
            · have h := it_neg c12 h
              refine V_vi h (fun v13 hvv13 h => ?_)
              refine V_iinc (v := v13) (lv' := [(2, .int v13), (5, .int 1), (0, .ref (ad 0 0)), (1, .int b1), (3, .int w4)]) hC 3 dX9_why_104 rfl hvv13.symm (Nat.le_of_ble_eq_true rfl) rfl ?_
              refine V_goto (tgt := 13) hC dX9_why_107 (by decide) ?_
              refine V_lv (lv' := [(0, .ref (ad 0 0)), (1, .int b1), (2, .int v13)]) [2, 3, 0] rfl ?_
              exact ih v13 H8 h
            · have h := it_pos c12 h
              refine V_iconst (v := 2) hC dX9_why_102 (by decide) ?_
              exact V_iret hC hret dX9_why_103 h
        · refine V_if_eq (tgt := 73) hC dX9_why_64 (by decide) (fun c14 => ?_) (fun c14 => ?_)
          · have h := it_pos c14 h
            refine V_lv (lv' := [(0, .ref (ad 0 0)), (1, .int b1), (2, .int x2), (3, .int w4)]) [2, 3, 4, 1] rfl ?_
            exact hj7 H3 h
          · have h := it_neg c14 h
            refine V_iload hC 0 dX9_why_67 rfl ?_
            refine V_iconst (v := 2) hC dX9_why_69 (by decide) ?_
            refine V_icmp_ne (tgt := 86) hC dX9_why_70 (by decide) (fun c15 => ?_) (fun c15 => ?_)
            · have h := it_neg c15 h
              refine V_iload_n hC 1 dX9_why_86 rfl ?_
              refine V_if_ne (tgt := 94) hC dX9_why_87 (by decide) (fun c16 => ?_) (fun c16 => ?_)
              · have h := it_neg c16 h
                refine V_iconst (v := 0) hC dX9_why_94 (by decide) ?_
                refine V_istore (lv' := [(5, .int 0), (4, .int v5), (3, .int w4), (0, .ref (ad 0 0)), (1, .int b1), (2, .int x2)]) hC dX9_why_95 (Nat.le_of_ble_eq_true rfl) rfl ?_
                refine V_iload hC 0 dX9_why_97 rfl ?_
                refine V_if_ne (tgt := 104) hC dX9_why_99 (by decide) (fun c17 => ?_) (fun c17 => ?_)
                · have h := it_neg c17 h
                  refine V_vi h (fun v18 hvv18 h => ?_)
                  refine V_iinc (v := v18) (lv' := [(2, .int v18), (5, .int 0), (4, .int v5), (3, .int w4), (0, .ref (ad 0 0)), (1, .int b1)]) hC 5 dX9_why_104 rfl hvv18.symm (Nat.le_of_ble_eq_true rfl) rfl ?_
                  refine V_goto (tgt := 13) hC dX9_why_107 (by decide) ?_
                  refine V_lv (lv' := [(0, .ref (ad 0 0)), (1, .int b1), (2, .int v18)]) [4, 5, 0] rfl ?_
                  exact ih v18 H3 h
                · have h := it_pos c17 h
                  refine V_iconst (v := 2) hC dX9_why_102 (by decide) ?_
                  exact V_iret hC hret dX9_why_103 h
              · have h := it_pos c16 h
                refine V_iconst (v := 1) hC dX9_why_90 (by decide) ?_
                refine V_goto (tgt := 95) hC dX9_why_91 (by decide) ?_
                refine V_istore (lv' := [(5, .int 1), (4, .int v5), (3, .int w4), (0, .ref (ad 0 0)), (1, .int b1), (2, .int x2)]) hC dX9_why_95 (Nat.le_of_ble_eq_true rfl) rfl ?_
                refine V_iload hC 0 dX9_why_97 rfl ?_
                refine V_if_ne (tgt := 104) hC dX9_why_99 (by decide) (fun c19 => ?_) (fun c19 => ?_)
                · have h := it_neg c19 h
                  refine V_vi h (fun v20 hvv20 h => ?_)
                  refine V_iinc (v := v20) (lv' := [(2, .int v20), (5, .int 1), (4, .int v5), (3, .int w4), (0, .ref (ad 0 0)), (1, .int b1)]) hC 5 dX9_why_104 rfl hvv20.symm (Nat.le_of_ble_eq_true rfl) rfl ?_
                  refine V_goto (tgt := 13) hC dX9_why_107 (by decide) ?_
                  refine V_lv (lv' := [(0, .ref (ad 0 0)), (1, .int b1), (2, .int v20)]) [4, 5, 0] rfl ?_
                  exact ih v20 H3 h
                · have h := it_pos c19 h
                  refine V_iconst (v := 2) hC dX9_why_102 (by decide) ?_
                  exact V_iret hC hret dX9_why_103 h
            · have h := it_pos c15 h
              refine V_lv (lv' := [(0, .ref (ad 0 0)), (1, .int b1), (2, .int x2), (3, .int w4)]) [2, 3, 4, 1] rfl ?_
              exact hj7 H3 h
      · have h := it_pos c6 h
        refine V_iload_n hC 1 dX9_why_49 rfl ?_
        refine V_iconst (v := 1) hC dX9_why_50 (by decide) ?_
        refine V_icmp_le (tgt := 58) hC dX9_why_51 (by decide) (fun c21 => ?_) (fun c21 => ?_)
        · have h := it_pos c21 h
          refine V_iconst (v := 0) hC dX9_why_58 (by decide) ?_
          refine V_goto (tgt := 95) hC dX9_why_59 (by decide) ?_
          refine V_istore (lv' := [(5, .int 0), (4, .int v5), (3, .int w4), (0, .ref (ad 0 0)), (1, .int b1), (2, .int x2)]) hC dX9_why_95 (Nat.le_of_ble_eq_true rfl) rfl ?_
          refine V_iload hC 0 dX9_why_97 rfl ?_
          refine V_if_ne (tgt := 104) hC dX9_why_99 (by decide) (fun c22 => ?_) (fun c22 => ?_)
          · have h := it_neg c22 h
            refine V_vi h (fun v23 hvv23 h => ?_)
            refine V_iinc (v := v23) (lv' := [(2, .int v23), (5, .int 0), (4, .int v5), (3, .int w4), (0, .ref (ad 0 0)), (1, .int b1)]) hC 5 dX9_why_104 rfl hvv23.symm (Nat.le_of_ble_eq_true rfl) rfl ?_
            refine V_goto (tgt := 13) hC dX9_why_107 (by decide) ?_
            refine V_lv (lv' := [(0, .ref (ad 0 0)), (1, .int b1), (2, .int v23)]) [4, 5, 0] rfl ?_
            exact ih v23 H3 h
          · have h := it_pos c22 h
            refine V_iconst (v := 2) hC dX9_why_102 (by decide) ?_
            exact V_iret hC hret dX9_why_103 h
        · have h := it_neg c21 h
          refine V_iconst (v := 1) hC dX9_why_54 (by decide) ?_
          refine V_goto (tgt := 95) hC dX9_why_55 (by decide) ?_
          refine V_istore (lv' := [(5, .int 1), (4, .int v5), (3, .int w4), (0, .ref (ad 0 0)), (1, .int b1), (2, .int x2)]) hC dX9_why_95 (Nat.le_of_ble_eq_true rfl) rfl ?_
          refine V_iload hC 0 dX9_why_97 rfl ?_
          refine V_if_ne (tgt := 104) hC dX9_why_99 (by decide) (fun c24 => ?_) (fun c24 => ?_)
          · have h := it_neg c24 h
            refine V_vi h (fun v25 hvv25 h => ?_)
            refine V_iinc (v := v25) (lv' := [(2, .int v25), (5, .int 1), (4, .int v5), (3, .int w4), (0, .ref (ad 0 0)), (1, .int b1)]) hC 5 dX9_why_104 rfl hvv25.symm (Nat.le_of_ble_eq_true rfl) rfl ?_
            refine V_goto (tgt := 13) hC dX9_why_107 (by decide) ?_
            refine V_lv (lv' := [(0, .ref (ad 0 0)), (1, .int b1), (2, .int v25)]) [4, 5, 0] rfl ?_
            exact ih v25 H3 h
          · have h := it_pos c24 h
            refine V_iconst (v := 2) hC dX9_why_102 (by decide) ?_
            exact V_iret hC hret dX9_why_103 h
def L_X9_why_112 (b1 : Int32) (k : Hp → Option (Int32 × Hp)) : Nat → Int32 → Hp → Option (Int32 × Hp)
  | 0, _, _ => none
  | n + 1, x2, H => if 21 ≤ x2 then k H else if x2 = 0 then gd x2 21 (hl (sI H 0 35 (Int32.toNatClampNeg x2) (vp_nar .boolean 1)) (fun (H31 : Hp) => vl (x2 + (1 : Int32)) (fun (v32 : Int32) => L_X9_why_112 b1 k n v32 H31))) else gd x2 21 (hl (sI H 0 35 (Int32.toNatClampNeg x2) (vp_nar .boolean 0)) (fun (H29 : Hp) => vl (x2 + (1 : Int32)) (fun (v30 : Int32) => L_X9_why_112 b1 k n v30 H29)))
set_option maxRecDepth 100000 in
set_option maxHeartbeats 4000000 in
theorem sL_X9_why_112 {p : Program} {l : Launch} {e : Env} {s : State} {m : MethodId} {args : Array Value} {below : List Frame} {meth : Method} {c : Code} {A : Nat → Prop} {D : va_G} {K4 : kQ} {ad : Nat → Nat → Nat} {nr : Nat} {b1 : Int32} {k : Hp → Option (Int32 × Hp)} {res : Int32 × Hp} (hC : Cx p s m args c A s.heap D K4 6 RX9 cX9_why) (hret : meth.sig.returnType = (some .int) ∧ meth.locks = false) (hk : ∀ (H : Hp), k H = some res → V p l e ({ frames := 1, cells := 0, slots := 0, locals := 28 }) s m args below meth c A s.heap (QI below args s A D K4 ad nr res) D K4 ad nr 6 139 [(0, .ref (ad 0 0)), (1, .int b1)] [] H) : ∀ (n : Nat) (x2 : Int32) (H : Hp), L_X9_why_112 b1 k n x2 H = some res → V p l e ({ frames := 1, cells := 0, slots := 0, locals := 28 }) s m args below meth c A s.heap (QI below args s A D K4 ad nr res) D K4 ad nr 6 112 [(0, .ref (ad 0 0)), (1, .int b1), (2, .int x2)] [] H := by
  intro n
  induction n with
  | zero => intro x2 H h; exact nomatch (show (none : Option (Int32 × Hp)) = some res from h)
  | succ n ih =>
    intro x2 H h
    rw [L_X9_why_112] at h
    refine V_iload_n hC 2 dX9_why_112 rfl ?_
    refine V_bipush (v := 21) hC dX9_why_113 (by decide) ?_
    refine V_icmp_ge (tgt := 139) hC dX9_why_115 (by decide) (fun c27 => ?_) (fun c27 => ?_)
    · have h := it_pos c27 h
      refine V_lv (lv' := [(0, .ref (ad 0 0)), (1, .int b1)]) [0, 1] rfl ?_
      exact hk H h
    · have h := it_neg c27 h
      refine V_aload_n hC 0 dX9_why_118 rfl ?_
      refine V_getR (g := 0) (k := 0) (g' := 0) (k' := 35) hC 9 35 fl_X9_99 rfl rfl rfl rfl dX9_why_119 ?_
      refine V_iload_n hC 2 dX9_why_122 rfl ?_
      refine V_iload_n hC 2 dX9_why_123 rfl ?_
      refine V_if_ne (tgt := 131) hC dX9_why_124 (by decide) (fun c28 => ?_) (fun c28 => ?_)
      · have h := it_neg c28 h
        refine V_iconst (v := 0) hC dX9_why_131 (by decide) ?_
        obtain ⟨hi, h⟩ := gd_some h
        refine V_zast (g := 0) (k := 35) hC rfl rfl hi dX9_why_132 ?_
        refine V_hl h (fun H29 h => ?_)
        refine V_vi h (fun v30 hvv30 h => ?_)
        refine V_iinc (v := v30) (lv' := [(2, .int v30), (0, .ref (ad 0 0)), (1, .int b1)]) hC 2 dX9_why_133 rfl hvv30.symm (Nat.le_of_ble_eq_true rfl) rfl ?_
        refine V_goto (tgt := 112) hC dX9_why_136 (by decide) ?_
        refine V_lv (lv' := [(0, .ref (ad 0 0)), (1, .int b1), (2, .int v30)]) [1, 2, 0] rfl ?_
        exact ih v30 H29 h
      · have h := it_pos c28 h
        refine V_iconst (v := 1) hC dX9_why_127 (by decide) ?_
        refine V_goto (tgt := 132) hC dX9_why_128 (by decide) ?_
        obtain ⟨hi, h⟩ := gd_some h
        refine V_zast (g := 0) (k := 35) hC rfl rfl hi dX9_why_132 ?_
        refine V_hl h (fun H31 h => ?_)
        refine V_vi h (fun v32 hvv32 h => ?_)
        refine V_iinc (v := v32) (lv' := [(2, .int v32), (0, .ref (ad 0 0)), (1, .int b1)]) hC 2 dX9_why_133 rfl hvv32.symm (Nat.le_of_ble_eq_true rfl) rfl ?_
        refine V_goto (tgt := 112) hC dX9_why_136 (by decide) ?_
        refine V_lv (lv' := [(0, .ref (ad 0 0)), (1, .int b1), (2, .int v32)]) [1, 2, 0] rfl ?_
        exact ih v32 H31 h
def L_X9_why_157 (b1 : Int32) (k : Hp → Option (Int32 × Hp)) : Nat → Int32 → Hp → Option (Int32 × Hp)
  | 0, _, _ => none
  | n + 1, x2, H => if 21 ≤ x2 then k H else gd b1 8 (if (gI H 0 1 (Int32.toNatClampNeg b1)) ≤ x2 then gd x2 21 (hl (sI H 0 35 (Int32.toNatClampNeg x2) (vp_nar .boolean 0)) (fun (H41 : Hp) => vl (x2 + (1 : Int32)) (fun (v42 : Int32) => L_X9_why_157 b1 k n v42 H41))) else gd ((20 * b1) + x2) 160 (if (gI H 0 4 (Int32.toNatClampNeg ((20 * b1) + x2))) < 3 then gd x2 21 (hl (sI H 0 35 (Int32.toNatClampNeg x2) (vp_nar .boolean 0)) (fun (H44 : Hp) => vl (x2 + (1 : Int32)) (fun (v45 : Int32) => L_X9_why_157 b1 k n v45 H44))) else gd x2 21 (hl (sI H 0 35 (Int32.toNatClampNeg x2) (vp_nar .boolean 1)) (fun (H46 : Hp) => vl (x2 + (1 : Int32)) (fun (v47 : Int32) => L_X9_why_157 b1 k n v47 H46)))))
set_option maxRecDepth 100000 in
set_option maxHeartbeats 4000000 in
theorem sL_X9_why_157 {p : Program} {l : Launch} {e : Env} {s : State} {m : MethodId} {args : Array Value} {below : List Frame} {meth : Method} {c : Code} {A : Nat → Prop} {D : va_G} {K4 : kQ} {ad : Nat → Nat → Nat} {nr : Nat} {b1 : Int32} {k : Hp → Option (Int32 × Hp)} {res : Int32 × Hp} (hC : Cx p s m args c A s.heap D K4 6 RX9 cX9_why) (hret : meth.sig.returnType = (some .int) ∧ meth.locks = false) (hk : ∀ (H : Hp), k H = some res → V p l e ({ frames := 1, cells := 0, slots := 0, locals := 28 }) s m args below meth c A s.heap (QI below args s A D K4 ad nr res) D K4 ad nr 6 205 [(0, .ref (ad 0 0)), (1, .int b1)] [] H) : ∀ (n : Nat) (x2 : Int32) (H : Hp), L_X9_why_157 b1 k n x2 H = some res → V p l e ({ frames := 1, cells := 0, slots := 0, locals := 28 }) s m args below meth c A s.heap (QI below args s A D K4 ad nr res) D K4 ad nr 6 157 [(0, .ref (ad 0 0)), (1, .int b1), (2, .int x2)] [] H := by
  intro n
  induction n with
  | zero => intro x2 H h; exact nomatch (show (none : Option (Int32 × Hp)) = some res from h)
  | succ n ih =>
    intro x2 H h
    rw [L_X9_why_157] at h
    refine V_iload_n hC 2 dX9_why_157 rfl ?_
    refine V_bipush (v := 21) hC dX9_why_158 (by decide) ?_
    refine V_icmp_ge (tgt := 205) hC dX9_why_160 (by decide) (fun c39 => ?_) (fun c39 => ?_)
    · have h := it_pos c39 h
      refine V_lv (lv' := [(0, .ref (ad 0 0)), (1, .int b1)]) [0, 1] rfl ?_
      exact hk H h
    · have h := it_neg c39 h
      refine V_aload_n hC 0 dX9_why_163 rfl ?_
      refine V_getR (g := 0) (k := 0) (g' := 0) (k' := 35) hC 9 35 fl_X9_99 rfl rfl rfl rfl dX9_why_164 ?_
      refine V_iload_n hC 2 dX9_why_167 rfl ?_
      refine V_iload_n hC 2 dX9_why_168 rfl ?_
      refine V_aload_n hC 0 dX9_why_169 rfl ?_
      refine V_getR (g := 0) (k := 0) (g' := 0) (k' := 1) hC 9 1 fl_X9_7 rfl rfl rfl rfl dX9_why_170 ?_
      refine V_iload_n hC 1 dX9_why_173 rfl ?_
      obtain ⟨hi, h⟩ := gd_some h
      refine V_iald (g := 0) (k := 1) hC rfl rfl hi dX9_why_174 ?_
      refine V_icmp_ge (tgt := 197) hC dX9_why_175 (by decide) (fun c40 => ?_) (fun c40 => ?_)
      · have h := it_pos c40 h
        refine V_iconst (v := 0) hC dX9_why_197 (by decide) ?_
        obtain ⟨hi, h⟩ := gd_some h
        refine V_zast (g := 0) (k := 35) hC rfl rfl hi dX9_why_198 ?_
        refine V_hl h (fun H41 h => ?_)
        refine V_vi h (fun v42 hvv42 h => ?_)
        refine V_iinc (v := v42) (lv' := [(2, .int v42), (0, .ref (ad 0 0)), (1, .int b1)]) hC 2 dX9_why_199 rfl hvv42.symm (Nat.le_of_ble_eq_true rfl) rfl ?_
        refine V_goto (tgt := 157) hC dX9_why_202 (by decide) ?_
        refine V_lv (lv' := [(0, .ref (ad 0 0)), (1, .int b1), (2, .int v42)]) [1, 2, 0] rfl ?_
        exact ih v42 H41 h
      · have h := it_neg c40 h
        refine V_aload_n hC 0 dX9_why_178 rfl ?_
        refine V_getR (g := 0) (k := 0) (g' := 0) (k' := 4) hC 9 4 fl_X9_20 rfl rfl rfl rfl dX9_why_179 ?_
        refine V_bipush (v := 20) hC dX9_why_182 (by decide) ?_
        refine V_iload_n hC 1 dX9_why_184 rfl ?_
        refine V_imul hC dX9_why_185 ?_
        refine V_iload_n hC 2 dX9_why_186 rfl ?_
        refine V_iadd hC dX9_why_187 ?_
        obtain ⟨hi, h⟩ := gd_some h
        refine V_iald (g := 0) (k := 4) hC rfl rfl hi dX9_why_188 ?_
        refine V_iconst (v := 3) hC dX9_why_189 (by decide) ?_
        refine V_icmp_lt (tgt := 197) hC dX9_why_190 (by decide) (fun c43 => ?_) (fun c43 => ?_)
        · have h := it_pos c43 h
          refine V_iconst (v := 0) hC dX9_why_197 (by decide) ?_
          obtain ⟨hi, h⟩ := gd_some h
          refine V_zast (g := 0) (k := 35) hC rfl rfl hi dX9_why_198 ?_
          refine V_hl h (fun H44 h => ?_)
          refine V_vi h (fun v45 hvv45 h => ?_)
          refine V_iinc (v := v45) (lv' := [(2, .int v45), (0, .ref (ad 0 0)), (1, .int b1)]) hC 2 dX9_why_199 rfl hvv45.symm (Nat.le_of_ble_eq_true rfl) rfl ?_
          refine V_goto (tgt := 157) hC dX9_why_202 (by decide) ?_
          refine V_lv (lv' := [(0, .ref (ad 0 0)), (1, .int b1), (2, .int v45)]) [1, 2, 0] rfl ?_
          exact ih v45 H44 h
        · have h := it_neg c43 h
          refine V_iconst (v := 1) hC dX9_why_193 (by decide) ?_
          refine V_goto (tgt := 198) hC dX9_why_194 (by decide) ?_
          obtain ⟨hi, h⟩ := gd_some h
          refine V_zast (g := 0) (k := 35) hC rfl rfl hi dX9_why_198 ?_
          refine V_hl h (fun H46 h => ?_)
          refine V_vi h (fun v47 hvv47 h => ?_)
          refine V_iinc (v := v47) (lv' := [(2, .int v47), (0, .ref (ad 0 0)), (1, .int b1)]) hC 2 dX9_why_199 rfl hvv47.symm (Nat.le_of_ble_eq_true rfl) rfl ?_
          refine V_goto (tgt := 157) hC dX9_why_202 (by decide) ?_
          refine V_lv (lv' := [(0, .ref (ad 0 0)), (1, .int b1), (2, .int v47)]) [1, 2, 0] rfl ?_
          exact ih v47 H46 h
def L_X9_why_276 (b1 : Int32) (b4 : Int32) (k : Int64 → Hp → Option (Int32 × Hp)) : Nat → Int64 → Int32 → Hp → Option (Int32 × Hp)
  | 0, _, _, _ => none
  | n + 1, x2, x5, H => gd b1 8 (if ((40 * b1) + (gI H 0 2 (Int32.toNatClampNeg b1))) ≤ x5 then k x2 H else gd x5 320 (if (gI H 0 9 (Int32.toNatClampNeg x5)) = 0 then vl (x5 + (1 : Int32)) (fun (v63 : Int32) => L_X9_why_276 b1 b4 k n x2 v63 H) else gd x5 320 (if (gI H 0 7 (Int32.toNatClampNeg x5)) = b4 then gd ((20 * b1) + b4) 160 (if 0 ≤ (lg_cmp (gJ H 0 16 (Int32.toNatClampNeg ((20 * b1) + b4))) 0) then vl (x5 + (1 : Int32)) (fun (v67 : Int32) => L_X9_why_276 b1 b4 k n x2 v67 H) else gd ((20 * b1) + b4) 160 (hl (sJ H 0 16 (Int32.toNatClampNeg ((20 * b1) + b4)) x2) (fun (H68 : Hp) => gd ((20 * b1) + b4) 160 (vl ((x2 + (gJ H68 0 15 (Int32.toNatClampNeg ((20 * b1) + b4))))) (fun (v69 : Int64) => vl (x5 + (1 : Int32)) (fun (v70 : Int32) => L_X9_why_276 b1 b4 k n v69 v70 H68)))))) else vl (x5 + (1 : Int32)) (fun (v65 : Int32) => L_X9_why_276 b1 b4 k n x2 v65 H))))
set_option maxRecDepth 100000 in
set_option maxHeartbeats 4000000 in
theorem sL_X9_why_276 {p : Program} {l : Launch} {e : Env} {s : State} {m : MethodId} {args : Array Value} {below : List Frame} {meth : Method} {c : Code} {A : Nat → Prop} {D : va_G} {K4 : kQ} {ad : Nat → Nat → Nat} {nr : Nat} {b1 : Int32} {b4 : Int32} {k : Int64 → Hp → Option (Int32 × Hp)} {res : Int32 × Hp} (hC : Cx p s m args c A s.heap D K4 6 RX9 cX9_why) (hret : meth.sig.returnType = (some .int) ∧ meth.locks = false) (hk : ∀ (z2 : Int64) (H : Hp), k z2 H = some res → V p l e ({ frames := 1, cells := 0, slots := 0, locals := 28 }) s m args below meth c A s.heap (QI below args s A D K4 ad nr res) D K4 ad nr 6 365 [(0, .ref (ad 0 0)), (1, .int b1), (2, .long z2), (4, .int b4)] [] H) : ∀ (n : Nat) (x2 : Int64) (x5 : Int32) (H : Hp), L_X9_why_276 b1 b4 k n x2 x5 H = some res → V p l e ({ frames := 1, cells := 0, slots := 0, locals := 28 }) s m args below meth c A s.heap (QI below args s A D K4 ad nr res) D K4 ad nr 6 276 [(0, .ref (ad 0 0)), (1, .int b1), (2, .long x2), (4, .int b4), (5, .int x5)] [] H := by
  intro n
  induction n with
  | zero => intro x2 x5 H h; exact nomatch (show (none : Option (Int32 × Hp)) = some res from h)
  | succ n ih =>
    intro x2 x5 H h
    rw [L_X9_why_276] at h
    refine V_iload hC 4 dX9_why_276 rfl ?_
    refine V_bipush (v := 40) hC dX9_why_278 (by decide) ?_
    refine V_iload_n hC 1 dX9_why_280 rfl ?_
    refine V_imul hC dX9_why_281 ?_
    refine V_aload_n hC 0 dX9_why_282 rfl ?_
    refine V_getR (g := 0) (k := 0) (g' := 0) (k' := 2) hC 9 2 fl_X9_13 rfl rfl rfl rfl dX9_why_283 ?_
    refine V_iload_n hC 1 dX9_why_286 rfl ?_
    obtain ⟨hi, h⟩ := gd_some h
    refine V_iald (g := 0) (k := 2) hC rfl rfl hi dX9_why_287 ?_
    refine V_iadd hC dX9_why_288 ?_
    refine V_icmp_ge (tgt := 365) hC dX9_why_289 (by decide) (fun c61 => ?_) (fun c61 => ?_)
    · have h := it_pos c61 h
      refine V_lv (lv' := [(0, .ref (ad 0 0)), (1, .int b1), (2, .long x2), (4, .int b4)]) [0, 1, 2, 3] rfl ?_
      exact hk x2 H h
    · have h := it_neg c61 h
      refine V_aload_n hC 0 dX9_why_292 rfl ?_
      refine V_getR (g := 0) (k := 0) (g' := 0) (k' := 9) hC 9 9 fl_X9_35 rfl rfl rfl rfl dX9_why_293 ?_
      refine V_iload hC 4 dX9_why_296 rfl ?_
      obtain ⟨hi, h⟩ := gd_some h
      refine V_zald (g := 0) (k := 9) hC rfl rfl hi dX9_why_298 ?_
      refine V_if_eq (tgt := 359) hC dX9_why_299 (by decide) (fun c62 => ?_) (fun c62 => ?_)
      · have h := it_pos c62 h
        refine V_vi h (fun v63 hvv63 h => ?_)
        refine V_iinc (v := v63) (lv' := [(5, .int v63), (0, .ref (ad 0 0)), (1, .int b1), (2, .long x2), (4, .int b4)]) hC 4 dX9_why_359 rfl hvv63.symm (Nat.le_of_ble_eq_true rfl) rfl ?_
        refine V_goto (tgt := 276) hC dX9_why_362 (by decide) ?_
        refine V_lv (lv' := [(0, .ref (ad 0 0)), (1, .int b1), (2, .long x2), (4, .int b4), (5, .int v63)]) [1, 2, 3, 4, 0] rfl ?_
        exact ih x2 v63 H h
      · have h := it_neg c62 h
        refine V_aload_n hC 0 dX9_why_302 rfl ?_
        refine V_getR (g := 0) (k := 0) (g' := 0) (k' := 7) hC 9 7 fl_X9_29 rfl rfl rfl rfl dX9_why_303 ?_
        refine V_iload hC 4 dX9_why_306 rfl ?_
        obtain ⟨hi, h⟩ := gd_some h
        refine V_iald (g := 0) (k := 7) hC rfl rfl hi dX9_why_308 ?_
        refine V_iload hC 3 dX9_why_309 rfl ?_
        refine V_icmp_ne (tgt := 359) hC dX9_why_311 (by decide) (fun c64 => ?_) (fun c64 => ?_)
        · have h := it_neg c64 h
          refine V_vi h (fun v65 hvv65 h => ?_)
          refine V_iinc (v := v65) (lv' := [(5, .int v65), (0, .ref (ad 0 0)), (1, .int b1), (2, .long x2), (4, .int b4)]) hC 4 dX9_why_359 rfl hvv65.symm (Nat.le_of_ble_eq_true rfl) rfl ?_
          refine V_goto (tgt := 276) hC dX9_why_362 (by decide) ?_
          refine V_lv (lv' := [(0, .ref (ad 0 0)), (1, .int b1), (2, .long x2), (4, .int b4), (5, .int v65)]) [1, 2, 3, 4, 0] rfl ?_
          exact ih x2 v65 H h
        · have h := it_pos c64 h
          refine V_aload_n hC 0 dX9_why_314 rfl ?_
          refine V_getR (g := 0) (k := 0) (g' := 0) (k' := 16) hC 9 16 fl_X9_57 rfl rfl rfl rfl dX9_why_315 ?_
          refine V_bipush (v := 20) hC dX9_why_318 (by decide) ?_
          refine V_iload_n hC 1 dX9_why_320 rfl ?_
          refine V_imul hC dX9_why_321 ?_
          refine V_iload hC 3 dX9_why_322 rfl ?_
          refine V_iadd hC dX9_why_324 ?_
          obtain ⟨hi, h⟩ := gd_some h
          refine V_lald (g := 0) (k := 16) hC rfl rfl hi dX9_why_325 ?_
          refine V_lconst (v := 0) hC dX9_why_326 (by decide) ?_
          refine V_lcmp hC dX9_why_327 ?_
          refine V_if_ge (tgt := 359) hC dX9_why_328 (by decide) (fun c66 => ?_) (fun c66 => ?_)
          · have h := it_pos c66 h
            refine V_vi h (fun v67 hvv67 h => ?_)
            refine V_iinc (v := v67) (lv' := [(5, .int v67), (0, .ref (ad 0 0)), (1, .int b1), (2, .long x2), (4, .int b4)]) hC 4 dX9_why_359 rfl hvv67.symm (Nat.le_of_ble_eq_true rfl) rfl ?_
            refine V_goto (tgt := 276) hC dX9_why_362 (by decide) ?_
            refine V_lv (lv' := [(0, .ref (ad 0 0)), (1, .int b1), (2, .long x2), (4, .int b4), (5, .int v67)]) [1, 2, 3, 4, 0] rfl ?_
            exact ih x2 v67 H h
          · have h := it_neg c66 h
            refine V_aload_n hC 0 dX9_why_331 rfl ?_
            refine V_getR (g := 0) (k := 0) (g' := 0) (k' := 16) hC 9 16 fl_X9_57 rfl rfl rfl rfl dX9_why_332 ?_
            refine V_bipush (v := 20) hC dX9_why_335 (by decide) ?_
            refine V_iload_n hC 1 dX9_why_337 rfl ?_
            refine V_imul hC dX9_why_338 ?_
            refine V_iload hC 3 dX9_why_339 rfl ?_
            refine V_iadd hC dX9_why_341 ?_
            refine V_lload_n hC 2 dX9_why_342 rfl ?_
            obtain ⟨hi, h⟩ := gd_some h
            refine V_last (g := 0) (k := 16) hC rfl rfl hi dX9_why_343 ?_
            refine V_hl h (fun H68 h => ?_)
            refine V_lload_n hC 2 dX9_why_344 rfl ?_
            refine V_aload_n hC 0 dX9_why_345 rfl ?_
            refine V_getR (g := 0) (k := 0) (g' := 0) (k' := 15) hC 9 15 fl_X9_54 rfl rfl rfl rfl dX9_why_346 ?_
            refine V_bipush (v := 20) hC dX9_why_349 (by decide) ?_
            refine V_iload_n hC 1 dX9_why_351 rfl ?_
            refine V_imul hC dX9_why_352 ?_
            refine V_iload hC 3 dX9_why_353 rfl ?_
            refine V_iadd hC dX9_why_355 ?_
            obtain ⟨hi, h⟩ := gd_some h
            refine V_lald (g := 0) (k := 15) hC rfl rfl hi dX9_why_356 ?_
            refine V_ladd hC dX9_why_357 ?_
            refine V_vlJ h (fun v69 h => ?_)
            refine V_lstore_n (lv' := [(2, .long v69), (0, .ref (ad 0 0)), (1, .int b1), (4, .int b4), (5, .int x5)]) hC dX9_why_358 (Nat.le_of_ble_eq_true rfl) rfl ?_
            refine V_vi h (fun v70 hvv70 h => ?_)
            refine V_iinc (v := v70) (lv' := [(5, .int v70), (2, .long v69), (0, .ref (ad 0 0)), (1, .int b1), (4, .int b4)]) hC 4 dX9_why_359 rfl hvv70.symm (Nat.le_of_ble_eq_true rfl) rfl ?_
            refine V_goto (tgt := 276) hC dX9_why_362 (by decide) ?_
            refine V_lv (lv' := [(0, .ref (ad 0 0)), (1, .int b1), (2, .long v69), (4, .int b4), (5, .int v70)]) [2, 3, 1, 4, 0] rfl ?_
            exact ih v69 v70 H68 h
def L_X9_why_244 (b1 : Int32) (k : Int64 → Hp → Option (Int32 × Hp)) : Nat → Int64 → Int32 → Hp → Option (Int32 × Hp)
  | 0, _, _, _ => none
  | n + 1, x2, x4, H => gd b1 8 (if (gI H 0 1 (Int32.toNatClampNeg b1)) ≤ x4 then k x2 H else gd ((20 * b1) + x4) 160 (hl (sJ H 0 16 (Int32.toNatClampNeg ((20 * b1) + x4)) (-1)) (fun (H59 : Hp) => vl ((40 * b1)) (fun (v60 : Int32) => L_X9_why_276 b1 x4 (fun (z71 : Int64) (H72 : Hp) => vl (x4 + (1 : Int32)) (fun (v73 : Int32) => L_X9_why_244 b1 k n z71 v73 H72)) FU x2 v60 H59))))
set_option maxRecDepth 100000 in
set_option maxHeartbeats 4000000 in
theorem sL_X9_why_244 {p : Program} {l : Launch} {e : Env} {s : State} {m : MethodId} {args : Array Value} {below : List Frame} {meth : Method} {c : Code} {A : Nat → Prop} {D : va_G} {K4 : kQ} {ad : Nat → Nat → Nat} {nr : Nat} {b1 : Int32} {k : Int64 → Hp → Option (Int32 × Hp)} {res : Int32 × Hp} (hC : Cx p s m args c A s.heap D K4 6 RX9 cX9_why) (hret : meth.sig.returnType = (some .int) ∧ meth.locks = false) (hk : ∀ (z2 : Int64) (H : Hp), k z2 H = some res → V p l e ({ frames := 1, cells := 0, slots := 0, locals := 28 }) s m args below meth c A s.heap (QI below args s A D K4 ad nr res) D K4 ad nr 6 371 [(0, .ref (ad 0 0)), (1, .int b1), (2, .long z2)] [] H) : ∀ (n : Nat) (x2 : Int64) (x4 : Int32) (H : Hp), L_X9_why_244 b1 k n x2 x4 H = some res → V p l e ({ frames := 1, cells := 0, slots := 0, locals := 28 }) s m args below meth c A s.heap (QI below args s A D K4 ad nr res) D K4 ad nr 6 244 [(0, .ref (ad 0 0)), (1, .int b1), (2, .long x2), (4, .int x4)] [] H := by
  intro n
  induction n with
  | zero => intro x2 x4 H h; exact nomatch (show (none : Option (Int32 × Hp)) = some res from h)
  | succ n ih =>
    intro x2 x4 H h
    rw [L_X9_why_244] at h
    refine V_iload hC 3 dX9_why_244 rfl ?_
    refine V_aload_n hC 0 dX9_why_246 rfl ?_
    refine V_getR (g := 0) (k := 0) (g' := 0) (k' := 1) hC 9 1 fl_X9_7 rfl rfl rfl rfl dX9_why_247 ?_
    refine V_iload_n hC 1 dX9_why_250 rfl ?_
    obtain ⟨hi, h⟩ := gd_some h
    refine V_iald (g := 0) (k := 1) hC rfl rfl hi dX9_why_251 ?_
    refine V_icmp_ge (tgt := 371) hC dX9_why_252 (by decide) (fun c58 => ?_) (fun c58 => ?_)
    · have h := it_pos c58 h
      refine V_lv (lv' := [(0, .ref (ad 0 0)), (1, .int b1), (2, .long x2)]) [0, 1, 2] rfl ?_
      exact hk x2 H h
    · have h := it_neg c58 h
      refine V_aload_n hC 0 dX9_why_255 rfl ?_
      refine V_getR (g := 0) (k := 0) (g' := 0) (k' := 16) hC 9 16 fl_X9_57 rfl rfl rfl rfl dX9_why_256 ?_
      refine V_bipush (v := 20) hC dX9_why_259 (by decide) ?_
      refine V_iload_n hC 1 dX9_why_261 rfl ?_
      refine V_imul hC dX9_why_262 ?_
      refine V_iload hC 3 dX9_why_263 rfl ?_
      refine V_iadd hC dX9_why_265 ?_
      refine V_ldc2 hC dX9_why_266 cl_X9_189 ?_
      obtain ⟨hi, h⟩ := gd_some h
      refine V_last (g := 0) (k := 16) hC rfl rfl hi dX9_why_269 ?_
      refine V_hl h (fun H59 h => ?_)
      refine V_bipush (v := 40) hC dX9_why_270 (by decide) ?_
      refine V_iload_n hC 1 dX9_why_272 rfl ?_
      refine V_imul hC dX9_why_273 ?_
      refine V_vlI h (fun v60 h => ?_)
      refine V_istore (lv' := [(5, .int v60), (0, .ref (ad 0 0)), (1, .int b1), (2, .long x2), (4, .int x4)]) hC dX9_why_274 (Nat.le_of_ble_eq_true rfl) rfl ?_
      refine V_lv (lv' := [(0, .ref (ad 0 0)), (1, .int b1), (2, .long x2), (4, .int x4), (5, .int v60)]) [1, 2, 3, 4, 0] rfl ?_
      refine sL_X9_why_276 hC hret (fun z71 H72 h => ?_) _ x2 v60 H59 h
      refine V_vi h (fun v73 hvv73 h => ?_)
      refine V_iinc (v := v73) (lv' := [(4, .int v73), (0, .ref (ad 0 0)), (1, .int b1), (2, .long z71)]) hC 3 dX9_why_365 rfl hvv73.symm (Nat.le_of_ble_eq_true rfl) rfl ?_
      refine V_goto (tgt := 244) hC dX9_why_368 (by decide) ?_
      refine V_lv (lv' := [(0, .ref (ad 0 0)), (1, .int b1), (2, .long z71), (4, .int v73)]) [1, 2, 3, 0] rfl ?_
      exact ih z71 v73 H72 h
def f_X9_why (a1 : Int32) (H : Hp) : Option (Int32 × Hp) := gd a1 8 (if (gI H 0 1 (Int32.toNatClampNeg a1)) = 0 then some (1, H) else L_X9_why_13 a1 (fun (H26 : Hp) => L_X9_why_112 a1 (fun (H33 : Hp) => bnd (f_X9_reach a1 1 H33) (fun w35 H34 => bnd (f_X9_all a1 H34) (fun w37 H36 => if w37 = 0 then some (3, H36) else L_X9_why_157 a1 (fun (H48 : Hp) => bnd (f_X9_reach a1 0 H48) (fun w50 H49 => bnd (f_X9_all a1 H49) (fun w52 H51 => if w52 = 0 then some (4, H51) else bnd (f_X9_count a1 H51) (fun w55 H54 => if w55 = 0 then some (5, H54) else gd (20 * a1) 160 (vl ((gJ H54 0 15 (Int32.toNatClampNeg (20 * a1)))) (fun (v57 : Int64) => L_X9_why_244 a1 (fun (z74 : Int64) (H75 : Hp) => gd a1 8 (hl (sJ H75 0 14 (Int32.toNatClampNeg a1) z74) (fun (H76 : Hp) => if (lg_cmp z74 1000000000000) ≤ 0 then some (0, H76) else some (6, H76)))) FU v57 0 H54)))))) FU 0 H36))) FU 0 H26) FU 0 H)
set_option maxRecDepth 100000 in
set_option maxHeartbeats 4000000 in
theorem s_X9_why {p : Program} {l : Launch} {e : Env} {s : State} {m : MethodId} {args : Array Value} {below : List Frame} {meth : Method} {c : Code} {A : Nat → Prop} {D : va_G} {K4 : kQ} {ad : Nat → Nat → Nat} {nr : Nat} {a1 : Int32} {H : Hp} {res : Int32 × Hp} (hC : Cx p s m args c A s.heap D K4 6 RX9 cX9_why) (hret : meth.sig.returnType = (some .int) ∧ meth.locks = false) (h : f_X9_why a1 H = some res) : V p l e ({ frames := 1, cells := 0, slots := 0, locals := 28 }) s m args below meth c A s.heap (QI below args s A D K4 ad nr res) D K4 ad nr 6 0 [(0, .ref (ad 0 0)), (1, .int a1)] [] H := by
  unfold f_X9_why at h
  refine V_aload_n hC 0 dX9_why_0 rfl ?_
  refine V_getR (g := 0) (k := 0) (g' := 0) (k' := 1) hC 9 1 fl_X9_7 rfl rfl rfl rfl dX9_why_1 ?_
  refine V_iload_n hC 1 dX9_why_4 rfl ?_
  obtain ⟨hi, h⟩ := gd_some h
  refine V_iald (g := 0) (k := 1) hC rfl rfl hi dX9_why_5 ?_
  refine V_if_ne (tgt := 11) hC dX9_why_6 (by decide) (fun c1 => ?_) (fun c1 => ?_)
  · have h := it_neg c1 h
    refine V_iconst (v := 0) hC dX9_why_11 (by decide) ?_
    refine V_istore_n (lv' := [(2, .int 0), (0, .ref (ad 0 0)), (1, .int a1)]) hC dX9_why_12 (Nat.le_of_ble_eq_true rfl) rfl ?_
    refine V_lv (lv' := [(0, .ref (ad 0 0)), (1, .int a1), (2, .int 0)]) [1, 2, 0] rfl ?_
    refine sL_X9_why_13 hC hret (fun H26 h => ?_) _ 0 H h
    refine V_iconst (v := 0) hC dX9_why_110 (by decide) ?_
    refine V_istore_n (lv' := [(2, .int 0), (0, .ref (ad 0 0)), (1, .int a1)]) hC dX9_why_111 (Nat.le_of_ble_eq_true rfl) rfl ?_
    refine V_lv (lv' := [(0, .ref (ad 0 0)), (1, .int a1), (2, .int 0)]) [1, 2, 0] rfl ?_
    refine sL_X9_why_112 hC hret (fun H33 h => ?_) _ 0 H26 h
    refine V_aload_n hC 0 dX9_why_139 rfl ?_
    refine V_iload_n hC 1 dX9_why_140 rfl ?_
    refine V_iconst (v := 1) hC dX9_why_141 (by decide) ?_
    obtain ⟨w35, H34, hc, h⟩ := bnd_some h
    refine V_callu (g := 0) (k := 0) (As := [.int a1, .int 1]) (st := []) hC (c_X9_reach l hc) rfl ml_X9_179 ⟨Nat.le_of_ble_eq_true rfl, Nat.le_of_ble_eq_true rfl⟩ rfl rfl rfl (Nat.le_of_ble_eq_true rfl) dX9_why_142 ?_
    refine V_aload_n hC 0 dX9_why_145 rfl ?_
    refine V_iload_n hC 1 dX9_why_146 rfl ?_
    obtain ⟨w37, H36, hc, h⟩ := bnd_some h
    refine V_calli (g := 0) (k := 0) (As := [.int a1]) (st := []) hC (c_X9_all l hc) rfl ml_X9_183 ⟨Nat.le_of_ble_eq_true rfl, Nat.le_of_ble_eq_true rfl⟩ rfl rfl rfl (Nat.le_of_ble_eq_true rfl) dX9_why_147 ?_
    refine V_if_ne (tgt := 155) hC dX9_why_150 (by decide) (fun c38 => ?_) (fun c38 => ?_)
    · have h := it_neg c38 h
      refine V_iconst (v := 0) hC dX9_why_155 (by decide) ?_
      refine V_istore_n (lv' := [(2, .int 0), (0, .ref (ad 0 0)), (1, .int a1)]) hC dX9_why_156 (Nat.le_of_ble_eq_true rfl) rfl ?_
      refine V_lv (lv' := [(0, .ref (ad 0 0)), (1, .int a1), (2, .int 0)]) [1, 2, 0] rfl ?_
      refine sL_X9_why_157 hC hret (fun H48 h => ?_) _ 0 H36 h
      refine V_aload_n hC 0 dX9_why_205 rfl ?_
      refine V_iload_n hC 1 dX9_why_206 rfl ?_
      refine V_iconst (v := 0) hC dX9_why_207 (by decide) ?_
      obtain ⟨w50, H49, hc, h⟩ := bnd_some h
      refine V_callu (g := 0) (k := 0) (As := [.int a1, .int 0]) (st := []) hC (c_X9_reach l hc) rfl ml_X9_179 ⟨Nat.le_of_ble_eq_true rfl, Nat.le_of_ble_eq_true rfl⟩ rfl rfl rfl (Nat.le_of_ble_eq_true rfl) dX9_why_208 ?_
      refine V_aload_n hC 0 dX9_why_211 rfl ?_
      refine V_iload_n hC 1 dX9_why_212 rfl ?_
      obtain ⟨w52, H51, hc, h⟩ := bnd_some h
      refine V_calli (g := 0) (k := 0) (As := [.int a1]) (st := []) hC (c_X9_all l hc) rfl ml_X9_183 ⟨Nat.le_of_ble_eq_true rfl, Nat.le_of_ble_eq_true rfl⟩ rfl rfl rfl (Nat.le_of_ble_eq_true rfl) dX9_why_213 ?_
      refine V_if_ne (tgt := 221) hC dX9_why_216 (by decide) (fun c53 => ?_) (fun c53 => ?_)
      · have h := it_neg c53 h
        refine V_aload_n hC 0 dX9_why_221 rfl ?_
        refine V_iload_n hC 1 dX9_why_222 rfl ?_
        obtain ⟨w55, H54, hc, h⟩ := bnd_some h
        refine V_calli (g := 0) (k := 0) (As := [.int a1]) (st := []) hC (c_X9_count l hc) rfl ml_X9_186 ⟨Nat.le_of_ble_eq_true rfl, Nat.le_of_ble_eq_true rfl⟩ rfl rfl rfl (Nat.le_of_ble_eq_true rfl) dX9_why_223 ?_
        refine V_if_ne (tgt := 231) hC dX9_why_226 (by decide) (fun c56 => ?_) (fun c56 => ?_)
        · have h := it_neg c56 h
          refine V_aload_n hC 0 dX9_why_231 rfl ?_
          refine V_getR (g := 0) (k := 0) (g' := 0) (k' := 15) hC 9 15 fl_X9_54 rfl rfl rfl rfl dX9_why_232 ?_
          refine V_bipush (v := 20) hC dX9_why_235 (by decide) ?_
          refine V_iload_n hC 1 dX9_why_237 rfl ?_
          refine V_imul hC dX9_why_238 ?_
          obtain ⟨hi, h⟩ := gd_some h
          refine V_lald (g := 0) (k := 15) hC rfl rfl hi dX9_why_239 ?_
          refine V_vlJ h (fun v57 h => ?_)
          refine V_lstore_n (lv' := [(2, .long v57), (0, .ref (ad 0 0)), (1, .int a1)]) hC dX9_why_240 (Nat.le_of_ble_eq_true rfl) rfl ?_
          refine V_iconst (v := 0) hC dX9_why_241 (by decide) ?_
          refine V_istore (lv' := [(4, .int 0), (2, .long v57), (0, .ref (ad 0 0)), (1, .int a1)]) hC dX9_why_242 (Nat.le_of_ble_eq_true rfl) rfl ?_
          refine V_lv (lv' := [(0, .ref (ad 0 0)), (1, .int a1), (2, .long v57), (4, .int 0)]) [2, 3, 1, 0] rfl ?_
          refine sL_X9_why_244 hC hret (fun z74 H75 h => ?_) _ v57 0 H54 h
          refine V_aload_n hC 0 dX9_why_371 rfl ?_
          refine V_getR (g := 0) (k := 0) (g' := 0) (k' := 14) hC 9 14 fl_X9_51 rfl rfl rfl rfl dX9_why_372 ?_
          refine V_iload_n hC 1 dX9_why_375 rfl ?_
          refine V_lload_n hC 2 dX9_why_376 rfl ?_
          obtain ⟨hi, h⟩ := gd_some h
          refine V_last (g := 0) (k := 14) hC rfl rfl hi dX9_why_377 ?_
          refine V_hl h (fun H76 h => ?_)
          refine V_lload_n hC 2 dX9_why_378 rfl ?_
          refine V_ldc2 hC dX9_why_379 cl_X9_191 ?_
          refine V_lcmp hC dX9_why_382 ?_
          refine V_if_le (tgt := 391) hC dX9_why_383 (by decide) (fun c77 => ?_) (fun c77 => ?_)
          · have h := it_pos c77 h
            refine V_iconst (v := 0) hC dX9_why_391 (by decide) ?_
            exact V_iret hC hret dX9_why_392 h
          · have h := it_neg c77 h
            refine V_bipush (v := 6) hC dX9_why_386 (by decide) ?_
            refine V_goto (tgt := 392) hC dX9_why_388 (by decide) ?_
            exact V_iret hC hret dX9_why_392 h
        · have h := it_pos c56 h
          refine V_iconst (v := 5) hC dX9_why_229 (by decide) ?_
          exact V_iret hC hret dX9_why_230 h
      · have h := it_pos c53 h
        refine V_iconst (v := 4) hC dX9_why_219 (by decide) ?_
        exact V_iret hC hret dX9_why_220 h
    · have h := it_pos c38 h
      refine V_iconst (v := 3) hC dX9_why_153 (by decide) ?_
      exact V_iret hC hret dX9_why_154 h
  · have h := it_pos c1 h
    refine V_iconst (v := 1) hC dX9_why_9 (by decide) ?_
    exact V_iret hC hret dX9_why_10 h
theorem c_X9_why (l : Launch) {nr : Nat} {a1 : Int32} {H : Hp} {x : Int32} {H' : Hp} (h : f_X9_why a1 H = some (x, H')) : CI l nr yX9_why cX9_why 6 (some .int) 1 28 (fun ad => [.ref (ad 0 0), .int a1]) H x H' := by
  intro D K4 ad sz
  refine Met.ofV (by decide) (Nat.le_of_ble_eq_true rfl) ?_
  intro p e s m args below meth c hC hret hsz
  subst hsz
  exact s_X9_why hC hret h
theorem dX9_grow_0 : decode cX9_grow 0 = .ok (.aload_n 0, 1) := by decide +kernel
theorem dX9_grow_1 : decode cX9_grow 1 = .ok (.getfield 108, 3) := by decide +kernel
theorem dX9_grow_4 : decode cX9_grow 4 = .ok (.astore_n 3, 1) := by decide +kernel
theorem dX9_grow_5 : decode cX9_grow 5 = .ok (.iconst 0, 1) := by decide +kernel
theorem dX9_grow_6 : decode cX9_grow 6 = .ok (.istore 4, 2) := by decide +kernel
theorem dX9_grow_8 : decode cX9_grow 8 = .ok (.iload 4, 2) := by decide +kernel
theorem dX9_grow_10 : decode cX9_grow 10 = .ok (.bipush 40, 2) := by decide +kernel
theorem dX9_grow_12 : decode cX9_grow 12 = .ok (.if_icmp .ge 56, 3) := by decide +kernel
theorem dX9_grow_15 : decode cX9_grow 15 = .ok (.aload_n 3, 1) := by decide +kernel
theorem dX9_grow_16 : decode cX9_grow 16 = .ok (.iload 4, 2) := by decide +kernel
theorem dX9_grow_18 : decode cX9_grow 18 = .ok (.iload 4, 2) := by decide +kernel
theorem dX9_grow_20 : decode cX9_grow 20 = .ok (.aload_n 0, 1) := by decide +kernel
theorem dX9_grow_21 : decode cX9_grow 21 = .ok (.getfield 13, 3) := by decide +kernel
theorem dX9_grow_24 : decode cX9_grow 24 = .ok (.iload_n 1, 1) := by decide +kernel
theorem dX9_grow_25 : decode cX9_grow 25 = .ok (.iaload, 1) := by decide +kernel
theorem dX9_grow_26 : decode cX9_grow 26 = .ok (.if_icmp .ge 22, 3) := by decide +kernel
theorem dX9_grow_29 : decode cX9_grow 29 = .ok (.iload_n 2, 1) := by decide +kernel
theorem dX9_grow_30 : decode cX9_grow 30 = .ok (.ifCond .eq 22, 3) := by decide +kernel
theorem dX9_grow_33 : decode cX9_grow 33 = .ok (.aload_n 0, 1) := by decide +kernel
theorem dX9_grow_34 : decode cX9_grow 34 = .ok (.getfield 35, 3) := by decide +kernel
theorem dX9_grow_37 : decode cX9_grow 37 = .ok (.bipush 40, 2) := by decide +kernel
theorem dX9_grow_39 : decode cX9_grow 39 = .ok (.iload_n 1, 1) := by decide +kernel
theorem dX9_grow_40 : decode cX9_grow 40 = .ok (.imul, 1) := by decide +kernel
theorem dX9_grow_41 : decode cX9_grow 41 = .ok (.iload 4, 2) := by decide +kernel
theorem dX9_grow_43 : decode cX9_grow 43 = .ok (.iadd, 1) := by decide +kernel
theorem dX9_grow_44 : decode cX9_grow 44 = .ok (.baload, 1) := by decide +kernel
theorem dX9_grow_45 : decode cX9_grow 45 = .ok (.ifCond .eq 7, 3) := by decide +kernel
theorem dX9_grow_48 : decode cX9_grow 48 = .ok (.iconst 1, 1) := by decide +kernel
theorem dX9_grow_49 : decode cX9_grow 49 = .ok (.goto 4, 3) := by decide +kernel
theorem dX9_grow_52 : decode cX9_grow 52 = .ok (.iconst 0, 1) := by decide +kernel
theorem dX9_grow_53 : decode cX9_grow 53 = .ok (.bastore, 1) := by decide +kernel
theorem dX9_grow_54 : decode cX9_grow 54 = .ok (.aload_n 0, 1) := by decide +kernel
theorem dX9_grow_55 : decode cX9_grow 55 = .ok (.getfield 105, 3) := by decide +kernel
theorem dX9_grow_58 : decode cX9_grow 58 = .ok (.iload 4, 2) := by decide +kernel
theorem dX9_grow_60 : decode cX9_grow 60 = .ok (.iconst 0, 1) := by decide +kernel
theorem dX9_grow_61 : decode cX9_grow 61 = .ok (.bastore, 1) := by decide +kernel
theorem dX9_grow_62 : decode cX9_grow 62 = .ok (.iinc 4 1, 3) := by decide +kernel
theorem dX9_grow_65 : decode cX9_grow 65 = .ok (.goto (-57), 3) := by decide +kernel
theorem dX9_grow_68 : decode cX9_grow 68 = .ok (.iconst 1, 1) := by decide +kernel
theorem dX9_grow_69 : decode cX9_grow 69 = .ok (.istore 4, 2) := by decide +kernel
theorem dX9_grow_71 : decode cX9_grow 71 = .ok (.iload 4, 2) := by decide +kernel
theorem dX9_grow_73 : decode cX9_grow 73 = .ok (.ifCond .eq 158, 3) := by decide +kernel
theorem dX9_grow_76 : decode cX9_grow 76 = .ok (.iconst (-1), 1) := by decide +kernel
theorem dX9_grow_77 : decode cX9_grow 77 = .ok (.istore 5, 2) := by decide +kernel
theorem dX9_grow_79 : decode cX9_grow 79 = .ok (.iconst 0, 1) := by decide +kernel
theorem dX9_grow_80 : decode cX9_grow 80 = .ok (.istore 6, 2) := by decide +kernel
theorem dX9_grow_82 : decode cX9_grow 82 = .ok (.iload 6, 2) := by decide +kernel
theorem dX9_grow_84 : decode cX9_grow 84 = .ok (.aload_n 0, 1) := by decide +kernel
theorem dX9_grow_85 : decode cX9_grow 85 = .ok (.getfield 13, 3) := by decide +kernel
theorem dX9_grow_88 : decode cX9_grow 88 = .ok (.iload_n 1, 1) := by decide +kernel
theorem dX9_grow_89 : decode cX9_grow 89 = .ok (.iaload, 1) := by decide +kernel
theorem dX9_grow_90 : decode cX9_grow 90 = .ok (.if_icmp .ge 52, 3) := by decide +kernel
theorem dX9_grow_93 : decode cX9_grow 93 = .ok (.aload_n 3, 1) := by decide +kernel
theorem dX9_grow_94 : decode cX9_grow 94 = .ok (.iload 6, 2) := by decide +kernel
theorem dX9_grow_96 : decode cX9_grow 96 = .ok (.baload, 1) := by decide +kernel
theorem dX9_grow_97 : decode cX9_grow 97 = .ok (.ifCond .ne 39, 3) := by decide +kernel
theorem dX9_grow_100 : decode cX9_grow 100 = .ok (.iload 5, 2) := by decide +kernel
theorem dX9_grow_102 : decode cX9_grow 102 = .ok (.ifCond .lt 30, 3) := by decide +kernel
theorem dX9_grow_105 : decode cX9_grow 105 = .ok (.aload_n 0, 1) := by decide +kernel
theorem dX9_grow_106 : decode cX9_grow 106 = .ok (.getfield 32, 3) := by decide +kernel
theorem dX9_grow_109 : decode cX9_grow 109 = .ok (.bipush 40, 2) := by decide +kernel
theorem dX9_grow_111 : decode cX9_grow 111 = .ok (.iload_n 1, 1) := by decide +kernel
theorem dX9_grow_112 : decode cX9_grow 112 = .ok (.imul, 1) := by decide +kernel
theorem dX9_grow_113 : decode cX9_grow 113 = .ok (.iload 6, 2) := by decide +kernel
theorem dX9_grow_115 : decode cX9_grow 115 = .ok (.iadd, 1) := by decide +kernel
theorem dX9_grow_116 : decode cX9_grow 116 = .ok (.iaload, 1) := by decide +kernel
theorem dX9_grow_117 : decode cX9_grow 117 = .ok (.aload_n 0, 1) := by decide +kernel
theorem dX9_grow_118 : decode cX9_grow 118 = .ok (.getfield 32, 3) := by decide +kernel
theorem dX9_grow_121 : decode cX9_grow 121 = .ok (.bipush 40, 2) := by decide +kernel
theorem dX9_grow_123 : decode cX9_grow 123 = .ok (.iload_n 1, 1) := by decide +kernel
theorem dX9_grow_124 : decode cX9_grow 124 = .ok (.imul, 1) := by decide +kernel
theorem dX9_grow_125 : decode cX9_grow 125 = .ok (.iload 5, 2) := by decide +kernel
theorem dX9_grow_127 : decode cX9_grow 127 = .ok (.iadd, 1) := by decide +kernel
theorem dX9_grow_128 : decode cX9_grow 128 = .ok (.iaload, 1) := by decide +kernel
theorem dX9_grow_129 : decode cX9_grow 129 = .ok (.if_icmp .le 7, 3) := by decide +kernel
theorem dX9_grow_132 : decode cX9_grow 132 = .ok (.iload 6, 2) := by decide +kernel
theorem dX9_grow_134 : decode cX9_grow 134 = .ok (.istore 5, 2) := by decide +kernel
theorem dX9_grow_136 : decode cX9_grow 136 = .ok (.iinc 6 1, 3) := by decide +kernel
theorem dX9_grow_139 : decode cX9_grow 139 = .ok (.goto (-57), 3) := by decide +kernel
theorem dX9_grow_142 : decode cX9_grow 142 = .ok (.iload 5, 2) := by decide +kernel
theorem dX9_grow_144 : decode cX9_grow 144 = .ok (.ifCond .lt 7, 3) := by decide +kernel
theorem dX9_grow_147 : decode cX9_grow 147 = .ok (.iconst 1, 1) := by decide +kernel
theorem dX9_grow_148 : decode cX9_grow 148 = .ok (.goto 4, 3) := by decide +kernel
theorem dX9_grow_151 : decode cX9_grow 151 = .ok (.iconst 0, 1) := by decide +kernel
theorem dX9_grow_152 : decode cX9_grow 152 = .ok (.istore 4, 2) := by decide +kernel
theorem dX9_grow_154 : decode cX9_grow 154 = .ok (.iload 4, 2) := by decide +kernel
theorem dX9_grow_156 : decode cX9_grow 156 = .ok (.ifCond .ne 6, 3) := by decide +kernel
theorem dX9_grow_159 : decode cX9_grow 159 = .ok (.goto (-88), 3) := by decide +kernel
theorem dX9_grow_162 : decode cX9_grow 162 = .ok (.aload_n 3, 1) := by decide +kernel
theorem dX9_grow_163 : decode cX9_grow 163 = .ok (.iload 5, 2) := by decide +kernel
theorem dX9_grow_165 : decode cX9_grow 165 = .ok (.iconst 1, 1) := by decide +kernel
theorem dX9_grow_166 : decode cX9_grow 166 = .ok (.bastore, 1) := by decide +kernel
theorem dX9_grow_167 : decode cX9_grow 167 = .ok (.aload_n 0, 1) := by decide +kernel
theorem dX9_grow_168 : decode cX9_grow 168 = .ok (.getfield 26, 3) := by decide +kernel
theorem dX9_grow_171 : decode cX9_grow 171 = .ok (.bipush 40, 2) := by decide +kernel
theorem dX9_grow_173 : decode cX9_grow 173 = .ok (.iload_n 1, 1) := by decide +kernel
theorem dX9_grow_174 : decode cX9_grow 174 = .ok (.imul, 1) := by decide +kernel
theorem dX9_grow_175 : decode cX9_grow 175 = .ok (.iload 5, 2) := by decide +kernel
theorem dX9_grow_177 : decode cX9_grow 177 = .ok (.iadd, 1) := by decide +kernel
theorem dX9_grow_178 : decode cX9_grow 178 = .ok (.iaload, 1) := by decide +kernel
theorem dX9_grow_179 : decode cX9_grow 179 = .ok (.istore 6, 2) := by decide +kernel
theorem dX9_grow_181 : decode cX9_grow 181 = .ok (.aload_n 0, 1) := by decide +kernel
theorem dX9_grow_182 : decode cX9_grow 182 = .ok (.getfield 29, 3) := by decide +kernel
theorem dX9_grow_185 : decode cX9_grow 185 = .ok (.bipush 40, 2) := by decide +kernel
theorem dX9_grow_187 : decode cX9_grow 187 = .ok (.iload_n 1, 1) := by decide +kernel
theorem dX9_grow_188 : decode cX9_grow 188 = .ok (.imul, 1) := by decide +kernel
theorem dX9_grow_189 : decode cX9_grow 189 = .ok (.iload 5, 2) := by decide +kernel
theorem dX9_grow_191 : decode cX9_grow 191 = .ok (.iadd, 1) := by decide +kernel
theorem dX9_grow_192 : decode cX9_grow 192 = .ok (.iaload, 1) := by decide +kernel
theorem dX9_grow_193 : decode cX9_grow 193 = .ok (.istore 7, 2) := by decide +kernel
theorem dX9_grow_195 : decode cX9_grow 195 = .ok (.aload_n 0, 1) := by decide +kernel
theorem dX9_grow_196 : decode cX9_grow 196 = .ok (.getfield 102, 3) := by decide +kernel
theorem dX9_grow_199 : decode cX9_grow 199 = .ok (.iload 6, 2) := by decide +kernel
theorem dX9_grow_201 : decode cX9_grow 201 = .ok (.iaload, 1) := by decide +kernel
theorem dX9_grow_202 : decode cX9_grow 202 = .ok (.aload_n 0, 1) := by decide +kernel
theorem dX9_grow_203 : decode cX9_grow 203 = .ok (.getfield 102, 3) := by decide +kernel
theorem dX9_grow_206 : decode cX9_grow 206 = .ok (.iload 7, 2) := by decide +kernel
theorem dX9_grow_208 : decode cX9_grow 208 = .ok (.iaload, 1) := by decide +kernel
theorem dX9_grow_209 : decode cX9_grow 209 = .ok (.if_icmp .eq 19, 3) := by decide +kernel
theorem dX9_grow_212 : decode cX9_grow 212 = .ok (.aload_n 0, 1) := by decide +kernel
theorem dX9_grow_213 : decode cX9_grow 213 = .ok (.iload 6, 2) := by decide +kernel
theorem dX9_grow_215 : decode cX9_grow 215 = .ok (.iload 7, 2) := by decide +kernel
theorem dX9_grow_217 : decode cX9_grow 217 = .ok (.invokevirtual 193, 3) := by decide +kernel
theorem dX9_grow_220 : decode cX9_grow 220 = .ok (.aload_n 0, 1) := by decide +kernel
theorem dX9_grow_221 : decode cX9_grow 221 = .ok (.getfield 105, 3) := by decide +kernel
theorem dX9_grow_224 : decode cX9_grow 224 = .ok (.iload 5, 2) := by decide +kernel
theorem dX9_grow_226 : decode cX9_grow 226 = .ok (.iconst 1, 1) := by decide +kernel
theorem dX9_grow_227 : decode cX9_grow 227 = .ok (.bastore, 1) := by decide +kernel
theorem dX9_grow_228 : decode cX9_grow 228 = .ok (.goto (-157), 3) := by decide +kernel
theorem dX9_grow_231 : decode cX9_grow 231 = .ok (.return_, 1) := by decide +kernel
def L_X9_grow_8 (b1 : Int32) (b2 : Int32) (k : Hp → Option (Unit × Hp)) : Nat → Int32 → Hp → Option (Unit × Hp)
  | 0, _, _ => none
  | n + 1, x4, H => if 40 ≤ x4 then k H else gd b1 8 (jn (fun (H3 : Hp) => gd x4 40 (hl (sI H3 0 38 (Int32.toNatClampNeg x4) (vp_nar .boolean 1)) (fun (H4 : Hp) => gd x4 40 (hl (sI H4 0 37 (Int32.toNatClampNeg x4) (vp_nar .boolean 0)) (fun (H5 : Hp) => vl (x4 + (1 : Int32)) (fun (v6 : Int32) => L_X9_grow_8 b1 b2 k n v6 H5)))))) (fun j2 => if (gI H 0 2 (Int32.toNatClampNeg b1)) ≤ x4 then j2 H else if b2 = 0 then gd x4 40 (hl (sI H 0 38 (Int32.toNatClampNeg x4) (vp_nar .boolean 0)) (fun (H9 : Hp) => gd x4 40 (hl (sI H9 0 37 (Int32.toNatClampNeg x4) (vp_nar .boolean 0)) (fun (H10 : Hp) => vl (x4 + (1 : Int32)) (fun (v11 : Int32) => L_X9_grow_8 b1 b2 k n v11 H10))))) else gd ((40 * b1) + x4) 320 (if (gI H 0 9 (Int32.toNatClampNeg ((40 * b1) + x4))) = 0 then gd x4 40 (hl (sI H 0 38 (Int32.toNatClampNeg x4) (vp_nar .boolean 0)) (fun (H13 : Hp) => gd x4 40 (hl (sI H13 0 37 (Int32.toNatClampNeg x4) (vp_nar .boolean 0)) (fun (H14 : Hp) => vl (x4 + (1 : Int32)) (fun (v15 : Int32) => L_X9_grow_8 b1 b2 k n v15 H14))))) else j2 H)))
set_option maxRecDepth 100000 in
set_option maxHeartbeats 4000000 in
theorem sL_X9_grow_8 {p : Program} {l : Launch} {e : Env} {s : State} {m : MethodId} {args : Array Value} {below : List Frame} {meth : Method} {c : Code} {A : Nat → Prop} {D : va_G} {K4 : kQ} {ad : Nat → Nat → Nat} {nr : Nat} {b1 : Int32} {b2 : Int32} {k : Hp → Option (Unit × Hp)} {res : Unit × Hp} (hC : Cx p s m args c A s.heap D K4 8 RX9 cX9_grow) (hret : meth.sig.returnType = none ∧ meth.locks = false) (hk : ∀ (H : Hp), k H = some res → V p l e ({ frames := 1, cells := 0, slots := 0, locals := 25 }) s m args below meth c A s.heap (QU below args s A D K4 ad nr res) D K4 ad nr 8 68 [(0, .ref (ad 0 0)), (1, .int b1), (3, .ref (ad 0 38))] [] H) : ∀ (n : Nat) (x4 : Int32) (H : Hp), L_X9_grow_8 b1 b2 k n x4 H = some res → V p l e ({ frames := 1, cells := 0, slots := 0, locals := 25 }) s m args below meth c A s.heap (QU below args s A D K4 ad nr res) D K4 ad nr 8 8 [(0, .ref (ad 0 0)), (1, .int b1), (2, .int b2), (3, .ref (ad 0 38)), (4, .int x4)] [] H := by
  intro n
  induction n with
  | zero => intro x4 H h; exact nomatch (show (none : Option (Unit × Hp)) = some res from h)
  | succ n ih =>
    intro x4 H h
    rw [L_X9_grow_8] at h
    refine V_iload hC 4 dX9_grow_8 rfl ?_
    refine V_bipush (v := 40) hC dX9_grow_10 (by decide) ?_
    refine V_icmp_ge (tgt := 68) hC dX9_grow_12 (by decide) (fun c1 => ?_) (fun c1 => ?_)
    · have h := it_pos c1 h
      refine V_lv (lv' := [(0, .ref (ad 0 0)), (1, .int b1), (3, .ref (ad 0 38))]) [0, 1, 3] rfl ?_
      exact hk H h
    · have h := it_neg c1 h
      refine V_aload_n hC 3 dX9_grow_15 rfl ?_
      refine V_iload hC 4 dX9_grow_16 rfl ?_
      refine V_iload hC 4 dX9_grow_18 rfl ?_
      refine V_aload_n hC 0 dX9_grow_20 rfl ?_
      refine V_getR (g := 0) (k := 0) (g' := 0) (k' := 2) hC 9 2 fl_X9_13 rfl rfl rfl rfl dX9_grow_21 ?_
      refine V_iload_n hC 1 dX9_grow_24 rfl ?_
      obtain ⟨hi, h⟩ := gd_some h
      refine V_iald (g := 0) (k := 2) hC rfl rfl hi dX9_grow_25 ?_
      refine V_jn0 (pj := 48) (lj := [(0, .ref (ad 0 0)), (1, .int b1), (2, .int b2), (3, .ref (ad 0 38)), (4, .int x4)]) (sj := [.int x4, .ref (ad 0 38)]) h (fun H3 h => ?_) (fun hj2 h => ?_)
      · refine V_iconst (v := 1) hC dX9_grow_48 (by decide) ?_
        refine V_goto (tgt := 53) hC dX9_grow_49 (by decide) ?_
        obtain ⟨hi, h⟩ := gd_some h
        refine V_zast (g := 0) (k := 38) hC rfl rfl hi dX9_grow_53 ?_
        refine V_hl h (fun H4 h => ?_)
        refine V_aload_n hC 0 dX9_grow_54 rfl ?_
        refine V_getR (g := 0) (k := 0) (g' := 0) (k' := 37) hC 9 37 fl_X9_105 rfl rfl rfl rfl dX9_grow_55 ?_
        refine V_iload hC 4 dX9_grow_58 rfl ?_
        refine V_iconst (v := 0) hC dX9_grow_60 (by decide) ?_
        obtain ⟨hi, h⟩ := gd_some h
        refine V_zast (g := 0) (k := 37) hC rfl rfl hi dX9_grow_61 ?_
        refine V_hl h (fun H5 h => ?_)
        refine V_vi h (fun v6 hvv6 h => ?_)
        refine V_iinc (v := v6) (lv' := [(4, .int v6), (0, .ref (ad 0 0)), (1, .int b1), (2, .int b2), (3, .ref (ad 0 38))]) hC 4 dX9_grow_62 rfl hvv6.symm (Nat.le_of_ble_eq_true rfl) rfl ?_
        refine V_goto (tgt := 8) hC dX9_grow_65 (by decide) ?_
        refine V_lv (lv' := [(0, .ref (ad 0 0)), (1, .int b1), (2, .int b2), (3, .ref (ad 0 38)), (4, .int v6)]) [1, 2, 3, 4, 0] rfl ?_
        exact ih v6 H5 h
      · refine V_icmp_ge (tgt := 48) hC dX9_grow_26 (by decide) (fun c7 => ?_) (fun c7 => ?_)
        · have h := it_pos c7 h
          refine V_lv (lv' := [(0, .ref (ad 0 0)), (1, .int b1), (2, .int b2), (3, .ref (ad 0 38)), (4, .int x4)]) [0, 1, 2, 3, 4] rfl ?_
          exact hj2 H h
        · have h := it_neg c7 h
          refine V_iload_n hC 2 dX9_grow_29 rfl ?_
          refine V_if_eq (tgt := 52) hC dX9_grow_30 (by decide) (fun c8 => ?_) (fun c8 => ?_)
          · have h := it_pos c8 h
            refine V_iconst (v := 0) hC dX9_grow_52 (by decide) ?_
            obtain ⟨hi, h⟩ := gd_some h
            refine V_zast (g := 0) (k := 38) hC rfl rfl hi dX9_grow_53 ?_
            refine V_hl h (fun H9 h => ?_)
            refine V_aload_n hC 0 dX9_grow_54 rfl ?_
            refine V_getR (g := 0) (k := 0) (g' := 0) (k' := 37) hC 9 37 fl_X9_105 rfl rfl rfl rfl dX9_grow_55 ?_
            refine V_iload hC 4 dX9_grow_58 rfl ?_
            refine V_iconst (v := 0) hC dX9_grow_60 (by decide) ?_
            obtain ⟨hi, h⟩ := gd_some h
            refine V_zast (g := 0) (k := 37) hC rfl rfl hi dX9_grow_61 ?_
            refine V_hl h (fun H10 h => ?_)
            refine V_vi h (fun v11 hvv11 h => ?_)
            refine V_iinc (v := v11) (lv' := [(4, .int v11), (0, .ref (ad 0 0)), (1, .int b1), (2, .int b2), (3, .ref (ad 0 38))]) hC 4 dX9_grow_62 rfl hvv11.symm (Nat.le_of_ble_eq_true rfl) rfl ?_
            refine V_goto (tgt := 8) hC dX9_grow_65 (by decide) ?_
            refine V_lv (lv' := [(0, .ref (ad 0 0)), (1, .int b1), (2, .int b2), (3, .ref (ad 0 38)), (4, .int v11)]) [1, 2, 3, 4, 0] rfl ?_
            exact ih v11 H10 h
          · have h := it_neg c8 h
            refine V_aload_n hC 0 dX9_grow_33 rfl ?_
            refine V_getR (g := 0) (k := 0) (g' := 0) (k' := 9) hC 9 9 fl_X9_35 rfl rfl rfl rfl dX9_grow_34 ?_
            refine V_bipush (v := 40) hC dX9_grow_37 (by decide) ?_
            refine V_iload_n hC 1 dX9_grow_39 rfl ?_
            refine V_imul hC dX9_grow_40 ?_
            refine V_iload hC 4 dX9_grow_41 rfl ?_
            refine V_iadd hC dX9_grow_43 ?_
            obtain ⟨hi, h⟩ := gd_some h
            refine V_zald (g := 0) (k := 9) hC rfl rfl hi dX9_grow_44 ?_
            refine V_if_eq (tgt := 52) hC dX9_grow_45 (by decide) (fun c12 => ?_) (fun c12 => ?_)
            · have h := it_pos c12 h
              refine V_iconst (v := 0) hC dX9_grow_52 (by decide) ?_
              obtain ⟨hi, h⟩ := gd_some h
              refine V_zast (g := 0) (k := 38) hC rfl rfl hi dX9_grow_53 ?_
              refine V_hl h (fun H13 h => ?_)
              refine V_aload_n hC 0 dX9_grow_54 rfl ?_
              refine V_getR (g := 0) (k := 0) (g' := 0) (k' := 37) hC 9 37 fl_X9_105 rfl rfl rfl rfl dX9_grow_55 ?_
              refine V_iload hC 4 dX9_grow_58 rfl ?_
              refine V_iconst (v := 0) hC dX9_grow_60 (by decide) ?_
              obtain ⟨hi, h⟩ := gd_some h
              refine V_zast (g := 0) (k := 37) hC rfl rfl hi dX9_grow_61 ?_
              refine V_hl h (fun H14 h => ?_)
              refine V_vi h (fun v15 hvv15 h => ?_)
              refine V_iinc (v := v15) (lv' := [(4, .int v15), (0, .ref (ad 0 0)), (1, .int b1), (2, .int b2), (3, .ref (ad 0 38))]) hC 4 dX9_grow_62 rfl hvv15.symm (Nat.le_of_ble_eq_true rfl) rfl ?_
              refine V_goto (tgt := 8) hC dX9_grow_65 (by decide) ?_
              refine V_lv (lv' := [(0, .ref (ad 0 0)), (1, .int b1), (2, .int b2), (3, .ref (ad 0 38)), (4, .int v15)]) [1, 2, 3, 4, 0] rfl ?_
              exact ih v15 H14 h
            · have h := it_neg c12 h
              refine V_lv (lv' := [(0, .ref (ad 0 0)), (1, .int b1), (2, .int b2), (3, .ref (ad 0 38)), (4, .int x4)]) [0, 1, 2, 3, 4] rfl ?_
              exact hj2 H h
def L_X9_grow_82 (b1 : Int32) (k : Int32 → Hp → Option (Unit × Hp)) : Nat → Int32 → Int32 → Hp → Option (Unit × Hp)
  | 0, _, _, _ => none
  | n + 1, x5, x6, H => gd b1 8 (if (gI H 0 2 (Int32.toNatClampNeg b1)) ≤ x6 then k x5 H else gd x6 40 (if (gI H 0 38 (Int32.toNatClampNeg x6)) = 0 then if x5 < 0 then vl (x6 + (1 : Int32)) (fun (v22 : Int32) => L_X9_grow_82 b1 k n x6 v22 H) else gd ((40 * b1) + x6) 320 (gd ((40 * b1) + x5) 320 (if (gI H 0 8 (Int32.toNatClampNeg ((40 * b1) + x6))) ≤ (gI H 0 8 (Int32.toNatClampNeg ((40 * b1) + x5))) then vl (x6 + (1 : Int32)) (fun (v24 : Int32) => L_X9_grow_82 b1 k n x5 v24 H) else vl (x6 + (1 : Int32)) (fun (v25 : Int32) => L_X9_grow_82 b1 k n x6 v25 H))) else vl (x6 + (1 : Int32)) (fun (v20 : Int32) => L_X9_grow_82 b1 k n x5 v20 H)))
set_option maxRecDepth 100000 in
set_option maxHeartbeats 4000000 in
theorem sL_X9_grow_82 {p : Program} {l : Launch} {e : Env} {s : State} {m : MethodId} {args : Array Value} {below : List Frame} {meth : Method} {c : Code} {A : Nat → Prop} {D : va_G} {K4 : kQ} {ad : Nat → Nat → Nat} {nr : Nat} {b1 : Int32} {k : Int32 → Hp → Option (Unit × Hp)} {res : Unit × Hp} (hC : Cx p s m args c A s.heap D K4 8 RX9 cX9_grow) (hret : meth.sig.returnType = none ∧ meth.locks = false) (hk : ∀ (z5 : Int32) (H : Hp), k z5 H = some res → V p l e ({ frames := 1, cells := 0, slots := 0, locals := 25 }) s m args below meth c A s.heap (QU below args s A D K4 ad nr res) D K4 ad nr 8 142 [(0, .ref (ad 0 0)), (1, .int b1), (3, .ref (ad 0 38)), (5, .int z5)] [] H) : ∀ (n : Nat) (x5 : Int32) (x6 : Int32) (H : Hp), L_X9_grow_82 b1 k n x5 x6 H = some res → V p l e ({ frames := 1, cells := 0, slots := 0, locals := 25 }) s m args below meth c A s.heap (QU below args s A D K4 ad nr res) D K4 ad nr 8 82 [(0, .ref (ad 0 0)), (1, .int b1), (3, .ref (ad 0 38)), (5, .int x5), (6, .int x6)] [] H := by
  intro n
  induction n with
  | zero => intro x5 x6 H h; exact nomatch (show (none : Option (Unit × Hp)) = some res from h)
  | succ n ih =>
    intro x5 x6 H h
    rw [L_X9_grow_82] at h
    refine V_iload hC 4 dX9_grow_82 rfl ?_
    refine V_aload_n hC 0 dX9_grow_84 rfl ?_
    refine V_getR (g := 0) (k := 0) (g' := 0) (k' := 2) hC 9 2 fl_X9_13 rfl rfl rfl rfl dX9_grow_85 ?_
    refine V_iload_n hC 1 dX9_grow_88 rfl ?_
    obtain ⟨hi, h⟩ := gd_some h
    refine V_iald (g := 0) (k := 2) hC rfl rfl hi dX9_grow_89 ?_
    refine V_icmp_ge (tgt := 142) hC dX9_grow_90 (by decide) (fun c18 => ?_) (fun c18 => ?_)
    · have h := it_pos c18 h
      refine V_lv (lv' := [(0, .ref (ad 0 0)), (1, .int b1), (3, .ref (ad 0 38)), (5, .int x5)]) [0, 1, 2, 3] rfl ?_
      exact hk x5 H h
    · have h := it_neg c18 h
      refine V_aload_n hC 2 dX9_grow_93 rfl ?_
      refine V_iload hC 4 dX9_grow_94 rfl ?_
      obtain ⟨hi, h⟩ := gd_some h
      refine V_zald (g := 0) (k := 38) hC rfl rfl hi dX9_grow_96 ?_
      refine V_if_ne (tgt := 136) hC dX9_grow_97 (by decide) (fun c19 => ?_) (fun c19 => ?_)
      · have h := it_neg c19 h
        refine V_vi h (fun v20 hvv20 h => ?_)
        refine V_iinc (v := v20) (lv' := [(6, .int v20), (0, .ref (ad 0 0)), (1, .int b1), (3, .ref (ad 0 38)), (5, .int x5)]) hC 4 dX9_grow_136 rfl hvv20.symm (Nat.le_of_ble_eq_true rfl) rfl ?_
        refine V_goto (tgt := 82) hC dX9_grow_139 (by decide) ?_
        refine V_lv (lv' := [(0, .ref (ad 0 0)), (1, .int b1), (3, .ref (ad 0 38)), (5, .int x5), (6, .int v20)]) [1, 2, 3, 4, 0] rfl ?_
        exact ih x5 v20 H h
      · have h := it_pos c19 h
        refine V_iload hC 3 dX9_grow_100 rfl ?_
        refine V_if_lt (tgt := 132) hC dX9_grow_102 (by decide) (fun c21 => ?_) (fun c21 => ?_)
        · have h := it_pos c21 h
          refine V_iload hC 4 dX9_grow_132 rfl ?_
          refine V_istore (lv' := [(5, .int x6), (0, .ref (ad 0 0)), (1, .int b1), (3, .ref (ad 0 38)), (6, .int x6)]) hC dX9_grow_134 (Nat.le_of_ble_eq_true rfl) rfl ?_
          refine V_vi h (fun v22 hvv22 h => ?_)
          refine V_iinc (v := v22) (lv' := [(6, .int v22), (5, .int x6), (0, .ref (ad 0 0)), (1, .int b1), (3, .ref (ad 0 38))]) hC 4 dX9_grow_136 rfl hvv22.symm (Nat.le_of_ble_eq_true rfl) rfl ?_
          refine V_goto (tgt := 82) hC dX9_grow_139 (by decide) ?_
          refine V_lv (lv' := [(0, .ref (ad 0 0)), (1, .int b1), (3, .ref (ad 0 38)), (5, .int x6), (6, .int v22)]) [2, 3, 4, 1, 0] rfl ?_
          exact ih x6 v22 H h
        · have h := it_neg c21 h
          refine V_aload_n hC 0 dX9_grow_105 rfl ?_
          refine V_getR (g := 0) (k := 0) (g' := 0) (k' := 8) hC 9 8 fl_X9_32 rfl rfl rfl rfl dX9_grow_106 ?_
          refine V_bipush (v := 40) hC dX9_grow_109 (by decide) ?_
          refine V_iload_n hC 1 dX9_grow_111 rfl ?_
          refine V_imul hC dX9_grow_112 ?_
          refine V_iload hC 4 dX9_grow_113 rfl ?_
          refine V_iadd hC dX9_grow_115 ?_
          obtain ⟨hi, h⟩ := gd_some h
          refine V_iald (g := 0) (k := 8) hC rfl rfl hi dX9_grow_116 ?_
          refine V_aload_n hC 0 dX9_grow_117 rfl ?_
          refine V_getR (g := 0) (k := 0) (g' := 0) (k' := 8) hC 9 8 fl_X9_32 rfl rfl rfl rfl dX9_grow_118 ?_
          refine V_bipush (v := 40) hC dX9_grow_121 (by decide) ?_
          refine V_iload_n hC 1 dX9_grow_123 rfl ?_
          refine V_imul hC dX9_grow_124 ?_
          refine V_iload hC 3 dX9_grow_125 rfl ?_
          refine V_iadd hC dX9_grow_127 ?_
          obtain ⟨hi, h⟩ := gd_some h
          refine V_iald (g := 0) (k := 8) hC rfl rfl hi dX9_grow_128 ?_
          refine V_icmp_le (tgt := 136) hC dX9_grow_129 (by decide) (fun c23 => ?_) (fun c23 => ?_)
          · have h := it_pos c23 h
            refine V_vi h (fun v24 hvv24 h => ?_)
            refine V_iinc (v := v24) (lv' := [(6, .int v24), (0, .ref (ad 0 0)), (1, .int b1), (3, .ref (ad 0 38)), (5, .int x5)]) hC 4 dX9_grow_136 rfl hvv24.symm (Nat.le_of_ble_eq_true rfl) rfl ?_
            refine V_goto (tgt := 82) hC dX9_grow_139 (by decide) ?_
            refine V_lv (lv' := [(0, .ref (ad 0 0)), (1, .int b1), (3, .ref (ad 0 38)), (5, .int x5), (6, .int v24)]) [1, 2, 3, 4, 0] rfl ?_
            exact ih x5 v24 H h
          · have h := it_neg c23 h
            refine V_iload hC 4 dX9_grow_132 rfl ?_
            refine V_istore (lv' := [(5, .int x6), (0, .ref (ad 0 0)), (1, .int b1), (3, .ref (ad 0 38)), (6, .int x6)]) hC dX9_grow_134 (Nat.le_of_ble_eq_true rfl) rfl ?_
            refine V_vi h (fun v25 hvv25 h => ?_)
            refine V_iinc (v := v25) (lv' := [(6, .int v25), (5, .int x6), (0, .ref (ad 0 0)), (1, .int b1), (3, .ref (ad 0 38))]) hC 4 dX9_grow_136 rfl hvv25.symm (Nat.le_of_ble_eq_true rfl) rfl ?_
            refine V_goto (tgt := 82) hC dX9_grow_139 (by decide) ?_
            refine V_lv (lv' := [(0, .ref (ad 0 0)), (1, .int b1), (3, .ref (ad 0 38)), (5, .int x6), (6, .int v25)]) [2, 3, 4, 1, 0] rfl ?_
            exact ih x6 v25 H h
def L_X9_grow_71 (b1 : Int32) (k : Hp → Option (Unit × Hp)) : Nat → Int32 → Hp → Option (Unit × Hp)
  | 0, _, _ => none
  | n + 1, x4, H => if x4 = 0 then k H else L_X9_grow_82 b1 (fun (z26 : Int32) (H27 : Hp) => jn (fun (y29 : Int32) (H30 : Hp) => if y29 = 0 then L_X9_grow_71 b1 k n y29 H30 else gd z26 40 (hl (sI H30 0 38 (Int32.toNatClampNeg z26) (vp_nar .boolean 1)) (fun (H32 : Hp) => gd ((40 * b1) + z26) 320 (vl ((gI H32 0 6 (Int32.toNatClampNeg ((40 * b1) + z26)))) (fun (v33 : Int32) => gd ((40 * b1) + z26) 320 (vl ((gI H32 0 7 (Int32.toNatClampNeg ((40 * b1) + z26)))) (fun (v34 : Int32) => gd v33 21 (gd v34 21 (if (gI H32 0 36 (Int32.toNatClampNeg v33)) = (gI H32 0 36 (Int32.toNatClampNeg v34)) then L_X9_grow_71 b1 k n y29 H32 else bnd (f_X9_join v33 v34 H32) (fun w37 H36 => gd z26 40 (hl (sI H36 0 37 (Int32.toNatClampNeg z26) (vp_nar .boolean 1)) (fun (H38 : Hp) => L_X9_grow_71 b1 k n y29 H38)))))))))))) (fun j28 => if z26 < 0 then j28 0 H27 else j28 1 H27)) FU (-1) 0 H
set_option maxRecDepth 100000 in
set_option maxHeartbeats 4000000 in
theorem sL_X9_grow_71 {p : Program} {l : Launch} {e : Env} {s : State} {m : MethodId} {args : Array Value} {below : List Frame} {meth : Method} {c : Code} {A : Nat → Prop} {D : va_G} {K4 : kQ} {ad : Nat → Nat → Nat} {nr : Nat} {b1 : Int32} {k : Hp → Option (Unit × Hp)} {res : Unit × Hp} (hC : Cx p s m args c A s.heap D K4 8 RX9 cX9_grow) (hret : meth.sig.returnType = none ∧ meth.locks = false) (hk : ∀ (H : Hp), k H = some res → V p l e ({ frames := 1, cells := 0, slots := 0, locals := 25 }) s m args below meth c A s.heap (QU below args s A D K4 ad nr res) D K4 ad nr 8 231 [] [] H) : ∀ (n : Nat) (x4 : Int32) (H : Hp), L_X9_grow_71 b1 k n x4 H = some res → V p l e ({ frames := 1, cells := 0, slots := 0, locals := 25 }) s m args below meth c A s.heap (QU below args s A D K4 ad nr res) D K4 ad nr 8 71 [(0, .ref (ad 0 0)), (1, .int b1), (3, .ref (ad 0 38)), (4, .int x4)] [] H := by
  intro n
  induction n with
  | zero => intro x4 H h; exact nomatch (show (none : Option (Unit × Hp)) = some res from h)
  | succ n ih =>
    intro x4 H h
    rw [L_X9_grow_71] at h
    refine V_iload hC 3 dX9_grow_71 rfl ?_
    refine V_if_eq (tgt := 231) hC dX9_grow_73 (by decide) (fun c17 => ?_) (fun c17 => ?_)
    · have h := it_pos c17 h
      refine V_lv (lv' := []) [] rfl ?_
      exact hk H h
    · have h := it_neg c17 h
      refine V_iconst (v := -1) hC dX9_grow_76 (by decide) ?_
      refine V_istore (lv' := [(5, .int (-1)), (0, .ref (ad 0 0)), (1, .int b1), (3, .ref (ad 0 38)), (4, .int x4)]) hC dX9_grow_77 (Nat.le_of_ble_eq_true rfl) rfl ?_
      refine V_iconst (v := 0) hC dX9_grow_79 (by decide) ?_
      refine V_istore (lv' := [(6, .int 0), (5, .int (-1)), (0, .ref (ad 0 0)), (1, .int b1), (3, .ref (ad 0 38)), (4, .int x4)]) hC dX9_grow_80 (Nat.le_of_ble_eq_true rfl) rfl ?_
      refine V_lv (lv' := [(0, .ref (ad 0 0)), (1, .int b1), (3, .ref (ad 0 38)), (5, .int (-1)), (6, .int 0)]) [2, 3, 4, 1, 0] rfl ?_
      refine sL_X9_grow_82 hC hret (fun z26 H27 h => ?_) _ (-1) 0 H h
      refine V_iload hC 3 dX9_grow_142 rfl ?_
      refine V_jn1 (pj := 152) (lj := fun y29 => [(0, .ref (ad 0 0)), (1, .int b1), (3, .ref (ad 0 38)), (5, .int z26)]) (sj := fun y29 => [.int y29]) h (fun y29 H30 h => ?_) (fun hj28 h => ?_)
      · refine V_istore (lv' := [(4, .int y29), (0, .ref (ad 0 0)), (1, .int b1), (3, .ref (ad 0 38)), (5, .int z26)]) hC dX9_grow_152 (Nat.le_of_ble_eq_true rfl) rfl ?_
        refine V_iload hC 0 dX9_grow_154 rfl ?_
        refine V_if_ne (tgt := 162) hC dX9_grow_156 (by decide) (fun c31 => ?_) (fun c31 => ?_)
        · have h := it_neg c31 h
          refine V_aload_n hC 3 dX9_grow_162 rfl ?_
          refine V_iload hC 4 dX9_grow_163 rfl ?_
          refine V_iconst (v := 1) hC dX9_grow_165 (by decide) ?_
          obtain ⟨hi, h⟩ := gd_some h
          refine V_zast (g := 0) (k := 38) hC rfl rfl hi dX9_grow_166 ?_
          refine V_hl h (fun H32 h => ?_)
          refine V_aload_n hC 1 dX9_grow_167 rfl ?_
          refine V_getR (g := 0) (k := 0) (g' := 0) (k' := 6) hC 9 6 fl_X9_26 rfl rfl rfl rfl dX9_grow_168 ?_
          refine V_bipush (v := 40) hC dX9_grow_171 (by decide) ?_
          refine V_iload_n hC 2 dX9_grow_173 rfl ?_
          refine V_imul hC dX9_grow_174 ?_
          refine V_iload hC 4 dX9_grow_175 rfl ?_
          refine V_iadd hC dX9_grow_177 ?_
          obtain ⟨hi, h⟩ := gd_some h
          refine V_iald (g := 0) (k := 6) hC rfl rfl hi dX9_grow_178 ?_
          refine V_vlI h (fun v33 h => ?_)
          refine V_istore (lv' := [(6, .int v33), (4, .int y29), (0, .ref (ad 0 0)), (1, .int b1), (3, .ref (ad 0 38)), (5, .int z26)]) hC dX9_grow_179 (Nat.le_of_ble_eq_true rfl) rfl ?_
          refine V_aload_n hC 2 dX9_grow_181 rfl ?_
          refine V_getR (g := 0) (k := 0) (g' := 0) (k' := 7) hC 9 7 fl_X9_29 rfl rfl rfl rfl dX9_grow_182 ?_
          refine V_bipush (v := 40) hC dX9_grow_185 (by decide) ?_
          refine V_iload_n hC 3 dX9_grow_187 rfl ?_
          refine V_imul hC dX9_grow_188 ?_
          refine V_iload hC 5 dX9_grow_189 rfl ?_
          refine V_iadd hC dX9_grow_191 ?_
          obtain ⟨hi, h⟩ := gd_some h
          refine V_iald (g := 0) (k := 7) hC rfl rfl hi dX9_grow_192 ?_
          refine V_vlI h (fun v34 h => ?_)
          refine V_istore (lv' := [(7, .int v34), (6, .int v33), (4, .int y29), (0, .ref (ad 0 0)), (1, .int b1), (3, .ref (ad 0 38)), (5, .int z26)]) hC dX9_grow_193 (Nat.le_of_ble_eq_true rfl) rfl ?_
          refine V_aload_n hC 3 dX9_grow_195 rfl ?_
          refine V_getR (g := 0) (k := 0) (g' := 0) (k' := 36) hC 9 36 fl_X9_102 rfl rfl rfl rfl dX9_grow_196 ?_
          refine V_iload hC 1 dX9_grow_199 rfl ?_
          obtain ⟨hi, h⟩ := gd_some h
          refine V_iald (g := 0) (k := 36) hC rfl rfl hi dX9_grow_201 ?_
          refine V_aload_n hC 3 dX9_grow_202 rfl ?_
          refine V_getR (g := 0) (k := 0) (g' := 0) (k' := 36) hC 9 36 fl_X9_102 rfl rfl rfl rfl dX9_grow_203 ?_
          refine V_iload hC 0 dX9_grow_206 rfl ?_
          obtain ⟨hi, h⟩ := gd_some h
          refine V_iald (g := 0) (k := 36) hC rfl rfl hi dX9_grow_208 ?_
          refine V_icmp_eq (tgt := 228) hC dX9_grow_209 (by decide) (fun c35 => ?_) (fun c35 => ?_)
          · have h := it_pos c35 h
            refine V_goto (tgt := 71) hC dX9_grow_228 (by decide) ?_
            refine V_lv (lv' := [(0, .ref (ad 0 0)), (1, .int b1), (3, .ref (ad 0 38)), (4, .int y29)]) [3, 4, 5, 2] rfl ?_
            exact ih y29 H32 h
          · have h := it_neg c35 h
            refine V_aload_n hC 3 dX9_grow_212 rfl ?_
            refine V_iload hC 1 dX9_grow_213 rfl ?_
            refine V_iload hC 0 dX9_grow_215 rfl ?_
            obtain ⟨w37, H36, hc, h⟩ := bnd_some h
            refine V_callu (g := 0) (k := 0) (As := [.int v33, .int v34]) (st := []) hC (c_X9_join l hc) rfl ml_X9_193 ⟨Nat.le_of_ble_eq_true rfl, Nat.le_of_ble_eq_true rfl⟩ rfl rfl rfl (Nat.le_of_ble_eq_true rfl) dX9_grow_217 ?_
            refine V_aload_n hC 3 dX9_grow_220 rfl ?_
            refine V_getR (g := 0) (k := 0) (g' := 0) (k' := 37) hC 9 37 fl_X9_105 rfl rfl rfl rfl dX9_grow_221 ?_
            refine V_iload hC 6 dX9_grow_224 rfl ?_
            refine V_iconst (v := 1) hC dX9_grow_226 (by decide) ?_
            obtain ⟨hi, h⟩ := gd_some h
            refine V_zast (g := 0) (k := 37) hC rfl rfl hi dX9_grow_227 ?_
            refine V_hl h (fun H38 h => ?_)
            refine V_goto (tgt := 71) hC dX9_grow_228 (by decide) ?_
            refine V_lv (lv' := [(0, .ref (ad 0 0)), (1, .int b1), (3, .ref (ad 0 38)), (4, .int y29)]) [3, 4, 5, 2] rfl ?_
            exact ih y29 H38 h
        · have h := it_pos c31 h
          refine V_goto (tgt := 71) hC dX9_grow_159 (by decide) ?_
          refine V_lv (lv' := [(0, .ref (ad 0 0)), (1, .int b1), (3, .ref (ad 0 38)), (4, .int y29)]) [1, 2, 3, 0] rfl ?_
          exact ih y29 H30 h
      · refine V_if_lt (tgt := 151) hC dX9_grow_144 (by decide) (fun c39 => ?_) (fun c39 => ?_)
        · have h := it_pos c39 h
          refine V_iconst (v := 0) hC dX9_grow_151 (by decide) ?_
          refine V_lv (lv' := [(0, .ref (ad 0 0)), (1, .int b1), (3, .ref (ad 0 38)), (5, .int z26)]) [0, 1, 2, 3] rfl ?_
          exact hj28 0 H27 h
        · have h := it_neg c39 h
          refine V_iconst (v := 1) hC dX9_grow_147 (by decide) ?_
          refine V_goto (tgt := 152) hC dX9_grow_148 (by decide) ?_
          refine V_lv (lv' := [(0, .ref (ad 0 0)), (1, .int b1), (3, .ref (ad 0 38)), (5, .int z26)]) [0, 1, 2, 3] rfl ?_
          exact hj28 1 H27 h
def f_X9_grow (a1 : Int32) (a2 : Int32) (H : Hp) : Option (Unit × Hp) := L_X9_grow_8 a1 a2 (fun (H16 : Hp) => L_X9_grow_71 a1 (fun (H40 : Hp) => some ((), H40)) FU 1 H16) FU 0 H
set_option maxRecDepth 100000 in
set_option maxHeartbeats 4000000 in
theorem s_X9_grow {p : Program} {l : Launch} {e : Env} {s : State} {m : MethodId} {args : Array Value} {below : List Frame} {meth : Method} {c : Code} {A : Nat → Prop} {D : va_G} {K4 : kQ} {ad : Nat → Nat → Nat} {nr : Nat} {a1 : Int32} {a2 : Int32} {H : Hp} {res : Unit × Hp} (hC : Cx p s m args c A s.heap D K4 8 RX9 cX9_grow) (hret : meth.sig.returnType = none ∧ meth.locks = false) (h : f_X9_grow a1 a2 H = some res) : V p l e ({ frames := 1, cells := 0, slots := 0, locals := 25 }) s m args below meth c A s.heap (QU below args s A D K4 ad nr res) D K4 ad nr 8 0 [(0, .ref (ad 0 0)), (1, .int a1), (2, .int a2)] [] H := by
  unfold f_X9_grow at h
  refine V_aload_n hC 0 dX9_grow_0 rfl ?_
  refine V_getR (g := 0) (k := 0) (g' := 0) (k' := 38) hC 9 38 fl_X9_108 rfl rfl rfl rfl dX9_grow_1 ?_
  refine V_astore_n (lv' := [(3, .ref (ad 0 38)), (0, .ref (ad 0 0)), (1, .int a1), (2, .int a2)]) hC dX9_grow_4 (Nat.le_of_ble_eq_true rfl) rfl ?_
  refine V_iconst (v := 0) hC dX9_grow_5 (by decide) ?_
  refine V_istore (lv' := [(4, .int 0), (3, .ref (ad 0 38)), (0, .ref (ad 0 0)), (1, .int a1), (2, .int a2)]) hC dX9_grow_6 (Nat.le_of_ble_eq_true rfl) rfl ?_
  refine V_lv (lv' := [(0, .ref (ad 0 0)), (1, .int a1), (2, .int a2), (3, .ref (ad 0 38)), (4, .int 0)]) [2, 3, 4, 1, 0] rfl ?_
  refine sL_X9_grow_8 hC hret (fun H16 h => ?_) _ 0 H h
  refine V_iconst (v := 1) hC dX9_grow_68 (by decide) ?_
  refine V_istore (lv' := [(4, .int 1), (0, .ref (ad 0 0)), (1, .int a1), (3, .ref (ad 0 38))]) hC dX9_grow_69 (Nat.le_of_ble_eq_true rfl) rfl ?_
  refine V_lv (lv' := [(0, .ref (ad 0 0)), (1, .int a1), (3, .ref (ad 0 38)), (4, .int 1)]) [1, 2, 3, 0] rfl ?_
  refine sL_X9_grow_71 hC hret (fun H40 h => ?_) _ 1 H16 h
  exact V_vret hC hret dX9_grow_231 h
theorem c_X9_grow (l : Launch) {nr : Nat} {a1 : Int32} {a2 : Int32} {H : Hp} {x : Unit} {H' : Hp} (h : f_X9_grow a1 a2 H = some (x, H')) : CU l nr yX9_grow cX9_grow 8 none 1 25 (fun ad => [.ref (ad 0 0), .int a1, .int a2]) H x H' := by
  intro D K4 ad sz
  refine Met.ofV (by decide) (Nat.le_of_ble_eq_true rfl) ?_
  intro p e s m args below meth c hC hret hsz
  subst hsz
  exact s_X9_grow hC hret h
