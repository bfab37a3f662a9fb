theorem dX9_makePlan_0 : decode cX9_makePlan 0 = .ok (.iconst 0, 1) := by decide +kernel
theorem dX9_makePlan_1 : decode cX9_makePlan 1 = .ok (.istore_n 2, 1) := by decide +kernel
theorem dX9_makePlan_2 : decode cX9_makePlan 2 = .ok (.iload_n 2, 1) := by decide +kernel
theorem dX9_makePlan_3 : decode cX9_makePlan 3 = .ok (.bipush 21, 2) := by decide +kernel
theorem dX9_makePlan_5 : decode cX9_makePlan 5 = .ok (.if_icmp .ge 16, 3) := by decide +kernel
theorem dX9_makePlan_8 : decode cX9_makePlan 8 = .ok (.aload_n 0, 1) := by decide +kernel
theorem dX9_makePlan_9 : decode cX9_makePlan 9 = .ok (.getfield 102, 3) := by decide +kernel
theorem dX9_makePlan_12 : decode cX9_makePlan 12 = .ok (.iload_n 2, 1) := by decide +kernel
theorem dX9_makePlan_13 : decode cX9_makePlan 13 = .ok (.iload_n 2, 1) := by decide +kernel
theorem dX9_makePlan_14 : decode cX9_makePlan 14 = .ok (.iastore, 1) := by decide +kernel
theorem dX9_makePlan_15 : decode cX9_makePlan 15 = .ok (.iinc 2 1, 3) := by decide +kernel
theorem dX9_makePlan_18 : decode cX9_makePlan 18 = .ok (.goto (-16), 3) := by decide +kernel
theorem dX9_makePlan_21 : decode cX9_makePlan 21 = .ok (.iconst 0, 1) := by decide +kernel
theorem dX9_makePlan_22 : decode cX9_makePlan 22 = .ok (.istore_n 2, 1) := by decide +kernel
theorem dX9_makePlan_23 : decode cX9_makePlan 23 = .ok (.iload_n 2, 1) := by decide +kernel
theorem dX9_makePlan_24 : decode cX9_makePlan 24 = .ok (.aload_n 0, 1) := by decide +kernel
theorem dX9_makePlan_25 : decode cX9_makePlan 25 = .ok (.getfield 7, 3) := by decide +kernel
theorem dX9_makePlan_28 : decode cX9_makePlan 28 = .ok (.iload_n 1, 1) := by decide +kernel
theorem dX9_makePlan_29 : decode cX9_makePlan 29 = .ok (.iaload, 1) := by decide +kernel
theorem dX9_makePlan_30 : decode cX9_makePlan 30 = .ok (.if_icmp .ge 31, 3) := by decide +kernel
theorem dX9_makePlan_33 : decode cX9_makePlan 33 = .ok (.aload_n 0, 1) := by decide +kernel
theorem dX9_makePlan_34 : decode cX9_makePlan 34 = .ok (.getfield 20, 3) := by decide +kernel
theorem dX9_makePlan_37 : decode cX9_makePlan 37 = .ok (.bipush 20, 2) := by decide +kernel
theorem dX9_makePlan_39 : decode cX9_makePlan 39 = .ok (.iload_n 1, 1) := by decide +kernel
theorem dX9_makePlan_40 : decode cX9_makePlan 40 = .ok (.imul, 1) := by decide +kernel
theorem dX9_makePlan_41 : decode cX9_makePlan 41 = .ok (.iload_n 2, 1) := by decide +kernel
theorem dX9_makePlan_42 : decode cX9_makePlan 42 = .ok (.iadd, 1) := by decide +kernel
theorem dX9_makePlan_43 : decode cX9_makePlan 43 = .ok (.iaload, 1) := by decide +kernel
theorem dX9_makePlan_44 : decode cX9_makePlan 44 = .ok (.iconst 3, 1) := by decide +kernel
theorem dX9_makePlan_45 : decode cX9_makePlan 45 = .ok (.if_icmp .ne 10, 3) := by decide +kernel
theorem dX9_makePlan_48 : decode cX9_makePlan 48 = .ok (.aload_n 0, 1) := by decide +kernel
theorem dX9_makePlan_49 : decode cX9_makePlan 49 = .ok (.iload_n 2, 1) := by decide +kernel
theorem dX9_makePlan_50 : decode cX9_makePlan 50 = .ok (.bipush 20, 2) := by decide +kernel
theorem dX9_makePlan_52 : decode cX9_makePlan 52 = .ok (.invokevirtual 193, 3) := by decide +kernel
theorem dX9_makePlan_55 : decode cX9_makePlan 55 = .ok (.iinc 2 1, 3) := by decide +kernel
theorem dX9_makePlan_58 : decode cX9_makePlan 58 = .ok (.goto (-35), 3) := by decide +kernel
theorem dX9_makePlan_61 : decode cX9_makePlan 61 = .ok (.aload_n 0, 1) := by decide +kernel
theorem dX9_makePlan_62 : decode cX9_makePlan 62 = .ok (.bipush 20, 2) := by decide +kernel
theorem dX9_makePlan_64 : decode cX9_makePlan 64 = .ok (.iconst 0, 1) := by decide +kernel
theorem dX9_makePlan_65 : decode cX9_makePlan 65 = .ok (.invokevirtual 193, 3) := by decide +kernel
theorem dX9_makePlan_68 : decode cX9_makePlan 68 = .ok (.aload_n 0, 1) := by decide +kernel
theorem dX9_makePlan_69 : decode cX9_makePlan 69 = .ok (.iload_n 1, 1) := by decide +kernel
theorem dX9_makePlan_70 : decode cX9_makePlan 70 = .ok (.iconst 0, 1) := by decide +kernel
theorem dX9_makePlan_71 : decode cX9_makePlan 71 = .ok (.invokevirtual 197, 3) := by decide +kernel
theorem dX9_makePlan_74 : decode cX9_makePlan 74 = .ok (.aload_n 0, 1) := by decide +kernel
theorem dX9_makePlan_75 : decode cX9_makePlan 75 = .ok (.getfield 44, 3) := by decide +kernel
theorem dX9_makePlan_78 : decode cX9_makePlan 78 = .ok (.iload_n 1, 1) := by decide +kernel
theorem dX9_makePlan_79 : decode cX9_makePlan 79 = .ok (.lconst 0, 1) := by decide +kernel
theorem dX9_makePlan_80 : decode cX9_makePlan 80 = .ok (.lastore, 1) := by decide +kernel
theorem dX9_makePlan_81 : decode cX9_makePlan 81 = .ok (.aload_n 0, 1) := by decide +kernel
theorem dX9_makePlan_82 : decode cX9_makePlan 82 = .ok (.getfield 48, 3) := by decide +kernel
theorem dX9_makePlan_85 : decode cX9_makePlan 85 = .ok (.iload_n 1, 1) := by decide +kernel
theorem dX9_makePlan_86 : decode cX9_makePlan 86 = .ok (.iconst 0, 1) := by decide +kernel
theorem dX9_makePlan_87 : decode cX9_makePlan 87 = .ok (.iastore, 1) := by decide +kernel
theorem dX9_makePlan_88 : decode cX9_makePlan 88 = .ok (.iconst 0, 1) := by decide +kernel
theorem dX9_makePlan_89 : decode cX9_makePlan 89 = .ok (.istore_n 2, 1) := by decide +kernel
theorem dX9_makePlan_90 : decode cX9_makePlan 90 = .ok (.iload_n 2, 1) := by decide +kernel
theorem dX9_makePlan_91 : decode cX9_makePlan 91 = .ok (.aload_n 0, 1) := by decide +kernel
theorem dX9_makePlan_92 : decode cX9_makePlan 92 = .ok (.getfield 13, 3) := by decide +kernel
theorem dX9_makePlan_95 : decode cX9_makePlan 95 = .ok (.iload_n 1, 1) := by decide +kernel
theorem dX9_makePlan_96 : decode cX9_makePlan 96 = .ok (.iaload, 1) := by decide +kernel
theorem dX9_makePlan_97 : decode cX9_makePlan 97 = .ok (.if_icmp .ge 77, 3) := by decide +kernel
theorem dX9_makePlan_100 : decode cX9_makePlan 100 = .ok (.aload_n 0, 1) := by decide +kernel
theorem dX9_makePlan_101 : decode cX9_makePlan 101 = .ok (.getfield 41, 3) := by decide +kernel
theorem dX9_makePlan_104 : decode cX9_makePlan 104 = .ok (.bipush 40, 2) := by decide +kernel
theorem dX9_makePlan_106 : decode cX9_makePlan 106 = .ok (.iload_n 1, 1) := by decide +kernel
theorem dX9_makePlan_107 : decode cX9_makePlan 107 = .ok (.imul, 1) := by decide +kernel
theorem dX9_makePlan_108 : decode cX9_makePlan 108 = .ok (.iload_n 2, 1) := by decide +kernel
theorem dX9_makePlan_109 : decode cX9_makePlan 109 = .ok (.iadd, 1) := by decide +kernel
theorem dX9_makePlan_110 : decode cX9_makePlan 110 = .ok (.aload_n 0, 1) := by decide +kernel
theorem dX9_makePlan_111 : decode cX9_makePlan 111 = .ok (.getfield 105, 3) := by decide +kernel
theorem dX9_makePlan_114 : decode cX9_makePlan 114 = .ok (.iload_n 2, 1) := by decide +kernel
theorem dX9_makePlan_115 : decode cX9_makePlan 115 = .ok (.baload, 1) := by decide +kernel
theorem dX9_makePlan_116 : decode cX9_makePlan 116 = .ok (.ifCond .ne 7, 3) := by decide +kernel
theorem dX9_makePlan_119 : decode cX9_makePlan 119 = .ok (.iconst 1, 1) := by decide +kernel
theorem dX9_makePlan_120 : decode cX9_makePlan 120 = .ok (.goto 4, 3) := by decide +kernel
theorem dX9_makePlan_123 : decode cX9_makePlan 123 = .ok (.iconst 0, 1) := by decide +kernel
theorem dX9_makePlan_124 : decode cX9_makePlan 124 = .ok (.bastore, 1) := by decide +kernel
theorem dX9_makePlan_125 : decode cX9_makePlan 125 = .ok (.aload_n 0, 1) := by decide +kernel
theorem dX9_makePlan_126 : decode cX9_makePlan 126 = .ok (.getfield 105, 3) := by decide +kernel
theorem dX9_makePlan_129 : decode cX9_makePlan 129 = .ok (.iload_n 2, 1) := by decide +kernel
theorem dX9_makePlan_130 : decode cX9_makePlan 130 = .ok (.baload, 1) := by decide +kernel
theorem dX9_makePlan_131 : decode cX9_makePlan 131 = .ok (.ifCond .eq 6, 3) := by decide +kernel
theorem dX9_makePlan_134 : decode cX9_makePlan 134 = .ok (.goto 34, 3) := by decide +kernel
theorem dX9_makePlan_137 : decode cX9_makePlan 137 = .ok (.aload_n 0, 1) := by decide +kernel
theorem dX9_makePlan_138 : decode cX9_makePlan 138 = .ok (.getfield 44, 3) := by decide +kernel
theorem dX9_makePlan_141 : decode cX9_makePlan 141 = .ok (.iload_n 1, 1) := by decide +kernel
theorem dX9_makePlan_142 : decode cX9_makePlan 142 = .ok (.dup2, 1) := by decide +kernel
theorem dX9_makePlan_143 : decode cX9_makePlan 143 = .ok (.laload, 1) := by decide +kernel
theorem dX9_makePlan_144 : decode cX9_makePlan 144 = .ok (.aload_n 0, 1) := by decide +kernel
theorem dX9_makePlan_145 : decode cX9_makePlan 145 = .ok (.getfield 32, 3) := by decide +kernel
theorem dX9_makePlan_148 : decode cX9_makePlan 148 = .ok (.bipush 40, 2) := by decide +kernel
theorem dX9_makePlan_150 : decode cX9_makePlan 150 = .ok (.iload_n 1, 1) := by decide +kernel
theorem dX9_makePlan_151 : decode cX9_makePlan 151 = .ok (.imul, 1) := by decide +kernel
theorem dX9_makePlan_152 : decode cX9_makePlan 152 = .ok (.iload_n 2, 1) := by decide +kernel
theorem dX9_makePlan_153 : decode cX9_makePlan 153 = .ok (.iadd, 1) := by decide +kernel
theorem dX9_makePlan_154 : decode cX9_makePlan 154 = .ok (.iaload, 1) := by decide +kernel
theorem dX9_makePlan_155 : decode cX9_makePlan 155 = .ok (.i2l, 1) := by decide +kernel
theorem dX9_makePlan_156 : decode cX9_makePlan 156 = .ok (.ladd, 1) := by decide +kernel
theorem dX9_makePlan_157 : decode cX9_makePlan 157 = .ok (.lastore, 1) := by decide +kernel
theorem dX9_makePlan_158 : decode cX9_makePlan 158 = .ok (.aload_n 0, 1) := by decide +kernel
theorem dX9_makePlan_159 : decode cX9_makePlan 159 = .ok (.getfield 48, 3) := by decide +kernel
theorem dX9_makePlan_162 : decode cX9_makePlan 162 = .ok (.iload_n 1, 1) := by decide +kernel
theorem dX9_makePlan_163 : decode cX9_makePlan 163 = .ok (.dup2, 1) := by decide +kernel
theorem dX9_makePlan_164 : decode cX9_makePlan 164 = .ok (.iaload, 1) := by decide +kernel
theorem dX9_makePlan_165 : decode cX9_makePlan 165 = .ok (.iconst 1, 1) := by decide +kernel
theorem dX9_makePlan_166 : decode cX9_makePlan 166 = .ok (.iadd, 1) := by decide +kernel
theorem dX9_makePlan_167 : decode cX9_makePlan 167 = .ok (.iastore, 1) := by decide +kernel
theorem dX9_makePlan_168 : decode cX9_makePlan 168 = .ok (.iinc 2 1, 3) := by decide +kernel
theorem dX9_makePlan_171 : decode cX9_makePlan 171 = .ok (.goto (-81), 3) := by decide +kernel
theorem dX9_makePlan_174 : decode cX9_makePlan 174 = .ok (.iconst 0, 1) := by decide +kernel
theorem dX9_makePlan_175 : decode cX9_makePlan 175 = .ok (.istore_n 2, 1) := by decide +kernel
theorem dX9_makePlan_176 : decode cX9_makePlan 176 = .ok (.iload_n 2, 1) := by decide +kernel
theorem dX9_makePlan_177 : decode cX9_makePlan 177 = .ok (.bipush 21, 2) := by decide +kernel
theorem dX9_makePlan_179 : decode cX9_makePlan 179 = .ok (.if_icmp .ge 16, 3) := by decide +kernel
theorem dX9_makePlan_182 : decode cX9_makePlan 182 = .ok (.aload_n 0, 1) := by decide +kernel
theorem dX9_makePlan_183 : decode cX9_makePlan 183 = .ok (.getfield 102, 3) := by decide +kernel
theorem dX9_makePlan_186 : decode cX9_makePlan 186 = .ok (.iload_n 2, 1) := by decide +kernel
theorem dX9_makePlan_187 : decode cX9_makePlan 187 = .ok (.iload_n 2, 1) := by decide +kernel
theorem dX9_makePlan_188 : decode cX9_makePlan 188 = .ok (.iastore, 1) := by decide +kernel
theorem dX9_makePlan_189 : decode cX9_makePlan 189 = .ok (.iinc 2 1, 3) := by decide +kernel
theorem dX9_makePlan_192 : decode cX9_makePlan 192 = .ok (.goto (-16), 3) := by decide +kernel
theorem dX9_makePlan_195 : decode cX9_makePlan 195 = .ok (.aload_n 0, 1) := by decide +kernel
theorem dX9_makePlan_196 : decode cX9_makePlan 196 = .ok (.iload_n 1, 1) := by decide +kernel
theorem dX9_makePlan_197 : decode cX9_makePlan 197 = .ok (.iconst 1, 1) := by decide +kernel
theorem dX9_makePlan_198 : decode cX9_makePlan 198 = .ok (.invokevirtual 197, 3) := by decide +kernel
theorem dX9_makePlan_201 : decode cX9_makePlan 201 = .ok (.iconst 0, 1) := by decide +kernel
theorem dX9_makePlan_202 : decode cX9_makePlan 202 = .ok (.istore_n 2, 1) := by decide +kernel
theorem dX9_makePlan_203 : decode cX9_makePlan 203 = .ok (.iload_n 2, 1) := by decide +kernel
theorem dX9_makePlan_204 : decode cX9_makePlan 204 = .ok (.bipush 21, 2) := by decide +kernel
theorem dX9_makePlan_206 : decode cX9_makePlan 206 = .ok (.if_icmp .ge 16, 3) := by decide +kernel
theorem dX9_makePlan_209 : decode cX9_makePlan 209 = .ok (.aload_n 0, 1) := by decide +kernel
theorem dX9_makePlan_210 : decode cX9_makePlan 210 = .ok (.getfield 99, 3) := by decide +kernel
theorem dX9_makePlan_213 : decode cX9_makePlan 213 = .ok (.iload_n 2, 1) := by decide +kernel
theorem dX9_makePlan_214 : decode cX9_makePlan 214 = .ok (.iconst 0, 1) := by decide +kernel
theorem dX9_makePlan_215 : decode cX9_makePlan 215 = .ok (.bastore, 1) := by decide +kernel
theorem dX9_makePlan_216 : decode cX9_makePlan 216 = .ok (.iinc 2 1, 3) := by decide +kernel
theorem dX9_makePlan_219 : decode cX9_makePlan 219 = .ok (.goto (-16), 3) := by decide +kernel
theorem dX9_makePlan_222 : decode cX9_makePlan 222 = .ok (.iconst 0, 1) := by decide +kernel
theorem dX9_makePlan_223 : decode cX9_makePlan 223 = .ok (.istore_n 2, 1) := by decide +kernel
theorem dX9_makePlan_224 : decode cX9_makePlan 224 = .ok (.iload_n 2, 1) := by decide +kernel
theorem dX9_makePlan_225 : decode cX9_makePlan 225 = .ok (.aload_n 0, 1) := by decide +kernel
theorem dX9_makePlan_226 : decode cX9_makePlan 226 = .ok (.getfield 7, 3) := by decide +kernel
theorem dX9_makePlan_229 : decode cX9_makePlan 229 = .ok (.iload_n 1, 1) := by decide +kernel
theorem dX9_makePlan_230 : decode cX9_makePlan 230 = .ok (.iaload, 1) := by decide +kernel
theorem dX9_makePlan_231 : decode cX9_makePlan 231 = .ok (.if_icmp .ge 234, 3) := by decide +kernel
theorem dX9_makePlan_234 : decode cX9_makePlan 234 = .ok (.aload_n 0, 1) := by decide +kernel
theorem dX9_makePlan_235 : decode cX9_makePlan 235 = .ok (.getfield 99, 3) := by decide +kernel
theorem dX9_makePlan_238 : decode cX9_makePlan 238 = .ok (.iload_n 2, 1) := by decide +kernel
theorem dX9_makePlan_239 : decode cX9_makePlan 239 = .ok (.baload, 1) := by decide +kernel
theorem dX9_makePlan_240 : decode cX9_makePlan 240 = .ok (.ifCond .eq 6, 3) := by decide +kernel
theorem dX9_makePlan_243 : decode cX9_makePlan 243 = .ok (.goto 216, 3) := by decide +kernel
theorem dX9_makePlan_246 : decode cX9_makePlan 246 = .ok (.aload_n 0, 1) := by decide +kernel
theorem dX9_makePlan_247 : decode cX9_makePlan 247 = .ok (.getfield 99, 3) := by decide +kernel
theorem dX9_makePlan_250 : decode cX9_makePlan 250 = .ok (.iload_n 2, 1) := by decide +kernel
theorem dX9_makePlan_251 : decode cX9_makePlan 251 = .ok (.iconst 1, 1) := by decide +kernel
theorem dX9_makePlan_252 : decode cX9_makePlan 252 = .ok (.bastore, 1) := by decide +kernel
theorem dX9_makePlan_253 : decode cX9_makePlan 253 = .ok (.aload_n 0, 1) := by decide +kernel
theorem dX9_makePlan_254 : decode cX9_makePlan 254 = .ok (.getfield 63, 3) := by decide +kernel
theorem dX9_makePlan_257 : decode cX9_makePlan 257 = .ok (.bipush 20, 2) := by decide +kernel
theorem dX9_makePlan_259 : decode cX9_makePlan 259 = .ok (.iload_n 1, 1) := by decide +kernel
theorem dX9_makePlan_260 : decode cX9_makePlan 260 = .ok (.imul, 1) := by decide +kernel
theorem dX9_makePlan_261 : decode cX9_makePlan 261 = .ok (.iload_n 2, 1) := by decide +kernel
theorem dX9_makePlan_262 : decode cX9_makePlan 262 = .ok (.iadd, 1) := by decide +kernel
theorem dX9_makePlan_263 : decode cX9_makePlan 263 = .ok (.lconst 0, 1) := by decide +kernel
theorem dX9_makePlan_264 : decode cX9_makePlan 264 = .ok (.lastore, 1) := by decide +kernel
theorem dX9_makePlan_265 : decode cX9_makePlan 265 = .ok (.iconst 1, 1) := by decide +kernel
theorem dX9_makePlan_266 : decode cX9_makePlan 266 = .ok (.istore_n 3, 1) := by decide +kernel
theorem dX9_makePlan_267 : decode cX9_makePlan 267 = .ok (.iload_n 3, 1) := by decide +kernel
theorem dX9_makePlan_268 : decode cX9_makePlan 268 = .ok (.ifCond .eq 191, 3) := by decide +kernel
theorem dX9_makePlan_271 : decode cX9_makePlan 271 = .ok (.iconst 0, 1) := by decide +kernel
theorem dX9_makePlan_272 : decode cX9_makePlan 272 = .ok (.istore_n 3, 1) := by decide +kernel
theorem dX9_makePlan_273 : decode cX9_makePlan 273 = .ok (.iconst 0, 1) := by decide +kernel
theorem dX9_makePlan_274 : decode cX9_makePlan 274 = .ok (.istore 4, 2) := by decide +kernel
theorem dX9_makePlan_276 : decode cX9_makePlan 276 = .ok (.iload 4, 2) := by decide +kernel
theorem dX9_makePlan_278 : decode cX9_makePlan 278 = .ok (.aload_n 0, 1) := by decide +kernel
theorem dX9_makePlan_279 : decode cX9_makePlan 279 = .ok (.getfield 13, 3) := by decide +kernel
theorem dX9_makePlan_282 : decode cX9_makePlan 282 = .ok (.iload_n 1, 1) := by decide +kernel
theorem dX9_makePlan_283 : decode cX9_makePlan 283 = .ok (.iaload, 1) := by decide +kernel
theorem dX9_makePlan_284 : decode cX9_makePlan 284 = .ok (.if_icmp .ge 172, 3) := by decide +kernel
theorem dX9_makePlan_287 : decode cX9_makePlan 287 = .ok (.aload_n 0, 1) := by decide +kernel
theorem dX9_makePlan_288 : decode cX9_makePlan 288 = .ok (.getfield 26, 3) := by decide +kernel
theorem dX9_makePlan_291 : decode cX9_makePlan 291 = .ok (.bipush 40, 2) := by decide +kernel
theorem dX9_makePlan_293 : decode cX9_makePlan 293 = .ok (.iload_n 1, 1) := by decide +kernel
theorem dX9_makePlan_294 : decode cX9_makePlan 294 = .ok (.imul, 1) := by decide +kernel
theorem dX9_makePlan_295 : decode cX9_makePlan 295 = .ok (.iload 4, 2) := by decide +kernel
theorem dX9_makePlan_297 : decode cX9_makePlan 297 = .ok (.iadd, 1) := by decide +kernel
theorem dX9_makePlan_298 : decode cX9_makePlan 298 = .ok (.iaload, 1) := by decide +kernel
theorem dX9_makePlan_299 : decode cX9_makePlan 299 = .ok (.istore 5, 2) := by decide +kernel
theorem dX9_makePlan_301 : decode cX9_makePlan 301 = .ok (.aload_n 0, 1) := by decide +kernel
theorem dX9_makePlan_302 : decode cX9_makePlan 302 = .ok (.getfield 29, 3) := by decide +kernel
theorem dX9_makePlan_305 : decode cX9_makePlan 305 = .ok (.bipush 40, 2) := by decide +kernel
theorem dX9_makePlan_307 : decode cX9_makePlan 307 = .ok (.iload_n 1, 1) := by decide +kernel
theorem dX9_makePlan_308 : decode cX9_makePlan 308 = .ok (.imul, 1) := by decide +kernel
theorem dX9_makePlan_309 : decode cX9_makePlan 309 = .ok (.iload 4, 2) := by decide +kernel
theorem dX9_makePlan_311 : decode cX9_makePlan 311 = .ok (.iadd, 1) := by decide +kernel
theorem dX9_makePlan_312 : decode cX9_makePlan 312 = .ok (.iaload, 1) := by decide +kernel
theorem dX9_makePlan_313 : decode cX9_makePlan 313 = .ok (.istore 6, 2) := by decide +kernel
theorem dX9_makePlan_315 : decode cX9_makePlan 315 = .ok (.aload_n 0, 1) := by decide +kernel
theorem dX9_makePlan_316 : decode cX9_makePlan 316 = .ok (.getfield 105, 3) := by decide +kernel
theorem dX9_makePlan_319 : decode cX9_makePlan 319 = .ok (.iload 4, 2) := by decide +kernel
theorem dX9_makePlan_321 : decode cX9_makePlan 321 = .ok (.baload, 1) := by decide +kernel
theorem dX9_makePlan_322 : decode cX9_makePlan 322 = .ok (.ifCond .eq 128, 3) := by decide +kernel
theorem dX9_makePlan_325 : decode cX9_makePlan 325 = .ok (.aload_n 0, 1) := by decide +kernel
theorem dX9_makePlan_326 : decode cX9_makePlan 326 = .ok (.getfield 99, 3) := by decide +kernel
theorem dX9_makePlan_329 : decode cX9_makePlan 329 = .ok (.iload 5, 2) := by decide +kernel
theorem dX9_makePlan_331 : decode cX9_makePlan 331 = .ok (.baload, 1) := by decide +kernel
theorem dX9_makePlan_332 : decode cX9_makePlan 332 = .ok (.aload_n 0, 1) := by decide +kernel
theorem dX9_makePlan_333 : decode cX9_makePlan 333 = .ok (.getfield 99, 3) := by decide +kernel
theorem dX9_makePlan_336 : decode cX9_makePlan 336 = .ok (.iload 6, 2) := by decide +kernel
theorem dX9_makePlan_338 : decode cX9_makePlan 338 = .ok (.baload, 1) := by decide +kernel
theorem dX9_makePlan_339 : decode cX9_makePlan 339 = .ok (.if_icmp .ne 6, 3) := by decide +kernel
theorem dX9_makePlan_342 : decode cX9_makePlan 342 = .ok (.goto 108, 3) := by decide +kernel
theorem dX9_makePlan_345 : decode cX9_makePlan 345 = .ok (.aload_n 0, 1) := by decide +kernel
theorem dX9_makePlan_346 : decode cX9_makePlan 346 = .ok (.getfield 99, 3) := by decide +kernel
theorem dX9_makePlan_349 : decode cX9_makePlan 349 = .ok (.iload 5, 2) := by decide +kernel
theorem dX9_makePlan_351 : decode cX9_makePlan 351 = .ok (.baload, 1) := by decide +kernel
theorem dX9_makePlan_352 : decode cX9_makePlan 352 = .ok (.ifCond .eq 43, 3) := by decide +kernel
theorem dX9_makePlan_355 : decode cX9_makePlan 355 = .ok (.aload_n 0, 1) := by decide +kernel
theorem dX9_makePlan_356 : decode cX9_makePlan 356 = .ok (.getfield 63, 3) := by decide +kernel
theorem dX9_makePlan_359 : decode cX9_makePlan 359 = .ok (.bipush 20, 2) := by decide +kernel
theorem dX9_makePlan_361 : decode cX9_makePlan 361 = .ok (.iload_n 1, 1) := by decide +kernel
theorem dX9_makePlan_362 : decode cX9_makePlan 362 = .ok (.imul, 1) := by decide +kernel
theorem dX9_makePlan_363 : decode cX9_makePlan 363 = .ok (.iload 6, 2) := by decide +kernel
theorem dX9_makePlan_365 : decode cX9_makePlan 365 = .ok (.iadd, 1) := by decide +kernel
theorem dX9_makePlan_366 : decode cX9_makePlan 366 = .ok (.aload_n 0, 1) := by decide +kernel
theorem dX9_makePlan_367 : decode cX9_makePlan 367 = .ok (.getfield 63, 3) := by decide +kernel
theorem dX9_makePlan_370 : decode cX9_makePlan 370 = .ok (.bipush 20, 2) := by decide +kernel
theorem dX9_makePlan_372 : decode cX9_makePlan 372 = .ok (.iload_n 1, 1) := by decide +kernel
theorem dX9_makePlan_373 : decode cX9_makePlan 373 = .ok (.imul, 1) := by decide +kernel
theorem dX9_makePlan_374 : decode cX9_makePlan 374 = .ok (.iload 5, 2) := by decide +kernel
theorem dX9_makePlan_376 : decode cX9_makePlan 376 = .ok (.iadd, 1) := by decide +kernel
theorem dX9_makePlan_377 : decode cX9_makePlan 377 = .ok (.laload, 1) := by decide +kernel
theorem dX9_makePlan_378 : decode cX9_makePlan 378 = .ok (.aload_n 0, 1) := by decide +kernel
theorem dX9_makePlan_379 : decode cX9_makePlan 379 = .ok (.getfield 60, 3) := by decide +kernel
theorem dX9_makePlan_382 : decode cX9_makePlan 382 = .ok (.bipush 40, 2) := by decide +kernel
theorem dX9_makePlan_384 : decode cX9_makePlan 384 = .ok (.iload_n 1, 1) := by decide +kernel
theorem dX9_makePlan_385 : decode cX9_makePlan 385 = .ok (.imul, 1) := by decide +kernel
theorem dX9_makePlan_386 : decode cX9_makePlan 386 = .ok (.iload 4, 2) := by decide +kernel
theorem dX9_makePlan_388 : decode cX9_makePlan 388 = .ok (.iadd, 1) := by decide +kernel
theorem dX9_makePlan_389 : decode cX9_makePlan 389 = .ok (.laload, 1) := by decide +kernel
theorem dX9_makePlan_390 : decode cX9_makePlan 390 = .ok (.ladd, 1) := by decide +kernel
theorem dX9_makePlan_391 : decode cX9_makePlan 391 = .ok (.lastore, 1) := by decide +kernel
theorem dX9_makePlan_392 : decode cX9_makePlan 392 = .ok (.goto 40, 3) := by decide +kernel
theorem dX9_makePlan_395 : decode cX9_makePlan 395 = .ok (.aload_n 0, 1) := by decide +kernel
theorem dX9_makePlan_396 : decode cX9_makePlan 396 = .ok (.getfield 63, 3) := by decide +kernel
theorem dX9_makePlan_399 : decode cX9_makePlan 399 = .ok (.bipush 20, 2) := by decide +kernel
theorem dX9_makePlan_401 : decode cX9_makePlan 401 = .ok (.iload_n 1, 1) := by decide +kernel
theorem dX9_makePlan_402 : decode cX9_makePlan 402 = .ok (.imul, 1) := by decide +kernel
theorem dX9_makePlan_403 : decode cX9_makePlan 403 = .ok (.iload 5, 2) := by decide +kernel
theorem dX9_makePlan_405 : decode cX9_makePlan 405 = .ok (.iadd, 1) := by decide +kernel
theorem dX9_makePlan_406 : decode cX9_makePlan 406 = .ok (.aload_n 0, 1) := by decide +kernel
theorem dX9_makePlan_407 : decode cX9_makePlan 407 = .ok (.getfield 63, 3) := by decide +kernel
theorem dX9_makePlan_410 : decode cX9_makePlan 410 = .ok (.bipush 20, 2) := by decide +kernel
theorem dX9_makePlan_412 : decode cX9_makePlan 412 = .ok (.iload_n 1, 1) := by decide +kernel
theorem dX9_makePlan_413 : decode cX9_makePlan 413 = .ok (.imul, 1) := by decide +kernel
theorem dX9_makePlan_414 : decode cX9_makePlan 414 = .ok (.iload 6, 2) := by decide +kernel
theorem dX9_makePlan_416 : decode cX9_makePlan 416 = .ok (.iadd, 1) := by decide +kernel
theorem dX9_makePlan_417 : decode cX9_makePlan 417 = .ok (.laload, 1) := by decide +kernel
theorem dX9_makePlan_418 : decode cX9_makePlan 418 = .ok (.aload_n 0, 1) := by decide +kernel
theorem dX9_makePlan_419 : decode cX9_makePlan 419 = .ok (.getfield 60, 3) := by decide +kernel
theorem dX9_makePlan_422 : decode cX9_makePlan 422 = .ok (.bipush 40, 2) := by decide +kernel
theorem dX9_makePlan_424 : decode cX9_makePlan 424 = .ok (.iload_n 1, 1) := by decide +kernel
theorem dX9_makePlan_425 : decode cX9_makePlan 425 = .ok (.imul, 1) := by decide +kernel
theorem dX9_makePlan_426 : decode cX9_makePlan 426 = .ok (.iload 4, 2) := by decide +kernel
theorem dX9_makePlan_428 : decode cX9_makePlan 428 = .ok (.iadd, 1) := by decide +kernel
theorem dX9_makePlan_429 : decode cX9_makePlan 429 = .ok (.laload, 1) := by decide +kernel
theorem dX9_makePlan_430 : decode cX9_makePlan 430 = .ok (.lsub, 1) := by decide +kernel
theorem dX9_makePlan_431 : decode cX9_makePlan 431 = .ok (.lastore, 1) := by decide +kernel
theorem dX9_makePlan_432 : decode cX9_makePlan 432 = .ok (.aload_n 0, 1) := by decide +kernel
theorem dX9_makePlan_433 : decode cX9_makePlan 433 = .ok (.getfield 99, 3) := by decide +kernel
theorem dX9_makePlan_436 : decode cX9_makePlan 436 = .ok (.iload 5, 2) := by decide +kernel
theorem dX9_makePlan_438 : decode cX9_makePlan 438 = .ok (.iconst 1, 1) := by decide +kernel
theorem dX9_makePlan_439 : decode cX9_makePlan 439 = .ok (.bastore, 1) := by decide +kernel
theorem dX9_makePlan_440 : decode cX9_makePlan 440 = .ok (.aload_n 0, 1) := by decide +kernel
theorem dX9_makePlan_441 : decode cX9_makePlan 441 = .ok (.getfield 99, 3) := by decide +kernel
theorem dX9_makePlan_444 : decode cX9_makePlan 444 = .ok (.iload 6, 2) := by decide +kernel
theorem dX9_makePlan_446 : decode cX9_makePlan 446 = .ok (.iconst 1, 1) := by decide +kernel
theorem dX9_makePlan_447 : decode cX9_makePlan 447 = .ok (.bastore, 1) := by decide +kernel
theorem dX9_makePlan_448 : decode cX9_makePlan 448 = .ok (.iconst 1, 1) := by decide +kernel
theorem dX9_makePlan_449 : decode cX9_makePlan 449 = .ok (.istore_n 3, 1) := by decide +kernel
theorem dX9_makePlan_450 : decode cX9_makePlan 450 = .ok (.iinc 4 1, 3) := by decide +kernel
theorem dX9_makePlan_453 : decode cX9_makePlan 453 = .ok (.goto (-177), 3) := by decide +kernel
theorem dX9_makePlan_456 : decode cX9_makePlan 456 = .ok (.goto (-189), 3) := by decide +kernel
theorem dX9_makePlan_459 : decode cX9_makePlan 459 = .ok (.iinc 2 1, 3) := by decide +kernel
theorem dX9_makePlan_462 : decode cX9_makePlan 462 = .ok (.goto (-238), 3) := by decide +kernel
theorem dX9_makePlan_465 : decode cX9_makePlan 465 = .ok (.bipush 40, 2) := by decide +kernel
theorem dX9_makePlan_467 : decode cX9_makePlan 467 = .ok (.iload_n 1, 1) := by decide +kernel
theorem dX9_makePlan_468 : decode cX9_makePlan 468 = .ok (.imul, 1) := by decide +kernel
theorem dX9_makePlan_469 : decode cX9_makePlan 469 = .ok (.istore_n 2, 1) := by decide +kernel
theorem dX9_makePlan_470 : decode cX9_makePlan 470 = .ok (.iload_n 2, 1) := by decide +kernel
theorem dX9_makePlan_471 : decode cX9_makePlan 471 = .ok (.bipush 40, 2) := by decide +kernel
theorem dX9_makePlan_473 : decode cX9_makePlan 473 = .ok (.iload_n 1, 1) := by decide +kernel
theorem dX9_makePlan_474 : decode cX9_makePlan 474 = .ok (.imul, 1) := by decide +kernel
theorem dX9_makePlan_475 : decode cX9_makePlan 475 = .ok (.bipush 40, 2) := by decide +kernel
theorem dX9_makePlan_477 : decode cX9_makePlan 477 = .ok (.iadd, 1) := by decide +kernel
theorem dX9_makePlan_478 : decode cX9_makePlan 478 = .ok (.if_icmp .ge 23, 3) := by decide +kernel
theorem dX9_makePlan_481 : decode cX9_makePlan 481 = .ok (.aload_n 0, 1) := by decide +kernel
theorem dX9_makePlan_482 : decode cX9_makePlan 482 = .ok (.getfield 75, 3) := by decide +kernel
theorem dX9_makePlan_485 : decode cX9_makePlan 485 = .ok (.iload_n 2, 1) := by decide +kernel
theorem dX9_makePlan_486 : decode cX9_makePlan 486 = .ok (.lconst 0, 1) := by decide +kernel
theorem dX9_makePlan_487 : decode cX9_makePlan 487 = .ok (.lastore, 1) := by decide +kernel
theorem dX9_makePlan_488 : decode cX9_makePlan 488 = .ok (.aload_n 0, 1) := by decide +kernel
theorem dX9_makePlan_489 : decode cX9_makePlan 489 = .ok (.getfield 78, 3) := by decide +kernel
theorem dX9_makePlan_492 : decode cX9_makePlan 492 = .ok (.iload_n 2, 1) := by decide +kernel
theorem dX9_makePlan_493 : decode cX9_makePlan 493 = .ok (.lconst 0, 1) := by decide +kernel
theorem dX9_makePlan_494 : decode cX9_makePlan 494 = .ok (.lastore, 1) := by decide +kernel
theorem dX9_makePlan_495 : decode cX9_makePlan 495 = .ok (.iinc 2 1, 3) := by decide +kernel
theorem dX9_makePlan_498 : decode cX9_makePlan 498 = .ok (.goto (-28), 3) := by decide +kernel
theorem dX9_makePlan_501 : decode cX9_makePlan 501 = .ok (.bipush 20, 2) := by decide +kernel
theorem dX9_makePlan_503 : decode cX9_makePlan 503 = .ok (.iload_n 1, 1) := by decide +kernel
theorem dX9_makePlan_504 : decode cX9_makePlan 504 = .ok (.imul, 1) := by decide +kernel
theorem dX9_makePlan_505 : decode cX9_makePlan 505 = .ok (.istore_n 2, 1) := by decide +kernel
theorem dX9_makePlan_506 : decode cX9_makePlan 506 = .ok (.iload_n 2, 1) := by decide +kernel
theorem dX9_makePlan_507 : decode cX9_makePlan 507 = .ok (.bipush 20, 2) := by decide +kernel
theorem dX9_makePlan_509 : decode cX9_makePlan 509 = .ok (.iload_n 1, 1) := by decide +kernel
theorem dX9_makePlan_510 : decode cX9_makePlan 510 = .ok (.imul, 1) := by decide +kernel
theorem dX9_makePlan_511 : decode cX9_makePlan 511 = .ok (.bipush 20, 2) := by decide +kernel
theorem dX9_makePlan_513 : decode cX9_makePlan 513 = .ok (.iadd, 1) := by decide +kernel
theorem dX9_makePlan_514 : decode cX9_makePlan 514 = .ok (.if_icmp .ge 16, 3) := by decide +kernel
theorem dX9_makePlan_517 : decode cX9_makePlan 517 = .ok (.aload_n 0, 1) := by decide +kernel
theorem dX9_makePlan_518 : decode cX9_makePlan 518 = .ok (.getfield 72, 3) := by decide +kernel
theorem dX9_makePlan_521 : decode cX9_makePlan 521 = .ok (.iload_n 2, 1) := by decide +kernel
theorem dX9_makePlan_522 : decode cX9_makePlan 522 = .ok (.lconst 0, 1) := by decide +kernel
theorem dX9_makePlan_523 : decode cX9_makePlan 523 = .ok (.lastore, 1) := by decide +kernel
theorem dX9_makePlan_524 : decode cX9_makePlan 524 = .ok (.iinc 2 1, 3) := by decide +kernel
theorem dX9_makePlan_527 : decode cX9_makePlan 527 = .ok (.goto (-21), 3) := by decide +kernel
theorem dX9_makePlan_530 : decode cX9_makePlan 530 = .ok (.aload_n 0, 1) := by decide +kernel
theorem dX9_makePlan_531 : decode cX9_makePlan 531 = .ok (.getfield 66, 3) := by decide +kernel
theorem dX9_makePlan_534 : decode cX9_makePlan 534 = .ok (.iload_n 1, 1) := by decide +kernel
theorem dX9_makePlan_535 : decode cX9_makePlan 535 = .ok (.lconst 0, 1) := by decide +kernel
theorem dX9_makePlan_536 : decode cX9_makePlan 536 = .ok (.lastore, 1) := by decide +kernel
theorem dX9_makePlan_537 : decode cX9_makePlan 537 = .ok (.aload_n 0, 1) := by decide +kernel
theorem dX9_makePlan_538 : decode cX9_makePlan 538 = .ok (.getfield 69, 3) := by decide +kernel
theorem dX9_makePlan_541 : decode cX9_makePlan 541 = .ok (.iload_n 1, 1) := by decide +kernel
theorem dX9_makePlan_542 : decode cX9_makePlan 542 = .ok (.lconst 0, 1) := by decide +kernel
theorem dX9_makePlan_543 : decode cX9_makePlan 543 = .ok (.lastore, 1) := by decide +kernel
theorem dX9_makePlan_544 : decode cX9_makePlan 544 = .ok (.aload_n 0, 1) := by decide +kernel
theorem dX9_makePlan_545 : decode cX9_makePlan 545 = .ok (.getfield 81, 3) := by decide +kernel
theorem dX9_makePlan_548 : decode cX9_makePlan 548 = .ok (.iload_n 1, 1) := by decide +kernel
theorem dX9_makePlan_549 : decode cX9_makePlan 549 = .ok (.iconst 0, 1) := by decide +kernel
theorem dX9_makePlan_550 : decode cX9_makePlan 550 = .ok (.iastore, 1) := by decide +kernel
theorem dX9_makePlan_551 : decode cX9_makePlan 551 = .ok (.return_, 1) := by decide +kernel
def L_X9_makePlan_2 (b1 : Int32) (k : Hp → Option (Unit × Hp)) : Nat → Int32 → Hp → Option (Unit × Hp)
  | 0, _, _ => none
  | n + 1, x2, H => if 21 ≤ x2 then k H else gd x2 21 (hl (sI H 0 36 (Int32.toNatClampNeg x2) x2) (fun (H2 : Hp) => vl (x2 + (1 : Int32)) (fun (v3 : Int32) => L_X9_makePlan_2 b1 k n v3 H2)))
set_option maxRecDepth 100000 in
set_option maxHeartbeats 4000000 in
theorem sL_X9_makePlan_2 {p : Program} {l : Launch} {e : Env} {s : State} {m : MethodId} {args : Array Value} {below : List Frame} {meth : Method} {c : Code} {A : Nat → Prop} {D : va_G} {K4 : kQ} {ad : Nat → Nat → Nat} {nr : Nat} {b1 : Int32} {k : Hp → Option (Unit × Hp)} {res : Unit × Hp} (hC : Cx p s m args c A s.heap D K4 7 RX9 cX9_makePlan) (hret : meth.sig.returnType = none ∧ meth.locks = false) (hk : ∀ (H : Hp), k H = some res → V p l e ({ frames := 2, cells := 0, slots := 0, locals := 52 }) s m args below meth c A s.heap (QU below args s A D K4 ad nr res) D K4 ad nr 7 21 [(0, .ref (ad 0 0)), (1, .int b1)] [] H) : ∀ (n : Nat) (x2 : Int32) (H : Hp), L_X9_makePlan_2 b1 k n x2 H = some res → V p l e ({ frames := 2, cells := 0, slots := 0, locals := 52 }) s m args below meth c A s.heap (QU below args s A D K4 ad nr res) D K4 ad nr 7 2 [(0, .ref (ad 0 0)), (1, .int b1), (2, .int x2)] [] H := by
  intro n
  induction n with
  | zero => intro x2 H h; exact nomatch (show (none : Option (Unit × Hp)) = some res from h)
  | succ n ih =>
    intro x2 H h
    rw [L_X9_makePlan_2] at h
    refine V_iload_n hC 2 dX9_makePlan_2 rfl ?_
    refine V_bipush (v := 21) hC dX9_makePlan_3 (by decide) ?_
    refine V_icmp_ge (tgt := 21) hC dX9_makePlan_5 (by decide) (fun c1 => ?_) (fun c1 => ?_)
    · have h := it_pos c1 h
      refine V_lv (lv' := [(0, .ref (ad 0 0)), (1, .int b1)]) [0, 1] rfl ?_
      exact hk H h
    · have h := it_neg c1 h
      refine V_aload_n hC 0 dX9_makePlan_8 rfl ?_
      refine V_getR (g := 0) (k := 0) (g' := 0) (k' := 36) hC 9 36 fl_X9_102 rfl rfl rfl rfl dX9_makePlan_9 ?_
      refine V_iload_n hC 2 dX9_makePlan_12 rfl ?_
      refine V_iload_n hC 2 dX9_makePlan_13 rfl ?_
      obtain ⟨hi, h⟩ := gd_some h
      refine V_iast (g := 0) (k := 36) hC rfl rfl hi dX9_makePlan_14 ?_
      refine V_hl h (fun H2 h => ?_)
      refine V_vi h (fun v3 hvv3 h => ?_)
      refine V_iinc (v := v3) (lv' := [(2, .int v3), (0, .ref (ad 0 0)), (1, .int b1)]) hC 2 dX9_makePlan_15 rfl hvv3.symm (Nat.le_of_ble_eq_true rfl) rfl ?_
      refine V_goto (tgt := 2) hC dX9_makePlan_18 (by decide) ?_
      refine V_lv (lv' := [(0, .ref (ad 0 0)), (1, .int b1), (2, .int v3)]) [1, 2, 0] rfl ?_
      exact ih v3 H2 h
def L_X9_makePlan_23 (b1 : Int32) (k : Hp → Option (Unit × Hp)) : Nat → Int32 → Hp → Option (Unit × Hp)
  | 0, _, _ => none
  | n + 1, x2, H => gd b1 8 (if (gI H 0 1 (Int32.toNatClampNeg b1)) ≤ x2 then k H else gd ((20 * b1) + x2) 160 (if (gI H 0 4 (Int32.toNatClampNeg ((20 * b1) + x2))) = 3 then bnd (f_X9_join x2 20 H) (fun w9 H8 => vl (x2 + (1 : Int32)) (fun (v10 : Int32) => L_X9_makePlan_23 b1 k n v10 H8)) else vl (x2 + (1 : Int32)) (fun (v7 : Int32) => L_X9_makePlan_23 b1 k n v7 H)))
set_option maxRecDepth 100000 in
set_option maxHeartbeats 4000000 in
theorem sL_X9_makePlan_23 {p : Program} {l : Launch} {e : Env} {s : State} {m : MethodId} {args : Array Value} {below : List Frame} {meth : Method} {c : Code} {A : Nat → Prop} {D : va_G} {K4 : kQ} {ad : Nat → Nat → Nat} {nr : Nat} {b1 : Int32} {k : Hp → Option (Unit × Hp)} {res : Unit × Hp} (hC : Cx p s m args c A s.heap D K4 7 RX9 cX9_makePlan) (hret : meth.sig.returnType = none ∧ meth.locks = false) (hk : ∀ (H : Hp), k H = some res → V p l e ({ frames := 2, cells := 0, slots := 0, locals := 52 }) s m args below meth c A s.heap (QU below args s A D K4 ad nr res) D K4 ad nr 7 61 [(0, .ref (ad 0 0)), (1, .int b1)] [] H) : ∀ (n : Nat) (x2 : Int32) (H : Hp), L_X9_makePlan_23 b1 k n x2 H = some res → V p l e ({ frames := 2, cells := 0, slots := 0, locals := 52 }) s m args below meth c A s.heap (QU below args s A D K4 ad nr res) D K4 ad nr 7 23 [(0, .ref (ad 0 0)), (1, .int b1), (2, .int x2)] [] H := by
  intro n
  induction n with
  | zero => intro x2 H h; exact nomatch (show (none : Option (Unit × Hp)) = some res from h)
  | succ n ih =>
    intro x2 H h
    rw [L_X9_makePlan_23] at h
    refine V_iload_n hC 2 dX9_makePlan_23 rfl ?_
    refine V_aload_n hC 0 dX9_makePlan_24 rfl ?_
    refine V_getR (g := 0) (k := 0) (g' := 0) (k' := 1) hC 9 1 fl_X9_7 rfl rfl rfl rfl dX9_makePlan_25 ?_
    refine V_iload_n hC 1 dX9_makePlan_28 rfl ?_
    obtain ⟨hi, h⟩ := gd_some h
    refine V_iald (g := 0) (k := 1) hC rfl rfl hi dX9_makePlan_29 ?_
    refine V_icmp_ge (tgt := 61) hC dX9_makePlan_30 (by decide) (fun c5 => ?_) (fun c5 => ?_)
    · have h := it_pos c5 h
      refine V_lv (lv' := [(0, .ref (ad 0 0)), (1, .int b1)]) [0, 1] rfl ?_
      exact hk H h
    · have h := it_neg c5 h
      refine V_aload_n hC 0 dX9_makePlan_33 rfl ?_
      refine V_getR (g := 0) (k := 0) (g' := 0) (k' := 4) hC 9 4 fl_X9_20 rfl rfl rfl rfl dX9_makePlan_34 ?_
      refine V_bipush (v := 20) hC dX9_makePlan_37 (by decide) ?_
      refine V_iload_n hC 1 dX9_makePlan_39 rfl ?_
      refine V_imul hC dX9_makePlan_40 ?_
      refine V_iload_n hC 2 dX9_makePlan_41 rfl ?_
      refine V_iadd hC dX9_makePlan_42 ?_
      obtain ⟨hi, h⟩ := gd_some h
      refine V_iald (g := 0) (k := 4) hC rfl rfl hi dX9_makePlan_43 ?_
      refine V_iconst (v := 3) hC dX9_makePlan_44 (by decide) ?_
      refine V_icmp_ne (tgt := 55) hC dX9_makePlan_45 (by decide) (fun c6 => ?_) (fun c6 => ?_)
      · have h := it_neg c6 h
        refine V_vi h (fun v7 hvv7 h => ?_)
        refine V_iinc (v := v7) (lv' := [(2, .int v7), (0, .ref (ad 0 0)), (1, .int b1)]) hC 2 dX9_makePlan_55 rfl hvv7.symm (Nat.le_of_ble_eq_true rfl) rfl ?_
        refine V_goto (tgt := 23) hC dX9_makePlan_58 (by decide) ?_
        refine V_lv (lv' := [(0, .ref (ad 0 0)), (1, .int b1), (2, .int v7)]) [1, 2, 0] rfl ?_
        exact ih v7 H h
      · have h := it_pos c6 h
        refine V_aload_n hC 0 dX9_makePlan_48 rfl ?_
        refine V_iload_n hC 2 dX9_makePlan_49 rfl ?_
        refine V_bipush (v := 20) hC dX9_makePlan_50 (by decide) ?_
        obtain ⟨w9, H8, hc, h⟩ := bnd_some h
        refine V_callu (g := 0) (k := 0) (As := [.int x2, .int 20]) (st := []) hC (c_X9_join l hc) rfl ml_X9_193 ⟨Nat.le_of_ble_eq_true rfl, Nat.le_of_ble_eq_true rfl⟩ rfl rfl rfl (Nat.le_of_ble_eq_true rfl) dX9_makePlan_52 ?_
        refine V_vi h (fun v10 hvv10 h => ?_)
        refine V_iinc (v := v10) (lv' := [(2, .int v10), (0, .ref (ad 0 0)), (1, .int b1)]) hC 2 dX9_makePlan_55 rfl hvv10.symm (Nat.le_of_ble_eq_true rfl) rfl ?_
        refine V_goto (tgt := 23) hC dX9_makePlan_58 (by decide) ?_
        refine V_lv (lv' := [(0, .ref (ad 0 0)), (1, .int b1), (2, .int v10)]) [1, 2, 0] rfl ?_
        exact ih v10 H8 h
def L_X9_makePlan_90 (b1 : Int32) (k : Hp → Option (Unit × Hp)) : Nat → Int32 → Hp → Option (Unit × Hp)
  | 0, _, _ => none
  | n + 1, x2, H => gd b1 8 (if (gI H 0 2 (Int32.toNatClampNeg b1)) ≤ x2 then k H else gd x2 40 (jn (fun (y20 : Int32) (H21 : Hp) => gd ((40 * b1) + x2) 320 (hl (sI H21 0 11 (Int32.toNatClampNeg ((40 * b1) + x2)) (vp_nar .boolean y20)) (fun (H22 : Hp) => gd x2 40 (if (gI H22 0 37 (Int32.toNatClampNeg x2)) = 0 then gd b1 8 (gd ((40 * b1) + x2) 320 (gd b1 8 (hl (sJ H22 0 12 (Int32.toNatClampNeg b1) ((gJ H22 0 12 (Int32.toNatClampNeg b1)) + (Int32.toInt64 (gI H22 0 8 (Int32.toNatClampNeg ((40 * b1) + x2)))))) (fun (H24 : Hp) => gd b1 8 (gd b1 8 (hl (sI H24 0 13 (Int32.toNatClampNeg b1) ((gI H24 0 13 (Int32.toNatClampNeg b1)) + 1)) (fun (H25 : Hp) => vl (x2 + (1 : Int32)) (fun (v26 : Int32) => L_X9_makePlan_90 b1 k n v26 H25)))))))) else vl (x2 + (1 : Int32)) (fun (v27 : Int32) => L_X9_makePlan_90 b1 k n v27 H22))))) (fun j19 => if (gI H 0 37 (Int32.toNatClampNeg x2)) = 0 then j19 1 H else j19 0 H)))
set_option maxRecDepth 100000 in
set_option maxHeartbeats 4000000 in
theorem sL_X9_makePlan_90 {p : Program} {l : Launch} {e : Env} {s : State} {m : MethodId} {args : Array Value} {below : List Frame} {meth : Method} {c : Code} {A : Nat → Prop} {D : va_G} {K4 : kQ} {ad : Nat → Nat → Nat} {nr : Nat} {b1 : Int32} {k : Hp → Option (Unit × Hp)} {res : Unit × Hp} (hC : Cx p s m args c A s.heap D K4 7 RX9 cX9_makePlan) (hret : meth.sig.returnType = none ∧ meth.locks = false) (hk : ∀ (H : Hp), k H = some res → V p l e ({ frames := 2, cells := 0, slots := 0, locals := 52 }) s m args below meth c A s.heap (QU below args s A D K4 ad nr res) D K4 ad nr 7 174 [(0, .ref (ad 0 0)), (1, .int b1)] [] H) : ∀ (n : Nat) (x2 : Int32) (H : Hp), L_X9_makePlan_90 b1 k n x2 H = some res → V p l e ({ frames := 2, cells := 0, slots := 0, locals := 52 }) s m args below meth c A s.heap (QU below args s A D K4 ad nr res) D K4 ad nr 7 90 [(0, .ref (ad 0 0)), (1, .int b1), (2, .int x2)] [] H := by
  intro n
  induction n with
  | zero => intro x2 H h; exact nomatch (show (none : Option (Unit × Hp)) = some res from h)
  | succ n ih =>
    intro x2 H h
    rw [L_X9_makePlan_90] at h
    refine V_iload_n hC 2 dX9_makePlan_90 rfl ?_
    refine V_aload_n hC 0 dX9_makePlan_91 rfl ?_
    refine V_getR (g := 0) (k := 0) (g' := 0) (k' := 2) hC 9 2 fl_X9_13 rfl rfl rfl rfl dX9_makePlan_92 ?_
    refine V_iload_n hC 1 dX9_makePlan_95 rfl ?_
    obtain ⟨hi, h⟩ := gd_some h
    refine V_iald (g := 0) (k := 2) hC rfl rfl hi dX9_makePlan_96 ?_
    refine V_icmp_ge (tgt := 174) hC dX9_makePlan_97 (by decide) (fun c18 => ?_) (fun c18 => ?_)
    · have h := it_pos c18 h
      refine V_lv (lv' := [(0, .ref (ad 0 0)), (1, .int b1)]) [0, 1] rfl ?_
      exact hk H h
    · have h := it_neg c18 h
      refine V_aload_n hC 0 dX9_makePlan_100 rfl ?_
      refine V_getR (g := 0) (k := 0) (g' := 0) (k' := 11) hC 9 11 fl_X9_41 rfl rfl rfl rfl dX9_makePlan_101 ?_
      refine V_bipush (v := 40) hC dX9_makePlan_104 (by decide) ?_
      refine V_iload_n hC 1 dX9_makePlan_106 rfl ?_
      refine V_imul hC dX9_makePlan_107 ?_
      refine V_iload_n hC 2 dX9_makePlan_108 rfl ?_
      refine V_iadd hC dX9_makePlan_109 ?_
      refine V_aload_n hC 0 dX9_makePlan_110 rfl ?_
      refine V_getR (g := 0) (k := 0) (g' := 0) (k' := 37) hC 9 37 fl_X9_105 rfl rfl rfl rfl dX9_makePlan_111 ?_
      refine V_iload_n hC 2 dX9_makePlan_114 rfl ?_
      obtain ⟨hi, h⟩ := gd_some h
      refine V_zald (g := 0) (k := 37) hC rfl rfl hi dX9_makePlan_115 ?_
      refine V_jn1 (pj := 124) (lj := fun y20 => [(0, .ref (ad 0 0)), (1, .int b1), (2, .int x2)]) (sj := fun y20 => [.int y20, .int ((40 * b1) + x2), .ref (ad 0 11)]) h (fun y20 H21 h => ?_) (fun hj19 h => ?_)
      · obtain ⟨hi, h⟩ := gd_some h
        refine V_zast (g := 0) (k := 11) hC rfl rfl hi dX9_makePlan_124 ?_
        refine V_hl h (fun H22 h => ?_)
        refine V_aload_n hC 0 dX9_makePlan_125 rfl ?_
        refine V_getR (g := 0) (k := 0) (g' := 0) (k' := 37) hC 9 37 fl_X9_105 rfl rfl rfl rfl dX9_makePlan_126 ?_
        refine V_iload_n hC 2 dX9_makePlan_129 rfl ?_
        obtain ⟨hi, h⟩ := gd_some h
        refine V_zald (g := 0) (k := 37) hC rfl rfl hi dX9_makePlan_130 ?_
        refine V_if_eq (tgt := 137) hC dX9_makePlan_131 (by decide) (fun c23 => ?_) (fun c23 => ?_)
        · have h := it_pos c23 h
          refine V_aload_n hC 0 dX9_makePlan_137 rfl ?_
          refine V_getR (g := 0) (k := 0) (g' := 0) (k' := 12) hC 9 12 fl_X9_44 rfl rfl rfl rfl dX9_makePlan_138 ?_
          refine V_iload_n hC 1 dX9_makePlan_141 rfl ?_
          refine V_dup2 hC dX9_makePlan_142 rfl rfl ?_
          obtain ⟨hi, h⟩ := gd_some h
          refine V_lald (g := 0) (k := 12) hC rfl rfl hi dX9_makePlan_143 ?_
          refine V_aload_n hC 0 dX9_makePlan_144 rfl ?_
          refine V_getR (g := 0) (k := 0) (g' := 0) (k' := 8) hC 9 8 fl_X9_32 rfl rfl rfl rfl dX9_makePlan_145 ?_
          refine V_bipush (v := 40) hC dX9_makePlan_148 (by decide) ?_
          refine V_iload_n hC 1 dX9_makePlan_150 rfl ?_
          refine V_imul hC dX9_makePlan_151 ?_
          refine V_iload_n hC 2 dX9_makePlan_152 rfl ?_
          refine V_iadd hC dX9_makePlan_153 ?_
          obtain ⟨hi, h⟩ := gd_some h
          refine V_iald (g := 0) (k := 8) hC rfl rfl hi dX9_makePlan_154 ?_
          refine V_i2l hC dX9_makePlan_155 ?_
          refine V_ladd hC dX9_makePlan_156 ?_
          obtain ⟨hi, h⟩ := gd_some h
          refine V_last (g := 0) (k := 12) hC rfl rfl hi dX9_makePlan_157 ?_
          refine V_hl h (fun H24 h => ?_)
          refine V_aload_n hC 0 dX9_makePlan_158 rfl ?_
          refine V_getR (g := 0) (k := 0) (g' := 0) (k' := 13) hC 9 13 fl_X9_48 rfl rfl rfl rfl dX9_makePlan_159 ?_
          refine V_iload_n hC 1 dX9_makePlan_162 rfl ?_
          refine V_dup2 hC dX9_makePlan_163 rfl rfl ?_
          obtain ⟨hi, h⟩ := gd_some h
          refine V_iald (g := 0) (k := 13) hC rfl rfl hi dX9_makePlan_164 ?_
          refine V_iconst (v := 1) hC dX9_makePlan_165 (by decide) ?_
          refine V_iadd hC dX9_makePlan_166 ?_
          obtain ⟨hi, h⟩ := gd_some h
          refine V_iast (g := 0) (k := 13) hC rfl rfl hi dX9_makePlan_167 ?_
          refine V_hl h (fun H25 h => ?_)
          refine V_vi h (fun v26 hvv26 h => ?_)
          refine V_iinc (v := v26) (lv' := [(2, .int v26), (0, .ref (ad 0 0)), (1, .int b1)]) hC 2 dX9_makePlan_168 rfl hvv26.symm (Nat.le_of_ble_eq_true rfl) rfl ?_
          refine V_goto (tgt := 90) hC dX9_makePlan_171 (by decide) ?_
          refine V_lv (lv' := [(0, .ref (ad 0 0)), (1, .int b1), (2, .int v26)]) [1, 2, 0] rfl ?_
          exact ih v26 H25 h
        · have h := it_neg c23 h
          refine V_goto (tgt := 168) hC dX9_makePlan_134 (by decide) ?_
          refine V_vi h (fun v27 hvv27 h => ?_)
          refine V_iinc (v := v27) (lv' := [(2, .int v27), (0, .ref (ad 0 0)), (1, .int b1)]) hC 2 dX9_makePlan_168 rfl hvv27.symm (Nat.le_of_ble_eq_true rfl) rfl ?_
          refine V_goto (tgt := 90) hC dX9_makePlan_171 (by decide) ?_
          refine V_lv (lv' := [(0, .ref (ad 0 0)), (1, .int b1), (2, .int v27)]) [1, 2, 0] rfl ?_
          exact ih v27 H22 h
      · refine V_if_ne (tgt := 123) hC dX9_makePlan_116 (by decide) (fun c28 => ?_) (fun c28 => ?_)
        · have h := it_neg c28 h
          refine V_iconst (v := 0) hC dX9_makePlan_123 (by decide) ?_
          refine V_lv (lv' := [(0, .ref (ad 0 0)), (1, .int b1), (2, .int x2)]) [0, 1, 2] rfl ?_
          exact hj19 0 H h
        · have h := it_pos c28 h
          refine V_iconst (v := 1) hC dX9_makePlan_119 (by decide) ?_
          refine V_goto (tgt := 124) hC dX9_makePlan_120 (by decide) ?_
          refine V_lv (lv' := [(0, .ref (ad 0 0)), (1, .int b1), (2, .int x2)]) [0, 1, 2] rfl ?_
          exact hj19 1 H h
def L_X9_makePlan_176 (b1 : Int32) (k : Hp → Option (Unit × Hp)) : Nat → Int32 → Hp → Option (Unit × Hp)
  | 0, _, _ => none
  | n + 1, x2, H => if 21 ≤ x2 then k H else gd x2 21 (hl (sI H 0 36 (Int32.toNatClampNeg x2) x2) (fun (H31 : Hp) => vl (x2 + (1 : Int32)) (fun (v32 : Int32) => L_X9_makePlan_176 b1 k n v32 H31)))
set_option maxRecDepth 100000 in
set_option maxHeartbeats 4000000 in
theorem sL_X9_makePlan_176 {p : Program} {l : Launch} {e : Env} {s : State} {m : MethodId} {args : Array Value} {below : List Frame} {meth : Method} {c : Code} {A : Nat → Prop} {D : va_G} {K4 : kQ} {ad : Nat → Nat → Nat} {nr : Nat} {b1 : Int32} {k : Hp → Option (Unit × Hp)} {res : Unit × Hp} (hC : Cx p s m args c A s.heap D K4 7 RX9 cX9_makePlan) (hret : meth.sig.returnType = none ∧ meth.locks = false) (hk : ∀ (H : Hp), k H = some res → V p l e ({ frames := 2, cells := 0, slots := 0, locals := 52 }) s m args below meth c A s.heap (QU below args s A D K4 ad nr res) D K4 ad nr 7 195 [(0, .ref (ad 0 0)), (1, .int b1)] [] H) : ∀ (n : Nat) (x2 : Int32) (H : Hp), L_X9_makePlan_176 b1 k n x2 H = some res → V p l e ({ frames := 2, cells := 0, slots := 0, locals := 52 }) s m args below meth c A s.heap (QU below args s A D K4 ad nr res) D K4 ad nr 7 176 [(0, .ref (ad 0 0)), (1, .int b1), (2, .int x2)] [] H := by
  intro n
  induction n with
  | zero => intro x2 H h; exact nomatch (show (none : Option (Unit × Hp)) = some res from h)
  | succ n ih =>
    intro x2 H h
    rw [L_X9_makePlan_176] at h
    refine V_iload_n hC 2 dX9_makePlan_176 rfl ?_
    refine V_bipush (v := 21) hC dX9_makePlan_177 (by decide) ?_
    refine V_icmp_ge (tgt := 195) hC dX9_makePlan_179 (by decide) (fun c30 => ?_) (fun c30 => ?_)
    · have h := it_pos c30 h
      refine V_lv (lv' := [(0, .ref (ad 0 0)), (1, .int b1)]) [0, 1] rfl ?_
      exact hk H h
    · have h := it_neg c30 h
      refine V_aload_n hC 0 dX9_makePlan_182 rfl ?_
      refine V_getR (g := 0) (k := 0) (g' := 0) (k' := 36) hC 9 36 fl_X9_102 rfl rfl rfl rfl dX9_makePlan_183 ?_
      refine V_iload_n hC 2 dX9_makePlan_186 rfl ?_
      refine V_iload_n hC 2 dX9_makePlan_187 rfl ?_
      obtain ⟨hi, h⟩ := gd_some h
      refine V_iast (g := 0) (k := 36) hC rfl rfl hi dX9_makePlan_188 ?_
      refine V_hl h (fun H31 h => ?_)
      refine V_vi h (fun v32 hvv32 h => ?_)
      refine V_iinc (v := v32) (lv' := [(2, .int v32), (0, .ref (ad 0 0)), (1, .int b1)]) hC 2 dX9_makePlan_189 rfl hvv32.symm (Nat.le_of_ble_eq_true rfl) rfl ?_
      refine V_goto (tgt := 176) hC dX9_makePlan_192 (by decide) ?_
      refine V_lv (lv' := [(0, .ref (ad 0 0)), (1, .int b1), (2, .int v32)]) [1, 2, 0] rfl ?_
      exact ih v32 H31 h
def L_X9_makePlan_203 (b1 : Int32) (k : Hp → Option (Unit × Hp)) : Nat → Int32 → Hp → Option (Unit × Hp)
  | 0, _, _ => none
  | n + 1, x2, H => if 21 ≤ x2 then k H else gd x2 21 (hl (sI H 0 35 (Int32.toNatClampNeg x2) (vp_nar .boolean 0)) (fun (H37 : Hp) => vl (x2 + (1 : Int32)) (fun (v38 : Int32) => L_X9_makePlan_203 b1 k n v38 H37)))
set_option maxRecDepth 100000 in
set_option maxHeartbeats 4000000 in
theorem sL_X9_makePlan_203 {p : Program} {l : Launch} {e : Env} {s : State} {m : MethodId} {args : Array Value} {below : List Frame} {meth : Method} {c : Code} {A : Nat → Prop} {D : va_G} {K4 : kQ} {ad : Nat → Nat → Nat} {nr : Nat} {b1 : Int32} {k : Hp → Option (Unit × Hp)} {res : Unit × Hp} (hC : Cx p s m args c A s.heap D K4 7 RX9 cX9_makePlan) (hret : meth.sig.returnType = none ∧ meth.locks = false) (hk : ∀ (H : Hp), k H = some res → V p l e ({ frames := 2, cells := 0, slots := 0, locals := 52 }) s m args below meth c A s.heap (QU below args s A D K4 ad nr res) D K4 ad nr 7 222 [(0, .ref (ad 0 0)), (1, .int b1)] [] H) : ∀ (n : Nat) (x2 : Int32) (H : Hp), L_X9_makePlan_203 b1 k n x2 H = some res → V p l e ({ frames := 2, cells := 0, slots := 0, locals := 52 }) s m args below meth c A s.heap (QU below args s A D K4 ad nr res) D K4 ad nr 7 203 [(0, .ref (ad 0 0)), (1, .int b1), (2, .int x2)] [] H := by
  intro n
  induction n with
  | zero => intro x2 H h; exact nomatch (show (none : Option (Unit × Hp)) = some res from h)
  | succ n ih =>
    intro x2 H h
    rw [L_X9_makePlan_203] at h
    refine V_iload_n hC 2 dX9_makePlan_203 rfl ?_
    refine V_bipush (v := 21) hC dX9_makePlan_204 (by decide) ?_
    refine V_icmp_ge (tgt := 222) hC dX9_makePlan_206 (by decide) (fun c36 => ?_) (fun c36 => ?_)
    · have h := it_pos c36 h
      refine V_lv (lv' := [(0, .ref (ad 0 0)), (1, .int b1)]) [0, 1] rfl ?_
      exact hk H h
    · have h := it_neg c36 h
      refine V_aload_n hC 0 dX9_makePlan_209 rfl ?_
      refine V_getR (g := 0) (k := 0) (g' := 0) (k' := 35) hC 9 35 fl_X9_99 rfl rfl rfl rfl dX9_makePlan_210 ?_
      refine V_iload_n hC 2 dX9_makePlan_213 rfl ?_
      refine V_iconst (v := 0) hC dX9_makePlan_214 (by decide) ?_
      obtain ⟨hi, h⟩ := gd_some h
      refine V_zast (g := 0) (k := 35) hC rfl rfl hi dX9_makePlan_215 ?_
      refine V_hl h (fun H37 h => ?_)
      refine V_vi h (fun v38 hvv38 h => ?_)
      refine V_iinc (v := v38) (lv' := [(2, .int v38), (0, .ref (ad 0 0)), (1, .int b1)]) hC 2 dX9_makePlan_216 rfl hvv38.symm (Nat.le_of_ble_eq_true rfl) rfl ?_
      refine V_goto (tgt := 203) hC dX9_makePlan_219 (by decide) ?_
      refine V_lv (lv' := [(0, .ref (ad 0 0)), (1, .int b1), (2, .int v38)]) [1, 2, 0] rfl ?_
      exact ih v38 H37 h
def L_X9_makePlan_276 (b1 : Int32) (b2 : Int32) (k : Int32 → Hp → Option (Unit × Hp)) : Nat → Int32 → Int32 → Hp → Option (Unit × Hp)
  | 0, _, _, _ => none
  | n + 1, x3, x4, H => gd b1 8 (if (gI H 0 2 (Int32.toNatClampNeg b1)) ≤ x4 then k x3 H else gd ((40 * b1) + x4) 320 (vl ((gI H 0 6 (Int32.toNatClampNeg ((40 * b1) + x4)))) (fun (v46 : Int32) => gd ((40 * b1) + x4) 320 (vl ((gI H 0 7 (Int32.toNatClampNeg ((40 * b1) + x4)))) (fun (v47 : Int32) => gd x4 40 (if (gI H 0 37 (Int32.toNatClampNeg x4)) = 0 then vl (x4 + (1 : Int32)) (fun (v49 : Int32) => L_X9_makePlan_276 b1 b2 k n x3 v49 H) else gd v46 21 (gd v47 21 (if (gI H 0 35 (Int32.toNatClampNeg v46)) = (gI H 0 35 (Int32.toNatClampNeg v47)) then vl (x4 + (1 : Int32)) (fun (v59 : Int32) => L_X9_makePlan_276 b1 b2 k n x3 v59 H) else gd v46 21 (jn (fun (H52 : Hp) => gd v46 21 (hl (sI H52 0 35 (Int32.toNatClampNeg v46) (vp_nar .boolean 1)) (fun (H53 : Hp) => gd v47 21 (hl (sI H53 0 35 (Int32.toNatClampNeg v47) (vp_nar .boolean 1)) (fun (H54 : Hp) => vl (x4 + (1 : Int32)) (fun (v55 : Int32) => L_X9_makePlan_276 b1 b2 k n 1 v55 H54)))))) (fun j51 => if (gI H 0 35 (Int32.toNatClampNeg v46)) = 0 then gd ((20 * b1) + v47) 160 (gd ((40 * b1) + x4) 320 (gd ((20 * b1) + v46) 160 (hl (sJ H 0 18 (Int32.toNatClampNeg ((20 * b1) + v46)) ((gJ H 0 18 (Int32.toNatClampNeg ((20 * b1) + v47))) - (gJ H 0 17 (Int32.toNatClampNeg ((40 * b1) + x4))))) (fun (H57 : Hp) => j51 H57)))) else gd ((20 * b1) + v46) 160 (gd ((40 * b1) + x4) 320 (gd ((20 * b1) + v47) 160 (hl (sJ H 0 18 (Int32.toNatClampNeg ((20 * b1) + v47)) ((gJ H 0 18 (Int32.toNatClampNeg ((20 * b1) + v46))) + (gJ H 0 17 (Int32.toNatClampNeg ((40 * b1) + x4))))) (fun (H58 : Hp) => j51 H58))))))))))))))
set_option maxRecDepth 100000 in
set_option maxHeartbeats 4000000 in
theorem sL_X9_makePlan_276 {p : Program} {l : Launch} {e : Env} {s : State} {m : MethodId} {args : Array Value} {below : List Frame} {meth : Method} {c : Code} {A : Nat → Prop} {D : va_G} {K4 : kQ} {ad : Nat → Nat → Nat} {nr : Nat} {b1 : Int32} {b2 : Int32} {k : Int32 → Hp → Option (Unit × Hp)} {res : Unit × Hp} (hC : Cx p s m args c A s.heap D K4 7 RX9 cX9_makePlan) (hret : meth.sig.returnType = none ∧ meth.locks = false) (hk : ∀ (z3 : Int32) (H : Hp), k z3 H = some res → V p l e ({ frames := 2, cells := 0, slots := 0, locals := 52 }) s m args below meth c A s.heap (QU below args s A D K4 ad nr res) D K4 ad nr 7 456 [(0, .ref (ad 0 0)), (1, .int b1), (2, .int b2), (3, .int z3)] [] H) : ∀ (n : Nat) (x3 : Int32) (x4 : Int32) (H : Hp), L_X9_makePlan_276 b1 b2 k n x3 x4 H = some res → V p l e ({ frames := 2, cells := 0, slots := 0, locals := 52 }) s m args below meth c A s.heap (QU below args s A D K4 ad nr res) D K4 ad nr 7 276 [(0, .ref (ad 0 0)), (1, .int b1), (2, .int b2), (3, .int x3), (4, .int x4)] [] H := by
  intro n
  induction n with
  | zero => intro x3 x4 H h; exact nomatch (show (none : Option (Unit × Hp)) = some res from h)
  | succ n ih =>
    intro x3 x4 H h
    rw [L_X9_makePlan_276] at h
    refine V_iload hC 4 dX9_makePlan_276 rfl ?_
    refine V_aload_n hC 0 dX9_makePlan_278 rfl ?_
    refine V_getR (g := 0) (k := 0) (g' := 0) (k' := 2) hC 9 2 fl_X9_13 rfl rfl rfl rfl dX9_makePlan_279 ?_
    refine V_iload_n hC 1 dX9_makePlan_282 rfl ?_
    obtain ⟨hi, h⟩ := gd_some h
    refine V_iald (g := 0) (k := 2) hC rfl rfl hi dX9_makePlan_283 ?_
    refine V_icmp_ge (tgt := 456) hC dX9_makePlan_284 (by decide) (fun c45 => ?_) (fun c45 => ?_)
    · have h := it_pos c45 h
      refine V_lv (lv' := [(0, .ref (ad 0 0)), (1, .int b1), (2, .int b2), (3, .int x3)]) [0, 1, 2, 3] rfl ?_
      exact hk x3 H h
    · have h := it_neg c45 h
      refine V_aload_n hC 0 dX9_makePlan_287 rfl ?_
      refine V_getR (g := 0) (k := 0) (g' := 0) (k' := 6) hC 9 6 fl_X9_26 rfl rfl rfl rfl dX9_makePlan_288 ?_
      refine V_bipush (v := 40) hC dX9_makePlan_291 (by decide) ?_
      refine V_iload_n hC 1 dX9_makePlan_293 rfl ?_
      refine V_imul hC dX9_makePlan_294 ?_
      refine V_iload hC 4 dX9_makePlan_295 rfl ?_
      refine V_iadd hC dX9_makePlan_297 ?_
      obtain ⟨hi, h⟩ := gd_some h
      refine V_iald (g := 0) (k := 6) hC rfl rfl hi dX9_makePlan_298 ?_
      refine V_vlI h (fun v46 h => ?_)
      refine V_istore (lv' := [(5, .int v46), (0, .ref (ad 0 0)), (1, .int b1), (2, .int b2), (3, .int x3), (4, .int x4)]) hC dX9_makePlan_299 (Nat.le_of_ble_eq_true rfl) rfl ?_
      refine V_aload_n hC 1 dX9_makePlan_301 rfl ?_
      refine V_getR (g := 0) (k := 0) (g' := 0) (k' := 7) hC 9 7 fl_X9_29 rfl rfl rfl rfl dX9_makePlan_302 ?_
      refine V_bipush (v := 40) hC dX9_makePlan_305 (by decide) ?_
      refine V_iload_n hC 2 dX9_makePlan_307 rfl ?_
      refine V_imul hC dX9_makePlan_308 ?_
      refine V_iload hC 5 dX9_makePlan_309 rfl ?_
      refine V_iadd hC dX9_makePlan_311 ?_
      obtain ⟨hi, h⟩ := gd_some h
      refine V_iald (g := 0) (k := 7) hC rfl rfl hi dX9_makePlan_312 ?_
      refine V_vlI h (fun v47 h => ?_)
      refine V_istore (lv' := [(6, .int v47), (5, .int v46), (0, .ref (ad 0 0)), (1, .int b1), (2, .int b2), (3, .int x3), (4, .int x4)]) hC dX9_makePlan_313 (Nat.le_of_ble_eq_true rfl) rfl ?_
      refine V_aload_n hC 2 dX9_makePlan_315 rfl ?_
      refine V_getR (g := 0) (k := 0) (g' := 0) (k' := 37) hC 9 37 fl_X9_105 rfl rfl rfl rfl dX9_makePlan_316 ?_
      refine V_iload hC 6 dX9_makePlan_319 rfl ?_
      obtain ⟨hi, h⟩ := gd_some h
      refine V_zald (g := 0) (k := 37) hC rfl rfl hi dX9_makePlan_321 ?_
      refine V_if_eq (tgt := 450) hC dX9_makePlan_322 (by decide) (fun c48 => ?_) (fun c48 => ?_)
      · have h := it_pos c48 h
        refine V_vi h (fun v49 hvv49 h => ?_)
        refine V_iinc (v := v49) (lv' := [(4, .int v49), (6, .int v47), (5, .int v46), (0, .ref (ad 0 0)), (1, .int b1), (2, .int b2), (3, .int x3)]) hC 6 dX9_makePlan_450 rfl hvv49.symm (Nat.le_of_ble_eq_true rfl) rfl ?_
        refine V_goto (tgt := 276) hC dX9_makePlan_453 (by decide) ?_
        refine V_lv (lv' := [(0, .ref (ad 0 0)), (1, .int b1), (2, .int b2), (3, .int x3), (4, .int v49)]) [3, 4, 5, 6, 0] rfl ?_
        exact ih x3 v49 H h
      · have h := it_neg c48 h
        refine V_aload_n hC 2 dX9_makePlan_325 rfl ?_
        refine V_getR (g := 0) (k := 0) (g' := 0) (k' := 35) hC 9 35 fl_X9_99 rfl rfl rfl rfl dX9_makePlan_326 ?_
        refine V_iload hC 1 dX9_makePlan_329 rfl ?_
        obtain ⟨hi, h⟩ := gd_some h
        refine V_zald (g := 0) (k := 35) hC rfl rfl hi dX9_makePlan_331 ?_
        refine V_aload_n hC 2 dX9_makePlan_332 rfl ?_
        refine V_getR (g := 0) (k := 0) (g' := 0) (k' := 35) hC 9 35 fl_X9_99 rfl rfl rfl rfl dX9_makePlan_333 ?_
        refine V_iload hC 0 dX9_makePlan_336 rfl ?_
        obtain ⟨hi, h⟩ := gd_some h
        refine V_zald (g := 0) (k := 35) hC rfl rfl hi dX9_makePlan_338 ?_
        refine V_icmp_ne (tgt := 345) hC dX9_makePlan_339 (by decide) (fun c50 => ?_) (fun c50 => ?_)
        · have h := it_neg c50 h
          refine V_aload_n hC 2 dX9_makePlan_345 rfl ?_
          refine V_getR (g := 0) (k := 0) (g' := 0) (k' := 35) hC 9 35 fl_X9_99 rfl rfl rfl rfl dX9_makePlan_346 ?_
          refine V_iload hC 1 dX9_makePlan_349 rfl ?_
          obtain ⟨hi, h⟩ := gd_some h
          refine V_zald (g := 0) (k := 35) hC rfl rfl hi dX9_makePlan_351 ?_
          refine V_jn0 (pj := 432) (lj := [(0, .ref (ad 0 0)), (1, .int b1), (2, .int b2), (4, .int x4), (5, .int v46), (6, .int v47)]) (sj := []) h (fun H52 h => ?_) (fun hj51 h => ?_)
          · refine V_aload_n hC 0 dX9_makePlan_432 rfl ?_
            refine V_getR (g := 0) (k := 0) (g' := 0) (k' := 35) hC 9 35 fl_X9_99 rfl rfl rfl rfl dX9_makePlan_433 ?_
            refine V_iload hC 4 dX9_makePlan_436 rfl ?_
            refine V_iconst (v := 1) hC dX9_makePlan_438 (by decide) ?_
            obtain ⟨hi, h⟩ := gd_some h
            refine V_zast (g := 0) (k := 35) hC rfl rfl hi dX9_makePlan_439 ?_
            refine V_hl h (fun H53 h => ?_)
            refine V_aload_n hC 0 dX9_makePlan_440 rfl ?_
            refine V_getR (g := 0) (k := 0) (g' := 0) (k' := 35) hC 9 35 fl_X9_99 rfl rfl rfl rfl dX9_makePlan_441 ?_
            refine V_iload hC 5 dX9_makePlan_444 rfl ?_
            refine V_iconst (v := 1) hC dX9_makePlan_446 (by decide) ?_
            obtain ⟨hi, h⟩ := gd_some h
            refine V_zast (g := 0) (k := 35) hC rfl rfl hi dX9_makePlan_447 ?_
            refine V_hl h (fun H54 h => ?_)
            refine V_iconst (v := 1) hC dX9_makePlan_448 (by decide) ?_
            refine V_istore_n (lv' := [(3, .int 1), (0, .ref (ad 0 0)), (1, .int b1), (2, .int b2), (4, .int x4), (5, .int v46), (6, .int v47)]) hC dX9_makePlan_449 (Nat.le_of_ble_eq_true rfl) rfl ?_
            refine V_vi h (fun v55 hvv55 h => ?_)
            refine V_iinc (v := v55) (lv' := [(4, .int v55), (3, .int 1), (0, .ref (ad 0 0)), (1, .int b1), (2, .int b2), (5, .int v46), (6, .int v47)]) hC 4 dX9_makePlan_450 rfl hvv55.symm (Nat.le_of_ble_eq_true rfl) rfl ?_
            refine V_goto (tgt := 276) hC dX9_makePlan_453 (by decide) ?_
            refine V_lv (lv' := [(0, .ref (ad 0 0)), (1, .int b1), (2, .int b2), (3, .int 1), (4, .int v55)]) [2, 3, 4, 1, 0] rfl ?_
            exact ih 1 v55 H54 h
          · refine V_if_eq (tgt := 395) hC dX9_makePlan_352 (by decide) (fun c56 => ?_) (fun c56 => ?_)
            · have h := it_pos c56 h
              refine V_aload_n hC 2 dX9_makePlan_395 rfl ?_
              refine V_getR (g := 0) (k := 0) (g' := 0) (k' := 18) hC 9 18 fl_X9_63 rfl rfl rfl rfl dX9_makePlan_396 ?_
              refine V_bipush (v := 20) hC dX9_makePlan_399 (by decide) ?_
              refine V_iload_n hC 3 dX9_makePlan_401 rfl ?_
              refine V_imul hC dX9_makePlan_402 ?_
              refine V_iload hC 1 dX9_makePlan_403 rfl ?_
              refine V_iadd hC dX9_makePlan_405 ?_
              refine V_aload_n hC 2 dX9_makePlan_406 rfl ?_
              refine V_getR (g := 0) (k := 0) (g' := 0) (k' := 18) hC 9 18 fl_X9_63 rfl rfl rfl rfl dX9_makePlan_407 ?_
              refine V_bipush (v := 20) hC dX9_makePlan_410 (by decide) ?_
              refine V_iload_n hC 3 dX9_makePlan_412 rfl ?_
              refine V_imul hC dX9_makePlan_413 ?_
              refine V_iload hC 0 dX9_makePlan_414 rfl ?_
              refine V_iadd hC dX9_makePlan_416 ?_
              obtain ⟨hi, h⟩ := gd_some h
              refine V_lald (g := 0) (k := 18) hC rfl rfl hi dX9_makePlan_417 ?_
              refine V_aload_n hC 2 dX9_makePlan_418 rfl ?_
              refine V_getR (g := 0) (k := 0) (g' := 0) (k' := 17) hC 9 17 fl_X9_60 rfl rfl rfl rfl dX9_makePlan_419 ?_
              refine V_bipush (v := 40) hC dX9_makePlan_422 (by decide) ?_
              refine V_iload_n hC 3 dX9_makePlan_424 rfl ?_
              refine V_imul hC dX9_makePlan_425 ?_
              refine V_iload hC 6 dX9_makePlan_426 rfl ?_
              refine V_iadd hC dX9_makePlan_428 ?_
              obtain ⟨hi, h⟩ := gd_some h
              refine V_lald (g := 0) (k := 17) hC rfl rfl hi dX9_makePlan_429 ?_
              refine V_lsub hC dX9_makePlan_430 ?_
              obtain ⟨hi, h⟩ := gd_some h
              refine V_last (g := 0) (k := 18) hC rfl rfl hi dX9_makePlan_431 ?_
              refine V_hl h (fun H57 h => ?_)
              refine V_lv (lv' := [(0, .ref (ad 0 0)), (1, .int b1), (2, .int b2), (4, .int x4), (5, .int v46), (6, .int v47)]) [2, 3, 4, 6, 1, 0] rfl ?_
              exact hj51 H57 h
            · have h := it_neg c56 h
              refine V_aload_n hC 2 dX9_makePlan_355 rfl ?_
              refine V_getR (g := 0) (k := 0) (g' := 0) (k' := 18) hC 9 18 fl_X9_63 rfl rfl rfl rfl dX9_makePlan_356 ?_
              refine V_bipush (v := 20) hC dX9_makePlan_359 (by decide) ?_
              refine V_iload_n hC 3 dX9_makePlan_361 rfl ?_
              refine V_imul hC dX9_makePlan_362 ?_
              refine V_iload hC 0 dX9_makePlan_363 rfl ?_
              refine V_iadd hC dX9_makePlan_365 ?_
              refine V_aload_n hC 2 dX9_makePlan_366 rfl ?_
              refine V_getR (g := 0) (k := 0) (g' := 0) (k' := 18) hC 9 18 fl_X9_63 rfl rfl rfl rfl dX9_makePlan_367 ?_
              refine V_bipush (v := 20) hC dX9_makePlan_370 (by decide) ?_
              refine V_iload_n hC 3 dX9_makePlan_372 rfl ?_
              refine V_imul hC dX9_makePlan_373 ?_
              refine V_iload hC 1 dX9_makePlan_374 rfl ?_
              refine V_iadd hC dX9_makePlan_376 ?_
              obtain ⟨hi, h⟩ := gd_some h
              refine V_lald (g := 0) (k := 18) hC rfl rfl hi dX9_makePlan_377 ?_
              refine V_aload_n hC 2 dX9_makePlan_378 rfl ?_
              refine V_getR (g := 0) (k := 0) (g' := 0) (k' := 17) hC 9 17 fl_X9_60 rfl rfl rfl rfl dX9_makePlan_379 ?_
              refine V_bipush (v := 40) hC dX9_makePlan_382 (by decide) ?_
              refine V_iload_n hC 3 dX9_makePlan_384 rfl ?_
              refine V_imul hC dX9_makePlan_385 ?_
              refine V_iload hC 6 dX9_makePlan_386 rfl ?_
              refine V_iadd hC dX9_makePlan_388 ?_
              obtain ⟨hi, h⟩ := gd_some h
              refine V_lald (g := 0) (k := 17) hC rfl rfl hi dX9_makePlan_389 ?_
              refine V_ladd hC dX9_makePlan_390 ?_
              obtain ⟨hi, h⟩ := gd_some h
              refine V_last (g := 0) (k := 18) hC rfl rfl hi dX9_makePlan_391 ?_
              refine V_hl h (fun H58 h => ?_)
              refine V_goto (tgt := 432) hC dX9_makePlan_392 (by decide) ?_
              refine V_lv (lv' := [(0, .ref (ad 0 0)), (1, .int b1), (2, .int b2), (4, .int x4), (5, .int v46), (6, .int v47)]) [2, 3, 4, 6, 1, 0] rfl ?_
              exact hj51 H58 h
        · have h := it_pos c50 h
          refine V_goto (tgt := 450) hC dX9_makePlan_342 (by decide) ?_
          refine V_vi h (fun v59 hvv59 h => ?_)
          refine V_iinc (v := v59) (lv' := [(4, .int v59), (6, .int v47), (5, .int v46), (0, .ref (ad 0 0)), (1, .int b1), (2, .int b2), (3, .int x3)]) hC 6 dX9_makePlan_450 rfl hvv59.symm (Nat.le_of_ble_eq_true rfl) rfl ?_
          refine V_goto (tgt := 276) hC dX9_makePlan_453 (by decide) ?_
          refine V_lv (lv' := [(0, .ref (ad 0 0)), (1, .int b1), (2, .int b2), (3, .int x3), (4, .int v59)]) [3, 4, 5, 6, 0] rfl ?_
          exact ih x3 v59 H h
def L_X9_makePlan_267 (b1 : Int32) (b2 : Int32) (k : Hp → Option (Unit × Hp)) : Nat → Int32 → Hp → Option (Unit × Hp)
  | 0, _, _ => none
  | n + 1, x3, H => if x3 = 0 then k H else L_X9_makePlan_276 b1 b2 (fun (z60 : Int32) (H61 : Hp) => L_X9_makePlan_267 b1 b2 k n z60 H61) FU 0 0 H
set_option maxRecDepth 100000 in
set_option maxHeartbeats 4000000 in
theorem sL_X9_makePlan_267 {p : Program} {l : Launch} {e : Env} {s : State} {m : MethodId} {args : Array Value} {below : List Frame} {meth : Method} {c : Code} {A : Nat → Prop} {D : va_G} {K4 : kQ} {ad : Nat → Nat → Nat} {nr : Nat} {b1 : Int32} {b2 : Int32} {k : Hp → Option (Unit × Hp)} {res : Unit × Hp} (hC : Cx p s m args c A s.heap D K4 7 RX9 cX9_makePlan) (hret : meth.sig.returnType = none ∧ meth.locks = false) (hk : ∀ (H : Hp), k H = some res → V p l e ({ frames := 2, cells := 0, slots := 0, locals := 52 }) s m args below meth c A s.heap (QU below args s A D K4 ad nr res) D K4 ad nr 7 459 [(0, .ref (ad 0 0)), (1, .int b1), (2, .int b2)] [] H) : ∀ (n : Nat) (x3 : Int32) (H : Hp), L_X9_makePlan_267 b1 b2 k n x3 H = some res → V p l e ({ frames := 2, cells := 0, slots := 0, locals := 52 }) s m args below meth c A s.heap (QU below args s A D K4 ad nr res) D K4 ad nr 7 267 [(0, .ref (ad 0 0)), (1, .int b1), (2, .int b2), (3, .int x3)] [] H := by
  intro n
  induction n with
  | zero => intro x3 H h; exact nomatch (show (none : Option (Unit × Hp)) = some res from h)
  | succ n ih =>
    intro x3 H h
    rw [L_X9_makePlan_267] at h
    refine V_iload_n hC 3 dX9_makePlan_267 rfl ?_
    refine V_if_eq (tgt := 459) hC dX9_makePlan_268 (by decide) (fun c44 => ?_) (fun c44 => ?_)
    · have h := it_pos c44 h
      refine V_lv (lv' := [(0, .ref (ad 0 0)), (1, .int b1), (2, .int b2)]) [0, 1, 2] rfl ?_
      exact hk H h
    · have h := it_neg c44 h
      refine V_iconst (v := 0) hC dX9_makePlan_271 (by decide) ?_
      refine V_istore_n (lv' := [(3, .int 0), (0, .ref (ad 0 0)), (1, .int b1), (2, .int b2)]) hC dX9_makePlan_272 (Nat.le_of_ble_eq_true rfl) rfl ?_
      refine V_iconst (v := 0) hC dX9_makePlan_273 (by decide) ?_
      refine V_istore (lv' := [(4, .int 0), (3, .int 0), (0, .ref (ad 0 0)), (1, .int b1), (2, .int b2)]) hC dX9_makePlan_274 (Nat.le_of_ble_eq_true rfl) rfl ?_
      refine V_lv (lv' := [(0, .ref (ad 0 0)), (1, .int b1), (2, .int b2), (3, .int 0), (4, .int 0)]) [2, 3, 4, 1, 0] rfl ?_
      refine sL_X9_makePlan_276 hC hret (fun z60 H61 h => ?_) _ 0 0 H h
      refine V_goto (tgt := 267) hC dX9_makePlan_456 (by decide) ?_
      refine V_lv (lv' := [(0, .ref (ad 0 0)), (1, .int b1), (2, .int b2), (3, .int z60)]) [0, 1, 2, 3] rfl ?_
      exact ih z60 H61 h
def L_X9_makePlan_224 (b1 : Int32) (k : Hp → Option (Unit × Hp)) : Nat → Int32 → Hp → Option (Unit × Hp)
  | 0, _, _ => none
  | n + 1, x2, H => gd b1 8 (if (gI H 0 1 (Int32.toNatClampNeg b1)) ≤ x2 then k H else gd x2 21 (if (gI H 0 35 (Int32.toNatClampNeg x2)) = 0 then gd x2 21 (hl (sI H 0 35 (Int32.toNatClampNeg x2) (vp_nar .boolean 1)) (fun (H42 : Hp) => gd ((20 * b1) + x2) 160 (hl (sJ H42 0 18 (Int32.toNatClampNeg ((20 * b1) + x2)) 0) (fun (H43 : Hp) => L_X9_makePlan_267 b1 x2 (fun (H62 : Hp) => vl (x2 + (1 : Int32)) (fun (v63 : Int32) => L_X9_makePlan_224 b1 k n v63 H62)) FU 1 H43)))) else vl (x2 + (1 : Int32)) (fun (v64 : Int32) => L_X9_makePlan_224 b1 k n v64 H)))
set_option maxRecDepth 100000 in
set_option maxHeartbeats 4000000 in
theorem sL_X9_makePlan_224 {p : Program} {l : Launch} {e : Env} {s : State} {m : MethodId} {args : Array Value} {below : List Frame} {meth : Method} {c : Code} {A : Nat → Prop} {D : va_G} {K4 : kQ} {ad : Nat → Nat → Nat} {nr : Nat} {b1 : Int32} {k : Hp → Option (Unit × Hp)} {res : Unit × Hp} (hC : Cx p s m args c A s.heap D K4 7 RX9 cX9_makePlan) (hret : meth.sig.returnType = none ∧ meth.locks = false) (hk : ∀ (H : Hp), k H = some res → V p l e ({ frames := 2, cells := 0, slots := 0, locals := 52 }) s m args below meth c A s.heap (QU below args s A D K4 ad nr res) D K4 ad nr 7 465 [(0, .ref (ad 0 0)), (1, .int b1)] [] H) : ∀ (n : Nat) (x2 : Int32) (H : Hp), L_X9_makePlan_224 b1 k n x2 H = some res → V p l e ({ frames := 2, cells := 0, slots := 0, locals := 52 }) s m args below meth c A s.heap (QU below args s A D K4 ad nr res) D K4 ad nr 7 224 [(0, .ref (ad 0 0)), (1, .int b1), (2, .int x2)] [] H := by
  intro n
  induction n with
  | zero => intro x2 H h; exact nomatch (show (none : Option (Unit × Hp)) = some res from h)
  | succ n ih =>
    intro x2 H h
    rw [L_X9_makePlan_224] at h
    refine V_iload_n hC 2 dX9_makePlan_224 rfl ?_
    refine V_aload_n hC 0 dX9_makePlan_225 rfl ?_
    refine V_getR (g := 0) (k := 0) (g' := 0) (k' := 1) hC 9 1 fl_X9_7 rfl rfl rfl rfl dX9_makePlan_226 ?_
    refine V_iload_n hC 1 dX9_makePlan_229 rfl ?_
    obtain ⟨hi, h⟩ := gd_some h
    refine V_iald (g := 0) (k := 1) hC rfl rfl hi dX9_makePlan_230 ?_
    refine V_icmp_ge (tgt := 465) hC dX9_makePlan_231 (by decide) (fun c40 => ?_) (fun c40 => ?_)
    · have h := it_pos c40 h
      refine V_lv (lv' := [(0, .ref (ad 0 0)), (1, .int b1)]) [0, 1] rfl ?_
      exact hk H h
    · have h := it_neg c40 h
      refine V_aload_n hC 0 dX9_makePlan_234 rfl ?_
      refine V_getR (g := 0) (k := 0) (g' := 0) (k' := 35) hC 9 35 fl_X9_99 rfl rfl rfl rfl dX9_makePlan_235 ?_
      refine V_iload_n hC 2 dX9_makePlan_238 rfl ?_
      obtain ⟨hi, h⟩ := gd_some h
      refine V_zald (g := 0) (k := 35) hC rfl rfl hi dX9_makePlan_239 ?_
      refine V_if_eq (tgt := 246) hC dX9_makePlan_240 (by decide) (fun c41 => ?_) (fun c41 => ?_)
      · have h := it_pos c41 h
        refine V_aload_n hC 0 dX9_makePlan_246 rfl ?_
        refine V_getR (g := 0) (k := 0) (g' := 0) (k' := 35) hC 9 35 fl_X9_99 rfl rfl rfl rfl dX9_makePlan_247 ?_
        refine V_iload_n hC 2 dX9_makePlan_250 rfl ?_
        refine V_iconst (v := 1) hC dX9_makePlan_251 (by decide) ?_
        obtain ⟨hi, h⟩ := gd_some h
        refine V_zast (g := 0) (k := 35) hC rfl rfl hi dX9_makePlan_252 ?_
        refine V_hl h (fun H42 h => ?_)
        refine V_aload_n hC 0 dX9_makePlan_253 rfl ?_
        refine V_getR (g := 0) (k := 0) (g' := 0) (k' := 18) hC 9 18 fl_X9_63 rfl rfl rfl rfl dX9_makePlan_254 ?_
        refine V_bipush (v := 20) hC dX9_makePlan_257 (by decide) ?_
        refine V_iload_n hC 1 dX9_makePlan_259 rfl ?_
        refine V_imul hC dX9_makePlan_260 ?_
        refine V_iload_n hC 2 dX9_makePlan_261 rfl ?_
        refine V_iadd hC dX9_makePlan_262 ?_
        refine V_lconst (v := 0) hC dX9_makePlan_263 (by decide) ?_
        obtain ⟨hi, h⟩ := gd_some h
        refine V_last (g := 0) (k := 18) hC rfl rfl hi dX9_makePlan_264 ?_
        refine V_hl h (fun H43 h => ?_)
        refine V_iconst (v := 1) hC dX9_makePlan_265 (by decide) ?_
        refine V_istore_n (lv' := [(3, .int 1), (0, .ref (ad 0 0)), (1, .int b1), (2, .int x2)]) hC dX9_makePlan_266 (Nat.le_of_ble_eq_true rfl) rfl ?_
        refine V_lv (lv' := [(0, .ref (ad 0 0)), (1, .int b1), (2, .int x2), (3, .int 1)]) [1, 2, 3, 0] rfl ?_
        refine sL_X9_makePlan_267 hC hret (fun H62 h => ?_) _ 1 H43 h
        refine V_vi h (fun v63 hvv63 h => ?_)
        refine V_iinc (v := v63) (lv' := [(2, .int v63), (0, .ref (ad 0 0)), (1, .int b1)]) hC 2 dX9_makePlan_459 rfl hvv63.symm (Nat.le_of_ble_eq_true rfl) rfl ?_
        refine V_goto (tgt := 224) hC dX9_makePlan_462 (by decide) ?_
        refine V_lv (lv' := [(0, .ref (ad 0 0)), (1, .int b1), (2, .int v63)]) [1, 2, 0] rfl ?_
        exact ih v63 H62 h
      · have h := it_neg c41 h
        refine V_goto (tgt := 459) hC dX9_makePlan_243 (by decide) ?_
        refine V_vi h (fun v64 hvv64 h => ?_)
        refine V_iinc (v := v64) (lv' := [(2, .int v64), (0, .ref (ad 0 0)), (1, .int b1)]) hC 2 dX9_makePlan_459 rfl hvv64.symm (Nat.le_of_ble_eq_true rfl) rfl ?_
        refine V_goto (tgt := 224) hC dX9_makePlan_462 (by decide) ?_
        refine V_lv (lv' := [(0, .ref (ad 0 0)), (1, .int b1), (2, .int v64)]) [1, 2, 0] rfl ?_
        exact ih v64 H h
def L_X9_makePlan_470 (b1 : Int32) (k : Hp → Option (Unit × Hp)) : Nat → Int32 → Hp → Option (Unit × Hp)
  | 0, _, _ => none
  | n + 1, x2, H => if ((40 * b1) + 40) ≤ x2 then k H else gd x2 320 (hl (sJ H 0 22 (Int32.toNatClampNeg x2) 0) (fun (H68 : Hp) => gd x2 320 (hl (sJ H68 0 23 (Int32.toNatClampNeg x2) 0) (fun (H69 : Hp) => vl (x2 + (1 : Int32)) (fun (v70 : Int32) => L_X9_makePlan_470 b1 k n v70 H69)))))
set_option maxRecDepth 100000 in
set_option maxHeartbeats 4000000 in
theorem sL_X9_makePlan_470 {p : Program} {l : Launch} {e : Env} {s : State} {m : MethodId} {args : Array Value} {below : List Frame} {meth : Method} {c : Code} {A : Nat → Prop} {D : va_G} {K4 : kQ} {ad : Nat → Nat → Nat} {nr : Nat} {b1 : Int32} {k : Hp → Option (Unit × Hp)} {res : Unit × Hp} (hC : Cx p s m args c A s.heap D K4 7 RX9 cX9_makePlan) (hret : meth.sig.returnType = none ∧ meth.locks = false) (hk : ∀ (H : Hp), k H = some res → V p l e ({ frames := 2, cells := 0, slots := 0, locals := 52 }) s m args below meth c A s.heap (QU below args s A D K4 ad nr res) D K4 ad nr 7 501 [(0, .ref (ad 0 0)), (1, .int b1)] [] H) : ∀ (n : Nat) (x2 : Int32) (H : Hp), L_X9_makePlan_470 b1 k n x2 H = some res → V p l e ({ frames := 2, cells := 0, slots := 0, locals := 52 }) s m args below meth c A s.heap (QU below args s A D K4 ad nr res) D K4 ad nr 7 470 [(0, .ref (ad 0 0)), (1, .int b1), (2, .int x2)] [] H := by
  intro n
  induction n with
  | zero => intro x2 H h; exact nomatch (show (none : Option (Unit × Hp)) = some res from h)
  | succ n ih =>
    intro x2 H h
    rw [L_X9_makePlan_470] at h
    refine V_iload_n hC 2 dX9_makePlan_470 rfl ?_
    refine V_bipush (v := 40) hC dX9_makePlan_471 (by decide) ?_
    refine V_iload_n hC 1 dX9_makePlan_473 rfl ?_
    refine V_imul hC dX9_makePlan_474 ?_
    refine V_bipush (v := 40) hC dX9_makePlan_475 (by decide) ?_
    refine V_iadd hC dX9_makePlan_477 ?_
    refine V_icmp_ge (tgt := 501) hC dX9_makePlan_478 (by decide) (fun c67 => ?_) (fun c67 => ?_)
    · have h := it_pos c67 h
      refine V_lv (lv' := [(0, .ref (ad 0 0)), (1, .int b1)]) [0, 1] rfl ?_
      exact hk H h
    · have h := it_neg c67 h
      refine V_aload_n hC 0 dX9_makePlan_481 rfl ?_
      refine V_getR (g := 0) (k := 0) (g' := 0) (k' := 22) hC 9 22 fl_X9_75 rfl rfl rfl rfl dX9_makePlan_482 ?_
      refine V_iload_n hC 2 dX9_makePlan_485 rfl ?_
      refine V_lconst (v := 0) hC dX9_makePlan_486 (by decide) ?_
      obtain ⟨hi, h⟩ := gd_some h
      refine V_last (g := 0) (k := 22) hC rfl rfl hi dX9_makePlan_487 ?_
      refine V_hl h (fun H68 h => ?_)
      refine V_aload_n hC 0 dX9_makePlan_488 rfl ?_
      refine V_getR (g := 0) (k := 0) (g' := 0) (k' := 23) hC 9 23 fl_X9_78 rfl rfl rfl rfl dX9_makePlan_489 ?_
      refine V_iload_n hC 2 dX9_makePlan_492 rfl ?_
      refine V_lconst (v := 0) hC dX9_makePlan_493 (by decide) ?_
      obtain ⟨hi, h⟩ := gd_some h
      refine V_last (g := 0) (k := 23) hC rfl rfl hi dX9_makePlan_494 ?_
      refine V_hl h (fun H69 h => ?_)
      refine V_vi h (fun v70 hvv70 h => ?_)
      refine V_iinc (v := v70) (lv' := [(2, .int v70), (0, .ref (ad 0 0)), (1, .int b1)]) hC 2 dX9_makePlan_495 rfl hvv70.symm (Nat.le_of_ble_eq_true rfl) rfl ?_
      refine V_goto (tgt := 470) hC dX9_makePlan_498 (by decide) ?_
      refine V_lv (lv' := [(0, .ref (ad 0 0)), (1, .int b1), (2, .int v70)]) [1, 2, 0] rfl ?_
      exact ih v70 H69 h
def L_X9_makePlan_506 (b1 : Int32) (k : Hp → Option (Unit × Hp)) : Nat → Int32 → Hp → Option (Unit × Hp)
  | 0, _, _ => none
  | n + 1, x2, H => if ((20 * b1) + 20) ≤ x2 then k H else gd x2 160 (hl (sJ H 0 21 (Int32.toNatClampNeg x2) 0) (fun (H74 : Hp) => vl (x2 + (1 : Int32)) (fun (v75 : Int32) => L_X9_makePlan_506 b1 k n v75 H74)))
set_option maxRecDepth 100000 in
set_option maxHeartbeats 4000000 in
theorem sL_X9_makePlan_506 {p : Program} {l : Launch} {e : Env} {s : State} {m : MethodId} {args : Array Value} {below : List Frame} {meth : Method} {c : Code} {A : Nat → Prop} {D : va_G} {K4 : kQ} {ad : Nat → Nat → Nat} {nr : Nat} {b1 : Int32} {k : Hp → Option (Unit × Hp)} {res : Unit × Hp} (hC : Cx p s m args c A s.heap D K4 7 RX9 cX9_makePlan) (hret : meth.sig.returnType = none ∧ meth.locks = false) (hk : ∀ (H : Hp), k H = some res → V p l e ({ frames := 2, cells := 0, slots := 0, locals := 52 }) s m args below meth c A s.heap (QU below args s A D K4 ad nr res) D K4 ad nr 7 530 [(0, .ref (ad 0 0)), (1, .int b1)] [] H) : ∀ (n : Nat) (x2 : Int32) (H : Hp), L_X9_makePlan_506 b1 k n x2 H = some res → V p l e ({ frames := 2, cells := 0, slots := 0, locals := 52 }) s m args below meth c A s.heap (QU below args s A D K4 ad nr res) D K4 ad nr 7 506 [(0, .ref (ad 0 0)), (1, .int b1), (2, .int x2)] [] H := by
  intro n
  induction n with
  | zero => intro x2 H h; exact nomatch (show (none : Option (Unit × Hp)) = some res from h)
  | succ n ih =>
    intro x2 H h
    rw [L_X9_makePlan_506] at h
    refine V_iload_n hC 2 dX9_makePlan_506 rfl ?_
    refine V_bipush (v := 20) hC dX9_makePlan_507 (by decide) ?_
    refine V_iload_n hC 1 dX9_makePlan_509 rfl ?_
    refine V_imul hC dX9_makePlan_510 ?_
    refine V_bipush (v := 20) hC dX9_makePlan_511 (by decide) ?_
    refine V_iadd hC dX9_makePlan_513 ?_
    refine V_icmp_ge (tgt := 530) hC dX9_makePlan_514 (by decide) (fun c73 => ?_) (fun c73 => ?_)
    · have h := it_pos c73 h
      refine V_lv (lv' := [(0, .ref (ad 0 0)), (1, .int b1)]) [0, 1] rfl ?_
      exact hk H h
    · have h := it_neg c73 h
      refine V_aload_n hC 0 dX9_makePlan_517 rfl ?_
      refine V_getR (g := 0) (k := 0) (g' := 0) (k' := 21) hC 9 21 fl_X9_72 rfl rfl rfl rfl dX9_makePlan_518 ?_
      refine V_iload_n hC 2 dX9_makePlan_521 rfl ?_
      refine V_lconst (v := 0) hC dX9_makePlan_522 (by decide) ?_
      obtain ⟨hi, h⟩ := gd_some h
      refine V_last (g := 0) (k := 21) hC rfl rfl hi dX9_makePlan_523 ?_
      refine V_hl h (fun H74 h => ?_)
      refine V_vi h (fun v75 hvv75 h => ?_)
      refine V_iinc (v := v75) (lv' := [(2, .int v75), (0, .ref (ad 0 0)), (1, .int b1)]) hC 2 dX9_makePlan_524 rfl hvv75.symm (Nat.le_of_ble_eq_true rfl) rfl ?_
      refine V_goto (tgt := 506) hC dX9_makePlan_527 (by decide) ?_
      refine V_lv (lv' := [(0, .ref (ad 0 0)), (1, .int b1), (2, .int v75)]) [1, 2, 0] rfl ?_
      exact ih v75 H74 h
def f_X9_makePlan (a1 : Int32) (H : Hp) : Option (Unit × Hp) := L_X9_makePlan_2 a1 (fun (H4 : Hp) => L_X9_makePlan_23 a1 (fun (H11 : Hp) => bnd (f_X9_join 20 0 H11) (fun w13 H12 => bnd (f_X9_grow a1 0 H12) (fun w15 H14 => gd a1 8 (hl (sJ H14 0 12 (Int32.toNatClampNeg a1) 0) (fun (H16 : Hp) => gd a1 8 (hl (sI H16 0 13 (Int32.toNatClampNeg a1) 0) (fun (H17 : Hp) => L_X9_makePlan_90 a1 (fun (H29 : Hp) => L_X9_makePlan_176 a1 (fun (H33 : Hp) => bnd (f_X9_grow a1 1 H33) (fun w35 H34 => L_X9_makePlan_203 a1 (fun (H39 : Hp) => L_X9_makePlan_224 a1 (fun (H65 : Hp) => vl ((40 * a1)) (fun (v66 : Int32) => L_X9_makePlan_470 a1 (fun (H71 : Hp) => vl ((20 * a1)) (fun (v72 : Int32) => L_X9_makePlan_506 a1 (fun (H76 : Hp) => gd a1 8 (hl (sJ H76 0 19 (Int32.toNatClampNeg a1) 0) (fun (H77 : Hp) => gd a1 8 (hl (sJ H77 0 20 (Int32.toNatClampNeg a1) 0) (fun (H78 : Hp) => gd a1 8 (hl (sI H78 0 24 (Int32.toNatClampNeg a1) 0) (fun (H79 : Hp) => some ((), H79)))))))) FU v72 H71)) FU v66 H65)) FU 0 H39) FU 0 H34)) FU 0 H29) FU 0 H17))))))) FU 0 H4) FU 0 H
set_option maxRecDepth 100000 in
set_option maxHeartbeats 4000000 in
theorem s_X9_makePlan {p : Program} {l : Launch} {e : Env} {s : State} {m : MethodId} {args : Array Value} {below : List Frame} {meth : Method} {c : Code} {A : Nat → Prop} {D : va_G} {K4 : kQ} {ad : Nat → Nat → Nat} {nr : Nat} {a1 : Int32} {H : Hp} {res : Unit × Hp} (hC : Cx p s m args c A s.heap D K4 7 RX9 cX9_makePlan) (hret : meth.sig.returnType = none ∧ meth.locks = false) (h : f_X9_makePlan a1 H = some res) : V p l e ({ frames := 2, cells := 0, slots := 0, locals := 52 }) s m args below meth c A s.heap (QU below args s A D K4 ad nr res) D K4 ad nr 7 0 [(0, .ref (ad 0 0)), (1, .int a1)] [] H := by
  unfold f_X9_makePlan at h
  refine V_iconst (v := 0) hC dX9_makePlan_0 (by decide) ?_
  refine V_istore_n (lv' := [(2, .int 0), (0, .ref (ad 0 0)), (1, .int a1)]) hC dX9_makePlan_1 (Nat.le_of_ble_eq_true rfl) rfl ?_
  refine V_lv (lv' := [(0, .ref (ad 0 0)), (1, .int a1), (2, .int 0)]) [1, 2, 0] rfl ?_
  refine sL_X9_makePlan_2 hC hret (fun H4 h => ?_) _ 0 H h
  refine V_iconst (v := 0) hC dX9_makePlan_21 (by decide) ?_
  refine V_istore_n (lv' := [(2, .int 0), (0, .ref (ad 0 0)), (1, .int a1)]) hC dX9_makePlan_22 (Nat.le_of_ble_eq_true rfl) rfl ?_
  refine V_lv (lv' := [(0, .ref (ad 0 0)), (1, .int a1), (2, .int 0)]) [1, 2, 0] rfl ?_
  refine sL_X9_makePlan_23 hC hret (fun H11 h => ?_) _ 0 H4 h
  refine V_aload_n hC 0 dX9_makePlan_61 rfl ?_
  refine V_bipush (v := 20) hC dX9_makePlan_62 (by decide) ?_
  refine V_iconst (v := 0) hC dX9_makePlan_64 (by decide) ?_
  obtain ⟨w13, H12, hc, h⟩ := bnd_some h
  refine V_callu (g := 0) (k := 0) (As := [.int 20, .int 0]) (st := []) hC (c_X9_join l hc) rfl ml_X9_193 ⟨Nat.le_of_ble_eq_true rfl, Nat.le_of_ble_eq_true rfl⟩ rfl rfl rfl (Nat.le_of_ble_eq_true rfl) dX9_makePlan_65 ?_
  refine V_aload_n hC 0 dX9_makePlan_68 rfl ?_
  refine V_iload_n hC 1 dX9_makePlan_69 rfl ?_
  refine V_iconst (v := 0) hC dX9_makePlan_70 (by decide) ?_
  obtain ⟨w15, H14, hc, h⟩ := bnd_some h
  refine V_callu (g := 0) (k := 0) (As := [.int a1, .int 0]) (st := []) hC (c_X9_grow l hc) rfl ml_X9_197 ⟨Nat.le_of_ble_eq_true rfl, Nat.le_of_ble_eq_true rfl⟩ rfl rfl rfl (Nat.le_of_ble_eq_true rfl) dX9_makePlan_71 ?_
  refine V_aload_n hC 0 dX9_makePlan_74 rfl ?_
  refine V_getR (g := 0) (k := 0) (g' := 0) (k' := 12) hC 9 12 fl_X9_44 rfl rfl rfl rfl dX9_makePlan_75 ?_
  refine V_iload_n hC 1 dX9_makePlan_78 rfl ?_
  refine V_lconst (v := 0) hC dX9_makePlan_79 (by decide) ?_
  obtain ⟨hi, h⟩ := gd_some h
  refine V_last (g := 0) (k := 12) hC rfl rfl hi dX9_makePlan_80 ?_
  refine V_hl h (fun H16 h => ?_)
  refine V_aload_n hC 0 dX9_makePlan_81 rfl ?_
  refine V_getR (g := 0) (k := 0) (g' := 0) (k' := 13) hC 9 13 fl_X9_48 rfl rfl rfl rfl dX9_makePlan_82 ?_
  refine V_iload_n hC 1 dX9_makePlan_85 rfl ?_
  refine V_iconst (v := 0) hC dX9_makePlan_86 (by decide) ?_
  obtain ⟨hi, h⟩ := gd_some h
  refine V_iast (g := 0) (k := 13) hC rfl rfl hi dX9_makePlan_87 ?_
  refine V_hl h (fun H17 h => ?_)
  refine V_iconst (v := 0) hC dX9_makePlan_88 (by decide) ?_
  refine V_istore_n (lv' := [(2, .int 0), (0, .ref (ad 0 0)), (1, .int a1)]) hC dX9_makePlan_89 (Nat.le_of_ble_eq_true rfl) rfl ?_
  refine V_lv (lv' := [(0, .ref (ad 0 0)), (1, .int a1), (2, .int 0)]) [1, 2, 0] rfl ?_
  refine sL_X9_makePlan_90 hC hret (fun H29 h => ?_) _ 0 H17 h
  refine V_iconst (v := 0) hC dX9_makePlan_174 (by decide) ?_
  refine V_istore_n (lv' := [(2, .int 0), (0, .ref (ad 0 0)), (1, .int a1)]) hC dX9_makePlan_175 (Nat.le_of_ble_eq_true rfl) rfl ?_
  refine V_lv (lv' := [(0, .ref (ad 0 0)), (1, .int a1), (2, .int 0)]) [1, 2, 0] rfl ?_
  refine sL_X9_makePlan_176 hC hret (fun H33 h => ?_) _ 0 H29 h
  refine V_aload_n hC 0 dX9_makePlan_195 rfl ?_
  refine V_iload_n hC 1 dX9_makePlan_196 rfl ?_
  refine V_iconst (v := 1) hC dX9_makePlan_197 (by decide) ?_
  obtain ⟨w35, H34, hc, h⟩ := bnd_some h
  refine V_callu (g := 0) (k := 0) (As := [.int a1, .int 1]) (st := []) hC (c_X9_grow l hc) rfl ml_X9_197 ⟨Nat.le_of_ble_eq_true rfl, Nat.le_of_ble_eq_true rfl⟩ rfl rfl rfl (Nat.le_of_ble_eq_true rfl) dX9_makePlan_198 ?_
  refine V_iconst (v := 0) hC dX9_makePlan_201 (by decide) ?_
  refine V_istore_n (lv' := [(2, .int 0), (0, .ref (ad 0 0)), (1, .int a1)]) hC dX9_makePlan_202 (Nat.le_of_ble_eq_true rfl) rfl ?_
  refine V_lv (lv' := [(0, .ref (ad 0 0)), (1, .int a1), (2, .int 0)]) [1, 2, 0] rfl ?_
  refine sL_X9_makePlan_203 hC hret (fun H39 h => ?_) _ 0 H34 h
  refine V_iconst (v := 0) hC dX9_makePlan_222 (by decide) ?_
  refine V_istore_n (lv' := [(2, .int 0), (0, .ref (ad 0 0)), (1, .int a1)]) hC dX9_makePlan_223 (Nat.le_of_ble_eq_true rfl) rfl ?_
  refine V_lv (lv' := [(0, .ref (ad 0 0)), (1, .int a1), (2, .int 0)]) [1, 2, 0] rfl ?_
  refine sL_X9_makePlan_224 hC hret (fun H65 h => ?_) _ 0 H39 h
  refine V_bipush (v := 40) hC dX9_makePlan_465 (by decide) ?_
  refine V_iload_n hC 1 dX9_makePlan_467 rfl ?_
  refine V_imul hC dX9_makePlan_468 ?_
  refine V_vlI h (fun v66 h => ?_)
  refine V_istore_n (lv' := [(2, .int v66), (0, .ref (ad 0 0)), (1, .int a1)]) hC dX9_makePlan_469 (Nat.le_of_ble_eq_true rfl) rfl ?_
  refine V_lv (lv' := [(0, .ref (ad 0 0)), (1, .int a1), (2, .int v66)]) [1, 2, 0] rfl ?_
  refine sL_X9_makePlan_470 hC hret (fun H71 h => ?_) _ v66 H65 h
  refine V_bipush (v := 20) hC dX9_makePlan_501 (by decide) ?_
  refine V_iload_n hC 1 dX9_makePlan_503 rfl ?_
  refine V_imul hC dX9_makePlan_504 ?_
  refine V_vlI h (fun v72 h => ?_)
  refine V_istore_n (lv' := [(2, .int v72), (0, .ref (ad 0 0)), (1, .int a1)]) hC dX9_makePlan_505 (Nat.le_of_ble_eq_true rfl) rfl ?_
  refine V_lv (lv' := [(0, .ref (ad 0 0)), (1, .int a1), (2, .int v72)]) [1, 2, 0] rfl ?_
  refine sL_X9_makePlan_506 hC hret (fun H76 h => ?_) _ v72 H71 h
  refine V_aload_n hC 0 dX9_makePlan_530 rfl ?_
  refine V_getR (g := 0) (k := 0) (g' := 0) (k' := 19) hC 9 19 fl_X9_66 rfl rfl rfl rfl dX9_makePlan_531 ?_
  refine V_iload_n hC 1 dX9_makePlan_534 rfl ?_
  refine V_lconst (v := 0) hC dX9_makePlan_535 (by decide) ?_
  obtain ⟨hi, h⟩ := gd_some h
  refine V_last (g := 0) (k := 19) hC rfl rfl hi dX9_makePlan_536 ?_
  refine V_hl h (fun H77 h => ?_)
  refine V_aload_n hC 0 dX9_makePlan_537 rfl ?_
  refine V_getR (g := 0) (k := 0) (g' := 0) (k' := 20) hC 9 20 fl_X9_69 rfl rfl rfl rfl dX9_makePlan_538 ?_
  refine V_iload_n hC 1 dX9_makePlan_541 rfl ?_
  refine V_lconst (v := 0) hC dX9_makePlan_542 (by decide) ?_
  obtain ⟨hi, h⟩ := gd_some h
  refine V_last (g := 0) (k := 20) hC rfl rfl hi dX9_makePlan_543 ?_
  refine V_hl h (fun H78 h => ?_)
  refine V_aload_n hC 0 dX9_makePlan_544 rfl ?_
  refine V_getR (g := 0) (k := 0) (g' := 0) (k' := 24) hC 9 24 fl_X9_81 rfl rfl rfl rfl dX9_makePlan_545 ?_
  refine V_iload_n hC 1 dX9_makePlan_548 rfl ?_
  refine V_iconst (v := 0) hC dX9_makePlan_549 (by decide) ?_
  obtain ⟨hi, h⟩ := gd_some h
  refine V_iast (g := 0) (k := 24) hC rfl rfl hi dX9_makePlan_550 ?_
  refine V_hl h (fun H79 h => ?_)
  exact V_vret hC hret dX9_makePlan_551 h
theorem c_X9_makePlan (l : Launch) {nr : Nat} {a1 : Int32} {H : Hp} {x : Unit} {H' : Hp} (h : f_X9_makePlan a1 H = some (x, H')) : CU l nr yX9_makePlan cX9_makePlan 7 none 2 52 (fun ad => [.ref (ad 0 0), .int a1]) H x H' := by
  intro D K4 ad sz
  refine Met.ofV (by decide) (Nat.le_of_ble_eq_true rfl) ?_
  intro p e s m args below meth c hC hret hsz
  subst hsz
  exact s_X9_makePlan hC hret h
theorem dX9_finish_0 : decode cX9_finish 0 = .ok (.aload_n 0, 1) := by decide +kernel
theorem dX9_finish_1 : decode cX9_finish 1 = .ok (.iconst 0, 1) := by decide +kernel
theorem dX9_finish_2 : decode cX9_finish 2 = .ok (.putfield 153, 3) := by decide +kernel
theorem dX9_finish_5 : decode cX9_finish 5 = .ok (.aload_n 0, 1) := by decide +kernel
theorem dX9_finish_6 : decode cX9_finish 6 = .ok (.iload_n 1, 1) := by decide +kernel
theorem dX9_finish_7 : decode cX9_finish 7 = .ok (.invokevirtual 160, 3) := by decide +kernel
theorem dX9_finish_10 : decode cX9_finish 10 = .ok (.ifCond .ne 5, 3) := by decide +kernel
theorem dX9_finish_13 : decode cX9_finish 13 = .ok (.iconst (-1), 1) := by decide +kernel
theorem dX9_finish_14 : decode cX9_finish 14 = .ok (.ireturn, 1) := by decide +kernel
theorem dX9_finish_15 : decode cX9_finish 15 = .ok (.aload_n 0, 1) := by decide +kernel
theorem dX9_finish_16 : decode cX9_finish 16 = .ok (.getfield 16, 3) := by decide +kernel
theorem dX9_finish_19 : decode cX9_finish 19 = .ok (.iload_n 1, 1) := by decide +kernel
theorem dX9_finish_20 : decode cX9_finish 20 = .ok (.baload, 1) := by decide +kernel
theorem dX9_finish_21 : decode cX9_finish 21 = .ok (.ifCond .eq 5, 3) := by decide +kernel
theorem dX9_finish_24 : decode cX9_finish 24 = .ok (.iconst 0, 1) := by decide +kernel
theorem dX9_finish_25 : decode cX9_finish 25 = .ok (.ireturn, 1) := by decide +kernel
theorem dX9_finish_26 : decode cX9_finish 26 = .ok (.aload_n 0, 1) := by decide +kernel
theorem dX9_finish_27 : decode cX9_finish 27 = .ok (.iload_n 1, 1) := by decide +kernel
theorem dX9_finish_28 : decode cX9_finish 28 = .ok (.invokevirtual 200, 3) := by decide +kernel
theorem dX9_finish_31 : decode cX9_finish 31 = .ok (.istore_n 2, 1) := by decide +kernel
theorem dX9_finish_32 : decode cX9_finish 32 = .ok (.iload_n 2, 1) := by decide +kernel
theorem dX9_finish_33 : decode cX9_finish 33 = .ok (.ifCond .le 5, 3) := by decide +kernel
theorem dX9_finish_36 : decode cX9_finish 36 = .ok (.iload_n 2, 1) := by decide +kernel
theorem dX9_finish_37 : decode cX9_finish 37 = .ok (.ireturn, 1) := by decide +kernel
theorem dX9_finish_38 : decode cX9_finish 38 = .ok (.aload_n 0, 1) := by decide +kernel
theorem dX9_finish_39 : decode cX9_finish 39 = .ok (.getfield 16, 3) := by decide +kernel
theorem dX9_finish_42 : decode cX9_finish 42 = .ok (.iload_n 1, 1) := by decide +kernel
theorem dX9_finish_43 : decode cX9_finish 43 = .ok (.iconst 1, 1) := by decide +kernel
theorem dX9_finish_44 : decode cX9_finish 44 = .ok (.bastore, 1) := by decide +kernel
theorem dX9_finish_45 : decode cX9_finish 45 = .ok (.aload_n 0, 1) := by decide +kernel
theorem dX9_finish_46 : decode cX9_finish 46 = .ok (.iload_n 1, 1) := by decide +kernel
theorem dX9_finish_47 : decode cX9_finish 47 = .ok (.invokevirtual 204, 3) := by decide +kernel
theorem dX9_finish_50 : decode cX9_finish 50 = .ok (.iconst 0, 1) := by decide +kernel
theorem dX9_finish_51 : decode cX9_finish 51 = .ok (.ireturn, 1) := by decide +kernel
def f_X9_finish (a1 : Int32) (H : Hp) : Option (Int32 × Hp) := hl (sI H 0 0 34 0) (fun (H1 : Hp) => bnd (f_X9_isRoutine a1 H1) (fun w3 H2 => if w3 = 0 then some ((-1), H2) else gd a1 8 (if (gI H2 0 3 (Int32.toNatClampNeg a1)) = 0 then bnd (f_X9_why a1 H2) (fun w7 H6 => if w7 ≤ 0 then gd a1 8 (hl (sI H6 0 3 (Int32.toNatClampNeg a1) (vp_nar .boolean 1)) (fun (H9 : Hp) => bnd (f_X9_makePlan a1 H9) (fun w11 H10 => some (0, H10)))) else some (w7, H6)) else some (0, H2))))
set_option maxRecDepth 100000 in
set_option maxHeartbeats 4000000 in
theorem s_X9_finish {p : Program} {l : Launch} {e : Env} {s : State} {m : MethodId} {args : Array Value} {below : List Frame} {meth : Method} {c : Code} {A : Nat → Prop} {D : va_G} {K4 : kQ} {ad : Nat → Nat → Nat} {nr : Nat} {a1 : Int32} {H : Hp} {res : Int32 × Hp} (hC : Cx p s m args c A s.heap D K4 3 RX9 cX9_finish) (hret : meth.sig.returnType = (some .int) ∧ meth.locks = false) (h : f_X9_finish a1 H = some res) : V p l e ({ frames := 3, cells := 0, slots := 0, locals := 78 }) s m args below meth c A s.heap (QI below args s A D K4 ad nr res) D K4 ad nr 3 0 [(0, .ref (ad 0 0)), (1, .int a1)] [] H := by
  unfold f_X9_finish at h
  refine V_aload_n hC 0 dX9_finish_0 rfl ?_
  refine V_iconst (v := 0) hC dX9_finish_1 (by decide) ?_
  refine V_putI (g := 0) (k := 0) hC 9 34 .int fw_X9_153 rfl rfl rfl rfl rfl dX9_finish_2 ?_
  refine V_hl h (fun H1 h => ?_)
  refine V_aload_n hC 0 dX9_finish_5 rfl ?_
  refine V_iload_n hC 1 dX9_finish_6 rfl ?_
  obtain ⟨w3, H2, hc, h⟩ := bnd_some h
  refine V_calli (g := 0) (k := 0) (As := [.int a1]) (st := []) hC (c_X9_isRoutine l hc) rfl ml_X9_160 ⟨Nat.le_of_ble_eq_true rfl, Nat.le_of_ble_eq_true rfl⟩ rfl rfl rfl (Nat.le_of_ble_eq_true rfl) dX9_finish_7 ?_
  refine V_if_ne (tgt := 15) hC dX9_finish_10 (by decide) (fun c4 => ?_) (fun c4 => ?_)
  · have h := it_neg c4 h
    refine V_aload_n hC 0 dX9_finish_15 rfl ?_
    refine V_getR (g := 0) (k := 0) (g' := 0) (k' := 3) hC 9 3 fl_X9_16 rfl rfl rfl rfl dX9_finish_16 ?_
    refine V_iload_n hC 1 dX9_finish_19 rfl ?_
    obtain ⟨hi, h⟩ := gd_some h
    refine V_zald (g := 0) (k := 3) hC rfl rfl hi dX9_finish_20 ?_
    refine V_if_eq (tgt := 26) hC dX9_finish_21 (by decide) (fun c5 => ?_) (fun c5 => ?_)
    · have h := it_pos c5 h
      refine V_aload_n hC 0 dX9_finish_26 rfl ?_
      refine V_iload_n hC 1 dX9_finish_27 rfl ?_
      obtain ⟨w7, H6, hc, h⟩ := bnd_some h
      refine V_calli (g := 0) (k := 0) (As := [.int a1]) (st := []) hC (c_X9_why l hc) rfl ml_X9_200 ⟨Nat.le_of_ble_eq_true rfl, Nat.le_of_ble_eq_true rfl⟩ rfl rfl rfl (Nat.le_of_ble_eq_true rfl) dX9_finish_28 ?_
      refine V_istore_n (lv' := [(2, .int w7), (0, .ref (ad 0 0)), (1, .int a1)]) hC dX9_finish_31 (Nat.le_of_ble_eq_true rfl) rfl ?_
      refine V_iload_n hC 0 dX9_finish_32 rfl ?_
      refine V_if_le (tgt := 38) hC dX9_finish_33 (by decide) (fun c8 => ?_) (fun c8 => ?_)
      · have h := it_pos c8 h
        refine V_aload_n hC 1 dX9_finish_38 rfl ?_
        refine V_getR (g := 0) (k := 0) (g' := 0) (k' := 3) hC 9 3 fl_X9_16 rfl rfl rfl rfl dX9_finish_39 ?_
        refine V_iload_n hC 2 dX9_finish_42 rfl ?_
        refine V_iconst (v := 1) hC dX9_finish_43 (by decide) ?_
        obtain ⟨hi, h⟩ := gd_some h
        refine V_zast (g := 0) (k := 3) hC rfl rfl hi dX9_finish_44 ?_
        refine V_hl h (fun H9 h => ?_)
        refine V_aload_n hC 1 dX9_finish_45 rfl ?_
        refine V_iload_n hC 2 dX9_finish_46 rfl ?_
        obtain ⟨w11, H10, hc, h⟩ := bnd_some h
        refine V_callu (g := 0) (k := 0) (As := [.int a1]) (st := []) hC (c_X9_makePlan l hc) rfl ml_X9_204 ⟨Nat.le_of_ble_eq_true rfl, Nat.le_of_ble_eq_true rfl⟩ rfl rfl rfl (Nat.le_of_ble_eq_true rfl) dX9_finish_47 ?_
        refine V_iconst (v := 0) hC dX9_finish_50 (by decide) ?_
        exact V_iret hC hret dX9_finish_51 h
      · have h := it_neg c8 h
        refine V_iload_n hC 0 dX9_finish_36 rfl ?_
        exact V_iret hC hret dX9_finish_37 h
    · have h := it_neg c5 h
      refine V_iconst (v := 0) hC dX9_finish_24 (by decide) ?_
      exact V_iret hC hret dX9_finish_25 h
  · have h := it_pos c4 h
    refine V_iconst (v := -1) hC dX9_finish_13 (by decide) ?_
    exact V_iret hC hret dX9_finish_14 h
theorem c_X9_finish (l : Launch) {nr : Nat} {a1 : Int32} {H : Hp} {x : Int32} {H' : Hp} (h : f_X9_finish a1 H = some (x, H')) : CI l nr yX9_finish cX9_finish 3 (some .int) 3 78 (fun ad => [.ref (ad 0 0), .int a1]) H x H' := by
  intro D K4 ad sz
  refine Met.ofV (by decide) (Nat.le_of_ble_eq_true rfl) ?_
  intro p e s m args below meth c hC hret hsz
  subst hsz
  exact s_X9_finish hC hret h
theorem dX9_plan_0 : decode cX9_plan 0 = .ok (.aload_n 0, 1) := by decide +kernel
theorem dX9_plan_1 : decode cX9_plan 1 = .ok (.iconst 0, 1) := by decide +kernel
theorem dX9_plan_2 : decode cX9_plan 2 = .ok (.putfield 153, 3) := by decide +kernel
theorem dX9_plan_5 : decode cX9_plan 5 = .ok (.aload_n 0, 1) := by decide +kernel
theorem dX9_plan_6 : decode cX9_plan 6 = .ok (.iload_n 1, 1) := by decide +kernel
theorem dX9_plan_7 : decode cX9_plan 7 = .ok (.invokevirtual 208, 3) := by decide +kernel
theorem dX9_plan_10 : decode cX9_plan 10 = .ok (.ifCond .ne 5, 3) := by decide +kernel
theorem dX9_plan_13 : decode cX9_plan 13 = .ok (.iconst (-1), 1) := by decide +kernel
theorem dX9_plan_14 : decode cX9_plan 14 = .ok (.ireturn, 1) := by decide +kernel
theorem dX9_plan_15 : decode cX9_plan 15 = .ok (.iconst 0, 1) := by decide +kernel
theorem dX9_plan_16 : decode cX9_plan 16 = .ok (.istore_n 2, 1) := by decide +kernel
theorem dX9_plan_17 : decode cX9_plan 17 = .ok (.iload_n 2, 1) := by decide +kernel
theorem dX9_plan_18 : decode cX9_plan 18 = .ok (.aload_n 0, 1) := by decide +kernel
theorem dX9_plan_19 : decode cX9_plan 19 = .ok (.getfield 211, 3) := by decide +kernel
theorem dX9_plan_22 : decode cX9_plan 22 = .ok (.if_icmp .ge 21, 3) := by decide +kernel
theorem dX9_plan_25 : decode cX9_plan 25 = .ok (.aload_n 0, 1) := by decide +kernel
theorem dX9_plan_26 : decode cX9_plan 26 = .ok (.getfield 90, 3) := by decide +kernel
theorem dX9_plan_29 : decode cX9_plan 29 = .ok (.iload_n 2, 1) := by decide +kernel
theorem dX9_plan_30 : decode cX9_plan 30 = .ok (.iaload, 1) := by decide +kernel
theorem dX9_plan_31 : decode cX9_plan 31 = .ok (.iload_n 1, 1) := by decide +kernel
theorem dX9_plan_32 : decode cX9_plan 32 = .ok (.if_icmp .ne 5, 3) := by decide +kernel
theorem dX9_plan_35 : decode cX9_plan 35 = .ok (.iconst (-1), 1) := by decide +kernel
theorem dX9_plan_36 : decode cX9_plan 36 = .ok (.ireturn, 1) := by decide +kernel
theorem dX9_plan_37 : decode cX9_plan 37 = .ok (.iinc 2 1, 3) := by decide +kernel
theorem dX9_plan_40 : decode cX9_plan 40 = .ok (.goto (-23), 3) := by decide +kernel
theorem dX9_plan_43 : decode cX9_plan 43 = .ok (.aload_n 0, 1) := by decide +kernel
theorem dX9_plan_44 : decode cX9_plan 44 = .ok (.iload_n 1, 1) := by decide +kernel
theorem dX9_plan_45 : decode cX9_plan 45 = .ok (.invokevirtual 204, 3) := by decide +kernel
theorem dX9_plan_48 : decode cX9_plan 48 = .ok (.aload_n 0, 1) := by decide +kernel
theorem dX9_plan_49 : decode cX9_plan 49 = .ok (.getfield 48, 3) := by decide +kernel
theorem dX9_plan_52 : decode cX9_plan 52 = .ok (.iload_n 1, 1) := by decide +kernel
theorem dX9_plan_53 : decode cX9_plan 53 = .ok (.iaload, 1) := by decide +kernel
theorem dX9_plan_54 : decode cX9_plan 54 = .ok (.ireturn, 1) := by decide +kernel
def L_X9_plan_17 (b1 : Int32) (k : Hp → Option (Int32 × Hp)) : Nat → Int32 → Hp → Option (Int32 × Hp)
  | 0, _, _ => none
  | n + 1, x2, H => if (gI H 0 0 28) ≤ x2 then k H else gd x2 30 (if (gI H 0 31 (Int32.toNatClampNeg x2)) = b1 then some ((-1), H) else vl (x2 + (1 : Int32)) (fun (v7 : Int32) => L_X9_plan_17 b1 k n v7 H))
set_option maxRecDepth 100000 in
set_option maxHeartbeats 4000000 in
theorem sL_X9_plan_17 {p : Program} {l : Launch} {e : Env} {s : State} {m : MethodId} {args : Array Value} {below : List Frame} {meth : Method} {c : Code} {A : Nat → Prop} {D : va_G} {K4 : kQ} {ad : Nat → Nat → Nat} {nr : Nat} {b1 : Int32} {k : Hp → Option (Int32 × Hp)} {res : Int32 × Hp} (hC : Cx p s m args c A s.heap D K4 3 RX9 cX9_plan) (hret : meth.sig.returnType = (some .int) ∧ meth.locks = false) (hk : ∀ (H : Hp), k H = some res → V p l e ({ frames := 3, cells := 0, slots := 0, locals := 78 }) s m args below meth c A s.heap (QI below args s A D K4 ad nr res) D K4 ad nr 3 43 [(0, .ref (ad 0 0)), (1, .int b1)] [] H) : ∀ (n : Nat) (x2 : Int32) (H : Hp), L_X9_plan_17 b1 k n x2 H = some res → V p l e ({ frames := 3, cells := 0, slots := 0, locals := 78 }) s m args below meth c A s.heap (QI below args s A D K4 ad nr res) D K4 ad nr 3 17 [(0, .ref (ad 0 0)), (1, .int b1), (2, .int x2)] [] H := by
  intro n
  induction n with
  | zero => intro x2 H h; exact nomatch (show (none : Option (Int32 × Hp)) = some res from h)
  | succ n ih =>
    intro x2 H h
    rw [L_X9_plan_17] at h
    refine V_iload_n hC 2 dX9_plan_17 rfl ?_
    refine V_aload_n hC 0 dX9_plan_18 rfl ?_
    refine V_getI (g := 0) (k := 0) hC 9 28 fl_X9_211 rfl rfl rfl dX9_plan_19 ?_
    refine V_icmp_ge (tgt := 43) hC dX9_plan_22 (by decide) (fun c5 => ?_) (fun c5 => ?_)
    · have h := it_pos c5 h
      refine V_lv (lv' := [(0, .ref (ad 0 0)), (1, .int b1)]) [0, 1] rfl ?_
      exact hk H h
    · have h := it_neg c5 h
      refine V_aload_n hC 0 dX9_plan_25 rfl ?_
      refine V_getR (g := 0) (k := 0) (g' := 0) (k' := 31) hC 9 31 fl_X9_90 rfl rfl rfl rfl dX9_plan_26 ?_
      refine V_iload_n hC 2 dX9_plan_29 rfl ?_
      obtain ⟨hi, h⟩ := gd_some h
      refine V_iald (g := 0) (k := 31) hC rfl rfl hi dX9_plan_30 ?_
      refine V_iload_n hC 1 dX9_plan_31 rfl ?_
      refine V_icmp_ne (tgt := 37) hC dX9_plan_32 (by decide) (fun c6 => ?_) (fun c6 => ?_)
      · have h := it_neg c6 h
        refine V_vi h (fun v7 hvv7 h => ?_)
        refine V_iinc (v := v7) (lv' := [(2, .int v7), (0, .ref (ad 0 0)), (1, .int b1)]) hC 2 dX9_plan_37 rfl hvv7.symm (Nat.le_of_ble_eq_true rfl) rfl ?_
        refine V_goto (tgt := 17) hC dX9_plan_40 (by decide) ?_
        refine V_lv (lv' := [(0, .ref (ad 0 0)), (1, .int b1), (2, .int v7)]) [1, 2, 0] rfl ?_
        exact ih v7 H h
      · have h := it_pos c6 h
        refine V_iconst (v := -1) hC dX9_plan_35 (by decide) ?_
        exact V_iret hC hret dX9_plan_36 h
def f_X9_plan (a1 : Int32) (H : Hp) : Option (Int32 × Hp) := hl (sI H 0 0 34 0) (fun (H1 : Hp) => bnd (f_X9_isDone a1 H1) (fun w3 H2 => if w3 = 0 then some ((-1), H2) else L_X9_plan_17 a1 (fun (H8 : Hp) => bnd (f_X9_makePlan a1 H8) (fun w10 H9 => gd a1 8 (some ((gI H9 0 13 (Int32.toNatClampNeg a1)), H9)))) FU 0 H2))
set_option maxRecDepth 100000 in
set_option maxHeartbeats 4000000 in
theorem s_X9_plan {p : Program} {l : Launch} {e : Env} {s : State} {m : MethodId} {args : Array Value} {below : List Frame} {meth : Method} {c : Code} {A : Nat → Prop} {D : va_G} {K4 : kQ} {ad : Nat → Nat → Nat} {nr : Nat} {a1 : Int32} {H : Hp} {res : Int32 × Hp} (hC : Cx p s m args c A s.heap D K4 3 RX9 cX9_plan) (hret : meth.sig.returnType = (some .int) ∧ meth.locks = false) (h : f_X9_plan a1 H = some res) : V p l e ({ frames := 3, cells := 0, slots := 0, locals := 78 }) s m args below meth c A s.heap (QI below args s A D K4 ad nr res) D K4 ad nr 3 0 [(0, .ref (ad 0 0)), (1, .int a1)] [] H := by
  unfold f_X9_plan at h
  refine V_aload_n hC 0 dX9_plan_0 rfl ?_
  refine V_iconst (v := 0) hC dX9_plan_1 (by decide) ?_
  refine V_putI (g := 0) (k := 0) hC 9 34 .int fw_X9_153 rfl rfl rfl rfl rfl dX9_plan_2 ?_
  refine V_hl h (fun H1 h => ?_)
  refine V_aload_n hC 0 dX9_plan_5 rfl ?_
  refine V_iload_n hC 1 dX9_plan_6 rfl ?_
  obtain ⟨w3, H2, hc, h⟩ := bnd_some h
  refine V_calli (g := 0) (k := 0) (As := [.int a1]) (st := []) hC (c_X9_isDone l hc) rfl ml_X9_208 ⟨Nat.le_of_ble_eq_true rfl, Nat.le_of_ble_eq_true rfl⟩ rfl rfl rfl (Nat.le_of_ble_eq_true rfl) dX9_plan_7 ?_
  refine V_if_ne (tgt := 15) hC dX9_plan_10 (by decide) (fun c4 => ?_) (fun c4 => ?_)
  · have h := it_neg c4 h
    refine V_iconst (v := 0) hC dX9_plan_15 (by decide) ?_
    refine V_istore_n (lv' := [(2, .int 0), (0, .ref (ad 0 0)), (1, .int a1)]) hC dX9_plan_16 (Nat.le_of_ble_eq_true rfl) rfl ?_
    refine V_lv (lv' := [(0, .ref (ad 0 0)), (1, .int a1), (2, .int 0)]) [1, 2, 0] rfl ?_
    refine sL_X9_plan_17 hC hret (fun H8 h => ?_) _ 0 H2 h
    refine V_aload_n hC 0 dX9_plan_43 rfl ?_
    refine V_iload_n hC 1 dX9_plan_44 rfl ?_
    obtain ⟨w10, H9, hc, h⟩ := bnd_some h
    refine V_callu (g := 0) (k := 0) (As := [.int a1]) (st := []) hC (c_X9_makePlan l hc) rfl ml_X9_204 ⟨Nat.le_of_ble_eq_true rfl, Nat.le_of_ble_eq_true rfl⟩ rfl rfl rfl (Nat.le_of_ble_eq_true rfl) dX9_plan_45 ?_
    refine V_aload_n hC 0 dX9_plan_48 rfl ?_
    refine V_getR (g := 0) (k := 0) (g' := 0) (k' := 13) hC 9 13 fl_X9_48 rfl rfl rfl rfl dX9_plan_49 ?_
    refine V_iload_n hC 1 dX9_plan_52 rfl ?_
    obtain ⟨hi, h⟩ := gd_some h
    refine V_iald (g := 0) (k := 13) hC rfl rfl hi dX9_plan_53 ?_
    exact V_iret hC hret dX9_plan_54 h
  · have h := it_pos c4 h
    refine V_iconst (v := -1) hC dX9_plan_13 (by decide) ?_
    exact V_iret hC hret dX9_plan_14 h
theorem c_X9_plan (l : Launch) {nr : Nat} {a1 : Int32} {H : Hp} {x : Int32} {H' : Hp} (h : f_X9_plan a1 H = some (x, H')) : CI l nr yX9_plan cX9_plan 3 (some .int) 3 78 (fun ad => [.ref (ad 0 0), .int a1]) H x H' := by
  intro D K4 ad sz
  refine Met.ofV (by decide) (Nat.le_of_ble_eq_true rfl) ?_
  intro p e s m args below meth c hC hret hsz
  subst hsz
  exact s_X9_plan hC hret h
