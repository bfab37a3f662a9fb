theorem dX9_solve_0 : decode cX9_solve 0 = .ok (.aload_n 0, 1) := by decide +kernel
theorem dX9_solve_1 : decode cX9_solve 1 = .ok (.iconst 0, 1) := by decide +kernel
theorem dX9_solve_2 : decode cX9_solve 2 = .ok (.putfield 153, 3) := by decide +kernel
theorem dX9_solve_5 : decode cX9_solve 5 = .ok (.aload_n 0, 1) := by decide +kernel
theorem dX9_solve_6 : decode cX9_solve 6 = .ok (.iload_n 1, 1) := by decide +kernel
theorem dX9_solve_7 : decode cX9_solve 7 = .ok (.invokevirtual 208, 3) := by decide +kernel
theorem dX9_solve_10 : decode cX9_solve 10 = .ok (.ifCond .eq 12, 3) := by decide +kernel
theorem dX9_solve_13 : decode cX9_solve 13 = .ok (.aload_n 0, 1) := by decide +kernel
theorem dX9_solve_14 : decode cX9_solve 14 = .ok (.iload_n 1, 1) := by decide +kernel
theorem dX9_solve_15 : decode cX9_solve 15 = .ok (.iload_n 2, 1) := by decide +kernel
theorem dX9_solve_16 : decode cX9_solve 16 = .ok (.invokevirtual 176, 3) := by decide +kernel
theorem dX9_solve_19 : decode cX9_solve 19 = .ok (.ifCond .ne 7, 3) := by decide +kernel
theorem dX9_solve_22 : decode cX9_solve 22 = .ok (.ldc2_w 189, 3) := by decide +kernel
theorem dX9_solve_25 : decode cX9_solve 25 = .ok (.lreturn, 1) := by decide +kernel
theorem dX9_solve_26 : decode cX9_solve 26 = .ok (.aload_n 0, 1) := by decide +kernel
theorem dX9_solve_27 : decode cX9_solve 27 = .ok (.iload_n 1, 1) := by decide +kernel
theorem dX9_solve_28 : decode cX9_solve 28 = .ok (.invokevirtual 232, 3) := by decide +kernel
theorem dX9_solve_31 : decode cX9_solve 31 = .ok (.iconst 1, 1) := by decide +kernel
theorem dX9_solve_32 : decode cX9_solve 32 = .ok (.istore_n 3, 1) := by decide +kernel
theorem dX9_solve_33 : decode cX9_solve 33 = .ok (.iload_n 3, 1) := by decide +kernel
theorem dX9_solve_34 : decode cX9_solve 34 = .ok (.ifCond .eq 294, 3) := by decide +kernel
theorem dX9_solve_37 : decode cX9_solve 37 = .ok (.iconst 0, 1) := by decide +kernel
theorem dX9_solve_38 : decode cX9_solve 38 = .ok (.istore_n 3, 1) := by decide +kernel
theorem dX9_solve_39 : decode cX9_solve 39 = .ok (.iconst 0, 1) := by decide +kernel
theorem dX9_solve_40 : decode cX9_solve 40 = .ok (.istore 4, 2) := by decide +kernel
theorem dX9_solve_42 : decode cX9_solve 42 = .ok (.iload 4, 2) := by decide +kernel
theorem dX9_solve_44 : decode cX9_solve 44 = .ok (.bipush 21, 2) := by decide +kernel
theorem dX9_solve_46 : decode cX9_solve 46 = .ok (.if_icmp .ge 279, 3) := by decide +kernel
theorem dX9_solve_49 : decode cX9_solve 49 = .ok (.iload 4, 2) := by decide +kernel
theorem dX9_solve_51 : decode cX9_solve 51 = .ok (.aload_n 0, 1) := by decide +kernel
theorem dX9_solve_52 : decode cX9_solve 52 = .ok (.getfield 7, 3) := by decide +kernel
theorem dX9_solve_55 : decode cX9_solve 55 = .ok (.iload_n 1, 1) := by decide +kernel
theorem dX9_solve_56 : decode cX9_solve 56 = .ok (.iaload, 1) := by decide +kernel
theorem dX9_solve_57 : decode cX9_solve 57 = .ok (.if_icmp .lt 13, 3) := by decide +kernel
theorem dX9_solve_60 : decode cX9_solve 60 = .ok (.iload 4, 2) := by decide +kernel
theorem dX9_solve_62 : decode cX9_solve 62 = .ok (.bipush 20, 2) := by decide +kernel
theorem dX9_solve_64 : decode cX9_solve 64 = .ok (.if_icmp .eq 6, 3) := by decide +kernel
theorem dX9_solve_67 : decode cX9_solve 67 = .ok (.goto 252, 3) := by decide +kernel
theorem dX9_solve_70 : decode cX9_solve 70 = .ok (.iconst (-1), 1) := by decide +kernel
theorem dX9_solve_71 : decode cX9_solve 71 = .ok (.istore 5, 2) := by decide +kernel
theorem dX9_solve_73 : decode cX9_solve 73 = .ok (.iconst 0, 1) := by decide +kernel
theorem dX9_solve_74 : decode cX9_solve 74 = .ok (.istore 6, 2) := by decide +kernel
theorem dX9_solve_76 : decode cX9_solve 76 = .ok (.lconst 0, 1) := by decide +kernel
theorem dX9_solve_77 : decode cX9_solve 77 = .ok (.lstore 7, 2) := by decide +kernel
theorem dX9_solve_79 : decode cX9_solve 79 = .ok (.iconst 0, 1) := by decide +kernel
theorem dX9_solve_80 : decode cX9_solve 80 = .ok (.istore 9, 2) := by decide +kernel
theorem dX9_solve_82 : decode cX9_solve 82 = .ok (.iload 9, 2) := by decide +kernel
theorem dX9_solve_84 : decode cX9_solve 84 = .ok (.aload_n 0, 1) := by decide +kernel
theorem dX9_solve_85 : decode cX9_solve 85 = .ok (.getfield 226, 3) := by decide +kernel
theorem dX9_solve_88 : decode cX9_solve 88 = .ok (.if_icmp .ge 111, 3) := by decide +kernel
theorem dX9_solve_91 : decode cX9_solve 91 = .ok (.aload_n 0, 1) := by decide +kernel
theorem dX9_solve_92 : decode cX9_solve 92 = .ok (.getfield 111, 3) := by decide +kernel
theorem dX9_solve_95 : decode cX9_solve 95 = .ok (.iload 9, 2) := by decide +kernel
theorem dX9_solve_97 : decode cX9_solve 97 = .ok (.iaload, 1) := by decide +kernel
theorem dX9_solve_98 : decode cX9_solve 98 = .ok (.aload_n 0, 1) := by decide +kernel
theorem dX9_solve_99 : decode cX9_solve 99 = .ok (.getfield 114, 3) := by decide +kernel
theorem dX9_solve_102 : decode cX9_solve 102 = .ok (.iload 9, 2) := by decide +kernel
theorem dX9_solve_104 : decode cX9_solve 104 = .ok (.iaload, 1) := by decide +kernel
theorem dX9_solve_105 : decode cX9_solve 105 = .ok (.if_icmp .ne 6, 3) := by decide +kernel
theorem dX9_solve_108 : decode cX9_solve 108 = .ok (.goto 85, 3) := by decide +kernel
theorem dX9_solve_111 : decode cX9_solve 111 = .ok (.aload_n 0, 1) := by decide +kernel
theorem dX9_solve_112 : decode cX9_solve 112 = .ok (.getfield 111, 3) := by decide +kernel
theorem dX9_solve_115 : decode cX9_solve 115 = .ok (.iload 9, 2) := by decide +kernel
theorem dX9_solve_117 : decode cX9_solve 117 = .ok (.iaload, 1) := by decide +kernel
theorem dX9_solve_118 : decode cX9_solve 118 = .ok (.iload 4, 2) := by decide +kernel
theorem dX9_solve_120 : decode cX9_solve 120 = .ok (.if_icmp .eq 18, 3) := by decide +kernel
theorem dX9_solve_123 : decode cX9_solve 123 = .ok (.aload_n 0, 1) := by decide +kernel
theorem dX9_solve_124 : decode cX9_solve 124 = .ok (.getfield 114, 3) := by decide +kernel
theorem dX9_solve_127 : decode cX9_solve 127 = .ok (.iload 9, 2) := by decide +kernel
theorem dX9_solve_129 : decode cX9_solve 129 = .ok (.iaload, 1) := by decide +kernel
theorem dX9_solve_130 : decode cX9_solve 130 = .ok (.iload 4, 2) := by decide +kernel
theorem dX9_solve_132 : decode cX9_solve 132 = .ok (.if_icmp .eq 6, 3) := by decide +kernel
theorem dX9_solve_135 : decode cX9_solve 135 = .ok (.goto 58, 3) := by decide +kernel
theorem dX9_solve_138 : decode cX9_solve 138 = .ok (.aload_n 0, 1) := by decide +kernel
theorem dX9_solve_139 : decode cX9_solve 139 = .ok (.getfield 120, 3) := by decide +kernel
theorem dX9_solve_142 : decode cX9_solve 142 = .ok (.iload 9, 2) := by decide +kernel
theorem dX9_solve_144 : decode cX9_solve 144 = .ok (.baload, 1) := by decide +kernel
theorem dX9_solve_145 : decode cX9_solve 145 = .ok (.ifCond .eq 41, 3) := by decide +kernel
theorem dX9_solve_148 : decode cX9_solve 148 = .ok (.lload 7, 2) := by decide +kernel
theorem dX9_solve_150 : decode cX9_solve 150 = .ok (.aload_n 0, 1) := by decide +kernel
theorem dX9_solve_151 : decode cX9_solve 151 = .ok (.getfield 114, 3) := by decide +kernel
theorem dX9_solve_154 : decode cX9_solve 154 = .ok (.iload 9, 2) := by decide +kernel
theorem dX9_solve_156 : decode cX9_solve 156 = .ok (.iaload, 1) := by decide +kernel
theorem dX9_solve_157 : decode cX9_solve 157 = .ok (.iload 4, 2) := by decide +kernel
theorem dX9_solve_159 : decode cX9_solve 159 = .ok (.if_icmp .ne 13, 3) := by decide +kernel
theorem dX9_solve_162 : decode cX9_solve 162 = .ok (.aload_n 0, 1) := by decide +kernel
theorem dX9_solve_163 : decode cX9_solve 163 = .ok (.getfield 117, 3) := by decide +kernel
theorem dX9_solve_166 : decode cX9_solve 166 = .ok (.iload 9, 2) := by decide +kernel
theorem dX9_solve_168 : decode cX9_solve 168 = .ok (.laload, 1) := by decide +kernel
theorem dX9_solve_169 : decode cX9_solve 169 = .ok (.goto 11, 3) := by decide +kernel
theorem dX9_solve_172 : decode cX9_solve 172 = .ok (.aload_n 0, 1) := by decide +kernel
theorem dX9_solve_173 : decode cX9_solve 173 = .ok (.getfield 117, 3) := by decide +kernel
theorem dX9_solve_176 : decode cX9_solve 176 = .ok (.iload 9, 2) := by decide +kernel
theorem dX9_solve_178 : decode cX9_solve 178 = .ok (.laload, 1) := by decide +kernel
theorem dX9_solve_179 : decode cX9_solve 179 = .ok (.lneg, 1) := by decide +kernel
theorem dX9_solve_180 : decode cX9_solve 180 = .ok (.ladd, 1) := by decide +kernel
theorem dX9_solve_181 : decode cX9_solve 181 = .ok (.lstore 7, 2) := by decide +kernel
theorem dX9_solve_183 : decode cX9_solve 183 = .ok (.goto 10, 3) := by decide +kernel
theorem dX9_solve_186 : decode cX9_solve 186 = .ok (.iload 9, 2) := by decide +kernel
theorem dX9_solve_188 : decode cX9_solve 188 = .ok (.istore 5, 2) := by decide +kernel
theorem dX9_solve_190 : decode cX9_solve 190 = .ok (.iinc 6 1, 3) := by decide +kernel
theorem dX9_solve_193 : decode cX9_solve 193 = .ok (.iinc 9 1, 3) := by decide +kernel
theorem dX9_solve_196 : decode cX9_solve 196 = .ok (.goto (-114), 3) := by decide +kernel
theorem dX9_solve_199 : decode cX9_solve 199 = .ok (.iload 6, 2) := by decide +kernel
theorem dX9_solve_201 : decode cX9_solve 201 = .ok (.iconst 1, 1) := by decide +kernel
theorem dX9_solve_202 : decode cX9_solve 202 = .ok (.if_icmp .eq 6, 3) := by decide +kernel
theorem dX9_solve_205 : decode cX9_solve 205 = .ok (.goto 114, 3) := by decide +kernel
theorem dX9_solve_208 : decode cX9_solve 208 = .ok (.iconst 0, 1) := by decide +kernel
theorem dX9_solve_209 : decode cX9_solve 209 = .ok (.istore 9, 2) := by decide +kernel
theorem dX9_solve_211 : decode cX9_solve 211 = .ok (.iload 9, 2) := by decide +kernel
theorem dX9_solve_213 : decode cX9_solve 213 = .ok (.aload_n 0, 1) := by decide +kernel
theorem dX9_solve_214 : decode cX9_solve 214 = .ok (.getfield 7, 3) := by decide +kernel
theorem dX9_solve_217 : decode cX9_solve 217 = .ok (.iload_n 1, 1) := by decide +kernel
theorem dX9_solve_218 : decode cX9_solve 218 = .ok (.iaload, 1) := by decide +kernel
theorem dX9_solve_219 : decode cX9_solve 219 = .ok (.if_icmp .ge 63, 3) := by decide +kernel
theorem dX9_solve_222 : decode cX9_solve 222 = .ok (.aload_n 0, 1) := by decide +kernel
theorem dX9_solve_223 : decode cX9_solve 223 = .ok (.getfield 72, 3) := by decide +kernel
theorem dX9_solve_226 : decode cX9_solve 226 = .ok (.bipush 20, 2) := by decide +kernel
theorem dX9_solve_228 : decode cX9_solve 228 = .ok (.iload_n 1, 1) := by decide +kernel
theorem dX9_solve_229 : decode cX9_solve 229 = .ok (.imul, 1) := by decide +kernel
theorem dX9_solve_230 : decode cX9_solve 230 = .ok (.iload 9, 2) := by decide +kernel
theorem dX9_solve_232 : decode cX9_solve 232 = .ok (.iadd, 1) := by decide +kernel
theorem dX9_solve_233 : decode cX9_solve 233 = .ok (.laload, 1) := by decide +kernel
theorem dX9_solve_234 : decode cX9_solve 234 = .ok (.aload_n 0, 1) := by decide +kernel
theorem dX9_solve_235 : decode cX9_solve 235 = .ok (.iload_n 1, 1) := by decide +kernel
theorem dX9_solve_236 : decode cX9_solve 236 = .ok (.iload 9, 2) := by decide +kernel
theorem dX9_solve_238 : decode cX9_solve 238 = .ok (.invokevirtual 223, 3) := by decide +kernel
theorem dX9_solve_241 : decode cX9_solve 241 = .ok (.i2l, 1) := by decide +kernel
theorem dX9_solve_242 : decode cX9_solve 242 = .ok (.ladd, 1) := by decide +kernel
theorem dX9_solve_243 : decode cX9_solve 243 = .ok (.lstore 10, 2) := by decide +kernel
theorem dX9_solve_245 : decode cX9_solve 245 = .ok (.iload 4, 2) := by decide +kernel
theorem dX9_solve_247 : decode cX9_solve 247 = .ok (.bipush 20, 2) := by decide +kernel
theorem dX9_solve_249 : decode cX9_solve 249 = .ok (.if_icmp .ne 13, 3) := by decide +kernel
theorem dX9_solve_252 : decode cX9_solve 252 = .ok (.lload 7, 2) := by decide +kernel
theorem dX9_solve_254 : decode cX9_solve 254 = .ok (.lload 10, 2) := by decide +kernel
theorem dX9_solve_256 : decode cX9_solve 256 = .ok (.ladd, 1) := by decide +kernel
theorem dX9_solve_257 : decode cX9_solve 257 = .ok (.lstore 7, 2) := by decide +kernel
theorem dX9_solve_259 : decode cX9_solve 259 = .ok (.goto 17, 3) := by decide +kernel
theorem dX9_solve_262 : decode cX9_solve 262 = .ok (.iload 4, 2) := by decide +kernel
theorem dX9_solve_264 : decode cX9_solve 264 = .ok (.iload 9, 2) := by decide +kernel
theorem dX9_solve_266 : decode cX9_solve 266 = .ok (.if_icmp .ne 10, 3) := by decide +kernel
theorem dX9_solve_269 : decode cX9_solve 269 = .ok (.lload 7, 2) := by decide +kernel
theorem dX9_solve_271 : decode cX9_solve 271 = .ok (.lload 10, 2) := by decide +kernel
theorem dX9_solve_273 : decode cX9_solve 273 = .ok (.lsub, 1) := by decide +kernel
theorem dX9_solve_274 : decode cX9_solve 274 = .ok (.lstore 7, 2) := by decide +kernel
theorem dX9_solve_276 : decode cX9_solve 276 = .ok (.iinc 9 1, 3) := by decide +kernel
theorem dX9_solve_279 : decode cX9_solve 279 = .ok (.goto (-68), 3) := by decide +kernel
theorem dX9_solve_282 : decode cX9_solve 282 = .ok (.aload_n 0, 1) := by decide +kernel
theorem dX9_solve_283 : decode cX9_solve 283 = .ok (.getfield 117, 3) := by decide +kernel
theorem dX9_solve_286 : decode cX9_solve 286 = .ok (.iload 5, 2) := by decide +kernel
theorem dX9_solve_288 : decode cX9_solve 288 = .ok (.aload_n 0, 1) := by decide +kernel
theorem dX9_solve_289 : decode cX9_solve 289 = .ok (.getfield 111, 3) := by decide +kernel
theorem dX9_solve_292 : decode cX9_solve 292 = .ok (.iload 5, 2) := by decide +kernel
theorem dX9_solve_294 : decode cX9_solve 294 = .ok (.iaload, 1) := by decide +kernel
theorem dX9_solve_295 : decode cX9_solve 295 = .ok (.iload 4, 2) := by decide +kernel
theorem dX9_solve_297 : decode cX9_solve 297 = .ok (.if_icmp .ne 8, 3) := by decide +kernel
theorem dX9_solve_300 : decode cX9_solve 300 = .ok (.lload 7, 2) := by decide +kernel
theorem dX9_solve_302 : decode cX9_solve 302 = .ok (.goto 6, 3) := by decide +kernel
theorem dX9_solve_305 : decode cX9_solve 305 = .ok (.lload 7, 2) := by decide +kernel
theorem dX9_solve_307 : decode cX9_solve 307 = .ok (.lneg, 1) := by decide +kernel
theorem dX9_solve_308 : decode cX9_solve 308 = .ok (.lastore, 1) := by decide +kernel
theorem dX9_solve_309 : decode cX9_solve 309 = .ok (.aload_n 0, 1) := by decide +kernel
theorem dX9_solve_310 : decode cX9_solve 310 = .ok (.getfield 120, 3) := by decide +kernel
theorem dX9_solve_313 : decode cX9_solve 313 = .ok (.iload 5, 2) := by decide +kernel
theorem dX9_solve_315 : decode cX9_solve 315 = .ok (.iconst 1, 1) := by decide +kernel
theorem dX9_solve_316 : decode cX9_solve 316 = .ok (.bastore, 1) := by decide +kernel
theorem dX9_solve_317 : decode cX9_solve 317 = .ok (.iconst 1, 1) := by decide +kernel
theorem dX9_solve_318 : decode cX9_solve 318 = .ok (.istore_n 3, 1) := by decide +kernel
theorem dX9_solve_319 : decode cX9_solve 319 = .ok (.iinc 4 1, 3) := by decide +kernel
theorem dX9_solve_322 : decode cX9_solve 322 = .ok (.goto (-280), 3) := by decide +kernel
theorem dX9_solve_325 : decode cX9_solve 325 = .ok (.goto (-292), 3) := by decide +kernel
theorem dX9_solve_328 : decode cX9_solve 328 = .ok (.aload_n 0, 1) := by decide +kernel
theorem dX9_solve_329 : decode cX9_solve 329 = .ok (.getfield 117, 3) := by decide +kernel
theorem dX9_solve_332 : decode cX9_solve 332 = .ok (.iload_n 2, 1) := by decide +kernel
theorem dX9_solve_333 : decode cX9_solve 333 = .ok (.laload, 1) := by decide +kernel
theorem dX9_solve_334 : decode cX9_solve 334 = .ok (.lreturn, 1) := by decide +kernel
def L_X9_solve_82 (b1 : Int32) (b2 : Int32) (b3 : Int32) (b4 : Int32) (k : Int32 → Int32 → Int64 → Hp → Option (Int64 × Hp)) : Nat → Int32 → Int32 → Int64 → Int32 → Hp → Option (Int64 × Hp)
  | 0, _, _, _, _, _ => none
  | n + 1, x5, x6, x7, x9, H => if (gI H 0 0 43) ≤ x9 then k x5 x6 x7 H else gd x9 61 (gd x9 61 (if (gI H 0 39 (Int32.toNatClampNeg x9)) = (gI H 0 40 (Int32.toNatClampNeg x9)) then vl (x9 + (1 : Int32)) (fun (v29 : Int32) => L_X9_solve_82 b1 b2 b3 b4 k n x5 x6 x7 v29 H) else gd x9 61 (jn (fun (H17 : Hp) => gd x9 61 (if (gI H17 0 42 (Int32.toNatClampNeg x9)) = 0 then vl (x6 + (1 : Int32)) (fun (v19 : Int32) => vl (x9 + (1 : Int32)) (fun (v20 : Int32) => L_X9_solve_82 b1 b2 b3 b4 k n x9 v19 x7 v20 H17)) else gd x9 61 (if (gI H17 0 40 (Int32.toNatClampNeg x9)) = b4 then gd x9 61 (vl ((x7 + (gJ H17 0 41 (Int32.toNatClampNeg x9)))) (fun (v24 : Int64) => vl (x9 + (1 : Int32)) (fun (v25 : Int32) => L_X9_solve_82 b1 b2 b3 b4 k n x5 x6 v24 v25 H17))) else gd x9 61 (vl ((x7 + (-(gJ H17 0 41 (Int32.toNatClampNeg x9))))) (fun (v22 : Int64) => vl (x9 + (1 : Int32)) (fun (v23 : Int32) => L_X9_solve_82 b1 b2 b3 b4 k n x5 x6 v22 v23 H17)))))) (fun j16 => if (gI H 0 39 (Int32.toNatClampNeg x9)) = b4 then j16 H else gd x9 61 (if (gI H 0 40 (Int32.toNatClampNeg x9)) = b4 then j16 H else vl (x9 + (1 : Int32)) (fun (v28 : Int32) => L_X9_solve_82 b1 b2 b3 b4 k n x5 x6 x7 v28 H))))))
set_option maxRecDepth 100000 in
set_option maxHeartbeats 4000000 in
theorem sL_X9_solve_82 {p : Program} {l : Launch} {e : Env} {s : State} {m : MethodId} {args : Array Value} {below : List Frame} {meth : Method} {c : Code} {A : Nat → Prop} {D : va_G} {K4 : kQ} {ad : Nat → Nat → Nat} {nr : Nat} {b1 : Int32} {b2 : Int32} {b3 : Int32} {b4 : Int32} {k : Int32 → Int32 → Int64 → Hp → Option (Int64 × Hp)} {res : Int64 × Hp} (hC : Cx p s m args c A s.heap D K4 12 RX9 cX9_solve) (hret : meth.sig.returnType = (some .long) ∧ meth.locks = false) (hk : ∀ (z5 : Int32) (z6 : Int32) (z7 : Int64) (H : Hp), k z5 z6 z7 H = some res → V p l e ({ frames := 2, cells := 0, slots := 0, locals := 44 }) s m args below meth c A s.heap (QJ below args s A D K4 ad nr res) D K4 ad nr 12 199 [(0, .ref (ad 0 0)), (1, .int b1), (2, .int b2), (3, .int b3), (4, .int b4), (5, .int z5), (6, .int z6), (7, .long z7)] [] H) : ∀ (n : Nat) (x5 : Int32) (x6 : Int32) (x7 : Int64) (x9 : Int32) (H : Hp), L_X9_solve_82 b1 b2 b3 b4 k n x5 x6 x7 x9 H = some res → V p l e ({ frames := 2, cells := 0, slots := 0, locals := 44 }) s m args below meth c A s.heap (QJ below args s A D K4 ad nr res) D K4 ad nr 12 82 [(0, .ref (ad 0 0)), (1, .int b1), (2, .int b2), (3, .int b3), (4, .int b4), (5, .int x5), (6, .int x6), (7, .long x7), (9, .int x9)] [] H := by
  intro n
  induction n with
  | zero => intro x5 x6 x7 x9 H h; exact nomatch (show (none : Option (Int64 × Hp)) = some res from h)
  | succ n ih =>
    intro x5 x6 x7 x9 H h
    rw [L_X9_solve_82] at h
    refine V_iload hC 8 dX9_solve_82 rfl ?_
    refine V_aload_n hC 0 dX9_solve_84 rfl ?_
    refine V_getI (g := 0) (k := 0) hC 9 43 fl_X9_226 rfl rfl rfl dX9_solve_85 ?_
    refine V_icmp_ge (tgt := 199) hC dX9_solve_88 (by decide) (fun c14 => ?_) (fun c14 => ?_)
    · have h := it_pos c14 h
      refine V_lv (lv' := [(0, .ref (ad 0 0)), (1, .int b1), (2, .int b2), (3, .int b3), (4, .int b4), (5, .int x5), (6, .int x6), (7, .long x7)]) [0, 1, 2, 3, 4, 5, 6, 7] rfl ?_
      exact hk x5 x6 x7 H h
    · have h := it_neg c14 h
      refine V_aload_n hC 0 dX9_solve_91 rfl ?_
      refine V_getR (g := 0) (k := 0) (g' := 0) (k' := 39) hC 9 39 fl_X9_111 rfl rfl rfl rfl dX9_solve_92 ?_
      refine V_iload hC 8 dX9_solve_95 rfl ?_
      obtain ⟨hi, h⟩ := gd_some h
      refine V_iald (g := 0) (k := 39) hC rfl rfl hi dX9_solve_97 ?_
      refine V_aload_n hC 0 dX9_solve_98 rfl ?_
      refine V_getR (g := 0) (k := 0) (g' := 0) (k' := 40) hC 9 40 fl_X9_114 rfl rfl rfl rfl dX9_solve_99 ?_
      refine V_iload hC 8 dX9_solve_102 rfl ?_
      obtain ⟨hi, h⟩ := gd_some h
      refine V_iald (g := 0) (k := 40) hC rfl rfl hi dX9_solve_104 ?_
      refine V_icmp_ne (tgt := 111) hC dX9_solve_105 (by decide) (fun c15 => ?_) (fun c15 => ?_)
      · have h := it_neg c15 h
        refine V_aload_n hC 0 dX9_solve_111 rfl ?_
        refine V_getR (g := 0) (k := 0) (g' := 0) (k' := 39) hC 9 39 fl_X9_111 rfl rfl rfl rfl dX9_solve_112 ?_
        refine V_iload hC 8 dX9_solve_115 rfl ?_
        obtain ⟨hi, h⟩ := gd_some h
        refine V_iald (g := 0) (k := 39) hC rfl rfl hi dX9_solve_117 ?_
        refine V_iload hC 4 dX9_solve_118 rfl ?_
        refine V_jn0 (pj := 138) (lj := [(0, .ref (ad 0 0)), (1, .int b1), (2, .int b2), (3, .int b3), (4, .int b4), (5, .int x5), (6, .int x6), (7, .long x7), (9, .int x9)]) (sj := []) h (fun H17 h => ?_) (fun hj16 h => ?_)
        · refine V_aload_n hC 0 dX9_solve_138 rfl ?_
          refine V_getR (g := 0) (k := 0) (g' := 0) (k' := 42) hC 9 42 fl_X9_120 rfl rfl rfl rfl dX9_solve_139 ?_
          refine V_iload hC 8 dX9_solve_142 rfl ?_
          obtain ⟨hi, h⟩ := gd_some h
          refine V_zald (g := 0) (k := 42) hC rfl rfl hi dX9_solve_144 ?_
          refine V_if_eq (tgt := 186) hC dX9_solve_145 (by decide) (fun c18 => ?_) (fun c18 => ?_)
          · have h := it_pos c18 h
            refine V_iload hC 8 dX9_solve_186 rfl ?_
            refine V_istore (lv' := [(5, .int x9), (0, .ref (ad 0 0)), (1, .int b1), (2, .int b2), (3, .int b3), (4, .int b4), (6, .int x6), (7, .long x7), (9, .int x9)]) hC dX9_solve_188 (Nat.le_of_ble_eq_true rfl) rfl ?_
            refine V_vi h (fun v19 hvv19 h => ?_)
            refine V_iinc (v := v19) (lv' := [(6, .int v19), (5, .int x9), (0, .ref (ad 0 0)), (1, .int b1), (2, .int b2), (3, .int b3), (4, .int b4), (7, .long x7), (9, .int x9)]) hC 6 dX9_solve_190 rfl hvv19.symm (Nat.le_of_ble_eq_true rfl) rfl ?_
            refine V_vi h (fun v20 hvv20 h => ?_)
            refine V_iinc (v := v20) (lv' := [(9, .int v20), (6, .int v19), (5, .int x9), (0, .ref (ad 0 0)), (1, .int b1), (2, .int b2), (3, .int b3), (4, .int b4), (7, .long x7)]) hC 8 dX9_solve_193 rfl hvv20.symm (Nat.le_of_ble_eq_true rfl) rfl ?_
            refine V_goto (tgt := 82) hC dX9_solve_196 (by decide) ?_
            refine V_lv (lv' := [(0, .ref (ad 0 0)), (1, .int b1), (2, .int b2), (3, .int b3), (4, .int b4), (5, .int x9), (6, .int v19), (7, .long x7), (9, .int v20)]) [3, 4, 5, 6, 7, 2, 1, 8, 0] rfl ?_
            exact ih x9 v19 x7 v20 H17 h
          · have h := it_neg c18 h
            refine V_lload hC 7 dX9_solve_148 rfl ?_
            refine V_aload_n hC 0 dX9_solve_150 rfl ?_
            refine V_getR (g := 0) (k := 0) (g' := 0) (k' := 40) hC 9 40 fl_X9_114 rfl rfl rfl rfl dX9_solve_151 ?_
            refine V_iload hC 8 dX9_solve_154 rfl ?_
            obtain ⟨hi, h⟩ := gd_some h
            refine V_iald (g := 0) (k := 40) hC rfl rfl hi dX9_solve_156 ?_
            refine V_iload hC 4 dX9_solve_157 rfl ?_
            refine V_icmp_ne (tgt := 172) hC dX9_solve_159 (by decide) (fun c21 => ?_) (fun c21 => ?_)
            · have h := it_neg c21 h
              refine V_aload_n hC 0 dX9_solve_172 rfl ?_
              refine V_getR (g := 0) (k := 0) (g' := 0) (k' := 41) hC 9 41 fl_X9_117 rfl rfl rfl rfl dX9_solve_173 ?_
              refine V_iload hC 8 dX9_solve_176 rfl ?_
              obtain ⟨hi, h⟩ := gd_some h
              refine V_lald (g := 0) (k := 41) hC rfl rfl hi dX9_solve_178 ?_
              refine V_lneg hC dX9_solve_179 ?_
              refine V_ladd hC dX9_solve_180 ?_
              refine V_vlJ h (fun v22 h => ?_)
              refine V_lstore (lv' := [(7, .long v22), (0, .ref (ad 0 0)), (1, .int b1), (2, .int b2), (3, .int b3), (4, .int b4), (5, .int x5), (6, .int x6), (9, .int x9)]) hC dX9_solve_181 (Nat.le_of_ble_eq_true rfl) rfl ?_
              refine V_goto (tgt := 193) hC dX9_solve_183 (by decide) ?_
              refine V_vi h (fun v23 hvv23 h => ?_)
              refine V_iinc (v := v23) (lv' := [(9, .int v23), (7, .long v22), (0, .ref (ad 0 0)), (1, .int b1), (2, .int b2), (3, .int b3), (4, .int b4), (5, .int x5), (6, .int x6)]) hC 8 dX9_solve_193 rfl hvv23.symm (Nat.le_of_ble_eq_true rfl) rfl ?_
              refine V_goto (tgt := 82) hC dX9_solve_196 (by decide) ?_
              refine V_lv (lv' := [(0, .ref (ad 0 0)), (1, .int b1), (2, .int b2), (3, .int b3), (4, .int b4), (5, .int x5), (6, .int x6), (7, .long v22), (9, .int v23)]) [2, 3, 4, 5, 6, 7, 8, 1, 0] rfl ?_
              exact ih x5 x6 v22 v23 H17 h
            · have h := it_pos c21 h
              refine V_aload_n hC 0 dX9_solve_162 rfl ?_
              refine V_getR (g := 0) (k := 0) (g' := 0) (k' := 41) hC 9 41 fl_X9_117 rfl rfl rfl rfl dX9_solve_163 ?_
              refine V_iload hC 8 dX9_solve_166 rfl ?_
              obtain ⟨hi, h⟩ := gd_some h
              refine V_lald (g := 0) (k := 41) hC rfl rfl hi dX9_solve_168 ?_
              refine V_goto (tgt := 180) hC dX9_solve_169 (by decide) ?_
              refine V_ladd hC dX9_solve_180 ?_
              refine V_vlJ h (fun v24 h => ?_)
              refine V_lstore (lv' := [(7, .long v24), (0, .ref (ad 0 0)), (1, .int b1), (2, .int b2), (3, .int b3), (4, .int b4), (5, .int x5), (6, .int x6), (9, .int x9)]) hC dX9_solve_181 (Nat.le_of_ble_eq_true rfl) rfl ?_
              refine V_goto (tgt := 193) hC dX9_solve_183 (by decide) ?_
              refine V_vi h (fun v25 hvv25 h => ?_)
              refine V_iinc (v := v25) (lv' := [(9, .int v25), (7, .long v24), (0, .ref (ad 0 0)), (1, .int b1), (2, .int b2), (3, .int b3), (4, .int b4), (5, .int x5), (6, .int x6)]) hC 8 dX9_solve_193 rfl hvv25.symm (Nat.le_of_ble_eq_true rfl) rfl ?_
              refine V_goto (tgt := 82) hC dX9_solve_196 (by decide) ?_
              refine V_lv (lv' := [(0, .ref (ad 0 0)), (1, .int b1), (2, .int b2), (3, .int b3), (4, .int b4), (5, .int x5), (6, .int x6), (7, .long v24), (9, .int v25)]) [2, 3, 4, 5, 6, 7, 8, 1, 0] rfl ?_
              exact ih x5 x6 v24 v25 H17 h
        · refine V_icmp_eq (tgt := 138) hC dX9_solve_120 (by decide) (fun c26 => ?_) (fun c26 => ?_)
          · have h := it_pos c26 h
            refine V_lv (lv' := [(0, .ref (ad 0 0)), (1, .int b1), (2, .int b2), (3, .int b3), (4, .int b4), (5, .int x5), (6, .int x6), (7, .long x7), (9, .int x9)]) [0, 1, 2, 3, 4, 5, 6, 7, 8] rfl ?_
            exact hj16 H h
          · have h := it_neg c26 h
            refine V_aload_n hC 0 dX9_solve_123 rfl ?_
            refine V_getR (g := 0) (k := 0) (g' := 0) (k' := 40) hC 9 40 fl_X9_114 rfl rfl rfl rfl dX9_solve_124 ?_
            refine V_iload hC 8 dX9_solve_127 rfl ?_
            obtain ⟨hi, h⟩ := gd_some h
            refine V_iald (g := 0) (k := 40) hC rfl rfl hi dX9_solve_129 ?_
            refine V_iload hC 4 dX9_solve_130 rfl ?_
            refine V_icmp_eq (tgt := 138) hC dX9_solve_132 (by decide) (fun c27 => ?_) (fun c27 => ?_)
            · have h := it_pos c27 h
              refine V_lv (lv' := [(0, .ref (ad 0 0)), (1, .int b1), (2, .int b2), (3, .int b3), (4, .int b4), (5, .int x5), (6, .int x6), (7, .long x7), (9, .int x9)]) [0, 1, 2, 3, 4, 5, 6, 7, 8] rfl ?_
              exact hj16 H h
            · have h := it_neg c27 h
              refine V_goto (tgt := 193) hC dX9_solve_135 (by decide) ?_
              refine V_vi h (fun v28 hvv28 h => ?_)
              refine V_iinc (v := v28) (lv' := [(9, .int v28), (0, .ref (ad 0 0)), (1, .int b1), (2, .int b2), (3, .int b3), (4, .int b4), (5, .int x5), (6, .int x6), (7, .long x7)]) hC 8 dX9_solve_193 rfl hvv28.symm (Nat.le_of_ble_eq_true rfl) rfl ?_
              refine V_goto (tgt := 82) hC dX9_solve_196 (by decide) ?_
              refine V_lv (lv' := [(0, .ref (ad 0 0)), (1, .int b1), (2, .int b2), (3, .int b3), (4, .int b4), (5, .int x5), (6, .int x6), (7, .long x7), (9, .int v28)]) [1, 2, 3, 4, 5, 6, 7, 8, 0] rfl ?_
              exact ih x5 x6 x7 v28 H h
      · have h := it_pos c15 h
        refine V_goto (tgt := 193) hC dX9_solve_108 (by decide) ?_
        refine V_vi h (fun v29 hvv29 h => ?_)
        refine V_iinc (v := v29) (lv' := [(9, .int v29), (0, .ref (ad 0 0)), (1, .int b1), (2, .int b2), (3, .int b3), (4, .int b4), (5, .int x5), (6, .int x6), (7, .long x7)]) hC 8 dX9_solve_193 rfl hvv29.symm (Nat.le_of_ble_eq_true rfl) rfl ?_
        refine V_goto (tgt := 82) hC dX9_solve_196 (by decide) ?_
        refine V_lv (lv' := [(0, .ref (ad 0 0)), (1, .int b1), (2, .int b2), (3, .int b3), (4, .int b4), (5, .int x5), (6, .int x6), (7, .long x7), (9, .int v29)]) [1, 2, 3, 4, 5, 6, 7, 8, 0] rfl ?_
        exact ih x5 x6 x7 v29 H h
def L_X9_solve_211 (b1 : Int32) (b2 : Int32) (b4 : Int32) (b5 : Int32) (k : Int64 → Hp → Option (Int64 × Hp)) : Nat → Int64 → Int32 → Hp → Option (Int64 × Hp)
  | 0, _, _, _ => none
  | n + 1, x7, x9, H => gd b1 8 (if (gI H 0 1 (Int32.toNatClampNeg b1)) ≤ x9 then k x7 H else gd ((20 * b1) + x9) 160 (bnd (f_X9_openOf b1 x9 H) (fun w37 H36 => vl (((gJ H 0 21 (Int32.toNatClampNeg ((20 * b1) + x9))) + (Int32.toInt64 w37))) (fun (v38 : Int64) => if b4 = 20 then vl ((x7 + v38)) (fun (v44 : Int64) => vl (x9 + (1 : Int32)) (fun (v45 : Int32) => L_X9_solve_211 b1 b2 b4 b5 k n v44 v45 H36)) else if b4 = x9 then vl ((x7 - v38)) (fun (v42 : Int64) => vl (x9 + (1 : Int32)) (fun (v43 : Int32) => L_X9_solve_211 b1 b2 b4 b5 k n v42 v43 H36)) else vl (x9 + (1 : Int32)) (fun (v41 : Int32) => L_X9_solve_211 b1 b2 b4 b5 k n x7 v41 H36)))))
set_option maxRecDepth 100000 in
set_option maxHeartbeats 4000000 in
theorem sL_X9_solve_211 {p : Program} {l : Launch} {e : Env} {s : State} {m : MethodId} {args : Array Value} {below : List Frame} {meth : Method} {c : Code} {A : Nat → Prop} {D : va_G} {K4 : kQ} {ad : Nat → Nat → Nat} {nr : Nat} {b1 : Int32} {b2 : Int32} {b4 : Int32} {b5 : Int32} {k : Int64 → Hp → Option (Int64 × Hp)} {res : Int64 × Hp} (hC : Cx p s m args c A s.heap D K4 12 RX9 cX9_solve) (hret : meth.sig.returnType = (some .long) ∧ meth.locks = false) (hk : ∀ (z7 : Int64) (H : Hp), k z7 H = some res → V p l e ({ frames := 2, cells := 0, slots := 0, locals := 44 }) s m args below meth c A s.heap (QJ below args s A D K4 ad nr res) D K4 ad nr 12 282 [(0, .ref (ad 0 0)), (1, .int b1), (2, .int b2), (4, .int b4), (5, .int b5), (7, .long z7)] [] H) : ∀ (n : Nat) (x7 : Int64) (x9 : Int32) (H : Hp), L_X9_solve_211 b1 b2 b4 b5 k n x7 x9 H = some res → V p l e ({ frames := 2, cells := 0, slots := 0, locals := 44 }) s m args below meth c A s.heap (QJ below args s A D K4 ad nr res) D K4 ad nr 12 211 [(0, .ref (ad 0 0)), (1, .int b1), (2, .int b2), (4, .int b4), (5, .int b5), (7, .long x7), (9, .int x9)] [] H := by
  intro n
  induction n with
  | zero => intro x7 x9 H h; exact nomatch (show (none : Option (Int64 × Hp)) = some res from h)
  | succ n ih =>
    intro x7 x9 H h
    rw [L_X9_solve_211] at h
    refine V_iload hC 6 dX9_solve_211 rfl ?_
    refine V_aload_n hC 0 dX9_solve_213 rfl ?_
    refine V_getR (g := 0) (k := 0) (g' := 0) (k' := 1) hC 9 1 fl_X9_7 rfl rfl rfl rfl dX9_solve_214 ?_
    refine V_iload_n hC 1 dX9_solve_217 rfl ?_
    obtain ⟨hi, h⟩ := gd_some h
    refine V_iald (g := 0) (k := 1) hC rfl rfl hi dX9_solve_218 ?_
    refine V_icmp_ge (tgt := 282) hC dX9_solve_219 (by decide) (fun c35 => ?_) (fun c35 => ?_)
    · have h := it_pos c35 h
      refine V_lv (lv' := [(0, .ref (ad 0 0)), (1, .int b1), (2, .int b2), (4, .int b4), (5, .int b5), (7, .long x7)]) [0, 1, 2, 3, 4, 5] rfl ?_
      exact hk x7 H h
    · have h := it_neg c35 h
      refine V_aload_n hC 0 dX9_solve_222 rfl ?_
      refine V_getR (g := 0) (k := 0) (g' := 0) (k' := 21) hC 9 21 fl_X9_72 rfl rfl rfl rfl dX9_solve_223 ?_
      refine V_bipush (v := 20) hC dX9_solve_226 (by decide) ?_
      refine V_iload_n hC 1 dX9_solve_228 rfl ?_
      refine V_imul hC dX9_solve_229 ?_
      refine V_iload hC 6 dX9_solve_230 rfl ?_
      refine V_iadd hC dX9_solve_232 ?_
      obtain ⟨hi, h⟩ := gd_some h
      refine V_lald (g := 0) (k := 21) hC rfl rfl hi dX9_solve_233 ?_
      refine V_aload_n hC 0 dX9_solve_234 rfl ?_
      refine V_iload_n hC 1 dX9_solve_235 rfl ?_
      refine V_iload hC 6 dX9_solve_236 rfl ?_
      obtain ⟨w37, H36, hc, h⟩ := bnd_some h
      refine V_calli (g := 0) (k := 0) (As := [.int b1, .int x9]) (st := [.long (gJ H 0 21 (Int32.toNatClampNeg ((20 * b1) + x9)))]) hC (c_X9_openOf l hc) rfl ml_X9_223 ⟨Nat.le_of_ble_eq_true rfl, Nat.le_of_ble_eq_true rfl⟩ rfl rfl rfl (Nat.le_of_ble_eq_true rfl) dX9_solve_238 ?_
      refine V_i2l hC dX9_solve_241 ?_
      refine V_ladd hC dX9_solve_242 ?_
      refine V_vlJ h (fun v38 h => ?_)
      refine V_lstore (lv' := [(10, .long v38), (0, .ref (ad 0 0)), (1, .int b1), (2, .int b2), (4, .int b4), (5, .int b5), (7, .long x7), (9, .int x9)]) hC dX9_solve_243 (Nat.le_of_ble_eq_true rfl) rfl ?_
      refine V_iload hC 4 dX9_solve_245 rfl ?_
      refine V_bipush (v := 20) hC dX9_solve_247 (by decide) ?_
      refine V_icmp_ne (tgt := 262) hC dX9_solve_249 (by decide) (fun c39 => ?_) (fun c39 => ?_)
      · have h := it_neg c39 h
        refine V_iload hC 4 dX9_solve_262 rfl ?_
        refine V_iload hC 7 dX9_solve_264 rfl ?_
        refine V_icmp_ne (tgt := 276) hC dX9_solve_266 (by decide) (fun c40 => ?_) (fun c40 => ?_)
        · have h := it_neg c40 h
          refine V_vi h (fun v41 hvv41 h => ?_)
          refine V_iinc (v := v41) (lv' := [(9, .int v41), (10, .long v38), (0, .ref (ad 0 0)), (1, .int b1), (2, .int b2), (4, .int b4), (5, .int b5), (7, .long x7)]) hC 7 dX9_solve_276 rfl hvv41.symm (Nat.le_of_ble_eq_true rfl) rfl ?_
          refine V_goto (tgt := 211) hC dX9_solve_279 (by decide) ?_
          refine V_lv (lv' := [(0, .ref (ad 0 0)), (1, .int b1), (2, .int b2), (4, .int b4), (5, .int b5), (7, .long x7), (9, .int v41)]) [2, 3, 4, 5, 6, 7, 0] rfl ?_
          exact ih x7 v41 H36 h
        · have h := it_pos c40 h
          refine V_lload hC 6 dX9_solve_269 rfl ?_
          refine V_lload hC 0 dX9_solve_271 rfl ?_
          refine V_lsub hC dX9_solve_273 ?_
          refine V_vlJ h (fun v42 h => ?_)
          refine V_lstore (lv' := [(7, .long v42), (10, .long v38), (0, .ref (ad 0 0)), (1, .int b1), (2, .int b2), (4, .int b4), (5, .int b5), (9, .int x9)]) hC dX9_solve_274 (Nat.le_of_ble_eq_true rfl) rfl ?_
          refine V_vi h (fun v43 hvv43 h => ?_)
          refine V_iinc (v := v43) (lv' := [(9, .int v43), (7, .long v42), (10, .long v38), (0, .ref (ad 0 0)), (1, .int b1), (2, .int b2), (4, .int b4), (5, .int b5)]) hC 7 dX9_solve_276 rfl hvv43.symm (Nat.le_of_ble_eq_true rfl) rfl ?_
          refine V_goto (tgt := 211) hC dX9_solve_279 (by decide) ?_
          refine V_lv (lv' := [(0, .ref (ad 0 0)), (1, .int b1), (2, .int b2), (4, .int b4), (5, .int b5), (7, .long v42), (9, .int v43)]) [3, 4, 5, 6, 7, 1, 0] rfl ?_
          exact ih v42 v43 H36 h
      · have h := it_pos c39 h
        refine V_lload hC 6 dX9_solve_252 rfl ?_
        refine V_lload hC 0 dX9_solve_254 rfl ?_
        refine V_ladd hC dX9_solve_256 ?_
        refine V_vlJ h (fun v44 h => ?_)
        refine V_lstore (lv' := [(7, .long v44), (10, .long v38), (0, .ref (ad 0 0)), (1, .int b1), (2, .int b2), (4, .int b4), (5, .int b5), (9, .int x9)]) hC dX9_solve_257 (Nat.le_of_ble_eq_true rfl) rfl ?_
        refine V_goto (tgt := 276) hC dX9_solve_259 (by decide) ?_
        refine V_vi h (fun v45 hvv45 h => ?_)
        refine V_iinc (v := v45) (lv' := [(9, .int v45), (7, .long v44), (10, .long v38), (0, .ref (ad 0 0)), (1, .int b1), (2, .int b2), (4, .int b4), (5, .int b5)]) hC 7 dX9_solve_276 rfl hvv45.symm (Nat.le_of_ble_eq_true rfl) rfl ?_
        refine V_goto (tgt := 211) hC dX9_solve_279 (by decide) ?_
        refine V_lv (lv' := [(0, .ref (ad 0 0)), (1, .int b1), (2, .int b2), (4, .int b4), (5, .int b5), (7, .long v44), (9, .int v45)]) [3, 4, 5, 6, 7, 1, 0] rfl ?_
        exact ih v44 v45 H36 h
def L_X9_solve_42 (b1 : Int32) (b2 : Int32) (k : Int32 → Hp → Option (Int64 × Hp)) : Nat → Int32 → Int32 → Hp → Option (Int64 × Hp)
  | 0, _, _, _ => none
  | n + 1, x3, x4, H => if 21 ≤ x4 then k x3 H else gd b1 8 (jn (fun (H13 : Hp) => L_X9_solve_82 b1 b2 x3 x4 (fun (z30 : Int32) (z31 : Int32) (z32 : Int64) (H33 : Hp) => if z31 = 1 then L_X9_solve_211 b1 b2 x4 z30 (fun (z46 : Int64) (H47 : Hp) => gd z30 61 (jn (fun (y49 : Int64) (H50 : Hp) => gd z30 61 (hl (sJ H50 0 41 (Int32.toNatClampNeg z30) y49) (fun (H51 : Hp) => gd z30 61 (hl (sI H51 0 42 (Int32.toNatClampNeg z30) (vp_nar .boolean 1)) (fun (H52 : Hp) => vl (x4 + (1 : Int32)) (fun (v53 : Int32) => L_X9_solve_42 b1 b2 k n 1 v53 H52)))))) (fun j48 => if (gI H47 0 39 (Int32.toNatClampNeg z30)) = x4 then j48 z46 H47 else j48 (-z46) H47))) FU z32 0 H33 else vl (x4 + (1 : Int32)) (fun (v55 : Int32) => L_X9_solve_42 b1 b2 k n x3 v55 H33)) FU (-1) 0 0 0 H13) (fun j12 => if x4 < (gI H 0 1 (Int32.toNatClampNeg b1)) then j12 H else if x4 = 20 then j12 H else vl (x4 + (1 : Int32)) (fun (v58 : Int32) => L_X9_solve_42 b1 b2 k n x3 v58 H)))
set_option maxRecDepth 100000 in
set_option maxHeartbeats 4000000 in
theorem sL_X9_solve_42 {p : Program} {l : Launch} {e : Env} {s : State} {m : MethodId} {args : Array Value} {below : List Frame} {meth : Method} {c : Code} {A : Nat → Prop} {D : va_G} {K4 : kQ} {ad : Nat → Nat → Nat} {nr : Nat} {b1 : Int32} {b2 : Int32} {k : Int32 → Hp → Option (Int64 × Hp)} {res : Int64 × Hp} (hC : Cx p s m args c A s.heap D K4 12 RX9 cX9_solve) (hret : meth.sig.returnType = (some .long) ∧ meth.locks = false) (hk : ∀ (z3 : Int32) (H : Hp), k z3 H = some res → V p l e ({ frames := 2, cells := 0, slots := 0, locals := 44 }) s m args below meth c A s.heap (QJ below args s A D K4 ad nr res) D K4 ad nr 12 325 [(0, .ref (ad 0 0)), (1, .int b1), (2, .int b2), (3, .int z3)] [] H) : ∀ (n : Nat) (x3 : Int32) (x4 : Int32) (H : Hp), L_X9_solve_42 b1 b2 k n x3 x4 H = some res → V p l e ({ frames := 2, cells := 0, slots := 0, locals := 44 }) s m args below meth c A s.heap (QJ below args s A D K4 ad nr res) D K4 ad nr 12 42 [(0, .ref (ad 0 0)), (1, .int b1), (2, .int b2), (3, .int x3), (4, .int x4)] [] H := by
  intro n
  induction n with
  | zero => intro x3 x4 H h; exact nomatch (show (none : Option (Int64 × Hp)) = some res from h)
  | succ n ih =>
    intro x3 x4 H h
    rw [L_X9_solve_42] at h
    refine V_iload hC 4 dX9_solve_42 rfl ?_
    refine V_bipush (v := 21) hC dX9_solve_44 (by decide) ?_
    refine V_icmp_ge (tgt := 325) hC dX9_solve_46 (by decide) (fun c11 => ?_) (fun c11 => ?_)
    · have h := it_pos c11 h
      refine V_lv (lv' := [(0, .ref (ad 0 0)), (1, .int b1), (2, .int b2), (3, .int x3)]) [0, 1, 2, 3] rfl ?_
      exact hk x3 H h
    · have h := it_neg c11 h
      refine V_iload hC 4 dX9_solve_49 rfl ?_
      refine V_aload_n hC 0 dX9_solve_51 rfl ?_
      refine V_getR (g := 0) (k := 0) (g' := 0) (k' := 1) hC 9 1 fl_X9_7 rfl rfl rfl rfl dX9_solve_52 ?_
      refine V_iload_n hC 1 dX9_solve_55 rfl ?_
      obtain ⟨hi, h⟩ := gd_some h
      refine V_iald (g := 0) (k := 1) hC rfl rfl hi dX9_solve_56 ?_
      refine V_jn0 (pj := 70) (lj := [(0, .ref (ad 0 0)), (1, .int b1), (2, .int b2), (3, .int x3), (4, .int x4)]) (sj := []) h (fun H13 h => ?_) (fun hj12 h => ?_)
      · refine V_iconst (v := -1) hC dX9_solve_70 (by decide) ?_
        refine V_istore (lv' := [(5, .int (-1)), (0, .ref (ad 0 0)), (1, .int b1), (2, .int b2), (3, .int x3), (4, .int x4)]) hC dX9_solve_71 (Nat.le_of_ble_eq_true rfl) rfl ?_
        refine V_iconst (v := 0) hC dX9_solve_73 (by decide) ?_
        refine V_istore (lv' := [(6, .int 0), (5, .int (-1)), (0, .ref (ad 0 0)), (1, .int b1), (2, .int b2), (3, .int x3), (4, .int x4)]) hC dX9_solve_74 (Nat.le_of_ble_eq_true rfl) rfl ?_
        refine V_lconst (v := 0) hC dX9_solve_76 (by decide) ?_
        refine V_lstore (lv' := [(7, .long 0), (6, .int 0), (5, .int (-1)), (0, .ref (ad 0 0)), (1, .int b1), (2, .int b2), (3, .int x3), (4, .int x4)]) hC dX9_solve_77 (Nat.le_of_ble_eq_true rfl) rfl ?_
        refine V_iconst (v := 0) hC dX9_solve_79 (by decide) ?_
        refine V_istore (lv' := [(9, .int 0), (7, .long 0), (6, .int 0), (5, .int (-1)), (0, .ref (ad 0 0)), (1, .int b1), (2, .int b2), (3, .int x3), (4, .int x4)]) hC dX9_solve_80 (Nat.le_of_ble_eq_true rfl) rfl ?_
        refine V_lv (lv' := [(0, .ref (ad 0 0)), (1, .int b1), (2, .int b2), (3, .int x3), (4, .int x4), (5, .int (-1)), (6, .int 0), (7, .long 0), (9, .int 0)]) [4, 5, 6, 7, 8, 3, 2, 1, 0] rfl ?_
        refine sL_X9_solve_82 hC hret (fun z30 z31 z32 H33 h => ?_) _ (-1) 0 0 0 H13 h
        refine V_iload hC 6 dX9_solve_199 rfl ?_
        refine V_iconst (v := 1) hC dX9_solve_201 (by decide) ?_
        refine V_icmp_eq (tgt := 208) hC dX9_solve_202 (by decide) (fun c34 => ?_) (fun c34 => ?_)
        · have h := it_pos c34 h
          refine V_iconst (v := 0) hC dX9_solve_208 (by decide) ?_
          refine V_istore (lv' := [(9, .int 0), (0, .ref (ad 0 0)), (1, .int b1), (2, .int b2), (3, .int x3), (4, .int x4), (5, .int z30), (6, .int z31), (7, .long z32)]) hC dX9_solve_209 (Nat.le_of_ble_eq_true rfl) rfl ?_
          refine V_lv (lv' := [(0, .ref (ad 0 0)), (1, .int b1), (2, .int b2), (4, .int x4), (5, .int z30), (7, .long z32), (9, .int 0)]) [1, 2, 3, 5, 6, 8, 0] rfl ?_
          refine sL_X9_solve_211 hC hret (fun z46 H47 h => ?_) _ z32 0 H33 h
          refine V_aload_n hC 0 dX9_solve_282 rfl ?_
          refine V_getR (g := 0) (k := 0) (g' := 0) (k' := 41) hC 9 41 fl_X9_117 rfl rfl rfl rfl dX9_solve_283 ?_
          refine V_iload hC 4 dX9_solve_286 rfl ?_
          refine V_aload_n hC 0 dX9_solve_288 rfl ?_
          refine V_getR (g := 0) (k := 0) (g' := 0) (k' := 39) hC 9 39 fl_X9_111 rfl rfl rfl rfl dX9_solve_289 ?_
          refine V_iload hC 4 dX9_solve_292 rfl ?_
          obtain ⟨hi, h⟩ := gd_some h
          refine V_iald (g := 0) (k := 39) hC rfl rfl hi dX9_solve_294 ?_
          refine V_iload hC 3 dX9_solve_295 rfl ?_
          refine V_jn1 (pj := 308) (lj := fun y49 => [(0, .ref (ad 0 0)), (1, .int b1), (2, .int b2), (4, .int x4), (5, .int z30)]) (sj := fun y49 => [.long y49, .int z30, .ref (ad 0 41)]) h (fun y49 H50 h => ?_) (fun hj48 h => ?_)
          · obtain ⟨hi, h⟩ := gd_some h
            refine V_last (g := 0) (k := 41) hC rfl rfl hi dX9_solve_308 ?_
            refine V_hl h (fun H51 h => ?_)
            refine V_aload_n hC 0 dX9_solve_309 rfl ?_
            refine V_getR (g := 0) (k := 0) (g' := 0) (k' := 42) hC 9 42 fl_X9_120 rfl rfl rfl rfl dX9_solve_310 ?_
            refine V_iload hC 4 dX9_solve_313 rfl ?_
            refine V_iconst (v := 1) hC dX9_solve_315 (by decide) ?_
            obtain ⟨hi, h⟩ := gd_some h
            refine V_zast (g := 0) (k := 42) hC rfl rfl hi dX9_solve_316 ?_
            refine V_hl h (fun H52 h => ?_)
            refine V_iconst (v := 1) hC dX9_solve_317 (by decide) ?_
            refine V_istore_n (lv' := [(3, .int 1), (0, .ref (ad 0 0)), (1, .int b1), (2, .int b2), (4, .int x4), (5, .int z30)]) hC dX9_solve_318 (Nat.le_of_ble_eq_true rfl) rfl ?_
            refine V_vi h (fun v53 hvv53 h => ?_)
            refine V_iinc (v := v53) (lv' := [(4, .int v53), (3, .int 1), (0, .ref (ad 0 0)), (1, .int b1), (2, .int b2), (5, .int z30)]) hC 4 dX9_solve_319 rfl hvv53.symm (Nat.le_of_ble_eq_true rfl) rfl ?_
            refine V_goto (tgt := 42) hC dX9_solve_322 (by decide) ?_
            refine V_lv (lv' := [(0, .ref (ad 0 0)), (1, .int b1), (2, .int b2), (3, .int 1), (4, .int v53)]) [2, 3, 4, 1, 0] rfl ?_
            exact ih 1 v53 H52 h
          · refine V_icmp_ne (tgt := 305) hC dX9_solve_297 (by decide) (fun c54 => ?_) (fun c54 => ?_)
            · have h := it_neg c54 h
              refine V_lload hC 5 dX9_solve_305 rfl ?_
              refine V_lneg hC dX9_solve_307 ?_
              refine V_lv (lv' := [(0, .ref (ad 0 0)), (1, .int b1), (2, .int b2), (4, .int x4), (5, .int z30)]) [0, 1, 2, 3, 4] rfl ?_
              exact hj48 (-z46) H47 h
            · have h := it_pos c54 h
              refine V_lload hC 5 dX9_solve_300 rfl ?_
              refine V_goto (tgt := 308) hC dX9_solve_302 (by decide) ?_
              refine V_lv (lv' := [(0, .ref (ad 0 0)), (1, .int b1), (2, .int b2), (4, .int x4), (5, .int z30)]) [0, 1, 2, 3, 4] rfl ?_
              exact hj48 z46 H47 h
        · have h := it_neg c34 h
          refine V_goto (tgt := 319) hC dX9_solve_205 (by decide) ?_
          refine V_vi h (fun v55 hvv55 h => ?_)
          refine V_iinc (v := v55) (lv' := [(4, .int v55), (0, .ref (ad 0 0)), (1, .int b1), (2, .int b2), (3, .int x3), (5, .int z30), (6, .int z31), (7, .long z32)]) hC 4 dX9_solve_319 rfl hvv55.symm (Nat.le_of_ble_eq_true rfl) rfl ?_
          refine V_goto (tgt := 42) hC dX9_solve_322 (by decide) ?_
          refine V_lv (lv' := [(0, .ref (ad 0 0)), (1, .int b1), (2, .int b2), (3, .int x3), (4, .int v55)]) [1, 2, 3, 4, 0] rfl ?_
          exact ih x3 v55 H33 h
      · refine V_icmp_lt (tgt := 70) hC dX9_solve_57 (by decide) (fun c56 => ?_) (fun c56 => ?_)
        · have h := it_pos c56 h
          refine V_lv (lv' := [(0, .ref (ad 0 0)), (1, .int b1), (2, .int b2), (3, .int x3), (4, .int x4)]) [0, 1, 2, 3, 4] rfl ?_
          exact hj12 H h
        · have h := it_neg c56 h
          refine V_iload hC 4 dX9_solve_60 rfl ?_
          refine V_bipush (v := 20) hC dX9_solve_62 (by decide) ?_
          refine V_icmp_eq (tgt := 70) hC dX9_solve_64 (by decide) (fun c57 => ?_) (fun c57 => ?_)
          · have h := it_pos c57 h
            refine V_lv (lv' := [(0, .ref (ad 0 0)), (1, .int b1), (2, .int b2), (3, .int x3), (4, .int x4)]) [0, 1, 2, 3, 4] rfl ?_
            exact hj12 H h
          · have h := it_neg c57 h
            refine V_goto (tgt := 319) hC dX9_solve_67 (by decide) ?_
            refine V_vi h (fun v58 hvv58 h => ?_)
            refine V_iinc (v := v58) (lv' := [(4, .int v58), (0, .ref (ad 0 0)), (1, .int b1), (2, .int b2), (3, .int x3)]) hC 4 dX9_solve_319 rfl hvv58.symm (Nat.le_of_ble_eq_true rfl) rfl ?_
            refine V_goto (tgt := 42) hC dX9_solve_322 (by decide) ?_
            refine V_lv (lv' := [(0, .ref (ad 0 0)), (1, .int b1), (2, .int b2), (3, .int x3), (4, .int v58)]) [1, 2, 3, 4, 0] rfl ?_
            exact ih x3 v58 H h
def L_X9_solve_33 (b1 : Int32) (b2 : Int32) (k : Hp → Option (Int64 × Hp)) : Nat → Int32 → Hp → Option (Int64 × Hp)
  | 0, _, _ => none
  | n + 1, x3, H => if x3 = 0 then k H else L_X9_solve_42 b1 b2 (fun (z59 : Int32) (H60 : Hp) => L_X9_solve_33 b1 b2 k n z59 H60) FU 0 0 H
set_option maxRecDepth 100000 in
set_option maxHeartbeats 4000000 in
theorem sL_X9_solve_33 {p : Program} {l : Launch} {e : Env} {s : State} {m : MethodId} {args : Array Value} {below : List Frame} {meth : Method} {c : Code} {A : Nat → Prop} {D : va_G} {K4 : kQ} {ad : Nat → Nat → Nat} {nr : Nat} {b1 : Int32} {b2 : Int32} {k : Hp → Option (Int64 × Hp)} {res : Int64 × Hp} (hC : Cx p s m args c A s.heap D K4 12 RX9 cX9_solve) (hret : meth.sig.returnType = (some .long) ∧ meth.locks = false) (hk : ∀ (H : Hp), k H = some res → V p l e ({ frames := 2, cells := 0, slots := 0, locals := 44 }) s m args below meth c A s.heap (QJ below args s A D K4 ad nr res) D K4 ad nr 12 328 [(0, .ref (ad 0 0)), (2, .int b2)] [] H) : ∀ (n : Nat) (x3 : Int32) (H : Hp), L_X9_solve_33 b1 b2 k n x3 H = some res → V p l e ({ frames := 2, cells := 0, slots := 0, locals := 44 }) s m args below meth c A s.heap (QJ below args s A D K4 ad nr res) D K4 ad nr 12 33 [(0, .ref (ad 0 0)), (1, .int b1), (2, .int b2), (3, .int x3)] [] H := by
  intro n
  induction n with
  | zero => intro x3 H h; exact nomatch (show (none : Option (Int64 × Hp)) = some res from h)
  | succ n ih =>
    intro x3 H h
    rw [L_X9_solve_33] at h
    refine V_iload_n hC 3 dX9_solve_33 rfl ?_
    refine V_if_eq (tgt := 328) hC dX9_solve_34 (by decide) (fun c10 => ?_) (fun c10 => ?_)
    · have h := it_pos c10 h
      refine V_lv (lv' := [(0, .ref (ad 0 0)), (2, .int b2)]) [0, 2] rfl ?_
      exact hk H h
    · have h := it_neg c10 h
      refine V_iconst (v := 0) hC dX9_solve_37 (by decide) ?_
      refine V_istore_n (lv' := [(3, .int 0), (0, .ref (ad 0 0)), (1, .int b1), (2, .int b2)]) hC dX9_solve_38 (Nat.le_of_ble_eq_true rfl) rfl ?_
      refine V_iconst (v := 0) hC dX9_solve_39 (by decide) ?_
      refine V_istore (lv' := [(4, .int 0), (3, .int 0), (0, .ref (ad 0 0)), (1, .int b1), (2, .int b2)]) hC dX9_solve_40 (Nat.le_of_ble_eq_true rfl) rfl ?_
      refine V_lv (lv' := [(0, .ref (ad 0 0)), (1, .int b1), (2, .int b2), (3, .int 0), (4, .int 0)]) [2, 3, 4, 1, 0] rfl ?_
      refine sL_X9_solve_42 hC hret (fun z59 H60 h => ?_) _ 0 0 H h
      refine V_goto (tgt := 33) hC dX9_solve_325 (by decide) ?_
      refine V_lv (lv' := [(0, .ref (ad 0 0)), (1, .int b1), (2, .int b2), (3, .int z59)]) [0, 1, 2, 3] rfl ?_
      exact ih z59 H60 h
def f_X9_solve (a1 : Int32) (a2 : Int32) (H : Hp) : Option (Int64 × Hp) := hl (sI H 0 0 34 0) (fun (H1 : Hp) => bnd (f_X9_isDone a1 H1) (fun w3 H2 => if w3 = 0 then some ((-1), H2) else bnd (f_X9_isEdge a1 a2 H2) (fun w6 H5 => if w6 = 0 then some ((-1), H5) else bnd (f_X9_lay a1 H5) (fun w9 H8 => L_X9_solve_33 a1 a2 (fun (H61 : Hp) => gd a2 61 (some ((gJ H61 0 41 (Int32.toNatClampNeg a2)), H61))) FU 1 H8))))
set_option maxRecDepth 100000 in
set_option maxHeartbeats 4000000 in
theorem s_X9_solve {p : Program} {l : Launch} {e : Env} {s : State} {m : MethodId} {args : Array Value} {below : List Frame} {meth : Method} {c : Code} {A : Nat → Prop} {D : va_G} {K4 : kQ} {ad : Nat → Nat → Nat} {nr : Nat} {a1 : Int32} {a2 : Int32} {H : Hp} {res : Int64 × Hp} (hC : Cx p s m args c A s.heap D K4 12 RX9 cX9_solve) (hret : meth.sig.returnType = (some .long) ∧ meth.locks = false) (h : f_X9_solve a1 a2 H = some res) : V p l e ({ frames := 2, cells := 0, slots := 0, locals := 44 }) s m args below meth c A s.heap (QJ below args s A D K4 ad nr res) D K4 ad nr 12 0 [(0, .ref (ad 0 0)), (1, .int a1), (2, .int a2)] [] H := by
  unfold f_X9_solve at h
  refine V_aload_n hC 0 dX9_solve_0 rfl ?_
  refine V_iconst (v := 0) hC dX9_solve_1 (by decide) ?_
  refine V_putI (g := 0) (k := 0) hC 9 34 .int fw_X9_153 rfl rfl rfl rfl rfl dX9_solve_2 ?_
  refine V_hl h (fun H1 h => ?_)
  refine V_aload_n hC 0 dX9_solve_5 rfl ?_
  refine V_iload_n hC 1 dX9_solve_6 rfl ?_
  obtain ⟨w3, H2, hc, h⟩ := bnd_some h
  refine V_calli (g := 0) (k := 0) (As := [.int a1]) (st := []) hC (c_X9_isDone l hc) rfl ml_X9_208 ⟨Nat.le_of_ble_eq_true rfl, Nat.le_of_ble_eq_true rfl⟩ rfl rfl rfl (Nat.le_of_ble_eq_true rfl) dX9_solve_7 ?_
  refine V_if_eq (tgt := 22) hC dX9_solve_10 (by decide) (fun c4 => ?_) (fun c4 => ?_)
  · have h := it_pos c4 h
    refine V_ldc2 hC dX9_solve_22 cl_X9_189 ?_
    exact V_lret hC hret dX9_solve_25 h
  · have h := it_neg c4 h
    refine V_aload_n hC 0 dX9_solve_13 rfl ?_
    refine V_iload_n hC 1 dX9_solve_14 rfl ?_
    refine V_iload_n hC 2 dX9_solve_15 rfl ?_
    obtain ⟨w6, H5, hc, h⟩ := bnd_some h
    refine V_calli (g := 0) (k := 0) (As := [.int a1, .int a2]) (st := []) hC (c_X9_isEdge l hc) rfl ml_X9_176 ⟨Nat.le_of_ble_eq_true rfl, Nat.le_of_ble_eq_true rfl⟩ rfl rfl rfl (Nat.le_of_ble_eq_true rfl) dX9_solve_16 ?_
    refine V_if_ne (tgt := 26) hC dX9_solve_19 (by decide) (fun c7 => ?_) (fun c7 => ?_)
    · have h := it_neg c7 h
      refine V_aload_n hC 0 dX9_solve_26 rfl ?_
      refine V_iload_n hC 1 dX9_solve_27 rfl ?_
      obtain ⟨w9, H8, hc, h⟩ := bnd_some h
      refine V_callu (g := 0) (k := 0) (As := [.int a1]) (st := []) hC (c_X9_lay l hc) rfl ml_X9_232 ⟨Nat.le_of_ble_eq_true rfl, Nat.le_of_ble_eq_true rfl⟩ rfl rfl rfl (Nat.le_of_ble_eq_true rfl) dX9_solve_28 ?_
      refine V_iconst (v := 1) hC dX9_solve_31 (by decide) ?_
      refine V_istore_n (lv' := [(3, .int 1), (0, .ref (ad 0 0)), (1, .int a1), (2, .int a2)]) hC dX9_solve_32 (Nat.le_of_ble_eq_true rfl) rfl ?_
      refine V_lv (lv' := [(0, .ref (ad 0 0)), (1, .int a1), (2, .int a2), (3, .int 1)]) [1, 2, 3, 0] rfl ?_
      refine sL_X9_solve_33 hC hret (fun H61 h => ?_) _ 1 H8 h
      refine V_aload_n hC 0 dX9_solve_328 rfl ?_
      refine V_getR (g := 0) (k := 0) (g' := 0) (k' := 41) hC 9 41 fl_X9_117 rfl rfl rfl rfl dX9_solve_329 ?_
      refine V_iload_n hC 1 dX9_solve_332 rfl ?_
      obtain ⟨hi, h⟩ := gd_some h
      refine V_lald (g := 0) (k := 41) hC rfl rfl hi dX9_solve_333 ?_
      exact V_lret hC hret dX9_solve_334 h
    · have h := it_pos c7 h
      refine V_ldc2 hC dX9_solve_22 cl_X9_189 ?_
      exact V_lret hC hret dX9_solve_25 h
theorem c_X9_solve (l : Launch) {nr : Nat} {a1 : Int32} {a2 : Int32} {H : Hp} {x : Int64} {H' : Hp} (h : f_X9_solve a1 a2 H = some (x, H')) : CJ l nr yX9_solve cX9_solve 12 (some .long) 2 44 (fun ad => [.ref (ad 0 0), .int a1, .int a2]) H x H' := by
  intro D K4 ad sz
  refine Met.ofV (by decide) (Nat.le_of_ble_eq_true rfl) ?_
  intro p e s m args below meth c hC hret hsz
  subst hsz
  exact s_X9_solve hC hret h
theorem dX9_ring_0 : decode cX9_ring 0 = .ok (.aload_n 0, 1) := by decide +kernel
theorem dX9_ring_1 : decode cX9_ring 1 = .ok (.iconst 0, 1) := by decide +kernel
theorem dX9_ring_2 : decode cX9_ring 2 = .ok (.putfield 153, 3) := by decide +kernel
theorem dX9_ring_5 : decode cX9_ring 5 = .ok (.aload_n 0, 1) := by decide +kernel
theorem dX9_ring_6 : decode cX9_ring 6 = .ok (.iload_n 1, 1) := by decide +kernel
theorem dX9_ring_7 : decode cX9_ring 7 = .ok (.invokevirtual 208, 3) := by decide +kernel
theorem dX9_ring_10 : decode cX9_ring 10 = .ok (.ifCond .eq 35, 3) := by decide +kernel
theorem dX9_ring_13 : decode cX9_ring 13 = .ok (.aload_n 0, 1) := by decide +kernel
theorem dX9_ring_14 : decode cX9_ring 14 = .ok (.iload_n 1, 1) := by decide +kernel
theorem dX9_ring_15 : decode cX9_ring 15 = .ok (.iload_n 2, 1) := by decide +kernel
theorem dX9_ring_16 : decode cX9_ring 16 = .ok (.invokevirtual 176, 3) := by decide +kernel
theorem dX9_ring_19 : decode cX9_ring 19 = .ok (.ifCond .eq 26, 3) := by decide +kernel
theorem dX9_ring_22 : decode cX9_ring 22 = .ok (.aload_n 0, 1) := by decide +kernel
theorem dX9_ring_23 : decode cX9_ring 23 = .ok (.iload_n 1, 1) := by decide +kernel
theorem dX9_ring_24 : decode cX9_ring 24 = .ok (.iload_n 3, 1) := by decide +kernel
theorem dX9_ring_25 : decode cX9_ring 25 = .ok (.invokevirtual 176, 3) := by decide +kernel
theorem dX9_ring_28 : decode cX9_ring 28 = .ok (.ifCond .eq 17, 3) := by decide +kernel
theorem dX9_ring_31 : decode cX9_ring 31 = .ok (.aload_n 0, 1) := by decide +kernel
theorem dX9_ring_32 : decode cX9_ring 32 = .ok (.getfield 41, 3) := by decide +kernel
theorem dX9_ring_35 : decode cX9_ring 35 = .ok (.bipush 40, 2) := by decide +kernel
theorem dX9_ring_37 : decode cX9_ring 37 = .ok (.iload_n 1, 1) := by decide +kernel
theorem dX9_ring_38 : decode cX9_ring 38 = .ok (.imul, 1) := by decide +kernel
theorem dX9_ring_39 : decode cX9_ring 39 = .ok (.iload_n 2, 1) := by decide +kernel
theorem dX9_ring_40 : decode cX9_ring 40 = .ok (.iadd, 1) := by decide +kernel
theorem dX9_ring_41 : decode cX9_ring 41 = .ok (.baload, 1) := by decide +kernel
theorem dX9_ring_42 : decode cX9_ring 42 = .ok (.ifCond .ne 5, 3) := by decide +kernel
theorem dX9_ring_45 : decode cX9_ring 45 = .ok (.iconst (-1), 1) := by decide +kernel
theorem dX9_ring_46 : decode cX9_ring 46 = .ok (.ireturn, 1) := by decide +kernel
theorem dX9_ring_47 : decode cX9_ring 47 = .ok (.iload_n 2, 1) := by decide +kernel
theorem dX9_ring_48 : decode cX9_ring 48 = .ok (.iload_n 3, 1) := by decide +kernel
theorem dX9_ring_49 : decode cX9_ring 49 = .ok (.if_icmp .ne 5, 3) := by decide +kernel
theorem dX9_ring_52 : decode cX9_ring 52 = .ok (.iconst 1, 1) := by decide +kernel
theorem dX9_ring_53 : decode cX9_ring 53 = .ok (.ireturn, 1) := by decide +kernel
theorem dX9_ring_54 : decode cX9_ring 54 = .ok (.aload_n 0, 1) := by decide +kernel
theorem dX9_ring_55 : decode cX9_ring 55 = .ok (.getfield 41, 3) := by decide +kernel
theorem dX9_ring_58 : decode cX9_ring 58 = .ok (.bipush 40, 2) := by decide +kernel
theorem dX9_ring_60 : decode cX9_ring 60 = .ok (.iload_n 1, 1) := by decide +kernel
theorem dX9_ring_61 : decode cX9_ring 61 = .ok (.imul, 1) := by decide +kernel
theorem dX9_ring_62 : decode cX9_ring 62 = .ok (.iload_n 3, 1) := by decide +kernel
theorem dX9_ring_63 : decode cX9_ring 63 = .ok (.iadd, 1) := by decide +kernel
theorem dX9_ring_64 : decode cX9_ring 64 = .ok (.baload, 1) := by decide +kernel
theorem dX9_ring_65 : decode cX9_ring 65 = .ok (.ifCond .eq 5, 3) := by decide +kernel
theorem dX9_ring_68 : decode cX9_ring 68 = .ok (.iconst 0, 1) := by decide +kernel
theorem dX9_ring_69 : decode cX9_ring 69 = .ok (.ireturn, 1) := by decide +kernel
theorem dX9_ring_70 : decode cX9_ring 70 = .ok (.aload_n 0, 1) := by decide +kernel
theorem dX9_ring_71 : decode cX9_ring 71 = .ok (.iload_n 1, 1) := by decide +kernel
theorem dX9_ring_72 : decode cX9_ring 72 = .ok (.invokevirtual 232, 3) := by decide +kernel
theorem dX9_ring_75 : decode cX9_ring 75 = .ok (.aload_n 0, 1) := by decide +kernel
theorem dX9_ring_76 : decode cX9_ring 76 = .ok (.getfield 29, 3) := by decide +kernel
theorem dX9_ring_79 : decode cX9_ring 79 = .ok (.bipush 40, 2) := by decide +kernel
theorem dX9_ring_81 : decode cX9_ring 81 = .ok (.iload_n 1, 1) := by decide +kernel
theorem dX9_ring_82 : decode cX9_ring 82 = .ok (.imul, 1) := by decide +kernel
theorem dX9_ring_83 : decode cX9_ring 83 = .ok (.iload_n 2, 1) := by decide +kernel
theorem dX9_ring_84 : decode cX9_ring 84 = .ok (.iadd, 1) := by decide +kernel
theorem dX9_ring_85 : decode cX9_ring 85 = .ok (.iaload, 1) := by decide +kernel
theorem dX9_ring_86 : decode cX9_ring 86 = .ok (.istore 4, 2) := by decide +kernel
theorem dX9_ring_88 : decode cX9_ring 88 = .ok (.aload_n 0, 1) := by decide +kernel
theorem dX9_ring_89 : decode cX9_ring 89 = .ok (.getfield 26, 3) := by decide +kernel
theorem dX9_ring_92 : decode cX9_ring 92 = .ok (.bipush 40, 2) := by decide +kernel
theorem dX9_ring_94 : decode cX9_ring 94 = .ok (.iload_n 1, 1) := by decide +kernel
theorem dX9_ring_95 : decode cX9_ring 95 = .ok (.imul, 1) := by decide +kernel
theorem dX9_ring_96 : decode cX9_ring 96 = .ok (.iload_n 2, 1) := by decide +kernel
theorem dX9_ring_97 : decode cX9_ring 97 = .ok (.iadd, 1) := by decide +kernel
theorem dX9_ring_98 : decode cX9_ring 98 = .ok (.iaload, 1) := by decide +kernel
theorem dX9_ring_99 : decode cX9_ring 99 = .ok (.istore 5, 2) := by decide +kernel
theorem dX9_ring_101 : decode cX9_ring 101 = .ok (.iconst 0, 1) := by decide +kernel
theorem dX9_ring_102 : decode cX9_ring 102 = .ok (.istore 6, 2) := by decide +kernel
theorem dX9_ring_104 : decode cX9_ring 104 = .ok (.iload 6, 2) := by decide +kernel
theorem dX9_ring_106 : decode cX9_ring 106 = .ok (.bipush 21, 2) := by decide +kernel
theorem dX9_ring_108 : decode cX9_ring 108 = .ok (.if_icmp .ge 17, 3) := by decide +kernel
theorem dX9_ring_111 : decode cX9_ring 111 = .ok (.aload_n 0, 1) := by decide +kernel
theorem dX9_ring_112 : decode cX9_ring 112 = .ok (.getfield 123, 3) := by decide +kernel
theorem dX9_ring_115 : decode cX9_ring 115 = .ok (.iload 6, 2) := by decide +kernel
theorem dX9_ring_117 : decode cX9_ring 117 = .ok (.iconst (-1), 1) := by decide +kernel
theorem dX9_ring_118 : decode cX9_ring 118 = .ok (.iastore, 1) := by decide +kernel
theorem dX9_ring_119 : decode cX9_ring 119 = .ok (.iinc 6 1, 3) := by decide +kernel
theorem dX9_ring_122 : decode cX9_ring 122 = .ok (.goto (-18), 3) := by decide +kernel
theorem dX9_ring_125 : decode cX9_ring 125 = .ok (.aload_n 0, 1) := by decide +kernel
theorem dX9_ring_126 : decode cX9_ring 126 = .ok (.getfield 99, 3) := by decide +kernel
theorem dX9_ring_129 : decode cX9_ring 129 = .ok (.astore 6, 2) := by decide +kernel
theorem dX9_ring_131 : decode cX9_ring 131 = .ok (.iconst 0, 1) := by decide +kernel
theorem dX9_ring_132 : decode cX9_ring 132 = .ok (.istore 7, 2) := by decide +kernel
theorem dX9_ring_134 : decode cX9_ring 134 = .ok (.iload 7, 2) := by decide +kernel
theorem dX9_ring_136 : decode cX9_ring 136 = .ok (.bipush 21, 2) := by decide +kernel
theorem dX9_ring_138 : decode cX9_ring 138 = .ok (.if_icmp .ge 26, 3) := by decide +kernel
theorem dX9_ring_141 : decode cX9_ring 141 = .ok (.aload 6, 2) := by decide +kernel
theorem dX9_ring_143 : decode cX9_ring 143 = .ok (.iload 7, 2) := by decide +kernel
theorem dX9_ring_145 : decode cX9_ring 145 = .ok (.iload 7, 2) := by decide +kernel
theorem dX9_ring_147 : decode cX9_ring 147 = .ok (.iload 4, 2) := by decide +kernel
theorem dX9_ring_149 : decode cX9_ring 149 = .ok (.if_icmp .ne 7, 3) := by decide +kernel
theorem dX9_ring_152 : decode cX9_ring 152 = .ok (.iconst 1, 1) := by decide +kernel
theorem dX9_ring_153 : decode cX9_ring 153 = .ok (.goto 4, 3) := by decide +kernel
theorem dX9_ring_156 : decode cX9_ring 156 = .ok (.iconst 0, 1) := by decide +kernel
theorem dX9_ring_157 : decode cX9_ring 157 = .ok (.bastore, 1) := by decide +kernel
theorem dX9_ring_158 : decode cX9_ring 158 = .ok (.iinc 7 1, 3) := by decide +kernel
theorem dX9_ring_161 : decode cX9_ring 161 = .ok (.goto (-27), 3) := by decide +kernel
theorem dX9_ring_164 : decode cX9_ring 164 = .ok (.iconst 1, 1) := by decide +kernel
theorem dX9_ring_165 : decode cX9_ring 165 = .ok (.istore 7, 2) := by decide +kernel
theorem dX9_ring_167 : decode cX9_ring 167 = .ok (.iload 7, 2) := by decide +kernel
theorem dX9_ring_169 : decode cX9_ring 169 = .ok (.ifCond .eq 121, 3) := by decide +kernel
theorem dX9_ring_172 : decode cX9_ring 172 = .ok (.aload 6, 2) := by decide +kernel
theorem dX9_ring_174 : decode cX9_ring 174 = .ok (.iload 5, 2) := by decide +kernel
theorem dX9_ring_176 : decode cX9_ring 176 = .ok (.baload, 1) := by decide +kernel
theorem dX9_ring_177 : decode cX9_ring 177 = .ok (.ifCond .ne 113, 3) := by decide +kernel
theorem dX9_ring_180 : decode cX9_ring 180 = .ok (.iconst 0, 1) := by decide +kernel
theorem dX9_ring_181 : decode cX9_ring 181 = .ok (.istore 7, 2) := by decide +kernel
theorem dX9_ring_183 : decode cX9_ring 183 = .ok (.iconst 0, 1) := by decide +kernel
theorem dX9_ring_184 : decode cX9_ring 184 = .ok (.istore 8, 2) := by decide +kernel
theorem dX9_ring_186 : decode cX9_ring 186 = .ok (.iload 8, 2) := by decide +kernel
theorem dX9_ring_188 : decode cX9_ring 188 = .ok (.aload_n 0, 1) := by decide +kernel
theorem dX9_ring_189 : decode cX9_ring 189 = .ok (.getfield 226, 3) := by decide +kernel
theorem dX9_ring_192 : decode cX9_ring 192 = .ok (.if_icmp .ge 95, 3) := by decide +kernel
theorem dX9_ring_195 : decode cX9_ring 195 = .ok (.aload_n 0, 1) := by decide +kernel
theorem dX9_ring_196 : decode cX9_ring 196 = .ok (.getfield 120, 3) := by decide +kernel
theorem dX9_ring_199 : decode cX9_ring 199 = .ok (.iload 8, 2) := by decide +kernel
theorem dX9_ring_201 : decode cX9_ring 201 = .ok (.baload, 1) := by decide +kernel
theorem dX9_ring_202 : decode cX9_ring 202 = .ok (.ifCond .ne 79, 3) := by decide +kernel
theorem dX9_ring_205 : decode cX9_ring 205 = .ok (.aload 6, 2) := by decide +kernel
theorem dX9_ring_207 : decode cX9_ring 207 = .ok (.aload_n 0, 1) := by decide +kernel
theorem dX9_ring_208 : decode cX9_ring 208 = .ok (.getfield 111, 3) := by decide +kernel
theorem dX9_ring_211 : decode cX9_ring 211 = .ok (.iload 8, 2) := by decide +kernel
theorem dX9_ring_213 : decode cX9_ring 213 = .ok (.iaload, 1) := by decide +kernel
theorem dX9_ring_214 : decode cX9_ring 214 = .ok (.baload, 1) := by decide +kernel
theorem dX9_ring_215 : decode cX9_ring 215 = .ok (.aload 6, 2) := by decide +kernel
theorem dX9_ring_217 : decode cX9_ring 217 = .ok (.aload_n 0, 1) := by decide +kernel
theorem dX9_ring_218 : decode cX9_ring 218 = .ok (.getfield 114, 3) := by decide +kernel
theorem dX9_ring_221 : decode cX9_ring 221 = .ok (.iload 8, 2) := by decide +kernel
theorem dX9_ring_223 : decode cX9_ring 223 = .ok (.iaload, 1) := by decide +kernel
theorem dX9_ring_224 : decode cX9_ring 224 = .ok (.baload, 1) := by decide +kernel
theorem dX9_ring_225 : decode cX9_ring 225 = .ok (.if_icmp .ne 6, 3) := by decide +kernel
theorem dX9_ring_228 : decode cX9_ring 228 = .ok (.goto 53, 3) := by decide +kernel
theorem dX9_ring_231 : decode cX9_ring 231 = .ok (.aload 6, 2) := by decide +kernel
theorem dX9_ring_233 : decode cX9_ring 233 = .ok (.aload_n 0, 1) := by decide +kernel
theorem dX9_ring_234 : decode cX9_ring 234 = .ok (.getfield 111, 3) := by decide +kernel
theorem dX9_ring_237 : decode cX9_ring 237 = .ok (.iload 8, 2) := by decide +kernel
theorem dX9_ring_239 : decode cX9_ring 239 = .ok (.iaload, 1) := by decide +kernel
theorem dX9_ring_240 : decode cX9_ring 240 = .ok (.baload, 1) := by decide +kernel
theorem dX9_ring_241 : decode cX9_ring 241 = .ok (.ifCond .eq 13, 3) := by decide +kernel
theorem dX9_ring_244 : decode cX9_ring 244 = .ok (.aload_n 0, 1) := by decide +kernel
theorem dX9_ring_245 : decode cX9_ring 245 = .ok (.getfield 114, 3) := by decide +kernel
theorem dX9_ring_248 : decode cX9_ring 248 = .ok (.iload 8, 2) := by decide +kernel
theorem dX9_ring_250 : decode cX9_ring 250 = .ok (.iaload, 1) := by decide +kernel
theorem dX9_ring_251 : decode cX9_ring 251 = .ok (.goto 10, 3) := by decide +kernel
theorem dX9_ring_254 : decode cX9_ring 254 = .ok (.aload_n 0, 1) := by decide +kernel
theorem dX9_ring_255 : decode cX9_ring 255 = .ok (.getfield 111, 3) := by decide +kernel
theorem dX9_ring_258 : decode cX9_ring 258 = .ok (.iload 8, 2) := by decide +kernel
theorem dX9_ring_260 : decode cX9_ring 260 = .ok (.iaload, 1) := by decide +kernel
theorem dX9_ring_261 : decode cX9_ring 261 = .ok (.istore 9, 2) := by decide +kernel
theorem dX9_ring_263 : decode cX9_ring 263 = .ok (.aload 6, 2) := by decide +kernel
theorem dX9_ring_265 : decode cX9_ring 265 = .ok (.iload 9, 2) := by decide +kernel
theorem dX9_ring_267 : decode cX9_ring 267 = .ok (.iconst 1, 1) := by decide +kernel
theorem dX9_ring_268 : decode cX9_ring 268 = .ok (.bastore, 1) := by decide +kernel
theorem dX9_ring_269 : decode cX9_ring 269 = .ok (.aload_n 0, 1) := by decide +kernel
theorem dX9_ring_270 : decode cX9_ring 270 = .ok (.getfield 123, 3) := by decide +kernel
theorem dX9_ring_273 : decode cX9_ring 273 = .ok (.iload 9, 2) := by decide +kernel
theorem dX9_ring_275 : decode cX9_ring 275 = .ok (.iload 8, 2) := by decide +kernel
theorem dX9_ring_277 : decode cX9_ring 277 = .ok (.iastore, 1) := by decide +kernel
theorem dX9_ring_278 : decode cX9_ring 278 = .ok (.iconst 1, 1) := by decide +kernel
theorem dX9_ring_279 : decode cX9_ring 279 = .ok (.istore 7, 2) := by decide +kernel
theorem dX9_ring_281 : decode cX9_ring 281 = .ok (.iinc 8 1, 3) := by decide +kernel
theorem dX9_ring_284 : decode cX9_ring 284 = .ok (.goto (-98), 3) := by decide +kernel
theorem dX9_ring_287 : decode cX9_ring 287 = .ok (.goto (-120), 3) := by decide +kernel
theorem dX9_ring_290 : decode cX9_ring 290 = .ok (.iload 5, 2) := by decide +kernel
theorem dX9_ring_292 : decode cX9_ring 292 = .ok (.istore 8, 2) := by decide +kernel
theorem dX9_ring_294 : decode cX9_ring 294 = .ok (.iload 8, 2) := by decide +kernel
theorem dX9_ring_296 : decode cX9_ring 296 = .ok (.iload 4, 2) := by decide +kernel
theorem dX9_ring_298 : decode cX9_ring 298 = .ok (.if_icmp .eq 75, 3) := by decide +kernel
theorem dX9_ring_301 : decode cX9_ring 301 = .ok (.aload_n 0, 1) := by decide +kernel
theorem dX9_ring_302 : decode cX9_ring 302 = .ok (.getfield 123, 3) := by decide +kernel
theorem dX9_ring_305 : decode cX9_ring 305 = .ok (.iload 8, 2) := by decide +kernel
theorem dX9_ring_307 : decode cX9_ring 307 = .ok (.iaload, 1) := by decide +kernel
theorem dX9_ring_308 : decode cX9_ring 308 = .ok (.istore 9, 2) := by decide +kernel
theorem dX9_ring_310 : decode cX9_ring 310 = .ok (.aload_n 0, 1) := by decide +kernel
theorem dX9_ring_311 : decode cX9_ring 311 = .ok (.getfield 114, 3) := by decide +kernel
theorem dX9_ring_314 : decode cX9_ring 314 = .ok (.iload 9, 2) := by decide +kernel
theorem dX9_ring_316 : decode cX9_ring 316 = .ok (.iaload, 1) := by decide +kernel
theorem dX9_ring_317 : decode cX9_ring 317 = .ok (.iload 8, 2) := by decide +kernel
theorem dX9_ring_319 : decode cX9_ring 319 = .ok (.if_icmp .ne 7, 3) := by decide +kernel
theorem dX9_ring_322 : decode cX9_ring 322 = .ok (.iconst 1, 1) := by decide +kernel
theorem dX9_ring_323 : decode cX9_ring 323 = .ok (.goto 4, 3) := by decide +kernel
theorem dX9_ring_326 : decode cX9_ring 326 = .ok (.iconst 0, 1) := by decide +kernel
theorem dX9_ring_327 : decode cX9_ring 327 = .ok (.istore 10, 2) := by decide +kernel
theorem dX9_ring_329 : decode cX9_ring 329 = .ok (.iload 9, 2) := by decide +kernel
theorem dX9_ring_331 : decode cX9_ring 331 = .ok (.iload_n 3, 1) := by decide +kernel
theorem dX9_ring_332 : decode cX9_ring 332 = .ok (.if_icmp .ne 14, 3) := by decide +kernel
theorem dX9_ring_335 : decode cX9_ring 335 = .ok (.iload 10, 2) := by decide +kernel
theorem dX9_ring_337 : decode cX9_ring 337 = .ok (.ifCond .eq 7, 3) := by decide +kernel
theorem dX9_ring_340 : decode cX9_ring 340 = .ok (.iconst 1, 1) := by decide +kernel
theorem dX9_ring_341 : decode cX9_ring 341 = .ok (.goto 4, 3) := by decide +kernel
theorem dX9_ring_344 : decode cX9_ring 344 = .ok (.iconst 2, 1) := by decide +kernel
theorem dX9_ring_345 : decode cX9_ring 345 = .ok (.ireturn, 1) := by decide +kernel
theorem dX9_ring_346 : decode cX9_ring 346 = .ok (.iload 10, 2) := by decide +kernel
theorem dX9_ring_348 : decode cX9_ring 348 = .ok (.ifCond .eq 13, 3) := by decide +kernel
theorem dX9_ring_351 : decode cX9_ring 351 = .ok (.aload_n 0, 1) := by decide +kernel
theorem dX9_ring_352 : decode cX9_ring 352 = .ok (.getfield 111, 3) := by decide +kernel
theorem dX9_ring_355 : decode cX9_ring 355 = .ok (.iload 9, 2) := by decide +kernel
theorem dX9_ring_357 : decode cX9_ring 357 = .ok (.iaload, 1) := by decide +kernel
theorem dX9_ring_358 : decode cX9_ring 358 = .ok (.goto 10, 3) := by decide +kernel
theorem dX9_ring_361 : decode cX9_ring 361 = .ok (.aload_n 0, 1) := by decide +kernel
theorem dX9_ring_362 : decode cX9_ring 362 = .ok (.getfield 114, 3) := by decide +kernel
theorem dX9_ring_365 : decode cX9_ring 365 = .ok (.iload 9, 2) := by decide +kernel
theorem dX9_ring_367 : decode cX9_ring 367 = .ok (.iaload, 1) := by decide +kernel
theorem dX9_ring_368 : decode cX9_ring 368 = .ok (.istore 8, 2) := by decide +kernel
theorem dX9_ring_370 : decode cX9_ring 370 = .ok (.goto (-76), 3) := by decide +kernel
theorem dX9_ring_373 : decode cX9_ring 373 = .ok (.iconst 0, 1) := by decide +kernel
theorem dX9_ring_374 : decode cX9_ring 374 = .ok (.ireturn, 1) := by decide +kernel
def L_X9_ring_104 (b3 : Int32) (b4 : Int32) (b5 : Int32) (k : Hp → Option (Int32 × Hp)) : Nat → Int32 → Hp → Option (Int32 × Hp)
  | 0, _, _ => none
  | n + 1, x6, H => if 21 ≤ x6 then k H else gd x6 21 (hl (sI H 0 44 (Int32.toNatClampNeg x6) (-1)) (fun (H19 : Hp) => vl (x6 + (1 : Int32)) (fun (v20 : Int32) => L_X9_ring_104 b3 b4 b5 k n v20 H19)))
set_option maxRecDepth 100000 in
set_option maxHeartbeats 4000000 in
theorem sL_X9_ring_104 {p : Program} {l : Launch} {e : Env} {s : State} {m : MethodId} {args : Array Value} {below : List Frame} {meth : Method} {c : Code} {A : Nat → Prop} {D : va_G} {K4 : kQ} {ad : Nat → Nat → Nat} {nr : Nat} {b3 : Int32} {b4 : Int32} {b5 : Int32} {k : Hp → Option (Int32 × Hp)} {res : Int32 × Hp} (hC : Cx p s m args c A s.heap D K4 11 RX9 cX9_ring) (hret : meth.sig.returnType = (some .int) ∧ meth.locks = false) (hk : ∀ (H : Hp), k H = some res → V p l e ({ frames := 2, cells := 0, slots := 0, locals := 44 }) s m args below meth c A s.heap (QI below args s A D K4 ad nr res) D K4 ad nr 11 125 [(0, .ref (ad 0 0)), (3, .int b3), (4, .int b4), (5, .int b5)] [] H) : ∀ (n : Nat) (x6 : Int32) (H : Hp), L_X9_ring_104 b3 b4 b5 k n x6 H = some res → V p l e ({ frames := 2, cells := 0, slots := 0, locals := 44 }) s m args below meth c A s.heap (QI below args s A D K4 ad nr res) D K4 ad nr 11 104 [(0, .ref (ad 0 0)), (3, .int b3), (4, .int b4), (5, .int b5), (6, .int x6)] [] H := by
  intro n
  induction n with
  | zero => intro x6 H h; exact nomatch (show (none : Option (Int32 × Hp)) = some res from h)
  | succ n ih =>
    intro x6 H h
    rw [L_X9_ring_104] at h
    refine V_iload hC 4 dX9_ring_104 rfl ?_
    refine V_bipush (v := 21) hC dX9_ring_106 (by decide) ?_
    refine V_icmp_ge (tgt := 125) hC dX9_ring_108 (by decide) (fun c18 => ?_) (fun c18 => ?_)
    · have h := it_pos c18 h
      refine V_lv (lv' := [(0, .ref (ad 0 0)), (3, .int b3), (4, .int b4), (5, .int b5)]) [0, 1, 2, 3] rfl ?_
      exact hk H h
    · have h := it_neg c18 h
      refine V_aload_n hC 0 dX9_ring_111 rfl ?_
      refine V_getR (g := 0) (k := 0) (g' := 0) (k' := 44) hC 9 44 fl_X9_123 rfl rfl rfl rfl dX9_ring_112 ?_
      refine V_iload hC 4 dX9_ring_115 rfl ?_
      refine V_iconst (v := -1) hC dX9_ring_117 (by decide) ?_
      obtain ⟨hi, h⟩ := gd_some h
      refine V_iast (g := 0) (k := 44) hC rfl rfl hi dX9_ring_118 ?_
      refine V_hl h (fun H19 h => ?_)
      refine V_vi h (fun v20 hvv20 h => ?_)
      refine V_iinc (v := v20) (lv' := [(6, .int v20), (0, .ref (ad 0 0)), (3, .int b3), (4, .int b4), (5, .int b5)]) hC 4 dX9_ring_119 rfl hvv20.symm (Nat.le_of_ble_eq_true rfl) rfl ?_
      refine V_goto (tgt := 104) hC dX9_ring_122 (by decide) ?_
      refine V_lv (lv' := [(0, .ref (ad 0 0)), (3, .int b3), (4, .int b4), (5, .int b5), (6, .int v20)]) [1, 2, 3, 4, 0] rfl ?_
      exact ih v20 H19 h
def L_X9_ring_134 (b3 : Int32) (b4 : Int32) (b5 : Int32) (k : Hp → Option (Int32 × Hp)) : Nat → Int32 → Hp → Option (Int32 × Hp)
  | 0, _, _ => none
  | n + 1, x7, H => if 21 ≤ x7 then k H else if x7 = b4 then gd x7 21 (hl (sI H 0 35 (Int32.toNatClampNeg x7) (vp_nar .boolean 1)) (fun (H26 : Hp) => vl (x7 + (1 : Int32)) (fun (v27 : Int32) => L_X9_ring_134 b3 b4 b5 k n v27 H26))) else gd x7 21 (hl (sI H 0 35 (Int32.toNatClampNeg x7) (vp_nar .boolean 0)) (fun (H24 : Hp) => vl (x7 + (1 : Int32)) (fun (v25 : Int32) => L_X9_ring_134 b3 b4 b5 k n v25 H24)))
set_option maxRecDepth 100000 in
set_option maxHeartbeats 4000000 in
theorem sL_X9_ring_134 {p : Program} {l : Launch} {e : Env} {s : State} {m : MethodId} {args : Array Value} {below : List Frame} {meth : Method} {c : Code} {A : Nat → Prop} {D : va_G} {K4 : kQ} {ad : Nat → Nat → Nat} {nr : Nat} {b3 : Int32} {b4 : Int32} {b5 : Int32} {k : Hp → Option (Int32 × Hp)} {res : Int32 × Hp} (hC : Cx p s m args c A s.heap D K4 11 RX9 cX9_ring) (hret : meth.sig.returnType = (some .int) ∧ meth.locks = false) (hk : ∀ (H : Hp), k H = some res → V p l e ({ frames := 2, cells := 0, slots := 0, locals := 44 }) s m args below meth c A s.heap (QI below args s A D K4 ad nr res) D K4 ad nr 11 164 [(0, .ref (ad 0 0)), (3, .int b3), (4, .int b4), (5, .int b5), (6, .ref (ad 0 35))] [] H) : ∀ (n : Nat) (x7 : Int32) (H : Hp), L_X9_ring_134 b3 b4 b5 k n x7 H = some res → V p l e ({ frames := 2, cells := 0, slots := 0, locals := 44 }) s m args below meth c A s.heap (QI below args s A D K4 ad nr res) D K4 ad nr 11 134 [(0, .ref (ad 0 0)), (3, .int b3), (4, .int b4), (5, .int b5), (6, .ref (ad 0 35)), (7, .int x7)] [] H := by
  intro n
  induction n with
  | zero => intro x7 H h; exact nomatch (show (none : Option (Int32 × Hp)) = some res from h)
  | succ n ih =>
    intro x7 H h
    rw [L_X9_ring_134] at h
    refine V_iload hC 5 dX9_ring_134 rfl ?_
    refine V_bipush (v := 21) hC dX9_ring_136 (by decide) ?_
    refine V_icmp_ge (tgt := 164) hC dX9_ring_138 (by decide) (fun c22 => ?_) (fun c22 => ?_)
    · have h := it_pos c22 h
      refine V_lv (lv' := [(0, .ref (ad 0 0)), (3, .int b3), (4, .int b4), (5, .int b5), (6, .ref (ad 0 35))]) [0, 1, 2, 3, 4] rfl ?_
      exact hk H h
    · have h := it_neg c22 h
      refine V_aload hC 4 dX9_ring_141 rfl ?_
      refine V_iload hC 5 dX9_ring_143 rfl ?_
      refine V_iload hC 5 dX9_ring_145 rfl ?_
      refine V_iload hC 2 dX9_ring_147 rfl ?_
      refine V_icmp_ne (tgt := 156) hC dX9_ring_149 (by decide) (fun c23 => ?_) (fun c23 => ?_)
      · have h := it_neg c23 h
        refine V_iconst (v := 0) hC dX9_ring_156 (by decide) ?_
        obtain ⟨hi, h⟩ := gd_some h
        refine V_zast (g := 0) (k := 35) hC rfl rfl hi dX9_ring_157 ?_
        refine V_hl h (fun H24 h => ?_)
        refine V_vi h (fun v25 hvv25 h => ?_)
        refine V_iinc (v := v25) (lv' := [(7, .int v25), (0, .ref (ad 0 0)), (3, .int b3), (4, .int b4), (5, .int b5), (6, .ref (ad 0 35))]) hC 5 dX9_ring_158 rfl hvv25.symm (Nat.le_of_ble_eq_true rfl) rfl ?_
        refine V_goto (tgt := 134) hC dX9_ring_161 (by decide) ?_
        refine V_lv (lv' := [(0, .ref (ad 0 0)), (3, .int b3), (4, .int b4), (5, .int b5), (6, .ref (ad 0 35)), (7, .int v25)]) [1, 2, 3, 4, 5, 0] rfl ?_
        exact ih v25 H24 h
      · have h := it_pos c23 h
        refine V_iconst (v := 1) hC dX9_ring_152 (by decide) ?_
        refine V_goto (tgt := 157) hC dX9_ring_153 (by decide) ?_
        obtain ⟨hi, h⟩ := gd_some h
        refine V_zast (g := 0) (k := 35) hC rfl rfl hi dX9_ring_157 ?_
        refine V_hl h (fun H26 h => ?_)
        refine V_vi h (fun v27 hvv27 h => ?_)
        refine V_iinc (v := v27) (lv' := [(7, .int v27), (0, .ref (ad 0 0)), (3, .int b3), (4, .int b4), (5, .int b5), (6, .ref (ad 0 35))]) hC 5 dX9_ring_158 rfl hvv27.symm (Nat.le_of_ble_eq_true rfl) rfl ?_
        refine V_goto (tgt := 134) hC dX9_ring_161 (by decide) ?_
        refine V_lv (lv' := [(0, .ref (ad 0 0)), (3, .int b3), (4, .int b4), (5, .int b5), (6, .ref (ad 0 35)), (7, .int v27)]) [1, 2, 3, 4, 5, 0] rfl ?_
        exact ih v27 H26 h
def L_X9_ring_186 (b3 : Int32) (b4 : Int32) (b5 : Int32) (k : Int32 → Hp → Option (Int32 × Hp)) : Nat → Int32 → Int32 → Hp → Option (Int32 × Hp)
  | 0, _, _, _ => none
  | n + 1, x7, x8, H => if (gI H 0 0 43) ≤ x8 then k x7 H else gd x8 61 (if (gI H 0 42 (Int32.toNatClampNeg x8)) = 0 then gd x8 61 (gd (gI H 0 39 (Int32.toNatClampNeg x8)) 21 (gd x8 61 (gd (gI H 0 40 (Int32.toNatClampNeg x8)) 21 (if (gI H 0 35 (Int32.toNatClampNeg (gI H 0 39 (Int32.toNatClampNeg x8)))) = (gI H 0 35 (Int32.toNatClampNeg (gI H 0 40 (Int32.toNatClampNeg x8)))) then vl (x8 + (1 : Int32)) (fun (v42 : Int32) => L_X9_ring_186 b3 b4 b5 k n x7 v42 H) else gd x8 61 (gd (gI H 0 39 (Int32.toNatClampNeg x8)) 21 (jn (fun (y36 : Int32) (H37 : Hp) => gd y36 21 (hl (sI H37 0 35 (Int32.toNatClampNeg y36) (vp_nar .boolean 1)) (fun (H38 : Hp) => gd y36 21 (hl (sI H38 0 44 (Int32.toNatClampNeg y36) x8) (fun (H39 : Hp) => vl (x8 + (1 : Int32)) (fun (v40 : Int32) => L_X9_ring_186 b3 b4 b5 k n 1 v40 H39)))))) (fun j35 => if (gI H 0 35 (Int32.toNatClampNeg (gI H 0 39 (Int32.toNatClampNeg x8)))) = 0 then gd x8 61 (j35 ((gI H 0 39 (Int32.toNatClampNeg x8))) H) else gd x8 61 (j35 ((gI H 0 40 (Int32.toNatClampNeg x8))) H)))))))) else vl (x8 + (1 : Int32)) (fun (v33 : Int32) => L_X9_ring_186 b3 b4 b5 k n x7 v33 H))
set_option maxRecDepth 100000 in
set_option maxHeartbeats 4000000 in
theorem sL_X9_ring_186 {p : Program} {l : Launch} {e : Env} {s : State} {m : MethodId} {args : Array Value} {below : List Frame} {meth : Method} {c : Code} {A : Nat → Prop} {D : va_G} {K4 : kQ} {ad : Nat → Nat → Nat} {nr : Nat} {b3 : Int32} {b4 : Int32} {b5 : Int32} {k : Int32 → Hp → Option (Int32 × Hp)} {res : Int32 × Hp} (hC : Cx p s m args c A s.heap D K4 11 RX9 cX9_ring) (hret : meth.sig.returnType = (some .int) ∧ meth.locks = false) (hk : ∀ (z7 : Int32) (H : Hp), k z7 H = some res → V p l e ({ frames := 2, cells := 0, slots := 0, locals := 44 }) s m args below meth c A s.heap (QI below args s A D K4 ad nr res) D K4 ad nr 11 287 [(0, .ref (ad 0 0)), (3, .int b3), (4, .int b4), (5, .int b5), (6, .ref (ad 0 35)), (7, .int z7)] [] H) : ∀ (n : Nat) (x7 : Int32) (x8 : Int32) (H : Hp), L_X9_ring_186 b3 b4 b5 k n x7 x8 H = some res → V p l e ({ frames := 2, cells := 0, slots := 0, locals := 44 }) s m args below meth c A s.heap (QI below args s A D K4 ad nr res) D K4 ad nr 11 186 [(0, .ref (ad 0 0)), (3, .int b3), (4, .int b4), (5, .int b5), (6, .ref (ad 0 35)), (7, .int x7), (8, .int x8)] [] H := by
  intro n
  induction n with
  | zero => intro x7 x8 H h; exact nomatch (show (none : Option (Int32 × Hp)) = some res from h)
  | succ n ih =>
    intro x7 x8 H h
    rw [L_X9_ring_186] at h
    refine V_iload hC 6 dX9_ring_186 rfl ?_
    refine V_aload_n hC 0 dX9_ring_188 rfl ?_
    refine V_getI (g := 0) (k := 0) hC 9 43 fl_X9_226 rfl rfl rfl dX9_ring_189 ?_
    refine V_icmp_ge (tgt := 287) hC dX9_ring_192 (by decide) (fun c31 => ?_) (fun c31 => ?_)
    · have h := it_pos c31 h
      refine V_lv (lv' := [(0, .ref (ad 0 0)), (3, .int b3), (4, .int b4), (5, .int b5), (6, .ref (ad 0 35)), (7, .int x7)]) [0, 1, 2, 3, 4, 5] rfl ?_
      exact hk x7 H h
    · have h := it_neg c31 h
      refine V_aload_n hC 0 dX9_ring_195 rfl ?_
      refine V_getR (g := 0) (k := 0) (g' := 0) (k' := 42) hC 9 42 fl_X9_120 rfl rfl rfl rfl dX9_ring_196 ?_
      refine V_iload hC 6 dX9_ring_199 rfl ?_
      obtain ⟨hi, h⟩ := gd_some h
      refine V_zald (g := 0) (k := 42) hC rfl rfl hi dX9_ring_201 ?_
      refine V_if_ne (tgt := 281) hC dX9_ring_202 (by decide) (fun c32 => ?_) (fun c32 => ?_)
      · have h := it_neg c32 h
        refine V_vi h (fun v33 hvv33 h => ?_)
        refine V_iinc (v := v33) (lv' := [(8, .int v33), (0, .ref (ad 0 0)), (3, .int b3), (4, .int b4), (5, .int b5), (6, .ref (ad 0 35)), (7, .int x7)]) hC 6 dX9_ring_281 rfl hvv33.symm (Nat.le_of_ble_eq_true rfl) rfl ?_
        refine V_goto (tgt := 186) hC dX9_ring_284 (by decide) ?_
        refine V_lv (lv' := [(0, .ref (ad 0 0)), (3, .int b3), (4, .int b4), (5, .int b5), (6, .ref (ad 0 35)), (7, .int x7), (8, .int v33)]) [1, 2, 3, 4, 5, 6, 0] rfl ?_
        exact ih x7 v33 H h
      · have h := it_pos c32 h
        refine V_aload hC 4 dX9_ring_205 rfl ?_
        refine V_aload_n hC 0 dX9_ring_207 rfl ?_
        refine V_getR (g := 0) (k := 0) (g' := 0) (k' := 39) hC 9 39 fl_X9_111 rfl rfl rfl rfl dX9_ring_208 ?_
        refine V_iload hC 6 dX9_ring_211 rfl ?_
        obtain ⟨hi, h⟩ := gd_some h
        refine V_iald (g := 0) (k := 39) hC rfl rfl hi dX9_ring_213 ?_
        obtain ⟨hi, h⟩ := gd_some h
        refine V_zald (g := 0) (k := 35) hC rfl rfl hi dX9_ring_214 ?_
        refine V_aload hC 4 dX9_ring_215 rfl ?_
        refine V_aload_n hC 0 dX9_ring_217 rfl ?_
        refine V_getR (g := 0) (k := 0) (g' := 0) (k' := 40) hC 9 40 fl_X9_114 rfl rfl rfl rfl dX9_ring_218 ?_
        refine V_iload hC 6 dX9_ring_221 rfl ?_
        obtain ⟨hi, h⟩ := gd_some h
        refine V_iald (g := 0) (k := 40) hC rfl rfl hi dX9_ring_223 ?_
        obtain ⟨hi, h⟩ := gd_some h
        refine V_zald (g := 0) (k := 35) hC rfl rfl hi dX9_ring_224 ?_
        refine V_icmp_ne (tgt := 231) hC dX9_ring_225 (by decide) (fun c34 => ?_) (fun c34 => ?_)
        · have h := it_neg c34 h
          refine V_aload hC 4 dX9_ring_231 rfl ?_
          refine V_aload_n hC 0 dX9_ring_233 rfl ?_
          refine V_getR (g := 0) (k := 0) (g' := 0) (k' := 39) hC 9 39 fl_X9_111 rfl rfl rfl rfl dX9_ring_234 ?_
          refine V_iload hC 6 dX9_ring_237 rfl ?_
          obtain ⟨hi, h⟩ := gd_some h
          refine V_iald (g := 0) (k := 39) hC rfl rfl hi dX9_ring_239 ?_
          obtain ⟨hi, h⟩ := gd_some h
          refine V_zald (g := 0) (k := 35) hC rfl rfl hi dX9_ring_240 ?_
          refine V_jn1 (pj := 261) (lj := fun y36 => [(0, .ref (ad 0 0)), (3, .int b3), (4, .int b4), (5, .int b5), (6, .ref (ad 0 35)), (8, .int x8)]) (sj := fun y36 => [.int y36]) h (fun y36 H37 h => ?_) (fun hj35 h => ?_)
          · refine V_istore (lv' := [(9, .int y36), (0, .ref (ad 0 0)), (3, .int b3), (4, .int b4), (5, .int b5), (6, .ref (ad 0 35)), (8, .int x8)]) hC dX9_ring_261 (Nat.le_of_ble_eq_true rfl) rfl ?_
            refine V_aload hC 5 dX9_ring_263 rfl ?_
            refine V_iload hC 0 dX9_ring_265 rfl ?_
            refine V_iconst (v := 1) hC dX9_ring_267 (by decide) ?_
            obtain ⟨hi, h⟩ := gd_some h
            refine V_zast (g := 0) (k := 35) hC rfl rfl hi dX9_ring_268 ?_
            refine V_hl h (fun H38 h => ?_)
            refine V_aload_n hC 1 dX9_ring_269 rfl ?_
            refine V_getR (g := 0) (k := 0) (g' := 0) (k' := 44) hC 9 44 fl_X9_123 rfl rfl rfl rfl dX9_ring_270 ?_
            refine V_iload hC 0 dX9_ring_273 rfl ?_
            refine V_iload hC 6 dX9_ring_275 rfl ?_
            obtain ⟨hi, h⟩ := gd_some h
            refine V_iast (g := 0) (k := 44) hC rfl rfl hi dX9_ring_277 ?_
            refine V_hl h (fun H39 h => ?_)
            refine V_iconst (v := 1) hC dX9_ring_278 (by decide) ?_
            refine V_istore (lv' := [(7, .int 1), (9, .int y36), (0, .ref (ad 0 0)), (3, .int b3), (4, .int b4), (5, .int b5), (6, .ref (ad 0 35)), (8, .int x8)]) hC dX9_ring_279 (Nat.le_of_ble_eq_true rfl) rfl ?_
            refine V_vi h (fun v40 hvv40 h => ?_)
            refine V_iinc (v := v40) (lv' := [(8, .int v40), (7, .int 1), (9, .int y36), (0, .ref (ad 0 0)), (3, .int b3), (4, .int b4), (5, .int b5), (6, .ref (ad 0 35))]) hC 7 dX9_ring_281 rfl hvv40.symm (Nat.le_of_ble_eq_true rfl) rfl ?_
            refine V_goto (tgt := 186) hC dX9_ring_284 (by decide) ?_
            refine V_lv (lv' := [(0, .ref (ad 0 0)), (3, .int b3), (4, .int b4), (5, .int b5), (6, .ref (ad 0 35)), (7, .int 1), (8, .int v40)]) [3, 4, 5, 6, 7, 1, 0] rfl ?_
            exact ih 1 v40 H39 h
          · refine V_if_eq (tgt := 254) hC dX9_ring_241 (by decide) (fun c41 => ?_) (fun c41 => ?_)
            · have h := it_pos c41 h
              refine V_aload_n hC 0 dX9_ring_254 rfl ?_
              refine V_getR (g := 0) (k := 0) (g' := 0) (k' := 39) hC 9 39 fl_X9_111 rfl rfl rfl rfl dX9_ring_255 ?_
              refine V_iload hC 6 dX9_ring_258 rfl ?_
              obtain ⟨hi, h⟩ := gd_some h
              refine V_iald (g := 0) (k := 39) hC rfl rfl hi dX9_ring_260 ?_
              refine V_lv (lv' := [(0, .ref (ad 0 0)), (3, .int b3), (4, .int b4), (5, .int b5), (6, .ref (ad 0 35)), (8, .int x8)]) [0, 1, 2, 3, 4, 6] rfl ?_
              exact hj35 ((gI H 0 39 (Int32.toNatClampNeg x8))) H h
            · have h := it_neg c41 h
              refine V_aload_n hC 0 dX9_ring_244 rfl ?_
              refine V_getR (g := 0) (k := 0) (g' := 0) (k' := 40) hC 9 40 fl_X9_114 rfl rfl rfl rfl dX9_ring_245 ?_
              refine V_iload hC 6 dX9_ring_248 rfl ?_
              obtain ⟨hi, h⟩ := gd_some h
              refine V_iald (g := 0) (k := 40) hC rfl rfl hi dX9_ring_250 ?_
              refine V_goto (tgt := 261) hC dX9_ring_251 (by decide) ?_
              refine V_lv (lv' := [(0, .ref (ad 0 0)), (3, .int b3), (4, .int b4), (5, .int b5), (6, .ref (ad 0 35)), (8, .int x8)]) [0, 1, 2, 3, 4, 6] rfl ?_
              exact hj35 ((gI H 0 40 (Int32.toNatClampNeg x8))) H h
        · have h := it_pos c34 h
          refine V_goto (tgt := 281) hC dX9_ring_228 (by decide) ?_
          refine V_vi h (fun v42 hvv42 h => ?_)
          refine V_iinc (v := v42) (lv' := [(8, .int v42), (0, .ref (ad 0 0)), (3, .int b3), (4, .int b4), (5, .int b5), (6, .ref (ad 0 35)), (7, .int x7)]) hC 6 dX9_ring_281 rfl hvv42.symm (Nat.le_of_ble_eq_true rfl) rfl ?_
          refine V_goto (tgt := 186) hC dX9_ring_284 (by decide) ?_
          refine V_lv (lv' := [(0, .ref (ad 0 0)), (3, .int b3), (4, .int b4), (5, .int b5), (6, .ref (ad 0 35)), (7, .int x7), (8, .int v42)]) [1, 2, 3, 4, 5, 6, 0] rfl ?_
          exact ih x7 v42 H h
def L_X9_ring_167 (b3 : Int32) (b4 : Int32) (b5 : Int32) (k : Hp → Option (Int32 × Hp)) : Nat → Int32 → Hp → Option (Int32 × Hp)
  | 0, _, _ => none
  | n + 1, x7, H => if x7 = 0 then k H else gd b5 21 (if (gI H 0 35 (Int32.toNatClampNeg b5)) = 0 then L_X9_ring_186 b3 b4 b5 (fun (z43 : Int32) (H44 : Hp) => L_X9_ring_167 b3 b4 b5 k n z43 H44) FU 0 0 H else k H)
set_option maxRecDepth 100000 in
set_option maxHeartbeats 4000000 in
theorem sL_X9_ring_167 {p : Program} {l : Launch} {e : Env} {s : State} {m : MethodId} {args : Array Value} {below : List Frame} {meth : Method} {c : Code} {A : Nat → Prop} {D : va_G} {K4 : kQ} {ad : Nat → Nat → Nat} {nr : Nat} {b3 : Int32} {b4 : Int32} {b5 : Int32} {k : Hp → Option (Int32 × Hp)} {res : Int32 × Hp} (hC : Cx p s m args c A s.heap D K4 11 RX9 cX9_ring) (hret : meth.sig.returnType = (some .int) ∧ meth.locks = false) (hk : ∀ (H : Hp), k H = some res → V p l e ({ frames := 2, cells := 0, slots := 0, locals := 44 }) s m args below meth c A s.heap (QI below args s A D K4 ad nr res) D K4 ad nr 11 290 [(0, .ref (ad 0 0)), (3, .int b3), (4, .int b4), (5, .int b5)] [] H) : ∀ (n : Nat) (x7 : Int32) (H : Hp), L_X9_ring_167 b3 b4 b5 k n x7 H = some res → V p l e ({ frames := 2, cells := 0, slots := 0, locals := 44 }) s m args below meth c A s.heap (QI below args s A D K4 ad nr res) D K4 ad nr 11 167 [(0, .ref (ad 0 0)), (3, .int b3), (4, .int b4), (5, .int b5), (6, .ref (ad 0 35)), (7, .int x7)] [] H := by
  intro n
  induction n with
  | zero => intro x7 H h; exact nomatch (show (none : Option (Int32 × Hp)) = some res from h)
  | succ n ih =>
    intro x7 H h
    rw [L_X9_ring_167] at h
    refine V_iload hC 5 dX9_ring_167 rfl ?_
    refine V_if_eq (tgt := 290) hC dX9_ring_169 (by decide) (fun c29 => ?_) (fun c29 => ?_)
    · have h := it_pos c29 h
      refine V_lv (lv' := [(0, .ref (ad 0 0)), (3, .int b3), (4, .int b4), (5, .int b5)]) [0, 1, 2, 3] rfl ?_
      exact hk H h
    · have h := it_neg c29 h
      refine V_aload hC 4 dX9_ring_172 rfl ?_
      refine V_iload hC 3 dX9_ring_174 rfl ?_
      obtain ⟨hi, h⟩ := gd_some h
      refine V_zald (g := 0) (k := 35) hC rfl rfl hi dX9_ring_176 ?_
      refine V_if_ne (tgt := 290) hC dX9_ring_177 (by decide) (fun c30 => ?_) (fun c30 => ?_)
      · have h := it_neg c30 h
        refine V_lv (lv' := [(0, .ref (ad 0 0)), (3, .int b3), (4, .int b4), (5, .int b5)]) [0, 1, 2, 3] rfl ?_
        exact hk H h
      · have h := it_pos c30 h
        refine V_iconst (v := 0) hC dX9_ring_180 (by decide) ?_
        refine V_istore (lv' := [(7, .int 0), (0, .ref (ad 0 0)), (3, .int b3), (4, .int b4), (5, .int b5), (6, .ref (ad 0 35))]) hC dX9_ring_181 (Nat.le_of_ble_eq_true rfl) rfl ?_
        refine V_iconst (v := 0) hC dX9_ring_183 (by decide) ?_
        refine V_istore (lv' := [(8, .int 0), (7, .int 0), (0, .ref (ad 0 0)), (3, .int b3), (4, .int b4), (5, .int b5), (6, .ref (ad 0 35))]) hC dX9_ring_184 (Nat.le_of_ble_eq_true rfl) rfl ?_
        refine V_lv (lv' := [(0, .ref (ad 0 0)), (3, .int b3), (4, .int b4), (5, .int b5), (6, .ref (ad 0 35)), (7, .int 0), (8, .int 0)]) [2, 3, 4, 5, 6, 1, 0] rfl ?_
        refine sL_X9_ring_186 hC hret (fun z43 H44 h => ?_) _ 0 0 H h
        refine V_goto (tgt := 167) hC dX9_ring_287 (by decide) ?_
        refine V_lv (lv' := [(0, .ref (ad 0 0)), (3, .int b3), (4, .int b4), (5, .int b5), (6, .ref (ad 0 35)), (7, .int z43)]) [0, 1, 2, 3, 4, 5] rfl ?_
        exact ih z43 H44 h
def L_X9_ring_294 (b3 : Int32) (b4 : Int32) (k : Hp → Option (Int32 × Hp)) : Nat → Int32 → Hp → Option (Int32 × Hp)
  | 0, _, _ => none
  | n + 1, x8, H => if x8 = b4 then k H else gd x8 21 (vl ((gI H 0 44 (Int32.toNatClampNeg x8))) (fun (v47 : Int32) => gd v47 61 (jn (fun (y49 : Int32) (H50 : Hp) => if v47 = b3 then if y49 = 0 then some (2, H50) else some (1, H50) else if y49 = 0 then gd v47 61 (vl ((gI H50 0 40 (Int32.toNatClampNeg v47))) (fun (v53 : Int32) => L_X9_ring_294 b3 b4 k n v53 H50)) else gd v47 61 (vl ((gI H50 0 39 (Int32.toNatClampNeg v47))) (fun (v54 : Int32) => L_X9_ring_294 b3 b4 k n v54 H50))) (fun j48 => if (gI H 0 40 (Int32.toNatClampNeg v47)) = x8 then j48 1 H else j48 0 H))))
set_option maxRecDepth 100000 in
set_option maxHeartbeats 4000000 in
theorem sL_X9_ring_294 {p : Program} {l : Launch} {e : Env} {s : State} {m : MethodId} {args : Array Value} {below : List Frame} {meth : Method} {c : Code} {A : Nat → Prop} {D : va_G} {K4 : kQ} {ad : Nat → Nat → Nat} {nr : Nat} {b3 : Int32} {b4 : Int32} {k : Hp → Option (Int32 × Hp)} {res : Int32 × Hp} (hC : Cx p s m args c A s.heap D K4 11 RX9 cX9_ring) (hret : meth.sig.returnType = (some .int) ∧ meth.locks = false) (hk : ∀ (H : Hp), k H = some res → V p l e ({ frames := 2, cells := 0, slots := 0, locals := 44 }) s m args below meth c A s.heap (QI below args s A D K4 ad nr res) D K4 ad nr 11 373 [] [] H) : ∀ (n : Nat) (x8 : Int32) (H : Hp), L_X9_ring_294 b3 b4 k n x8 H = some res → V p l e ({ frames := 2, cells := 0, slots := 0, locals := 44 }) s m args below meth c A s.heap (QI below args s A D K4 ad nr res) D K4 ad nr 11 294 [(0, .ref (ad 0 0)), (3, .int b3), (4, .int b4), (8, .int x8)] [] H := by
  intro n
  induction n with
  | zero => intro x8 H h; exact nomatch (show (none : Option (Int32 × Hp)) = some res from h)
  | succ n ih =>
    intro x8 H h
    rw [L_X9_ring_294] at h
    refine V_iload hC 3 dX9_ring_294 rfl ?_
    refine V_iload hC 2 dX9_ring_296 rfl ?_
    refine V_icmp_eq (tgt := 373) hC dX9_ring_298 (by decide) (fun c46 => ?_) (fun c46 => ?_)
    · have h := it_pos c46 h
      refine V_lv (lv' := []) [] rfl ?_
      exact hk H h
    · have h := it_neg c46 h
      refine V_aload_n hC 0 dX9_ring_301 rfl ?_
      refine V_getR (g := 0) (k := 0) (g' := 0) (k' := 44) hC 9 44 fl_X9_123 rfl rfl rfl rfl dX9_ring_302 ?_
      refine V_iload hC 3 dX9_ring_305 rfl ?_
      obtain ⟨hi, h⟩ := gd_some h
      refine V_iald (g := 0) (k := 44) hC rfl rfl hi dX9_ring_307 ?_
      refine V_vlI h (fun v47 h => ?_)
      refine V_istore (lv' := [(9, .int v47), (0, .ref (ad 0 0)), (3, .int b3), (4, .int b4), (8, .int x8)]) hC dX9_ring_308 (Nat.le_of_ble_eq_true rfl) rfl ?_
      refine V_aload_n hC 1 dX9_ring_310 rfl ?_
      refine V_getR (g := 0) (k := 0) (g' := 0) (k' := 40) hC 9 40 fl_X9_114 rfl rfl rfl rfl dX9_ring_311 ?_
      refine V_iload hC 0 dX9_ring_314 rfl ?_
      obtain ⟨hi, h⟩ := gd_some h
      refine V_iald (g := 0) (k := 40) hC rfl rfl hi dX9_ring_316 ?_
      refine V_iload hC 4 dX9_ring_317 rfl ?_
      refine V_jn1 (pj := 327) (lj := fun y49 => [(0, .ref (ad 0 0)), (3, .int b3), (4, .int b4), (9, .int v47)]) (sj := fun y49 => [.int y49]) h (fun y49 H50 h => ?_) (fun hj48 h => ?_)
      · refine V_istore (lv' := [(10, .int y49), (0, .ref (ad 0 0)), (3, .int b3), (4, .int b4), (9, .int v47)]) hC dX9_ring_327 (Nat.le_of_ble_eq_true rfl) rfl ?_
        refine V_iload hC 4 dX9_ring_329 rfl ?_
        refine V_iload_n hC 2 dX9_ring_331 rfl ?_
        refine V_icmp_ne (tgt := 346) hC dX9_ring_332 (by decide) (fun c51 => ?_) (fun c51 => ?_)
        · have h := it_neg c51 h
          refine V_iload hC 0 dX9_ring_346 rfl ?_
          refine V_if_eq (tgt := 361) hC dX9_ring_348 (by decide) (fun c52 => ?_) (fun c52 => ?_)
          · have h := it_pos c52 h
            refine V_aload_n hC 1 dX9_ring_361 rfl ?_
            refine V_getR (g := 0) (k := 0) (g' := 0) (k' := 40) hC 9 40 fl_X9_114 rfl rfl rfl rfl dX9_ring_362 ?_
            refine V_iload hC 4 dX9_ring_365 rfl ?_
            obtain ⟨hi, h⟩ := gd_some h
            refine V_iald (g := 0) (k := 40) hC rfl rfl hi dX9_ring_367 ?_
            refine V_vlI h (fun v53 h => ?_)
            refine V_istore (lv' := [(8, .int v53), (10, .int y49), (0, .ref (ad 0 0)), (3, .int b3), (4, .int b4), (9, .int v47)]) hC dX9_ring_368 (Nat.le_of_ble_eq_true rfl) rfl ?_
            refine V_goto (tgt := 294) hC dX9_ring_370 (by decide) ?_
            refine V_lv (lv' := [(0, .ref (ad 0 0)), (3, .int b3), (4, .int b4), (8, .int v53)]) [2, 3, 4, 0] rfl ?_
            exact ih v53 H50 h
          · have h := it_neg c52 h
            refine V_aload_n hC 1 dX9_ring_351 rfl ?_
            refine V_getR (g := 0) (k := 0) (g' := 0) (k' := 39) hC 9 39 fl_X9_111 rfl rfl rfl rfl dX9_ring_352 ?_
            refine V_iload hC 4 dX9_ring_355 rfl ?_
            obtain ⟨hi, h⟩ := gd_some h
            refine V_iald (g := 0) (k := 39) hC rfl rfl hi dX9_ring_357 ?_
            refine V_goto (tgt := 368) hC dX9_ring_358 (by decide) ?_
            refine V_vlI h (fun v54 h => ?_)
            refine V_istore (lv' := [(8, .int v54), (10, .int y49), (0, .ref (ad 0 0)), (3, .int b3), (4, .int b4), (9, .int v47)]) hC dX9_ring_368 (Nat.le_of_ble_eq_true rfl) rfl ?_
            refine V_goto (tgt := 294) hC dX9_ring_370 (by decide) ?_
            refine V_lv (lv' := [(0, .ref (ad 0 0)), (3, .int b3), (4, .int b4), (8, .int v54)]) [2, 3, 4, 0] rfl ?_
            exact ih v54 H50 h
        · have h := it_pos c51 h
          refine V_iload hC 0 dX9_ring_335 rfl ?_
          refine V_if_eq (tgt := 344) hC dX9_ring_337 (by decide) (fun c55 => ?_) (fun c55 => ?_)
          · have h := it_pos c55 h
            refine V_iconst (v := 2) hC dX9_ring_344 (by decide) ?_
            exact V_iret hC hret dX9_ring_345 h
          · have h := it_neg c55 h
            refine V_iconst (v := 1) hC dX9_ring_340 (by decide) ?_
            refine V_goto (tgt := 345) hC dX9_ring_341 (by decide) ?_
            exact V_iret hC hret dX9_ring_345 h
      · refine V_icmp_ne (tgt := 326) hC dX9_ring_319 (by decide) (fun c56 => ?_) (fun c56 => ?_)
        · have h := it_neg c56 h
          refine V_iconst (v := 0) hC dX9_ring_326 (by decide) ?_
          refine V_lv (lv' := [(0, .ref (ad 0 0)), (3, .int b3), (4, .int b4), (9, .int v47)]) [1, 2, 3, 0] rfl ?_
          exact hj48 0 H h
        · have h := it_pos c56 h
          refine V_iconst (v := 1) hC dX9_ring_322 (by decide) ?_
          refine V_goto (tgt := 327) hC dX9_ring_323 (by decide) ?_
          refine V_lv (lv' := [(0, .ref (ad 0 0)), (3, .int b3), (4, .int b4), (9, .int v47)]) [1, 2, 3, 0] rfl ?_
          exact hj48 1 H h
def f_X9_ring (a1 : Int32) (a2 : Int32) (a3 : Int32) (H : Hp) : Option (Int32 × Hp) := hl (sI H 0 0 34 0) (fun (H1 : Hp) => bnd (f_X9_isDone a1 H1) (fun w3 H2 => if w3 = 0 then some ((-1), H2) else bnd (f_X9_isEdge a1 a2 H2) (fun w6 H5 => if w6 = 0 then some ((-1), H5) else bnd (f_X9_isEdge a1 a3 H5) (fun w9 H8 => if w9 = 0 then some ((-1), H8) else gd ((40 * a1) + a2) 320 (if (gI H8 0 11 (Int32.toNatClampNeg ((40 * a1) + a2))) = 0 then some ((-1), H8) else if a2 = a3 then some (1, H8) else gd ((40 * a1) + a3) 320 (if (gI H8 0 11 (Int32.toNatClampNeg ((40 * a1) + a3))) = 0 then bnd (f_X9_lay a1 H8) (fun w15 H14 => gd ((40 * a1) + a2) 320 (vl ((gI H14 0 7 (Int32.toNatClampNeg ((40 * a1) + a2)))) (fun (v16 : Int32) => gd ((40 * a1) + a2) 320 (vl ((gI H14 0 6 (Int32.toNatClampNeg ((40 * a1) + a2)))) (fun (v17 : Int32) => L_X9_ring_104 a3 v16 v17 (fun (H21 : Hp) => L_X9_ring_134 a3 v16 v17 (fun (H28 : Hp) => L_X9_ring_167 a3 v16 v17 (fun (H45 : Hp) => L_X9_ring_294 a3 v16 (fun (H57 : Hp) => some (0, H57)) FU v17 H45) FU 1 H28) FU 0 H21) FU 0 H14))))) else some (0, H8)))))))
set_option maxRecDepth 100000 in
set_option maxHeartbeats 4000000 in
theorem s_X9_ring {p : Program} {l : Launch} {e : Env} {s : State} {m : MethodId} {args : Array Value} {below : List Frame} {meth : Method} {c : Code} {A : Nat → Prop} {D : va_G} {K4 : kQ} {ad : Nat → Nat → Nat} {nr : Nat} {a1 : Int32} {a2 : Int32} {a3 : Int32} {H : Hp} {res : Int32 × Hp} (hC : Cx p s m args c A s.heap D K4 11 RX9 cX9_ring) (hret : meth.sig.returnType = (some .int) ∧ meth.locks = false) (h : f_X9_ring a1 a2 a3 H = some res) : V p l e ({ frames := 2, cells := 0, slots := 0, locals := 44 }) s m args below meth c A s.heap (QI below args s A D K4 ad nr res) D K4 ad nr 11 0 [(0, .ref (ad 0 0)), (1, .int a1), (2, .int a2), (3, .int a3)] [] H := by
  unfold f_X9_ring at h
  refine V_aload_n hC 0 dX9_ring_0 rfl ?_
  refine V_iconst (v := 0) hC dX9_ring_1 (by decide) ?_
  refine V_putI (g := 0) (k := 0) hC 9 34 .int fw_X9_153 rfl rfl rfl rfl rfl dX9_ring_2 ?_
  refine V_hl h (fun H1 h => ?_)
  refine V_aload_n hC 0 dX9_ring_5 rfl ?_
  refine V_iload_n hC 1 dX9_ring_6 rfl ?_
  obtain ⟨w3, H2, hc, h⟩ := bnd_some h
  refine V_calli (g := 0) (k := 0) (As := [.int a1]) (st := []) hC (c_X9_isDone l hc) rfl ml_X9_208 ⟨Nat.le_of_ble_eq_true rfl, Nat.le_of_ble_eq_true rfl⟩ rfl rfl rfl (Nat.le_of_ble_eq_true rfl) dX9_ring_7 ?_
  refine V_if_eq (tgt := 45) hC dX9_ring_10 (by decide) (fun c4 => ?_) (fun c4 => ?_)
  · have h := it_pos c4 h
    refine V_iconst (v := -1) hC dX9_ring_45 (by decide) ?_
    exact V_iret hC hret dX9_ring_46 h
  · have h := it_neg c4 h
    refine V_aload_n hC 0 dX9_ring_13 rfl ?_
    refine V_iload_n hC 1 dX9_ring_14 rfl ?_
    refine V_iload_n hC 2 dX9_ring_15 rfl ?_
    obtain ⟨w6, H5, hc, h⟩ := bnd_some h
    refine V_calli (g := 0) (k := 0) (As := [.int a1, .int a2]) (st := []) hC (c_X9_isEdge l hc) rfl ml_X9_176 ⟨Nat.le_of_ble_eq_true rfl, Nat.le_of_ble_eq_true rfl⟩ rfl rfl rfl (Nat.le_of_ble_eq_true rfl) dX9_ring_16 ?_
    refine V_if_eq (tgt := 45) hC dX9_ring_19 (by decide) (fun c7 => ?_) (fun c7 => ?_)
    · have h := it_pos c7 h
      refine V_iconst (v := -1) hC dX9_ring_45 (by decide) ?_
      exact V_iret hC hret dX9_ring_46 h
    · have h := it_neg c7 h
      refine V_aload_n hC 0 dX9_ring_22 rfl ?_
      refine V_iload_n hC 1 dX9_ring_23 rfl ?_
      refine V_iload_n hC 3 dX9_ring_24 rfl ?_
      obtain ⟨w9, H8, hc, h⟩ := bnd_some h
      refine V_calli (g := 0) (k := 0) (As := [.int a1, .int a3]) (st := []) hC (c_X9_isEdge l hc) rfl ml_X9_176 ⟨Nat.le_of_ble_eq_true rfl, Nat.le_of_ble_eq_true rfl⟩ rfl rfl rfl (Nat.le_of_ble_eq_true rfl) dX9_ring_25 ?_
      refine V_if_eq (tgt := 45) hC dX9_ring_28 (by decide) (fun c10 => ?_) (fun c10 => ?_)
      · have h := it_pos c10 h
        refine V_iconst (v := -1) hC dX9_ring_45 (by decide) ?_
        exact V_iret hC hret dX9_ring_46 h
      · have h := it_neg c10 h
        refine V_aload_n hC 0 dX9_ring_31 rfl ?_
        refine V_getR (g := 0) (k := 0) (g' := 0) (k' := 11) hC 9 11 fl_X9_41 rfl rfl rfl rfl dX9_ring_32 ?_
        refine V_bipush (v := 40) hC dX9_ring_35 (by decide) ?_
        refine V_iload_n hC 1 dX9_ring_37 rfl ?_
        refine V_imul hC dX9_ring_38 ?_
        refine V_iload_n hC 2 dX9_ring_39 rfl ?_
        refine V_iadd hC dX9_ring_40 ?_
        obtain ⟨hi, h⟩ := gd_some h
        refine V_zald (g := 0) (k := 11) hC rfl rfl hi dX9_ring_41 ?_
        refine V_if_ne (tgt := 47) hC dX9_ring_42 (by decide) (fun c11 => ?_) (fun c11 => ?_)
        · have h := it_neg c11 h
          refine V_iload_n hC 2 dX9_ring_47 rfl ?_
          refine V_iload_n hC 3 dX9_ring_48 rfl ?_
          refine V_icmp_ne (tgt := 54) hC dX9_ring_49 (by decide) (fun c12 => ?_) (fun c12 => ?_)
          · have h := it_neg c12 h
            refine V_aload_n hC 0 dX9_ring_54 rfl ?_
            refine V_getR (g := 0) (k := 0) (g' := 0) (k' := 11) hC 9 11 fl_X9_41 rfl rfl rfl rfl dX9_ring_55 ?_
            refine V_bipush (v := 40) hC dX9_ring_58 (by decide) ?_
            refine V_iload_n hC 1 dX9_ring_60 rfl ?_
            refine V_imul hC dX9_ring_61 ?_
            refine V_iload_n hC 3 dX9_ring_62 rfl ?_
            refine V_iadd hC dX9_ring_63 ?_
            obtain ⟨hi, h⟩ := gd_some h
            refine V_zald (g := 0) (k := 11) hC rfl rfl hi dX9_ring_64 ?_
            refine V_if_eq (tgt := 70) hC dX9_ring_65 (by decide) (fun c13 => ?_) (fun c13 => ?_)
            · have h := it_pos c13 h
              refine V_aload_n hC 0 dX9_ring_70 rfl ?_
              refine V_iload_n hC 1 dX9_ring_71 rfl ?_
              obtain ⟨w15, H14, hc, h⟩ := bnd_some h
              refine V_callu (g := 0) (k := 0) (As := [.int a1]) (st := []) hC (c_X9_lay l hc) rfl ml_X9_232 ⟨Nat.le_of_ble_eq_true rfl, Nat.le_of_ble_eq_true rfl⟩ rfl rfl rfl (Nat.le_of_ble_eq_true rfl) dX9_ring_72 ?_
              refine V_aload_n hC 0 dX9_ring_75 rfl ?_
              refine V_getR (g := 0) (k := 0) (g' := 0) (k' := 7) hC 9 7 fl_X9_29 rfl rfl rfl rfl dX9_ring_76 ?_
              refine V_bipush (v := 40) hC dX9_ring_79 (by decide) ?_
              refine V_iload_n hC 1 dX9_ring_81 rfl ?_
              refine V_imul hC dX9_ring_82 ?_
              refine V_iload_n hC 2 dX9_ring_83 rfl ?_
              refine V_iadd hC dX9_ring_84 ?_
              obtain ⟨hi, h⟩ := gd_some h
              refine V_iald (g := 0) (k := 7) hC rfl rfl hi dX9_ring_85 ?_
              refine V_vlI h (fun v16 h => ?_)
              refine V_istore (lv' := [(4, .int v16), (0, .ref (ad 0 0)), (1, .int a1), (2, .int a2), (3, .int a3)]) hC dX9_ring_86 (Nat.le_of_ble_eq_true rfl) rfl ?_
              refine V_aload_n hC 1 dX9_ring_88 rfl ?_
              refine V_getR (g := 0) (k := 0) (g' := 0) (k' := 6) hC 9 6 fl_X9_26 rfl rfl rfl rfl dX9_ring_89 ?_
              refine V_bipush (v := 40) hC dX9_ring_92 (by decide) ?_
              refine V_iload_n hC 2 dX9_ring_94 rfl ?_
              refine V_imul hC dX9_ring_95 ?_
              refine V_iload_n hC 3 dX9_ring_96 rfl ?_
              refine V_iadd hC dX9_ring_97 ?_
              obtain ⟨hi, h⟩ := gd_some h
              refine V_iald (g := 0) (k := 6) hC rfl rfl hi dX9_ring_98 ?_
              refine V_vlI h (fun v17 h => ?_)
              refine V_istore (lv' := [(5, .int v17), (4, .int v16), (0, .ref (ad 0 0)), (1, .int a1), (2, .int a2), (3, .int a3)]) hC dX9_ring_99 (Nat.le_of_ble_eq_true rfl) rfl ?_
              refine V_iconst (v := 0) hC dX9_ring_101 (by decide) ?_
              refine V_istore (lv' := [(6, .int 0), (5, .int v17), (4, .int v16), (0, .ref (ad 0 0)), (1, .int a1), (2, .int a2), (3, .int a3)]) hC dX9_ring_102 (Nat.le_of_ble_eq_true rfl) rfl ?_
              refine V_lv (lv' := [(0, .ref (ad 0 0)), (3, .int a3), (4, .int v16), (5, .int v17), (6, .int 0)]) [3, 6, 2, 1, 0] rfl ?_
              refine sL_X9_ring_104 hC hret (fun H21 h => ?_) _ 0 H14 h
              refine V_aload_n hC 0 dX9_ring_125 rfl ?_
              refine V_getR (g := 0) (k := 0) (g' := 0) (k' := 35) hC 9 35 fl_X9_99 rfl rfl rfl rfl dX9_ring_126 ?_
              refine V_astore (lv' := [(6, .ref (ad 0 35)), (0, .ref (ad 0 0)), (3, .int a3), (4, .int v16), (5, .int v17)]) hC dX9_ring_129 (Nat.le_of_ble_eq_true rfl) rfl ?_
              refine V_iconst (v := 0) hC dX9_ring_131 (by decide) ?_
              refine V_istore (lv' := [(7, .int 0), (6, .ref (ad 0 35)), (0, .ref (ad 0 0)), (3, .int a3), (4, .int v16), (5, .int v17)]) hC dX9_ring_132 (Nat.le_of_ble_eq_true rfl) rfl ?_
              refine V_lv (lv' := [(0, .ref (ad 0 0)), (3, .int a3), (4, .int v16), (5, .int v17), (6, .ref (ad 0 35)), (7, .int 0)]) [2, 3, 4, 5, 1, 0] rfl ?_
              refine sL_X9_ring_134 hC hret (fun H28 h => ?_) _ 0 H21 h
              refine V_iconst (v := 1) hC dX9_ring_164 (by decide) ?_
              refine V_istore (lv' := [(7, .int 1), (0, .ref (ad 0 0)), (3, .int a3), (4, .int v16), (5, .int v17), (6, .ref (ad 0 35))]) hC dX9_ring_165 (Nat.le_of_ble_eq_true rfl) rfl ?_
              refine V_lv (lv' := [(0, .ref (ad 0 0)), (3, .int a3), (4, .int v16), (5, .int v17), (6, .ref (ad 0 35)), (7, .int 1)]) [1, 2, 3, 4, 5, 0] rfl ?_
              refine sL_X9_ring_167 hC hret (fun H45 h => ?_) _ 1 H28 h
              refine V_iload hC 3 dX9_ring_290 rfl ?_
              refine V_istore (lv' := [(8, .int v17), (0, .ref (ad 0 0)), (3, .int a3), (4, .int v16), (5, .int v17)]) hC dX9_ring_292 (Nat.le_of_ble_eq_true rfl) rfl ?_
              refine V_lv (lv' := [(0, .ref (ad 0 0)), (3, .int a3), (4, .int v16), (8, .int v17)]) [1, 2, 3, 0] rfl ?_
              refine sL_X9_ring_294 hC hret (fun H57 h => ?_) _ v17 H45 h
              refine V_iconst (v := 0) hC dX9_ring_373 (by decide) ?_
              exact V_iret hC hret dX9_ring_374 h
            · have h := it_neg c13 h
              refine V_iconst (v := 0) hC dX9_ring_68 (by decide) ?_
              exact V_iret hC hret dX9_ring_69 h
          · have h := it_pos c12 h
            refine V_iconst (v := 1) hC dX9_ring_52 (by decide) ?_
            exact V_iret hC hret dX9_ring_53 h
        · have h := it_pos c11 h
          refine V_iconst (v := -1) hC dX9_ring_45 (by decide) ?_
          exact V_iret hC hret dX9_ring_46 h
theorem c_X9_ring (l : Launch) {nr : Nat} {a1 : Int32} {a2 : Int32} {a3 : Int32} {H : Hp} {x : Int32} {H' : Hp} (h : f_X9_ring a1 a2 a3 H = some (x, H')) : CI l nr yX9_ring cX9_ring 11 (some .int) 2 44 (fun ad => [.ref (ad 0 0), .int a1, .int a2, .int a3]) H x H' := by
  intro D K4 ad sz
  refine Met.ofV (by decide) (Nat.le_of_ble_eq_true rfl) ?_
  intro p e s m args below meth c hC hret hsz
  subst hsz
  exact s_X9_ring hC hret h
